/-! conditions read by the reference -/
def arF (b : Nat) : Prop := b ≠ 42 ∧ b ≠ 47 ∧ b ≠ 43 ∧ b ≠ 45
def OkU (T : Nat → Nat) (n B r p dep rm k : Nat) (s : SL) (W : List Nat) (CR : List Int32) (y : St) (v : Int32) (y' : St) : Prop :=
  ∃ p2 aw di P CR' E, p ≤ p2 ∧ (aw = 4 ∨ aw = 5) ∧ rnL T n p s = rnL T n p2 (mkW aw 1 1 di (P ++ W) CR') ∧ (∀ x, x ∈ P → rm ≤ rkN x) ∧ flush P CR' = E ++ CR ∧ EV (lets (gA y 104)) E k v ∧ (v = 0 ∨ v = 1) ∧ YY T n B r p2 dep y' ∧ CR'.length + (P ++ W).length ≤ p2 ∧ noE T n p2 di ∧ Fr FX [] y y' ∧ (∀ p', BL T n p2 p' → p' < n → (aw = 4 → arF (T p')) ∧ (rm ≤ 2 → T p' ≠ 38) ∧ (rm ≤ 1 → T p' ≠ 124))
def UnitP (T : Nat → Nat) (n B r dep : Nat) (rq : (Int32 → St → Prop) → St → Prop) : Prop :=
  ∀ (st di : Int32) (W : List Nat) (CR : List Int32) (p : Nat) (y : St) (post : Int32 → St → Prop), YY T n B r p dep y → cO W = dep → (st = 1 ∨ (∀ p', BL T n p p' → p' < n ∧ (T p' = 33 ∨ T p' = 40))) → enL W ≠ 91 → W.length ≤ 6 * dep + 2 → CR.length + W.length ≤ p → tpR W < 4 →
    (∀ v y', OkU T n B r p dep 3 (16 - 2 * dep) (mkW 2 st 0 di W CR) W CR y v y' → post v y') → (∀ v y', (v = 0 ∨ v = 1) → FL T n p (mkW 2 st 0 di W CR) y y' → post v y') → rq post y
theorem o1_min {v : Int32} (h : v = 0 ∨ v = 1) : v ≠ Int32.minValue := by rcases h with rfl | rfl <;> decide
/-- signs that end nothing behind a unit -/
theorem st_cj {T : Nat → Nat} {n p : Nat} {aw di : Int32} {W' : List Nat} {CR : List Int32} (c : p < n) (haw : aw = 4 ∨ aw = 5) (hE : noE T n p di) (he : enL W' ≠ 91) (har : aw = 4 → arF (T p)) (h38 : T p ≠ 38) (h124 : T p ≠ 124) (h41 : enL W' = 40 → T p ≠ 41) (h63 : enL W' = -1 → T p ≠ 63) : stepL T p (mkW aw 1 1 di W' CR) = none := by
  by_cases hd : dg (T p) = true
  · exact st_dg haw c hd hE
  · rw [st_4 haw, if_neg hd]
    have q : ∀ b, cpL b aw 1 1 (nI (cO W')) W' CR = none := fun b => by
      unfold cpL; rw [if_neg he, if_neg (show ¬ (1 : Int32) = 0 by decide)]; simp
    unfold bhL
    rw [q, q, q, if_neg h38, if_neg h124, if_neg he]
    rcases haw with rfl | rfl
    · obtain ⟨a1, a2, a3, a4⟩ := har rfl
      rw [if_neg a1, if_neg a2, if_neg a3, if_neg a4]
      by_cases e40 : enL W' = 40
      · rw [if_neg (h41 e40), e40, if_neg (show ¬ (40 : Int32) = -1 by decide)]; simp
      · rw [if_neg e40]
        by_cases e1 : enL W' = -1
        · rw [if_neg (h63 e1), if_pos e1, if_pos rfl]; simp
        · simp [e1]
    · have a : ∀ b, arL b 5 1 1 (nI (cO W')) W' CR = none := fun b => if_neg (by decide)
      rw [a, a, a, a]
      by_cases e40 : enL W' = 40
      · rw [if_neg (h41 e40), e40, if_neg (show ¬ (40 : Int32) = -1 by decide)]; simp
      · rw [if_neg e40]
        by_cases e1 : enL W' = -1
        · rw [if_neg (h63 e1), if_pos e1, if_pos rfl]; simp
        · simp [e1]
theorem cl_cj {aw di : Int32} {W' : List Nat} {CR : List Int32} : clL (mkW aw 1 1 di W' CR) = none := by
  show clo aw 1 1 di _ W' CR = none
  unfold clo
  rw [if_pos rfl]; simp
/-- where a comparison must stand -/
theorem st_cm {T : Nat → Nat} {n p : Nat} {di : Int32} {W' : List Nat} {CR : List Int32} (c : p < n) (hE : noE T n p di) (he : enL W' ≠ 91) (har : arF (T p)) (h6 : T p ≠ 60 ∧ T p ≠ 61 ∧ T p ≠ 62) : stepL T p (mkW 4 1 0 di W' CR) = none := by
  by_cases hd : dg (T p) = true
  · exact st_dg (.inl rfl) c hd hE
  · rw [st_4 (.inl rfl), if_neg hd]
    have j : ∀ b, joL b 1 0 (nI (cO W')) W' CR = none := fun b => if_pos rfl
    obtain ⟨a1, a2, a3, a4⟩ := har
    unfold bhL
    rw [j, j, if_neg a1, if_neg a2, if_neg a3, if_neg a4, if_neg h6.1, if_neg h6.2.1, if_neg h6.2.2, if_neg he, if_pos (show (0 : Int32) = 0 from rfl), if_pos (show (1 : Int32) = 1 from rfl)]
    simp
theorem cl_cm {aw cm di : Int32} {W' : List Nat} {CR : List Int32} : clL (mkW aw 1 cm di W' CR) = none := by
  show clo aw 1 cm di _ W' CR = none
  unfold clo
  rw [if_pos rfl]; simp
theorem st_sg {T : Nat → Nat} {p b : Nat} {st di : Int32} {P W : List Nat} {CR CR' E : List Int32} (hb : T p = b) (ho : b = 60 ∨ b = 61 ∨ b = 62) (hst : st ≠ 2) (he : enL W ≠ 91) (hP : ∀ x, x ∈ P → 5 ≤ rkN x) (hW : tpR W < 4) (hf : flush P CR' = E ++ CR) (hl : CR'.length + P.length ≤ 241) (hw : W.length < 64) : stepL T p (mkW 4 st 0 di (P ++ W) CR') = some (mkW 3 1 1 0 (b :: W) (E ++ CR)) := by
  have hrk : rkN b = 4 := by rcases ho with rfl | rfl | rfl <;> rfl
  have hg : gsL b 3 1 1 (nI (cO (P ++ W))) (P ++ W) CR' = mkW 3 1 1 0 (b :: W) (E ++ CR) := by
    unfold gsL
    rw [poL_fl (by omega) (by omega) P CR' (fun x hx => by have := hP x hx; omega) hl, hf]
    show mkL 3 1 1 0 (nI (cO W)) (awL b W) (E ++ CR) = _
    rw [show awL b W = b :: W from if_neg (by omega)]
    unfold mkW
    rw [show cO (b :: W) = cO W by rcases ho with rfl | rfl | rfl <;> rfl]
  have ha : cpL b 4 st 0 (nI (cO (P ++ W))) (P ++ W) CR' = some (mkW 3 1 1 0 (b :: W) (E ++ CR)) := by
    unfold cpL; rw [if_pos rfl, enL_app P (fun x hx => by have := hP x hx; omega), if_neg he, if_pos rfl, if_neg hst, hg]
  rw [st_4 (.inl rfl), hb]
  rcases ho with rfl | rfl | rfl
  · rw [if_neg (by decide)]; exact ha
  · rw [if_neg (by decide)]; exact ha
  · rw [if_neg (by decide)]; exact ha
theorem q_isSign {post : Int32 → St → Prop} {b : Nat} {y : St} (hb : b < 256) (h1 : (b = 60 ∨ b = 61 ∨ b = 62) → post 1 y) (h0 : (b ≠ 60 ∧ b ≠ 61 ∧ b ≠ 62) → post 0 y) : S_M_isSign post (nI b) y := by
  unfold S_M_isSign
  rw [show (nI b = (61 : Int32)) = (b = 61) from propext (nI_eq (b := 61) (by omega) (by omega)), show (nI b = (60 : Int32)) = (b = 60) from propext (nI_eq (b := 60) (by omega) (by omega)), show (nI b = (62 : Int32)) = (b = 62) from propext (nI_eq (b := 62) (by omega) (by omega))]
  exact ⟨fun c => h1 (by omega), fun c => ⟨fun c2 => h1 (by omega), fun c2 => ⟨fun c3 => h1 (by omega), fun c3 => h0 ⟨by omega, by omega, by omega⟩⟩⟩⟩
theorem q_isSign_m {post : Int32 → St → Prop} {y : St} (h : post 0 y) : S_M_isSign post (-1) y := by
  unfold S_M_isSign
  exact pp_n (by decide) (pp_n (by decide) (pp_n (by decide) h))
/-- a comparison, its first sum read, or a fault before -/
theorem q_cmp {T : Nat → Nat} {n B r dep : Nat} (hdep : dep ≤ 6) {st di : Int32} {P W : List Nat} {CR CR' E : List Int32} {p0 p : Nat} {s0 : SL} {y0 y : St} {v : Int32} {post : Int32 → St → Prop} (hst : st = 1 ∨ (st ≠ 2 ∧ p < n ∧ (T p = 60 ∨ T p = 61 ∨ T p = 62))) (hc : cO W = dep) (he : enL W ≠ 91) (hW : W.length ≤ 6 * dep + 2) (hT4 : tpR W < 4) (hp0 : p0 ≤ p) (hRN : rnL T n p0 s0 = rnL T n p (mkW 4 st 0 di (P ++ W) CR')) (hP : ∀ x, x ∈ P → 5 ≤ rkN x) (hf : flush P CR' = E ++ CR) (hE : EV (lets (gA y0 104)) E (15 - 2 * dep) v) (hy : YY T n B r p dep y) (hl : CR'.length + (P ++ W).length ≤ p) (hnE : noE T n p di) (hF : Fr FX [] y0 y) (hns : p < n → T p ≠ 32 ∧ arF (T p))
    (h1 : ∀ v y', OkU T n B r p0 dep 3 (16 - 2 * dep) s0 W CR y0 v y' → post v y') (h0 : ∀ v y', (v = 0 ∨ v = 1) → FL T n p0 s0 y0 y' → post v y') : B_M_compares_12 post v y := by
  have hyy := hy
  obtain ⟨hR, e105, hpn, e106, e107, h240⟩ := hy
  have hpl : (P ++ W).length = P.length + W.length := List.length_append
  rw [hpl] at hl
  unfold B_M_compares_12
  refine pp_y e106 (q_look hR e105 hpn (fun p3 hb3 => ?_))
  have e3 := BL_id hb3 (fun q => (hns q).1)
  subst e3
  rw [sI_id e105]
  have rej : (rnL T n p0 s0).1 = some p3 → S_M_fails (fun r11 z5 => (r11 = 0 ∨ r11 = 1) ∧ post r11 z5) y := fun e => q_fails_1 e105 e106 ⟨.inl rfl, h0 0 _ (.inl rfl) ⟨p3, hpn, e, rfl, hF.sI (by decide)⟩⟩
  by_cases c : p3 < n
  · rw [if_pos c]
    have hT := (hR.at c).2.2
    refine q_isSign hT (fun ho => r11 (ev ?_)) (fun hno => r01 (rej ?_))
    · have st2 : st ≠ 2 := by
        rcases hst with e | e
        · rw [e]; decide
        · exact e.1
      have hs := st_sg (T := T) (p := p3) (di := di) rfl ho st2 he hP hT4 hf (by omega) (by omega)
      have hRN2 : rnL T n p0 s0 = rnL T n (p3 + 1) (mkW 3 1 1 0 (T p3 :: W) (E ++ CR)) := hRN.trans (RN_yes c (hns c).1 hs)
      have hlen : (E ++ CR).length = CR'.length + P.length := by rw [← hf, flush_len]
      have hrk : rkN (T p3) = 4 := by rcases ho with e | e | e <;> rw [e] <;> rfl
      have hcb : cO (T p3 :: W) = dep := by
        show cO W + _ = _
        rw [if_neg (by omega)]; exact hc
      have F2 : Fr FX [] y0 (sI y 105 (nI (p3 + 1))) := hF.sI (by decide)
      rw [e105, nI_1]
      have key : ∀ va y' (w : Int32), OkS T n B r (p3 + 1) dep 5 (15 - 2 * dep) (mkW 3 1 1 0 (T p3 :: W) (E ++ CR)) 1 1 (T p3 :: W) (E ++ CR) (sI y 105 (nI (p3 + 1))) va y' → cv (jw (nI (T p3)) v va) = w → (w = 0 ∨ w = 1) → post w y' := fun va y' w hok hw hw01 => by
        obtain ⟨p2, di2, P2, CR2, Ea, gle, g1, g2, g3, g4, g5, g6, g7, g8, g9⟩ := hok
        have hEa : EV (lets (gA y0 104)) Ea (15 - 2 * dep) va := by
          rw [show lets (gA y0 104) = lets (gA (sI y 105 (nI (p3 + 1))) 104) by rw [show gA (sI y 105 (nI (p3 + 1))) 104 = gA y 104 from rfl, hF.2.1 104 (by decide)]]; exact g4
        have eW : (P2 ++ [T p3]) ++ W = P2 ++ T p3 :: W := by rw [List.append_assoc]; rfl
        refine h1 _ _ ⟨p2, 4, di2, P2 ++ [T p3], CR2, -(nI (T p3)) :: (Ea ++ E), by omega, .inl rfl, by rw [eW]; exact hRN2.trans g1, fun x hx => ?_, ?_, hE.bin hEa (by unfold isOp; omega) (by omega) (by omega) (fun _ => hw) (o1_min hw01), hw01, g5, by rw [eW]; exact g6, g7, F2.tr g8, fun p' hb' hp' => ?_⟩
        · rcases List.mem_append.mp hx with q | q
          · have := g2 x q; omega
          · rw [List.mem_singleton] at q; rw [q, hrk]; omega
        · rw [flush_app, g3]
          show -(nI (T p3)) :: (Ea ++ (E ++ CR)) = -(nI (T p3)) :: (Ea ++ E) ++ CR
          rw [List.cons_append, List.append_assoc]
        · have := BL_id hb' (fun q => (g9 q).1)
          subst this
          have g := g9 hp'
          exact ⟨fun _ => ⟨g.2.1, g.2.2.1, (g.2.2.2 rfl).1, (g.2.2.2 rfl).2⟩, fun q => absurd q (by decide), fun q => absurd q (by decide)⟩
      refine sum_D 8 dep hdep (by omega) 3 1 1 0 (T p3 :: W) (E ++ CR) (p3 + 1) (sI y 105 (nI (p3 + 1))) _ ⟨hR.sI (by decide) (by decide), rfl, by omega, e106, e107, h240⟩ hcb (.inl rfl) (by show W.length + 1 ≤ _; omega) (by show (E ++ CR).length + (W.length + 1) ≤ _; omega) (show rkN (T p3) < 5 by omega) (fun va y' hok => ?_) (fun va y' hfl => ?_)
      · rw [show (nI (T p3) = (61 : Int32)) = (T p3 = 61) from propext (nI_eq (b := 61) (by omega) (by omega)), show (nI (T p3) = (60 : Int32)) = (T p3 = 60) from propext (nI_eq (b := 60) (by omega) (by omega))]
        refine ⟨fun c1 => ⟨fun c2 => key va y' 1 hok ?_ (.inr rfl), fun c2 => key va y' 0 hok ?_ (.inl rfl)⟩, fun c1 => ⟨fun c3 => ⟨fun c2 => key va y' 0 hok ?_ (.inl rfl), fun c2 => key va y' 1 hok ?_ (.inr rfl)⟩, fun c3 => ⟨fun c2 => key va y' 0 hok ?_ (.inl rfl), fun c2 => key va y' 1 hok ?_ (.inr rfl)⟩⟩⟩
        · rw [c1]; show cv (if v = va then 1 else 0) = _; rw [if_pos c2]; decide
        · rw [c1]; show cv (if v = va then 1 else 0) = _; rw [if_neg c2]; decide
        · rw [c3]; show cv (if va ≤ v then 0 else 1) = _; rw [if_pos c2]; decide
        · rw [c3]; show cv (if va ≤ v then 0 else 1) = _; rw [if_neg c2]; decide
        · rw [show T p3 = 62 by omega]; show cv (if v ≤ va then 0 else 1) = _; rw [if_pos c2]; decide
        · rw [show T p3 = 62 by omega]; show cv (if v ≤ va then 0 else 1) = _; rw [if_neg c2]; decide
      · have hfl' : FL T n p0 s0 y0 y' := by
          obtain ⟨f, g1, g2, g3, g4⟩ := hfl
          exact ⟨f, g1, by rw [hRN2]; exact g2, g3, F2.tr g4⟩
        exact ⟨fun _ => ⟨fun _ => h0 _ _ (.inr rfl) hfl', fun _ => h0 _ _ (.inl rfl) hfl'⟩, fun _ => ⟨fun _ => ⟨fun _ => h0 _ _ (.inl rfl) hfl', fun _ => h0 _ _ (.inr rfl) hfl'⟩, fun _ => ⟨fun _ => h0 _ _ (.inl rfl) hfl', fun _ => h0 _ _ (.inr rfl) hfl'⟩⟩⟩
    · have st1 : st = 1 := by
        rcases hst with e | e
        · exact e
        · omega
      subst st1
      have hs := st_cm (T := T) (di := di) (W' := P ++ W) (CR := CR') c hnE (by rw [enL_app P (fun x hx => by have := hP x hx; omega)]; exact he) (hns c).2 hno
      rw [hRN]
      show (RN T n (stepL T) clL p3 _).1 = _
      rw [RN_no c (hns c).1 hs]
  · rw [if_neg c]
    refine q_isSign_m (r01 (rej ?_))
    have st1 : st = 1 := by
      rcases hst with e | e
      · exact e
      · omega
    subst st1
    have en : p3 = n := by omega
    subst en
    rw [hRN]
    show (RN T p3 (stepL T) clL p3 _).1 = _
    rw [RN_end, cl_cm]
theorem cmp_f {T : Nat → Nat} {n p0 : Nat} {post : Int32 → St → Prop} {s0 : SL} {y0 : St} (hn : n ≤ 240) (h0 : ∀ v y', (v = 0 ∨ v = 1) → FL T n p0 s0 y0 y' → post v y') {x : Int32} {y : St} (h : FL T n p0 s0 y0 y) : B_M_compares_12 post x y := by
  unfold B_M_compares_12
  have hh := h
  obtain ⟨f, g1, g2, g3, g4⟩ := h
  exact pp_n (by rw [g3]; exact fun q => (nI_m1 (by omega)).mp q) (h0 0 y (.inl rfl) hh)
