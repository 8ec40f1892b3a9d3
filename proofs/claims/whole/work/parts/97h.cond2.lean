/-! units, parts, conditions -/
theorem and_v {v u : Int32} (hv : v = 0 ∨ v = 1) (hu : u = 0 ∨ u = 1) : cv (jw (nI 38) v u) = if v = 0 then 0 else if u = 0 then 0 else 1 := by
  rcases hv with rfl | rfl <;> rcases hu with rfl | rfl <;> decide
theorem or_v {v u : Int32} (hv : v = 0 ∨ v = 1) (hu : u = 0 ∨ u = 1) : cv (jw (nI 124) v u) = if v = 0 then (if u = 0 then 0 else 1) else 1 := by
  rcases hv with rfl | rfl <;> rcases hu with rfl | rfl <;> decide
theorem st_jo {T : Nat → Nat} {p b : Nat} {aw di : Int32} {P W : List Nat} {CR CR' E : List Int32} (hb : T p = b) (ho : b = 38 ∨ b = 124) (haw : aw = 4 ∨ aw = 5) (he : enL W ≠ 91) (hP : ∀ x, x ∈ P → rkN b ≤ rkN x) (hW : tpR W < rkN b) (hf : flush P CR' = E ++ CR) (hl : CR'.length + P.length ≤ 241) (hw : W.length < 64) : stepL T p (mkW aw 1 1 di (P ++ W) CR') = some (mkW 2 1 0 0 (b :: W) (E ++ CR)) := by
  have h1 : 1 ≤ rkN b := by rcases ho with rfl | rfl <;> decide
  have hg : gsL b 2 1 0 (nI (cO (P ++ W))) (P ++ W) CR' = mkW 2 1 0 0 (b :: W) (E ++ CR) := by
    unfold gsL
    rw [poL_fl h1 hW P CR' hP hl, hf]
    show mkL 2 1 0 0 (nI (cO W)) (awL b W) (E ++ CR) = _
    rw [show awL b W = b :: W from if_neg (by omega)]
    unfold mkW
    rw [show cO (b :: W) = cO W by rcases ho with rfl | rfl <;> rfl]
  have ha : joL b 1 1 (nI (cO (P ++ W))) (P ++ W) CR' = some (mkW 2 1 0 0 (b :: W) (E ++ CR)) := by
    unfold joL; rw [if_neg (by decide), enL_app P (fun x hx => by have := hP x hx; omega), if_neg he, hg]
  rw [st_4 haw, hb]
  rcases ho with rfl | rfl
  · rw [if_neg (by decide)]; exact ha
  · rw [if_neg (by decide)]; exact ha
theorem part_f {T : Nat → Nat} {n p0 : Nat} {rq : (Int32 → St → Prop) → St → Prop} {post : Int32 → St → Prop} {s0 : SL} {y0 : St} (hn : n ≤ 240) (h0 : ∀ v y', (v = 0 ∨ v = 1) → FL T n p0 s0 y0 y' → post v y') {x : Int32} {y : St} (hx : x = 0 ∨ x = 1) (h : FL T n p0 s0 y0 y) {k : Nat} (hk : 1 ≤ k) : L_M_part_18 rq post k x y := by
  obtain ⟨k, rfl⟩ : ∃ j, k = j + 1 := ⟨k - 1, by omega⟩
  show B_M_part_18 rq post _ _ y
  unfold B_M_part_18
  have hh := h
  obtain ⟨f, g1, g2, g3, g4⟩ := h
  exact pp_n (by rw [g3]; exact fun q => (nI_m1 (by omega)).mp q) ⟨hx, h0 x y hx hh⟩
theorem cond_f {T : Nat → Nat} {n p0 : Nat} {rq : (Int32 → St → Prop) → St → Prop} {post : Int32 → St → Prop} {s0 : SL} {y0 : St} (hn : n ≤ 240) (h0 : ∀ v y', (v = 0 ∨ v = 1) → FL T n p0 s0 y0 y' → post v y') {x : Int32} {y : St} (hx : x = 0 ∨ x = 1) (h : FL T n p0 s0 y0 y) {k : Nat} (hk : 1 ≤ k) : L_M_condition_7 rq post k x y := by
  obtain ⟨k, rfl⟩ : ∃ j, k = j + 1 := ⟨k - 1, by omega⟩
  show B_M_condition_7 rq post _ _ y
  unfold B_M_condition_7
  have hh := h
  obtain ⟨f, g1, g2, g3, g4⟩ := h
  exact pp_n (by rw [g3]; exact fun q => (nI_m1 (by omega)).mp q) ⟨hx, h0 x y hx hh⟩
theorem part_lp {T : Nat → Nat} {n B r dep : Nat} {rq : (Int32 → St → Prop) → St → Prop} (hdep : dep ≤ 6) (hq : UnitP T n B r dep rq) {W : List Nat} {CR : List Int32} {p0 : Nat} {s0 : SL} {y0 : St} {post : Int32 → St → Prop} (hc : cO W = dep) (he : enL W ≠ 91) (hW : W.length ≤ 6 * dep + 1) (hT2 : tpR W < 2)
    (h1 : ∀ v y', OkU T n B r p0 dep 2 (17 - 2 * dep) s0 W CR y0 v y' → post v y') (h0 : ∀ v y', (v = 0 ∨ v = 1) → FL T n p0 s0 y0 y' → post v y') : ∀ m p (y : St) (v aw di : Int32) (P : List Nat) (CR' E : List Int32), n - p ≤ m → p0 ≤ p → (aw = 4 ∨ aw = 5) → rnL T n p0 s0 = rnL T n p (mkW aw 1 1 di (P ++ W) CR') → (∀ x, x ∈ P → 2 ≤ rkN x) → flush P CR' = E ++ CR → EV (lets (gA y0 104)) E (17 - 2 * dep) v → (v = 0 ∨ v = 1) → YY T n B r p dep y → CR'.length + (P ++ W).length ≤ p → noE T n p di → Fr FX [] y0 y → (∀ p', BL T n p p' → p' < n → aw = 4 → arF (T p')) → ∀ k, m + 2 ≤ k → L_M_part_18 rq post k v y := by
  intro m
  induction m using Nat.strongRecOn with
  | ind m ih =>
    intro p y v aw di P CR' E hm hp0 haw hRN hP hf hE hv hy hl hnE hF hns k hk
    obtain ⟨k, rfl⟩ : ∃ j, k = j + 1 := ⟨k - 1, by omega⟩
    obtain ⟨hR, e105, hpn, e106, e107, h240⟩ := hy
    have hpl : (P ++ W).length = P.length + W.length := List.length_append
    rw [hpl] at hl
    show B_M_part_18 rq post _ _ y
    unfold B_M_part_18 B_M_part_64 B_M_part_65
    refine pp_y e106 (q_look hR e105 hpn (fun p1 hb => ?_))
    have hb1 := hb.1
    have hb2 := hb.2.1
    have hRN1 : rnL T n p0 s0 = rnL T n p1 (mkW aw 1 1 di (P ++ W) CR') := hRN.trans (RN_bl hb)
    have R1 := hR.sI (k := 105) (v := nI p1) (by decide) (by decide)
    have F1 : Fr FX [] y0 (sI y 105 (nI p1)) := hF.sI (by decide)
    have stop : (p1 < n → T p1 ≠ 38) → (v = 0 ∨ v = 1) ∧ post v (sI y 105 (nI p1)) := fun q => by
      refine ⟨hv, h1 _ _ ⟨p1, aw, di, P, CR', E, by omega, haw, hRN1, hP, hf, hE, hv, ⟨R1, rfl, hb2, e106, e107, h240⟩, by rw [hpl]; omega, noE_bl hb hnE, F1, fun p' hb' hp' => ?_⟩⟩
      have := BL_id hb' hb.2.2.2
      subst this
      exact ⟨hns _ hb hp', fun _ => q hp', fun q => absurd q (by decide)⟩
    by_cases c : p1 < n
    · rw [if_pos c]
      have hT := (R1.at c).2.2
      rw [show (nI (T p1) = (38 : Int32)) = (T p1 = 38) from propext (nI_eq (b := 38) (by omega) (by omega))]
      refine ⟨fun c38 => ev ?_, fun c38 => stop (fun _ => c38)⟩
      have hs := st_jo (T := T) (p := p1) (di := di) c38 (.inl rfl) haw he hP hT2 hf (by omega) (by omega)
      have hRN2 : rnL T n p0 s0 = rnL T n (p1 + 1) (mkW 2 1 0 0 (38 :: W) (E ++ CR)) := hRN1.trans (RN_yes c (hb.2.2.2 c) hs)
      have hlen : (E ++ CR).length = CR'.length + P.length := by rw [← hf, flush_len]
      have F2 : Fr FX [] y0 (sI y 105 (nI (p1 + 1))) := hF.sI (by decide)
      rw [show gI (sI y 105 (nI p1)) 105 = nI p1 from rfl, nI_1, sI_sI]
      refine hq 1 0 (38 :: W) (E ++ CR) (p1 + 1) (sI y 105 (nI (p1 + 1))) _ ⟨hR.sI (by decide) (by decide), rfl, by omega, e106, e107, h240⟩ hc (.inl rfl) he (by show W.length + 1 ≤ _; omega) (by show (E ++ CR).length + (W.length + 1) ≤ _; omega) (show (2 : Nat) < 4 by decide) (fun va y' hok => ?_) (fun va y' hva hfl => ?_)
      · obtain ⟨p2, aw2, di2, P2, CR2, Ea, gle, gaw, g1, g2, g3, g4, gv, g5, g6, g7, g8, g9⟩ := hok
        have hEa : EV (lets (gA y0 104)) Ea (16 - 2 * dep) va := by
          rw [show lets (gA y0 104) = lets (gA (sI y 105 (nI (p1 + 1))) 104) by rw [show gA (sI y 105 (nI (p1 + 1))) 104 = gA y 104 from rfl, hF.2.1 104 (by decide)]]; exact g4
        have eW : (P2 ++ [38]) ++ W = P2 ++ 38 :: W := by rw [List.append_assoc]; rfl
        have next : ∀ w : Int32, cv (jw (nI 38) v va) = w → (w = 0 ∨ w = 1) → L_M_part_18 rq post k w y' := fun w hw hw01 => by
          refine ih (n - p2) (by omega) p2 y' w aw2 di2 (P2 ++ [38]) CR2 (-(nI 38) :: (Ea ++ E)) (Nat.le_refl _) (by omega) gaw (by rw [eW]; exact hRN2.trans g1) (fun x hx => ?_) ?_ (hE.bin hEa (.inl rfl) (Nat.le_refl _) (by omega) (fun _ => hw) (o1_min hw01)) hw01 g5 (by rw [eW]; exact g6) g7 (F2.tr g8) (fun p' hb' hp' => (g9 p' hb' hp').1) k (by omega)
          · rcases List.mem_append.mp hx with q | q
            · have := g2 x q; omega
            · rw [List.mem_singleton] at q; rw [q]; decide
          · rw [flush_app, g3]
            show -(nI 38) :: (Ea ++ (E ++ CR)) = -(nI 38) :: (Ea ++ E) ++ CR
            rw [List.cons_append, List.append_assoc]
        have av := and_v hv gv
        refine ⟨fun q => next 0 (by rw [av, if_pos q]) (.inl rfl), fun q => ⟨fun q2 => next 0 (by rw [av, if_neg q, if_pos q2]) (.inl rfl), fun q2 => next 1 (by rw [av, if_neg q, if_neg q2]) (.inr rfl)⟩⟩
      · have hfl' : FL T n p0 s0 y0 y' := by
          obtain ⟨f, g1, g2, g3, g4⟩ := hfl
          exact ⟨f, g1, by rw [hRN2]; exact g2, g3, F2.tr g4⟩
        exact ⟨fun _ => part_f h240 h0 (.inl rfl) hfl' (by omega), fun _ => ⟨fun _ => part_f h240 h0 (.inl rfl) hfl' (by omega), fun _ => part_f h240 h0 (.inr rfl) hfl' (by omega)⟩⟩
    · rw [if_neg c]
      exact pp_n (by decide) (stop (fun q => absurd q c))
/-- a part from its first unit on -/
theorem q_part {T : Nat → Nat} {n B r dep : Nat} {rq : (Int32 → St → Prop) → St → Prop} (hdep : dep ≤ 6) (hq : UnitP T n B r dep rq) {st di : Int32} {W : List Nat} {CR : List Int32} {p : Nat} {y : St} {post : Int32 → St → Prop} (hy : YY T n B r p dep y) (hc : cO W = dep) (hst : st = 1 ∨ (∀ p', BL T n p p' → p' < n ∧ (T p' = 33 ∨ T p' = 40))) (he : enL W ≠ 91) (hW : W.length ≤ 6 * dep + 1) (hl : CR.length + W.length ≤ p) (hT2 : tpR W < 2)
    (h1 : ∀ v y', OkU T n B r p dep 2 (17 - 2 * dep) (mkW 2 st 0 di W CR) W CR y v y' → post v y') (h0 : ∀ v y', (v = 0 ∨ v = 1) → FL T n p (mkW 2 st 0 di W CR) y y' → post v y') : S_M_part rq post 0 0 y := by
  unfold S_M_part B_M_part_17
  refine pp_y rfl (hq st di W CR p y _ hy hc hst he (by omega) hl (by omega) (fun v y' hok => ?_) (fun v y' hv hfl => ⟨1, part_f hy.2.2.2.2.2 h0 hv hfl (by omega)⟩))
  obtain ⟨p2, aw2, di2, P2, CR2, E, gle, gaw, g1, g2, g3, g4, gv, g5, g6, g7, g8, g9⟩ := hok
  exact ⟨_, part_lp hdep hq hc he hW hT2 h1 h0 (n - p2) p2 y' v aw2 di2 P2 CR2 E (Nat.le_refl _) gle gaw g1 (fun x hx => by have := g2 x hx; omega) g3 (g4.mono (by omega)) gv g5 g6 g7 g8 (fun p' hb' hp' => (g9 p' hb' hp').1) _ (Nat.le_refl _)⟩
theorem cond_lp {T : Nat → Nat} {n B r dep : Nat} {rq : (Int32 → St → Prop) → St → Prop} (hdep : dep ≤ 6) (hq : UnitP T n B r dep rq) {W : List Nat} {CR : List Int32} {p0 : Nat} {s0 : SL} {y0 : St} {post : Int32 → St → Prop} (hc : cO W = dep) (he : enL W ≠ 91) (hW : W.length ≤ 6 * dep) (hT1 : tpR W < 1)
    (h1 : ∀ v y', OkU T n B r p0 dep 1 (18 - 2 * dep) s0 W CR y0 v y' → post v y') (h0 : ∀ v y', (v = 0 ∨ v = 1) → FL T n p0 s0 y0 y' → post v y') : ∀ m p (y : St) (v aw di : Int32) (P : List Nat) (CR' E : List Int32), n - p ≤ m → p0 ≤ p → (aw = 4 ∨ aw = 5) → rnL T n p0 s0 = rnL T n p (mkW aw 1 1 di (P ++ W) CR') → (∀ x, x ∈ P → 1 ≤ rkN x) → flush P CR' = E ++ CR → EV (lets (gA y0 104)) E (18 - 2 * dep) v → (v = 0 ∨ v = 1) → YY T n B r p dep y → CR'.length + (P ++ W).length ≤ p → noE T n p di → Fr FX [] y0 y → (∀ p', BL T n p p' → p' < n → (aw = 4 → arF (T p')) ∧ T p' ≠ 38) → ∀ k, m + 2 ≤ k → L_M_condition_7 rq post k v y := by
  intro m
  induction m using Nat.strongRecOn with
  | ind m ih =>
    intro p y v aw di P CR' E hm hp0 haw hRN hP hf hE hv hy hl hnE hF hns k hk
    obtain ⟨k, rfl⟩ : ∃ j, k = j + 1 := ⟨k - 1, by omega⟩
    obtain ⟨hR, e105, hpn, e106, e107, h240⟩ := hy
    have hpl : (P ++ W).length = P.length + W.length := List.length_append
    rw [hpl] at hl
    show B_M_condition_7 rq post _ _ y
    unfold B_M_condition_7 B_M_condition_51 B_M_condition_56
    refine pp_y e106 (q_look hR e105 hpn (fun p1 hb => ?_))
    have hb1 := hb.1
    have hb2 := hb.2.1
    have hRN1 : rnL T n p0 s0 = rnL T n p1 (mkW aw 1 1 di (P ++ W) CR') := hRN.trans (RN_bl hb)
    have R1 := hR.sI (k := 105) (v := nI p1) (by decide) (by decide)
    have F1 : Fr FX [] y0 (sI y 105 (nI p1)) := hF.sI (by decide)
    have stop : (p1 < n → T p1 ≠ 124) → (v = 0 ∨ v = 1) ∧ post v (sI y 105 (nI p1)) := fun q => by
      refine ⟨hv, h1 _ _ ⟨p1, aw, di, P, CR', E, by omega, haw, hRN1, hP, hf, hE, hv, ⟨R1, rfl, hb2, e106, e107, h240⟩, by rw [hpl]; omega, noE_bl hb hnE, F1, fun p' hb' hp' => ?_⟩⟩
      have := BL_id hb' hb.2.2.2
      subst this
      exact ⟨(hns _ hb hp').1, fun _ => (hns _ hb hp').2, fun _ => q hp'⟩
    by_cases c : p1 < n
    · rw [if_pos c]
      have hT := (R1.at c).2.2
      rw [show (nI (T p1) = (124 : Int32)) = (T p1 = 124) from propext (nI_eq (b := 124) (by omega) (by omega))]
      refine ⟨fun c38 => ev ?_, fun c38 => stop (fun _ => c38)⟩
      have hs := st_jo (T := T) (p := p1) (di := di) c38 (.inr rfl) haw he hP hT1 hf (by omega) (by omega)
      have hRN2 : rnL T n p0 s0 = rnL T n (p1 + 1) (mkW 2 1 0 0 (124 :: W) (E ++ CR)) := hRN1.trans (RN_yes c (hb.2.2.2 c) hs)
      have hlen : (E ++ CR).length = CR'.length + P.length := by rw [← hf, flush_len]
      have F2 : Fr FX [] y0 (sI y 105 (nI (p1 + 1))) := hF.sI (by decide)
      rw [show gI (sI y 105 (nI p1)) 105 = nI p1 from rfl, nI_1, sI_sI]
      refine q_part hdep hq (st := 1) (di := 0) (W := 124 :: W) (CR := E ++ CR) (p := p1 + 1) (y := sI y 105 (nI (p1 + 1))) ⟨hR.sI (by decide) (by decide), rfl, by omega, e106, e107, h240⟩ hc (.inl rfl) he (by show W.length + 1 ≤ _; omega) (by show (E ++ CR).length + (W.length + 1) ≤ _; omega) (show (1 : Nat) < 2 by decide) (fun va y' hok => ?_) (fun va y' hva hfl => ?_)
      · obtain ⟨p2, aw2, di2, P2, CR2, Ea, gle, gaw, g1, g2, g3, g4, gv, g5, g6, g7, g8, g9⟩ := hok
        have hEa : EV (lets (gA y0 104)) Ea (17 - 2 * dep) va := by
          rw [show lets (gA y0 104) = lets (gA (sI y 105 (nI (p1 + 1))) 104) by rw [show gA (sI y 105 (nI (p1 + 1))) 104 = gA y 104 from rfl, hF.2.1 104 (by decide)]]; exact g4
        have eW : (P2 ++ [124]) ++ W = P2 ++ 124 :: W := by rw [List.append_assoc]; rfl
        have next : ∀ w : Int32, cv (jw (nI 124) v va) = w → (w = 0 ∨ w = 1) → L_M_condition_7 rq post k w y' := fun w hw hw01 => by
          refine ih (n - p2) (by omega) p2 y' w aw2 di2 (P2 ++ [124]) CR2 (-(nI 124) :: (Ea ++ E)) (Nat.le_refl _) (by omega) gaw (by rw [eW]; exact hRN2.trans g1) (fun x hx => ?_) ?_ (hE.bin hEa (by unfold isOp; omega) (Nat.le_refl _) (by omega) (fun _ => hw) (o1_min hw01)) hw01 g5 (by rw [eW]; exact g6) g7 (F2.tr g8) (fun p' hb' hp' => ⟨(g9 p' hb' hp').1, (g9 p' hb' hp').2.1 (by omega)⟩) k (by omega)
          · rcases List.mem_append.mp hx with q | q
            · have := g2 x q; omega
            · rw [List.mem_singleton] at q; rw [q]; decide
          · rw [flush_app, g3]
            show -(nI 124) :: (Ea ++ (E ++ CR)) = -(nI 124) :: (Ea ++ E) ++ CR
            rw [List.cons_append, List.append_assoc]
        have av := or_v hv gv
        refine ⟨fun q => ⟨fun q2 => next 0 (by rw [av, if_pos q, if_pos q2]) (.inl rfl), fun q2 => next 1 (by rw [av, if_pos q, if_neg q2]) (.inr rfl)⟩, fun q => next 1 (by rw [av, if_neg q]) (.inr rfl)⟩
      · have hfl' : FL T n p0 s0 y0 y' := by
          obtain ⟨f, g1, g2, g3, g4⟩ := hfl
          exact ⟨f, g1, by rw [hRN2]; exact g2, g3, F2.tr g4⟩
        exact ⟨fun _ => ⟨fun _ => cond_f h240 h0 (.inl rfl) hfl' (by omega), fun _ => cond_f h240 h0 (.inr rfl) hfl' (by omega)⟩, fun _ => cond_f h240 h0 (.inr rfl) hfl' (by omega)⟩
    · rw [if_neg c]
      exact pp_n (by decide) (stop (fun q => absurd q c))
/-- a condition from its first unit on -/
theorem q_cond {T : Nat → Nat} {n B r dep : Nat} {rq : (Int32 → St → Prop) → St → Prop} (hdep : dep ≤ 6) (hq : UnitP T n B r dep rq) {st di : Int32} {W : List Nat} {CR : List Int32} {p : Nat} {y : St} {post : Int32 → St → Prop} (hy : YY T n B r p dep y) (hc : cO W = dep) (hst : st = 1 ∨ (∀ p', BL T n p p' → p' < n ∧ (T p' = 33 ∨ T p' = 40))) (he : enL W ≠ 91) (hW : W.length ≤ 6 * dep) (hl : CR.length + W.length ≤ p) (hT1 : tpR W < 1)
    (h1 : ∀ v y', OkU T n B r p dep 1 (18 - 2 * dep) (mkW 2 st 0 di W CR) W CR y v y' → post v y') (h0 : ∀ v y', (v = 0 ∨ v = 1) → FL T n p (mkW 2 st 0 di W CR) y y' → post v y') : S_M_condition rq post 0 0 y := by
  unfold S_M_condition
  refine q_part hdep hq hy hc hst he (by omega) hl (by omega) (fun v y' hok => ?_) (fun v y' hv hfl => ⟨1, cond_f hy.2.2.2.2.2 h0 hv hfl (by omega)⟩)
  obtain ⟨p2, aw2, di2, P2, CR2, E, gle, gaw, g1, g2, g3, g4, gv, g5, g6, g7, g8, g9⟩ := hok
  exact ⟨_, cond_lp hdep hq hc he hW hT1 h1 h0 (n - p2) p2 y' v aw2 di2 P2 CR2 E (Nat.le_refl _) gle gaw g1 (fun x hx => by have := g2 x hx; omega) g3 (g4.mono (by omega)) gv g5 g6 g7 g8 (fun p' hb' hp' => ⟨(g9 p' hb' hp').1, (g9 p' hb' hp').2.1 (by omega)⟩) _ (Nat.le_refl _)⟩
