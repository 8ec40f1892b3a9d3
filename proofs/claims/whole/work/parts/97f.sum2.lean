/-! terms and sums -/
theorem lg_eq (x y : Int64) : lg_cmp x y = 0 ↔ x = y := by
  unfold lg_cmp
  by_cases c : x > y
  · rw [if_pos c]
    refine ⟨fun q => absurd q (by decide), fun q => ?_⟩
    have c : y < x := c
    rw [q, l6_lt] at c; omega
  · rw [if_neg c]
    by_cases e : x = y
    · rw [if_pos e]; exact ⟨fun _ => e, fun _ => rfl⟩
    · rw [if_neg e]; exact ⟨fun q => absurd q (by decide), fun q => absurd q e⟩
theorem w_0 (x : Int32) : x.toInt64 = 0 ↔ x = 0 := by
  refine ⟨fun q => Int32.toInt_inj.mp ?_, fun q => by rw [q]; decide⟩
  have := congrArg Int64.toInt q
  rw [Int32.toInt_toInt64] at this
  rw [this]; decide
/-- an arithmetic sign behind what waits -/
theorem st_ar {T : Nat → Nat} {p b : Nat} {st cm di : Int32} {P W : List Nat} {CR CR' E : List Int32} (hb : T p = b) (ho : b = 42 ∨ b = 47 ∨ b = 43 ∨ b = 45) (hP : ∀ x, x ∈ P → rkN b ≤ rkN x) (hW : tpR W < rkN b) (hf : flush P CR' = E ++ CR) (hl : CR'.length + P.length ≤ 241) (hw : W.length < 64) : stepL T p (mkW 4 st cm di (P ++ W) CR') = some (mkW 3 st cm 0 (b :: W) (E ++ CR)) := by
  have h1 : 1 ≤ rkN b := by rcases ho with rfl | rfl | rfl | rfl <;> decide
  have hg : gsL b 3 st cm (nI (cO (P ++ W))) (P ++ W) CR' = mkW 3 st cm 0 (b :: W) (E ++ CR) := by
    unfold gsL
    rw [poL_fl h1 hW P CR' hP hl, hf]
    show mkL 3 st cm 0 (nI (cO W)) (awL b W) (E ++ CR) = _
    rw [show awL b W = b :: W from if_neg (by omega)]
    unfold mkW
    rw [show cO (b :: W) = cO W by rcases ho with rfl | rfl | rfl | rfl <;> rfl]
  have ha : arL b 4 st cm (nI (cO (P ++ W))) (P ++ W) CR' = some (mkW 3 st cm 0 (b :: W) (E ++ CR)) := by
    unfold arL; rw [if_pos rfl, hg]
  rw [st_4 (.inl rfl), hb]
  rcases ho with rfl | rfl | rfl | rfl
  · rw [if_neg (by decide)]; exact ha
  · rw [if_neg (by decide)]; exact ha
  · rw [if_neg (by decide)]; exact ha
  · rw [if_neg (by decide)]; exact ha
theorem term_f {T : Nat → Nat} {n p0 : Nat} {rq : (Int32 → St → Prop) → St → Prop} {post : Int32 → St → Prop} {s0 : SL} {y0 : St} (hn : n ≤ 240) (h0 : ∀ v y', FL T n p0 s0 y0 y' → post v y') {x : Int32} {y : St} (h : FL T n p0 s0 y0 y) {k : Nat} (hk : 1 ≤ k) : L_M_term_5 rq post k x y := by
  obtain ⟨k, rfl⟩ : ∃ j, k = j + 1 := ⟨k - 1, by omega⟩
  show B_M_term_5 rq post _ _ y
  unfold B_M_term_5
  have hh := h
  obtain ⟨f, g1, g2, g3, g4⟩ := h
  exact pp_n (by rw [g3]; exact fun q => (nI_m1 (by omega)).mp q) (h0 x y hh)
theorem q_term_lp {T : Nat → Nat} {n B r dep : Nat} {rq : (Int32 → St → Prop) → St → Prop} (hdep : dep ≤ 6) (hq : dep < 6 → SumP T n B r (dep + 1) rq) {st cm : Int32} {W : List Nat} {CR : List Int32} {p0 : Nat} {s0 : SL} {y0 : St} {post : Int32 → St → Prop} (hc : cO W = dep) (hW : W.length ≤ 6 * dep + 4) (hT6 : tpR W < 6)
    (h1 : ∀ v y', OkS T n B r p0 dep 6 (14 - 2 * dep) s0 st cm W CR y0 v y' → post v y') (h0 : ∀ v y', FL T n p0 s0 y0 y' → post v y') : ∀ m p (y : St) (v di : Int32) (P : List Nat) (CR' E : List Int32), n - p ≤ m → p0 ≤ p → rnL T n p0 s0 = rnL T n p (mkW 4 st cm di (P ++ W) CR') → (∀ x, x ∈ P → 6 ≤ rkN x) → flush P CR' = E ++ CR → EV (lets (gA y0 104)) E (14 - 2 * dep) v → YY T n B r p dep y → CR'.length + (P ++ W).length ≤ p → noE T n p di → Fr FX [] y0 y → ∀ k, m + 2 ≤ k → L_M_term_5 rq post k v y := by
  intro m
  induction m using Nat.strongRecOn with
  | ind m ih =>
    intro p y v di P CR' E hm hp0 hRN hP hf hE hy hl hnE hF k hk
    obtain ⟨k, rfl⟩ : ∃ j, k = j + 1 := ⟨k - 1, by omega⟩
    have hyy := hy
    obtain ⟨hR, e105, hpn, e106, e107, h240⟩ := hy
    have hpl : (P ++ W).length = P.length + W.length := List.length_append
    rw [hpl] at hl
    show B_M_term_5 rq post _ _ y
    unfold B_M_term_5
    refine pp_y e106 (q_look hR e105 hpn (fun p1 hb => ?_))
    have hb1 := hb.1
    have hb2 := hb.2.1
    have hRN1 : rnL T n p0 s0 = rnL T n p1 (mkW 4 st cm di (P ++ W) CR') := hRN.trans (RN_bl hb)
    have R1 := hR.sI (k := 105) (v := nI p1) (by decide) (by decide)
    have F1 : Fr FX [] y0 (sI y 105 (nI p1)) := hF.sI (by decide)
    have look2 : ∀ post2 : Int32 → St → Prop, post2 (if p1 < n then nI (T p1) else -1) (sI y 105 (nI p1)) → S_M_look post2 (sI y 105 (nI p1)) := fun post2 hp2 => by
      refine q_look R1 (p := p1) rfl hb2 (fun p3 hb3 => ?_)
      have := BL_id hb3 hb.2.2.2
      subst this
      rw [sI_sI]; exact hp2
    -- a sign of a term
    have go : ∀ b, (b = 42 ∨ b = 47) → p1 < n → T p1 = b → B_M_term_31 rq post (L_M_term_5 rq post k) v (sI y 105 (nI p1)) := fun b hbo c hbT => by
      have hrk : rkN b = 6 := by rcases hbo with rfl | rfl <;> rfl
      have hst := st_ar (T := T) (p := p1) (st := st) (cm := cm) (di := di) hbT (by omega) (fun x hx => by rw [hrk]; exact hP x hx) (by rw [hrk]; exact hT6) hf (by omega) (by omega)
      have hRN2 : rnL T n p0 s0 = rnL T n (p1 + 1) (mkW 3 st cm 0 (b :: W) (E ++ CR)) := hRN1.trans (RN_yes c (hb.2.2.2 c) hst)
      have hlen : (E ++ CR).length = CR'.length + P.length := by rw [← hf, flush_len]
      have F2 : Fr FX [] y0 (sI y 105 (nI (p1 + 1))) := hF.sI (by decide)
      have hcb : cO (b :: W) = dep := by rcases hbo with rfl | rfl <;> exact hc
      have at' : ∀ post3 : Int32 → St → Prop, (∀ va y', OkA T n B r (p1 + 1) dep (mkW 3 st cm 0 (b :: W) (E ++ CR)) st cm (b :: W) (E ++ CR) (sI y 105 (nI (p1 + 1))) va y' → post3 va y') → (∀ va y', FL T n p0 s0 y0 y' → post3 va y') → S_M_atom rq post3 (sI y 105 (nI (p1 + 1))) := fun post3 k1 k0 => by
        refine q_atom hdep hq (y := sI y 105 (nI (p1 + 1))) (p := p1 + 1) ⟨hR.sI (by decide) (by decide), rfl, by omega, e106, e107, h240⟩ hcb (.inl rfl) (by show W.length + 1 ≤ _; omega) (by show (E ++ CR).length + (W.length + 1) ≤ _; omega) k1 (fun va y' hfl => k0 va y' ?_)
        obtain ⟨f, g1, g2, g3, g4⟩ := hfl
        exact ⟨f, g1, by rw [hRN2]; exact g2, g3, F2.tr g4⟩
      have next : ∀ va y' (w : Int32), OkA T n B r (p1 + 1) dep (mkW 3 st cm 0 (b :: W) (E ++ CR)) st cm (b :: W) (E ++ CR) (sI y 105 (nI (p1 + 1))) va y' → (v ≠ Int32.minValue → cv (jw (nI b) v va) = w) → w ≠ Int32.minValue → L_M_term_5 rq post k w y' := fun va y' w hok hw hwm => by
        obtain ⟨p2, di2, Ea, gle, g1, g2, g3, g4, g5, g6⟩ := hok
        have hEa : EV (lets (gA y0 104)) Ea (13 - 2 * dep) va := by
          rw [show lets (gA y0 104) = lets (gA (sI y 105 (nI (p1 + 1))) 104) by rw [show gA (sI y 105 (nI (p1 + 1))) 104 = gA y 104 from rfl, hF.2.1 104 (by decide)]]; exact g2
        refine ih (n - p2) (by omega) p2 y' w di2 [b] (Ea ++ (E ++ CR)) (-(nI b) :: (Ea ++ E)) (Nat.le_refl _) (by omega) (hRN2.trans g1) (fun x hx => by rw [List.mem_singleton] at hx; rw [hx, hrk]; omega) ?_ (hE.bin hEa (by rcases hbo with rfl | rfl <;> simp [isOp]) (Nat.le_refl _) (by omega) hw hwm) g3 ?_ g5 (F2.tr g6) k (by omega)
        · show -(nI b) :: (Ea ++ (E ++ CR)) = -(nI b) :: (Ea ++ E) ++ CR
          rw [List.cons_append, List.append_assoc]
        · show (Ea ++ (E ++ CR)).length + (W.length + 1) ≤ p2
          exact g4
      unfold B_M_term_31 B_M_term_45 B_M_term_87
      refine look2 _ ?_
      rw [if_pos c, hbT, show gI (sI y 105 (nI p1)) 105 = nI p1 from rfl, nI_1, sI_sI]
      rcases hbo with rfl | rfl
      · refine pp_y rfl (ev (at' _ (fun va y' hok => ev (pp_n (by decide) (q_within ?_))) (fun va y' hfl => ev (pp_n (by decide) (q_within (term_f h240 h0 hfl (by omega)))))))
        exact next va y' _ hok (fun _ => rfl) (cv_min _)
      · refine pp_n (by decide) (ev (at' _ (fun va y' hok => ev (pp_y rfl ?_)) (fun va y' hfl => ev (pp_y rfl ?_))))
        · rw [lg_eq, w_0]
          refine ⟨fun c0 => q_within (next va y' _ hok (fun _ => ?_) (cv_min _)), fun c0 => ⟨c0, q_within (next va y' _ hok (fun hm => ?_) (cv_min _))⟩⟩
          · show cv (if va = 0 then 0 else (v / va).toInt64) = _
            rw [if_pos c0]
          · show cv (if va = 0 then 0 else (v / va).toInt64) = _
            rw [if_neg c0, div_64 hm]
        · rw [lg_eq, w_0]
          exact ⟨fun c0 => q_within (term_f h240 h0 hfl (by omega)), fun c0 => ⟨c0, q_within (term_f h240 h0 hfl (by omega))⟩⟩
    have stop : (p1 < n → T p1 ≠ 42 ∧ T p1 ≠ 47) → post v (sI y 105 (nI p1)) := fun q => by
      refine h1 _ _ ⟨p1, di, P, CR', E, by omega, hRN1, hP, hf, hE, ⟨R1, rfl, hb2, e106, e107, h240⟩, by rw [hpl]; omega, noE_bl hb hnE, F1, fun c => ⟨hb.2.2.2 c, (q c).1, (q c).2, fun q => absurd q (by decide)⟩⟩
    by_cases c : p1 < n
    · have hT := (R1.at c).2.2
      have look3 := look2
      rw [if_pos c] at look2 ⊢
      rw [show (nI (T p1) = (42 : Int32)) = (T p1 = 42) from propext (nI_eq (b := 42) (by omega) (by omega))]
      refine ⟨fun q => go 42 (.inl rfl) c q, fun q => look2 _ ?_⟩
      rw [show (nI (T p1) = (47 : Int32)) = (T p1 = 47) from propext (nI_eq (b := 47) (by omega) (by omega))]
      exact ⟨fun q2 => go 47 (.inr rfl) c q2, fun q2 => stop (fun _ => ⟨q, q2⟩)⟩
    · rw [if_neg c] at look2 ⊢
      exact pp_n (by decide) (look2 _ (pp_n (by decide) (stop (fun q => absurd q c))))
theorem q_term {T : Nat → Nat} {n B r dep : Nat} {rq : (Int32 → St → Prop) → St → Prop} (hdep : dep ≤ 6) (hq : dep < 6 → SumP T n B r (dep + 1) rq) {aw st cm di : Int32} {W : List Nat} {CR : List Int32} {p : Nat} {y : St} {post : Int32 → St → Prop} (hy : YY T n B r p dep y) (hc : cO W = dep) (haw : awK T n p aw) (hW : W.length ≤ 6 * dep + 4) (hl : CR.length + W.length ≤ p) (hT6 : tpR W < 6)
    (h1 : ∀ v y', OkS T n B r p dep 6 (14 - 2 * dep) (mkW aw st cm di W CR) st cm W CR y v y' → post v y') (h0 : ∀ v y', FL T n p (mkW aw st cm di W CR) y y' → post v y') : S_M_term rq post y := by
  unfold S_M_term
  refine q_atom hdep hq hy hc haw (by omega) hl (fun v y' hok => ?_) (fun v y' hfl => ⟨1, term_f hy.2.2.2.2.2 h0 hfl (by omega)⟩)
  obtain ⟨p2, di2, E, gle, g1, g2, g3, g4, g5, g6⟩ := hok
  exact ⟨_, q_term_lp hdep hq hc hW hT6 h1 h0 (n - p2) p2 y' v di2 [] (E ++ CR) E (Nat.le_refl _) gle g1 (fun x hx => absurd hx List.not_mem_nil) rfl (g2.mono (by omega)) g3 g4 g5 g6 _ (Nat.le_refl _)⟩
theorem sum_f {T : Nat → Nat} {n p0 : Nat} {rq : (Int32 → St → Prop) → St → Prop} {post : Int32 → St → Prop} {s0 : SL} {y0 : St} (hn : n ≤ 240) (h0 : ∀ v y', FL T n p0 s0 y0 y' → post v y') {x : Int32} {y : St} (h : FL T n p0 s0 y0 y) {k : Nat} (hk : 1 ≤ k) : L_M_sum_5 rq post k x y := by
  obtain ⟨k, rfl⟩ : ∃ j, k = j + 1 := ⟨k - 1, by omega⟩
  show B_M_sum_5 rq post _ _ y
  unfold B_M_sum_5
  have hh := h
  obtain ⟨f, g1, g2, g3, g4⟩ := h
  exact pp_n (by rw [g3]; exact fun q => (nI_m1 (by omega)).mp q) (h0 x y hh)
theorem q_sum_lp {T : Nat → Nat} {n B r dep : Nat} {rq : (Int32 → St → Prop) → St → Prop} (hdep : dep ≤ 6) (hq : dep < 6 → SumP T n B r (dep + 1) rq) {st cm : Int32} {W : List Nat} {CR : List Int32} {p0 : Nat} {s0 : SL} {y0 : St} {post : Int32 → St → Prop} (hc : cO W = dep) (hW : W.length ≤ 6 * dep + 3) (hT5 : tpR W < 5)
    (h1 : ∀ v y', OkS T n B r p0 dep 5 (15 - 2 * dep) s0 st cm W CR y0 v y' → post v y') (h0 : ∀ v y', FL T n p0 s0 y0 y' → post v y') : ∀ m p (y : St) (v di : Int32) (P : List Nat) (CR' E : List Int32), n - p ≤ m → p0 ≤ p → rnL T n p0 s0 = rnL T n p (mkW 4 st cm di (P ++ W) CR') → (∀ x, x ∈ P → 5 ≤ rkN x) → flush P CR' = E ++ CR → EV (lets (gA y0 104)) E (15 - 2 * dep) v → YY T n B r p dep y → CR'.length + (P ++ W).length ≤ p → noE T n p di → Fr FX [] y0 y → (p < n → T p ≠ 32 ∧ T p ≠ 42 ∧ T p ≠ 47) → ∀ k, m + 2 ≤ k → L_M_sum_5 rq post k v y := by
  intro m
  induction m using Nat.strongRecOn with
  | ind m ih =>
    intro p y v di P CR' E hm hp0 hRN1 hP hf hE hy hl hnE hF hns k hk
    obtain ⟨k, rfl⟩ : ∃ j, k = j + 1 := ⟨k - 1, by omega⟩
    have hyy := hy
    obtain ⟨hR, e105, hpn, e106, e107, h240⟩ := hy
    have hpl : (P ++ W).length = P.length + W.length := List.length_append
    rw [hpl] at hl
    have look2 : ∀ post2 : Int32 → St → Prop, post2 (if p < n then nI (T p) else -1) y → S_M_look post2 y := fun post2 hp2 => by
      refine q_look hR e105 hpn (fun p3 hb3 => ?_)
      have := BL_id hb3 (fun q => (hns q).1)
      subst this
      rw [sI_id e105]; exact hp2
    show B_M_sum_5 rq post _ _ y
    unfold B_M_sum_5
    refine pp_y e106 (look2 _ ?_)
    have go : ∀ b, (b = 43 ∨ b = 45) → p < n → T p = b → B_M_sum_31 rq post (L_M_sum_5 rq post k) v y := fun b hbo c hbT => by
      have hrk : rkN b = 5 := by rcases hbo with rfl | rfl <;> rfl
      have hst := st_ar (T := T) (p := p) (st := st) (cm := cm) (di := di) hbT (by omega) (fun x hx => by rw [hrk]; exact hP x hx) (by rw [hrk]; exact hT5) hf (by omega) (by omega)
      have hRN2 : rnL T n p0 s0 = rnL T n (p + 1) (mkW 3 st cm 0 (b :: W) (E ++ CR)) := hRN1.trans (RN_yes c (hns c).1 hst)
      have hlen : (E ++ CR).length = CR'.length + P.length := by rw [← hf, flush_len]
      have F2 : Fr FX [] y0 (sI y 105 (nI (p + 1))) := hF.sI (by decide)
      have hcb : cO (b :: W) = dep := by rcases hbo with rfl | rfl <;> exact hc
      have at' : ∀ post3 : Int32 → St → Prop, (∀ va y', OkS T n B r (p + 1) dep 6 (14 - 2 * dep) (mkW 3 st cm 0 (b :: W) (E ++ CR)) st cm (b :: W) (E ++ CR) (sI y 105 (nI (p + 1))) va y' → post3 va y') → (∀ va y', FL T n p0 s0 y0 y' → post3 va y') → S_M_term rq post3 (sI y 105 (nI (p + 1))) := fun post3 k1 k0 => by
        refine q_term hdep hq (y := sI y 105 (nI (p + 1))) (p := p + 1) ⟨hR.sI (by decide) (by decide), rfl, by omega, e106, e107, h240⟩ hcb (.inl rfl) (by show W.length + 1 ≤ _; omega) (by show (E ++ CR).length + (W.length + 1) ≤ _; omega) (show rkN b < 6 by omega) k1 (fun va y' hfl => k0 va y' ?_)
        obtain ⟨f, g1, g2, g3, g4⟩ := hfl
        exact ⟨f, g1, by rw [hRN2]; exact g2, g3, F2.tr g4⟩
      have next : ∀ va y' (w : Int32), OkS T n B r (p + 1) dep 6 (14 - 2 * dep) (mkW 3 st cm 0 (b :: W) (E ++ CR)) st cm (b :: W) (E ++ CR) (sI y 105 (nI (p + 1))) va y' → (v ≠ Int32.minValue → cv (jw (nI b) v va) = w) → w ≠ Int32.minValue → L_M_sum_5 rq post k w y' := fun va y' w hok hw hwm => by
        obtain ⟨p2, di2, P2, CR2, Ea, gle, g1, g2, g3, g4, g5, g6, g7, g8, g9⟩ := hok
        have hEa : EV (lets (gA y0 104)) Ea (14 - 2 * dep) va := by
          rw [show lets (gA y0 104) = lets (gA (sI y 105 (nI (p + 1))) 104) by rw [show gA (sI y 105 (nI (p + 1))) 104 = gA y 104 from rfl, hF.2.1 104 (by decide)]]; exact g4
        have eW : (P2 ++ [b]) ++ W = P2 ++ b :: W := by rw [List.append_assoc]; rfl
        refine ih (n - p2) (by omega) p2 y' w di2 (P2 ++ [b]) CR2 (-(nI b) :: (Ea ++ E)) (Nat.le_refl _) (by omega) (by rw [eW]; exact hRN2.trans g1) (fun x hx => ?_) ?_ (hE.bin hEa (by rcases hbo with rfl | rfl <;> simp [isOp]) (Nat.le_refl _) (by omega) hw hwm) g5 (by rw [eW]; exact g6) g7 (F2.tr g8) (fun q => ⟨(g9 q).1, (g9 q).2.1, (g9 q).2.2.1⟩) k (by omega)
        · rcases List.mem_append.mp hx with q | q
          · have := g2 x q; omega
          · rw [List.mem_singleton] at q; rw [q, hrk]; omega
        · rw [flush_app, g3]
          show -(nI b) :: (Ea ++ (E ++ CR)) = -(nI b) :: (Ea ++ E) ++ CR
          rw [List.cons_append, List.append_assoc]
      unfold B_M_sum_31 B_M_sum_45 B_M_sum_77
      refine look2 _ ?_
      rw [if_pos c, hbT, e105, nI_1]
      rcases hbo with rfl | rfl
      · refine pp_y rfl (ev (at' _ (fun va y' hok => ev (pp_n (by decide) (q_within ?_))) (fun va y' hfl => ev (pp_n (by decide) (q_within (sum_f h240 h0 hfl (by omega)))))))
        exact next va y' _ hok (fun _ => rfl) (cv_min _)
      · refine pp_n (by decide) (ev (at' _ (fun va y' hok => ev (pp_y rfl (q_within ?_))) (fun va y' hfl => ev (pp_y rfl (q_within (sum_f h240 h0 hfl (by omega)))))))
        exact next va y' _ hok (fun _ => rfl) (cv_min _)
    have stop : (p < n → T p ≠ 43 ∧ T p ≠ 45) → post v y := fun q => by
      refine h1 _ _ ⟨p, di, P, CR', E, by omega, hRN1, hP, hf, hE, hyy, by rw [hpl]; omega, hnE, hF, fun c => ⟨(hns c).1, (hns c).2.1, (hns c).2.2, fun _ => q c⟩⟩
    by_cases c : p < n
    · have hT := (hR.at c).2.2
      rw [if_pos c] at look2 ⊢
      rw [show (nI (T p) = (43 : Int32)) = (T p = 43) from propext (nI_eq (b := 43) (by omega) (by omega))]
      refine ⟨fun q => go 43 (.inl rfl) c q, fun q => look2 _ ?_⟩
      rw [show (nI (T p) = (45 : Int32)) = (T p = 45) from propext (nI_eq (b := 45) (by omega) (by omega))]
      exact ⟨fun q2 => go 45 (.inr rfl) c q2, fun q2 => stop (fun _ => ⟨q, q2⟩)⟩
    · rw [if_neg c] at look2 ⊢
      exact pp_n (by decide) (look2 _ (pp_n (by decide) (stop (fun q => absurd q c))))
theorem sum_ok {T : Nat → Nat} {n B r dep : Nat} {rq : (Int32 → St → Prop) → St → Prop} (hdep : dep ≤ 6) (hq : dep < 6 → SumP T n B r (dep + 1) rq) : SumP T n B r dep (S_M_sum rq) := by
  intro aw st cm di W CR p y post hy hc haw hW hl hT5 h1 h0
  unfold S_M_sum
  refine q_term hdep hq hy hc haw (by omega) hl (by omega) (fun v y' hok => ?_) (fun v y' hfl => ⟨1, sum_f hy.2.2.2.2.2 h0 hfl (by omega)⟩)
  obtain ⟨p2, di2, P2, CR2, E, gle, g1, g2, g3, g4, g5, g6, g7, g8, g9⟩ := hok
  exact ⟨_, q_sum_lp hdep hq hc hW hT5 h1 h0 (n - p2) p2 y' v di2 P2 CR2 E (Nat.le_refl _) gle g1 (fun x hx => by have := g2 x hx; omega) g3 (g4.mono (by omega)) g5 g6 g7 g8 (fun q => ⟨(g9 q).1, (g9 q).2.1, (g9 q).2.2.1⟩) _ (Nat.le_refl _)⟩
theorem sum_D {T : Nat → Nat} {n B r : Nat} : ∀ d dep, dep ≤ 6 → 7 ≤ d + dep → SumP T n B r dep (D_M_sum d)
  | 0, dep, h1, h2 => by omega
  | d + 1, dep, h1, h2 => sum_ok h1 (fun q => sum_D d (dep + 1) (by omega) (by omega))
