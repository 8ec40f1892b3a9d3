/-! houses read: the reference -/
def VY (v : Nat → Nat) (dt gt : Nat) (y : St) : Prop :=
  (∀ j, j < 3 → gA y 106 j = nI (v j) ∧ v j ≤ 99) ∧ (∀ d, d < dt → ∀ l, l < 2 → gA y 108 (2 * d + l) = nI (v (3 + 2 * d + l)) ∧ v (3 + 2 * d + l) ≤ 99) ∧ (∀ g, g < gt → ∀ l, l < 3 → gA y 110 (3 * g + l) = nI (v (15 + 3 * g + l)) ∧ v (15 + 3 * g + l) ≤ 99)
def FHI : List Nat := [105, 106, 113, 114, 116]
def FHA : List Nat := [106, 108, 110]
theorem jn_y {T : Nat → Nat} {i : Nat} (h : T i ≠ 32) : jn T (i + 1) = true := by
  unfold jn; rw [if_neg (show ¬ i + 1 = 0 by omega), show i + 1 - 1 = i by omega, decide_eq_true h]
theorem jn_n {T : Nat → Nat} {i : Nat} (h : T i = 32) : jn T (i + 1) = false := by
  unfold jn; rw [if_neg (show ¬ i + 1 = 0 by omega), show i + 1 - 1 = i by omega, decide_eq_false (fun q => q h)]
theorem dgn_y {T : Nat → Nat} {n i : Nat} (h : i < n) (hd : dg (T i) = true) : dgn T n i = true := by unfold dgn; rw [decide_eq_true h, hd]; rfl
theorem dgn_n {T : Nat → Nat} {n i : Nat} (h : i < n → ¬ dg (T i) = true) : ¬ dgn T n i = true := fun q => by
  unfold dgn at q
  rw [Bool.and_eq_true_iff, decide_eq_true_iff] at q
  exact h q.1 q.2
theorem dg_32 {b : Nat} (h : dg b = true) : b ≠ 32 := by have := dg_iff.mp h; omega
/-- a number is read -/
theorem q_number {post : Int32 → St → Prop} {T : Nat → Nat} {n B r : Nat} {y : St} {p kd us le rt dt gt : Nat} {v : Nat → Nat} (hR : RX T n B r y) (h105 : gI y 105 = nI p) (hpn : p ≤ n) (h106 : gI y 106 = -1)
    (hy : ∀ p2 x di, p < p2 → p2 ≤ n → x ≤ moN (fi kd + le) → RN T n (stepH T n) clH p (mkH 2 kd us le 0 0 rt dt gt v) = RN T n (stepH T n) clH p2 (mkH 1 kd us le di x rt dt gt (fun j => if j = fv kd dt gt + le then x else v j)) → (p2 < n → dg (T p2) = true → di ≠ 1) → post (nI x) (sI y 105 (nI p2)))
    (hn : ∀ f r y', f ≤ n → (RN T n (stepH T n) clH p (mkH 2 kd us le 0 0 rt dt gt v)).1 = some f → gI y' 106 = nI f → Fr [105, 106] [] y y' → post r y') : S_M_number post (nI (moN (fi kd + le))) y := by
  have h960 := hR.n_le
  have hmo := mo_le (fi kd + le)
  unfold S_M_number
  refine q_look hR h105 hpn (fun p1 hb => ?_)
  have hRN := RN_bl (step := stepH T n) (cl := clH) (s := mkH 2 kd us le 0 0 rt dt gt v) hb
  have R1 := hR.sI (k := 105) (v := nI p1) (by decide) (by decide)
  have hbn := hb.2.1
  have hb1 := hb.1
  -- the machine at a digit
  have st2 : ∀ c : p1 < n, dg (T p1) = true → stepH T n p1 (mkH 2 kd us le 0 0 rt dt gt v) = (if dgn T n (p1 + 1) = true then some (mkH 1 kd us le 1 (T p1 - 48) rt dt gt v) else if T p1 - 48 ≤ moN (fi kd + le) then some (mkH 1 kd us le 1 (T p1 - 48) rt dt gt (fun j => if j = fv kd dt gt + le then T p1 - 48 else v j)) else none) := fun c hd => by
    unfold stepH mkH
    show (if (2 : Nat) = 0 then _ else if dg (T p1) = true then (if (2 : Nat) = 2 ∨ (jn T p1 = true ∧ (0 : Nat) = 1) then _ else _) else _) = _
    rw [if_neg (by decide), if_pos hd, if_pos (.inl rfl), show 0 * 10 + (T p1 - 48) = T p1 - 48 by omega]
  refine q_isDigit R1 (p := p1) rfl hbn (fun c hd => r11 (ev (ev ?_))) (fun cd => r01 ?_)
  · rw [if_pos c]
    have cd := dg_iff.mp hd
    have hb32 := dg_32 hd
    have hT1 := (R1.at c).2.2
    rw [show gI (sI y 105 (nI p1)) 105 = nI p1 from rfl, nI_1, sI_sI, k48, pk_sub (by omega)]
    have R2 := hR.sI (k := 105) (v := nI (p1 + 1)) (by decide) (by decide)
    refine q_isDigit R2 (p := p1 + 1) rfl (by omega) (fun c2 hd2 => r11 ?_) (fun cd2 => r01 ?_)
    · -- two digits
      have cd2 := dg_iff.mp hd2
      have hT2 := (R2.at c2).2.2
      have s1 := st2 c hd
      rw [if_pos (dgn_y c2 hd2)] at s1
      have hRN1 := hRN.trans (RN_yes c hb32 s1)
      have st3 : stepH T n (p1 + 1) (mkH 1 kd us le 1 (T p1 - 48) rt dt gt v) = (if dgn T n (p1 + 1 + 1) = true then some (mkH 1 kd us le 2 ((T p1 - 48) * 10 + (T (p1 + 1) - 48)) rt dt gt v) else if (T p1 - 48) * 10 + (T (p1 + 1) - 48) ≤ moN (fi kd + le) then some (mkH 1 kd us le 2 ((T p1 - 48) * 10 + (T (p1 + 1) - 48)) rt dt gt (fun j => if j = fv kd dt gt + le then (T p1 - 48) * 10 + (T (p1 + 1) - 48) else v j)) else none) := by
        unfold stepH mkH
        show (if (1 : Nat) = 0 then _ else if dg (T (p1 + 1)) = true then (if (1 : Nat) = 2 ∨ (jn T (p1 + 1) = true ∧ (1 : Nat) = 1) then _ else _) else _) = _
        rw [if_neg (by decide), if_pos hd2, if_pos (.inr ⟨jn_y hb32, rfl⟩)]
      refine q_here R2 (p := p1 + 1) rfl c2 (ev (ev ?_))
      rw [show gI (sI y 105 (nI (p1 + 1))) 105 = nI (p1 + 1) from rfl, nI_1, sI_sI, k10, pk_mul, nI_add, pk_sub (by omega), show 10 * (T p1 - 48) + T (p1 + 1) - 48 = (T p1 - 48) * 10 + (T (p1 + 1) - 48) by omega]
      have R3 := hR.sI (k := 105) (v := nI (p1 + 1 + 1)) (by decide) (by decide)
      unfold B_M_number_64
      refine q_isDigit R3 (p := p1 + 1 + 1) rfl (by omega) (fun c3 hd3 => r11 ?_) (fun cd3 => r01 ?_)
      · -- a third one
        rw [if_pos (dgn_y c3 hd3)] at st3
        have st4 : stepH T n (p1 + 1 + 1) (mkH 1 kd us le 2 ((T p1 - 48) * 10 + (T (p1 + 1) - 48)) rt dt gt v) = none := by
          unfold stepH mkH
          show (if (1 : Nat) = 0 then _ else if dg (T (p1 + 1 + 1)) = true then (if (1 : Nat) = 2 ∨ (jn T (p1 + 1 + 1) = true ∧ (2 : Nat) = 1) then _ else _) else _) = _
          rw [if_neg (by decide), if_pos hd3, if_neg (fun q => q.elim (by decide) (fun q => absurd q.2 (by decide)))]
        have e := (hRN1.trans (RN_yes c2 (dg_32 hd2) st3)).trans (RN_no c3 (dg_32 hd3) st4)
        exact q_fails_1 (p := p1 + 1 + 1) rfl h106 (hn (p1 + 1 + 1) _ _ (by omega) (by rw [e]) rfl ((Fr.rf.sI (by decide)).sI (by decide)))
      · rw [if_neg (dgn_n cd3)] at st3
        rw [nI_leI (by omega) (by omega)]
        refine ⟨fun cm => ?_, fun cm => ev ?_⟩
        · rw [if_pos cm] at st3
          exact hy (p1 + 1 + 1) _ 2 (by omega) (by omega) cm (hRN1.trans (RN_yes c2 (dg_32 hd2) st3)) (fun _ _ => by decide)
        · rw [if_neg cm] at st3
          have e := hRN1.trans (RN_no c2 (dg_32 hd2) st3)
          rw [show (gI (sI y 105 (nI (p1 + 1 + 1))) 105 - 1 : Int32) = nI (p1 + 1) from nI_pred (p1 + 1), sI_sI]
          exact q_fails_1 (p := p1 + 1) rfl h106 (hn (p1 + 1) _ _ (by omega) (by rw [e]) rfl ((Fr.rf.sI (by decide)).sI (by decide)))
    · -- one digit
      have s1 := st2 c hd
      rw [if_neg (dgn_n cd2)] at s1
      unfold B_M_number_64
      refine q_isDigit R2 (p := p1 + 1) rfl (by omega) (fun c3 hd3 => absurd hd3 (cd2 c3)) (fun _ => r01 ?_)
      rw [nI_leI (by omega) (by omega)]
      refine ⟨fun cm => ?_, fun cm => ev ?_⟩
      · rw [if_pos cm] at s1
        exact hy (p1 + 1) _ 1 (by omega) (by omega) cm (hRN.trans (RN_yes c hb32 s1)) (fun q1 q2 => absurd q2 (cd2 q1))
      · rw [if_neg cm] at s1
        have e := hRN.trans (RN_no c hb32 s1)
        rw [show (gI (sI y 105 (nI (p1 + 1))) 105 - 1 : Int32) = nI p1 from nI_pred p1, sI_sI]
        exact q_fails_1 (p := p1) rfl h106 (hn p1 _ _ (by omega) (by rw [e]) rfl ((Fr.rf.sI (by decide)).sI (by decide)))
  · have e : (RN T n (stepH T n) clH p (mkH 2 kd us le 0 0 rt dt gt v)).1 = some p1 := by
      rw [hRN]
      rcases Nat.lt_or_ge p1 n with c | c
      · rw [RN_no c (hb.2.2.2 c)]
        unfold stepH mkH
        show (if (2 : Nat) = 0 then _ else if dg (T p1) = true then _ else if (2 : Nat) = 2 then none else _) = _
        rw [if_neg (by decide), if_neg (cd c), if_pos rfl]
      · have : p1 = n := by omega
        subst this
        rw [RN_end]; rfl
    exact q_fails_1 (p := p1) rfl h106 (hn p1 _ _ hbn e rfl ((Fr.rf.sI (by decide)).sI (by decide)))
theorem spt_let : ∀ b, b < 256 → ∀ kd, kd ≤ 2 → (spt (2 + kd) (nI b)).isSome = true → (¬ dg b = true ∧ b ≠ 59) := by decide +kernel
theorem spt_m1 : ∀ kd, kd ≤ 2 → spt (2 + kd) (-1) = none := by decide
/-- the sign at p, as the reference sees it -/
def atS (T : Nat → Nat) (n p : Nat) : Int32 := if p < n then nI (T p) else -1
def noD (T : Nat → Nat) (n p di : Nat) : Prop := p < n → dg (T p) = true → ¬ (jn T p = true ∧ di = 1)
theorem noD_bl {T : Nat → Nat} {n p p' di : Nat} (hb : BL T n p p') (h : p < n → dg (T p) = true → di ≠ 1) : noD T n p' di := fun h1 h2 ⟨h3, h4⟩ => by
  rcases Nat.lt_or_ge p p' with c | c
  · have := hb.2.2.1 (p' - 1) (by omega) (by omega)
    have e := jn_n this
    rw [show p' - 1 + 1 = p' by omega] at e
    rw [e] at h3; exact absurd h3 (by decide)
  · have : p' = p := by have := hb.1; omega
    subst this
    exact h h1 h2 h4
theorem VY.fr {v : Nat → Nat} {dt gt : Nat} {y y' : St} (h : VY v dt gt y) (h6 : gA y' 106 = gA y 106) (h8 : gA y' 108 = gA y 108) (h10 : gA y' 110 = gA y 110) : VY v dt gt y' := by
  unfold VY; rw [h6, h8, h10]; exact h
theorem vy_no {f : Nat → Int32} {v : Nat → Nat} {b i j x : Nat} (h : f i = nI (v j) ∧ v j ≤ 99) (hj : j ≠ b) : f i = nI (if j = b then x else v j) ∧ (if j = b then x else v j) ≤ 99 := by
  rw [if_neg hj]; exact h
theorem vy_go {f : Nat → Int32} {v : Nat → Nat} {a b i j x : Nat} (h : f i = nI (v j) ∧ v j ≤ 99) (hx : x ≤ 99) (hij : i = a ↔ j = b) : upd f a (nI x) i = nI (if j = b then x else v j) ∧ (if j = b then x else v j) ≤ 99 := by
  by_cases e : i = a
  · rw [if_pos (hij.mp e), e, pk_us]; exact ⟨rfl, hx⟩
  · rw [if_neg (fun q => e (hij.mpr q)), pk_un e]; exact h
theorem VY.p0 {v : Nat → Nat} {dt gt le x : Nat} {y : St} (h : VY v dt gt y) (hl : le < 3) (hd : 0 = 1 → 0 < dt) (hg : 0 = 2 → 0 < gt) (hd6 : dt ≤ 6) (hx : x ≤ 99) : VY (fun j => if j = 0 + le then x else v j) dt gt (sA y 106 (0 + le) (nI x)) := by
  obtain ⟨h1, h2, h3⟩ := h
  have := hd
  have := hg
  refine ⟨fun j hj => ?_, fun d hd' l hl' => ?_, fun g hg' l hl' => ?_⟩
  · first | exact vy_no (h1 j hj) (by omega) | exact vy_go (h1 j hj) hx (by omega)
  · first | exact vy_no (h2 d hd' l hl') (by omega) | exact vy_go (h2 d hd' l hl') hx (by omega)
  · first | exact vy_no (h3 g hg' l hl') (by omega) | exact vy_go (h3 g hg' l hl') hx (by omega)
theorem q_most0 {post : Int32 → St → Prop} {y : St} {l : Nat} (hl : l < 3) (h : post (nI (moN (fi 0 + l))) y) : S_M_mostOf post (115 : Int32) (nI l) y := by
  unfold S_M_mostOf
  have : l = 0 ∨ l = 1 ∨ l = 2 := by omega
  rcases this with rfl | rfl | rfl
  all_goals first
    | exact pp_y rfl (pp_y rfl h)
    | exact pp_y rfl (pp_n (by decide) (pp_y rfl h))
    | exact pp_y rfl (pp_n (by decide) (pp_n (by decide) h))
    | exact pp_n (by decide) (pp_y rfl (pp_y rfl h))
    | exact pp_n (by decide) (pp_y rfl (pp_n (by decide) h))
    | exact pp_n (by decide) (pp_n (by decide) (pp_y rfl h))
    | exact pp_n (by decide) (pp_n (by decide) (pp_n (by decide) (pp_y rfl h)))
    | exact pp_n (by decide) (pp_n (by decide) (pp_n (by decide) (pp_n (by decide) h)))
    | omega
theorem q_usual0 {post : Int32 → St → Prop} {y : St} {l : Nat} (hl : l < 3) (h : post (nI (usN (fi 0 + l))) y) : S_M_usual post (115 : Int32) (nI l) y := by
  unfold S_M_usual
  have : l = 0 ∨ l = 1 ∨ l = 2 := by omega
  rcases this with rfl | rfl | rfl
  all_goals first
    | exact pp_y rfl (pp_y rfl h)
    | exact pp_y rfl (pp_n (by decide) (pp_y rfl h))
    | exact pp_y rfl (pp_n (by decide) (pp_n (by decide) h))
    | exact pp_n (by decide) (pp_y rfl h)
    | exact pp_n (by decide) (pp_n (by decide) (pp_y rfl h))
    | exact pp_n (by decide) (pp_n (by decide) (pp_n (by decide) (pp_y rfl h)))
    | exact pp_n (by decide) (pp_n (by decide) (pp_n (by decide) (pp_n (by decide) h)))
    | omega
theorem items0 {T : Nat → Nat} {n B r : Nat} {y0 : St} {post : St → Prop} {rt dt gt : Nat} (hd : 0 = 1 → 0 < dt) (hg : 0 = 2 → 0 < gt) (hd6 : dt ≤ 6) (hg6 : gt ≤ 6) : ∀ m p, n - p ≤ m → ∀ (y : St) (us le di nu : Nat) (v : Nat → Nat), RX T n B r y → gI y 105 = nI p → p ≤ n → (p < n → T p ≠ 32) → gI y 106 = -1 → us < 8 → noD T n p di → VY v dt gt y → Fr FHI FHA y0 y →
    (∀ p2 le' di' nu' us' v' y', p2 ≤ n → (p2 < n → T p2 ≠ 32) → RN T n (stepH T n) clH p (mkH 1 0 us le di nu rt dt gt v) = RN T n (stepH T n) clH p2 (mkH 1 0 us' le' di' nu' rt dt gt v') → spt 2 (atS T n p2) = none → noD T n p2 di' → VY v' dt gt y' → RX T n B r y' → gI y' 105 = nI p2 → gI y' 106 = -1 → Fr FHI FHA y0 y' → gI y' 113 = gI y 113 → gI y' 114 = gI y 114 → gI y' 116 = gI y 116 → post y') →
    (∀ f y', f ≤ n → (RN T n (stepH T n) clH p (mkH 1 0 us le di nu rt dt gt v)).1 = some f → gI y' 106 = nI f → Fr FHI FHA y0 y' → post y') →
    ∀ k, m + 2 ≤ k → L_M_readItems_r106_45 post k (115 : Int32) (nI 0) 2 (nI us) (enc (spt 2 (atS T n p))) y := by
  intro m
  induction m using Nat.strongRecOn with
  | ind m ih =>
    intro p hm y us le di nu v hR h105 hpn h32 h106 hu hnD hV hF hy hn k hk
    obtain ⟨k, rfl⟩ : ∃ j, k = j + 1 := ⟨k - 1, by omega⟩
    have h960 := hR.n_le
    show B_M_readItems_r106_45 post _ _ _ _ _ _ y
    unfold B_M_readItems_r106_45
    cases hs : spt 2 (atS T n p) with
    | none => exact pp_y rfl (hy p le di nu us v y hpn h32 rfl hs hnD hV hR h105 h106 hF rfl rfl rfl)
    | some l =>
      have hl : l < 3 := spt_lt hs
      have c : p < n := by
        rcases Nat.lt_or_ge p n with c | c
        · exact c
        · unfold atS at hs; rw [if_neg (by omega), show spt 2 (-1) = none from spt_m1 0 (by omega)] at hs; cases hs
      have hsT : spt (2 + 0) (nI (T p)) = some l := by unfold atS at hs; rw [if_pos c] at hs; exact hs
      have hT := (hR.at c).2.2
      have hlet := spt_let (T p) hT 0 (by omega) (by rw [hsT]; rfl)
      have hst : stepH T n p (mkH 1 0 us le di nu rt dt gt v) = if us.testBit l = true then none else some (mkH 2 0 (us ||| 2 ^ l) l 0 0 rt dt gt v) := by
        unfold stepH mkH
        show (if (1 : Nat) = 0 then _ else if dg (T p) = true then _ else if (1 : Nat) = 2 then _ else if T p = 59 then _ else match spt (2 + 0) (nI (T p)) with | none => none | some l => if us.testBit l = true then none else some (mkH 2 0 (us ||| 2 ^ l) l 0 0 rt dt gt v)) = _
        rw [if_neg (by decide), if_neg hlet.1, if_neg (by decide), if_neg hlet.2, hsT]
        rfl
      have hb1 := bit_1 us (by omega) l (by omega)
      have hbu := bit_u us (by omega) l (by omega)
      rw [show enc (some l) = nI l from rfl]
      refine pp_n (fun q => (nI_m1 (by omega)).mp q) (pp_y h106 ?_)
      unfold S_M_has
      rw [hb1, hbu.1]
      refine ⟨fun cb => r11 ?_, fun cb => r01 (ev (ev ?_))⟩
      · rw [if_pos cb] at hst
        have e := RN_no (cl := clH) c (h32 c) hst
        exact q_fails_1 h105 h106 (hn p _ hpn (by rw [e]) rfl (hF.sI (by decide)))
      · rw [if_neg cb] at hst
        have hRN := RN_yes (cl := clH) c (h32 c) hst
        rw [h105, nI_1]
        refine q_most0 hl (q_number (kd := 0) (us := us ||| 2 ^ l) (le := l) (rt := rt) (dt := dt) (gt := gt) (v := v) (hR.sI (by decide) (by decide)) (p := p + 1) rfl (by omega) h106 (fun p2 x di2 hp2 hp2n hx hRN2 hdi => ?_) (fun f r2 y2 hfn hf e106 hfr => ?_))
        · have hx99 := mo_le (fi 0 + l)
          rw [sI_sI, nI_add, nI_clamp (by omega)]
          refine ⟨(vp_in_nI (by omega) (by omega)), ev (pp_y h106 ?_)⟩
          have hV2 : VY (fun j => if j = fv 0 dt gt + l then x else v j) dt gt (sA (sI y 105 (nI p2)) 106 (0 + l) (nI x)) := VY.p0 (y := sI y 105 (nI p2)) hV hl hd hg hd6 (by omega)
          have R2 : RX T n B r (sA (sI y 105 (nI p2)) 106 (0 + l) (nI x)) := (hR.sI (by decide) (by decide)).sA (by decide) (by decide)
          refine q_look R2 (p := p2) rfl hp2n (fun p3 hb3 => q_spotOf (by decide) ?_)
          have hRN3 := (hRN.trans hRN2).trans (RN_bl hb3)
          have hb31 := hb3.1
          have hb32 := hb3.2.1
          show L_M_readItems_r106_45 post k _ _ _ _ (enc (spt 2 (atS T n p3))) _
          refine ih (n - p3) (by omega) p3 (Nat.le_refl _) (sI (sA (sI y 105 (nI p2)) 106 (0 + l) (nI x)) 105 (nI p3)) (us ||| 2 ^ l) l di2 x _ (R2.sI (by decide) (by decide)) rfl hb3.2.1 hb3.2.2.2 h106 (bt8 us hu l (by omega)) (noD_bl hb3 hdi) (hV2.fr rfl rfl rfl) (((hF.sI (by decide)).sA (by decide)).sI (by decide)) (fun p4 le' di' nu' us' v' y' a1 a2 a3 a4 a5 a6 a7 a8 a9 a10 a11 a12 a13 => hy p4 le' di' nu' us' v' y' a1 a2 (hRN3.trans a3) a4 a5 a6 a7 a8 a9 a10 a11 a12 a13) (fun f y' a0 a1 a2 a3 => hn f y' a0 (by rw [hRN3]; exact a1) a2 a3) k (by omega)
        · rw [nI_add, nI_clamp (by omega)]
          refine ⟨(vp_in_nI (by omega) (by omega)), ev ?_⟩
          have n106 : ¬ gI (sA y2 106 (0 + l) r2) 106 = -1 := by
            show ¬ gI y2 106 = -1
            rw [e106]; exact fun q => (nI_m1 (by omega)).mp q
          refine pp_n n106 ?_
          obtain ⟨k, rfl⟩ : ∃ j, k = j + 1 := ⟨k - 1, by omega⟩
          show B_M_readItems_r106_45 post _ _ _ _ _ _ _
          unfold B_M_readItems_r106_45
          refine pp_n (fun q => (nI_m1 (by omega)).mp q) (pp_n n106 (hn f _ hfn (by rw [hRN]; exact hf) e106 ((hF.tr ((Fr.rf.sI (by decide)).tr (hfr.wk (by decide) (by decide)))).sA (by decide))))
theorem VY.p1 {v : Nat → Nat} {dt gt le x : Nat} {y : St} (h : VY v dt gt y) (hl : le < 2) (hd : 1 = 1 → 0 < dt) (hg : 1 = 2 → 0 < gt) (hd6 : dt ≤ 6) (hx : x ≤ 99) : VY (fun j => if j = (3 + 2 * (dt - 1)) + le then x else v j) dt gt (sA y 108 ((2 * (dt - 1)) + le) (nI x)) := by
  obtain ⟨h1, h2, h3⟩ := h
  have := hd
  have := hg
  refine ⟨fun j hj => ?_, fun d hd' l hl' => ?_, fun g hg' l hl' => ?_⟩
  · first | exact vy_no (h1 j hj) (by omega) | exact vy_go (h1 j hj) hx (by omega)
  · first | exact vy_no (h2 d hd' l hl') (by omega) | exact vy_go (h2 d hd' l hl') hx (by omega)
  · first | exact vy_no (h3 g hg' l hl') (by omega) | exact vy_go (h3 g hg' l hl') hx (by omega)
theorem q_most1 {post : Int32 → St → Prop} {y : St} {l : Nat} (hl : l < 2) (h : post (nI (moN (fi 1 + l))) y) : S_M_mostOf post (100 : Int32) (nI l) y := by
  unfold S_M_mostOf
  have : l = 0 ∨ l = 1 ∨ l = 2 := by omega
  rcases this with rfl | rfl | rfl
  all_goals first
    | exact pp_y rfl (pp_y rfl h)
    | exact pp_y rfl (pp_n (by decide) (pp_y rfl h))
    | exact pp_y rfl (pp_n (by decide) (pp_n (by decide) h))
    | exact pp_n (by decide) (pp_y rfl (pp_y rfl h))
    | exact pp_n (by decide) (pp_y rfl (pp_n (by decide) h))
    | exact pp_n (by decide) (pp_n (by decide) (pp_y rfl h))
    | exact pp_n (by decide) (pp_n (by decide) (pp_n (by decide) (pp_y rfl h)))
    | exact pp_n (by decide) (pp_n (by decide) (pp_n (by decide) (pp_n (by decide) h)))
    | omega
theorem q_usual1 {post : Int32 → St → Prop} {y : St} {l : Nat} (hl : l < 2) (h : post (nI (usN (fi 1 + l))) y) : S_M_usual post (100 : Int32) (nI l) y := by
  unfold S_M_usual
  have : l = 0 ∨ l = 1 ∨ l = 2 := by omega
  rcases this with rfl | rfl | rfl
  all_goals first
    | exact pp_y rfl (pp_y rfl h)
    | exact pp_y rfl (pp_n (by decide) (pp_y rfl h))
    | exact pp_y rfl (pp_n (by decide) (pp_n (by decide) h))
    | exact pp_n (by decide) (pp_y rfl h)
    | exact pp_n (by decide) (pp_n (by decide) (pp_y rfl h))
    | exact pp_n (by decide) (pp_n (by decide) (pp_n (by decide) (pp_y rfl h)))
    | exact pp_n (by decide) (pp_n (by decide) (pp_n (by decide) (pp_n (by decide) h)))
    | omega
theorem items1 {T : Nat → Nat} {n B r : Nat} {y0 : St} {post : St → Prop} {rt dt gt : Nat} (hd : 1 = 1 → 0 < dt) (hg : 1 = 2 → 0 < gt) (hd6 : dt ≤ 6) (hg6 : gt ≤ 6) : ∀ m p, n - p ≤ m → ∀ (y : St) (us le di nu : Nat) (v : Nat → Nat), RX T n B r y → gI y 105 = nI p → p ≤ n → (p < n → T p ≠ 32) → gI y 106 = -1 → us < 8 → noD T n p di → VY v dt gt y → Fr FHI FHA y0 y →
    (∀ p2 le' di' nu' us' v' y', p2 ≤ n → (p2 < n → T p2 ≠ 32) → RN T n (stepH T n) clH p (mkH 1 1 us le di nu rt dt gt v) = RN T n (stepH T n) clH p2 (mkH 1 1 us' le' di' nu' rt dt gt v') → spt 3 (atS T n p2) = none → noD T n p2 di' → VY v' dt gt y' → RX T n B r y' → gI y' 105 = nI p2 → gI y' 106 = -1 → Fr FHI FHA y0 y' → gI y' 113 = gI y 113 → gI y' 114 = gI y 114 → gI y' 116 = gI y 116 → post y') →
    (∀ f y', f ≤ n → (RN T n (stepH T n) clH p (mkH 1 1 us le di nu rt dt gt v)).1 = some f → gI y' 106 = nI f → Fr FHI FHA y0 y' → post y') →
    ∀ k, m + 2 ≤ k → L_M_readItems_r108_45 post k (100 : Int32) (nI (2 * (dt - 1))) 3 (nI us) (enc (spt 3 (atS T n p))) y := by
  intro m
  induction m using Nat.strongRecOn with
  | ind m ih =>
    intro p hm y us le di nu v hR h105 hpn h32 h106 hu hnD hV hF hy hn k hk
    obtain ⟨k, rfl⟩ : ∃ j, k = j + 1 := ⟨k - 1, by omega⟩
    have h960 := hR.n_le
    show B_M_readItems_r108_45 post _ _ _ _ _ _ y
    unfold B_M_readItems_r108_45
    cases hs : spt 3 (atS T n p) with
    | none => exact pp_y rfl (hy p le di nu us v y hpn h32 rfl hs hnD hV hR h105 h106 hF rfl rfl rfl)
    | some l =>
      have hl : l < 2 := spt_lt hs
      have c : p < n := by
        rcases Nat.lt_or_ge p n with c | c
        · exact c
        · unfold atS at hs; rw [if_neg (by omega), show spt 3 (-1) = none from spt_m1 1 (by omega)] at hs; cases hs
      have hsT : spt (2 + 1) (nI (T p)) = some l := by unfold atS at hs; rw [if_pos c] at hs; exact hs
      have hT := (hR.at c).2.2
      have hlet := spt_let (T p) hT 1 (by omega) (by rw [hsT]; rfl)
      have hst : stepH T n p (mkH 1 1 us le di nu rt dt gt v) = if us.testBit l = true then none else some (mkH 2 1 (us ||| 2 ^ l) l 0 0 rt dt gt v) := by
        unfold stepH mkH
        show (if (1 : Nat) = 0 then _ else if dg (T p) = true then _ else if (1 : Nat) = 2 then _ else if T p = 59 then _ else match spt (2 + 1) (nI (T p)) with | none => none | some l => if us.testBit l = true then none else some (mkH 2 1 (us ||| 2 ^ l) l 0 0 rt dt gt v)) = _
        rw [if_neg (by decide), if_neg hlet.1, if_neg (by decide), if_neg hlet.2, hsT]
        rfl
      have hb1 := bit_1 us (by omega) l (by omega)
      have hbu := bit_u us (by omega) l (by omega)
      rw [show enc (some l) = nI l from rfl]
      refine pp_n (fun q => (nI_m1 (by omega)).mp q) (pp_y h106 ?_)
      unfold S_M_has
      rw [hb1, hbu.1]
      refine ⟨fun cb => r11 ?_, fun cb => r01 (ev (ev ?_))⟩
      · rw [if_pos cb] at hst
        have e := RN_no (cl := clH) c (h32 c) hst
        exact q_fails_1 h105 h106 (hn p _ hpn (by rw [e]) rfl (hF.sI (by decide)))
      · rw [if_neg cb] at hst
        have hRN := RN_yes (cl := clH) c (h32 c) hst
        rw [h105, nI_1]
        refine q_most1 hl (q_number (kd := 1) (us := us ||| 2 ^ l) (le := l) (rt := rt) (dt := dt) (gt := gt) (v := v) (hR.sI (by decide) (by decide)) (p := p + 1) rfl (by omega) h106 (fun p2 x di2 hp2 hp2n hx hRN2 hdi => ?_) (fun f r2 y2 hfn hf e106 hfr => ?_))
        · have hx99 := mo_le (fi 1 + l)
          rw [sI_sI, nI_add, nI_clamp (by omega)]
          refine ⟨(vp_in_nI (by omega) (by omega)), ev (pp_y h106 ?_)⟩
          have hV2 : VY (fun j => if j = fv 1 dt gt + l then x else v j) dt gt (sA (sI y 105 (nI p2)) 108 ((2 * (dt - 1)) + l) (nI x)) := VY.p1 (y := sI y 105 (nI p2)) hV hl hd hg hd6 (by omega)
          have R2 : RX T n B r (sA (sI y 105 (nI p2)) 108 ((2 * (dt - 1)) + l) (nI x)) := (hR.sI (by decide) (by decide)).sA (by decide) (by decide)
          refine q_look R2 (p := p2) rfl hp2n (fun p3 hb3 => q_spotOf (by decide) ?_)
          have hRN3 := (hRN.trans hRN2).trans (RN_bl hb3)
          have hb31 := hb3.1
          have hb32 := hb3.2.1
          show L_M_readItems_r108_45 post k _ _ _ _ (enc (spt 3 (atS T n p3))) _
          refine ih (n - p3) (by omega) p3 (Nat.le_refl _) (sI (sA (sI y 105 (nI p2)) 108 ((2 * (dt - 1)) + l) (nI x)) 105 (nI p3)) (us ||| 2 ^ l) l di2 x _ (R2.sI (by decide) (by decide)) rfl hb3.2.1 hb3.2.2.2 h106 (bt8 us hu l (by omega)) (noD_bl hb3 hdi) (hV2.fr rfl rfl rfl) (((hF.sI (by decide)).sA (by decide)).sI (by decide)) (fun p4 le' di' nu' us' v' y' a1 a2 a3 a4 a5 a6 a7 a8 a9 a10 a11 a12 a13 => hy p4 le' di' nu' us' v' y' a1 a2 (hRN3.trans a3) a4 a5 a6 a7 a8 a9 a10 a11 a12 a13) (fun f y' a0 a1 a2 a3 => hn f y' a0 (by rw [hRN3]; exact a1) a2 a3) k (by omega)
        · rw [nI_add, nI_clamp (by omega)]
          refine ⟨(vp_in_nI (by omega) (by omega)), ev ?_⟩
          have n106 : ¬ gI (sA y2 108 ((2 * (dt - 1)) + l) r2) 106 = -1 := by
            show ¬ gI y2 106 = -1
            rw [e106]; exact fun q => (nI_m1 (by omega)).mp q
          refine pp_n n106 ?_
          obtain ⟨k, rfl⟩ : ∃ j, k = j + 1 := ⟨k - 1, by omega⟩
          show B_M_readItems_r108_45 post _ _ _ _ _ _ _
          unfold B_M_readItems_r108_45
          refine pp_n (fun q => (nI_m1 (by omega)).mp q) (pp_n n106 (hn f _ hfn (by rw [hRN]; exact hf) e106 ((hF.tr ((Fr.rf.sI (by decide)).tr (hfr.wk (by decide) (by decide)))).sA (by decide))))
theorem VY.p2 {v : Nat → Nat} {dt gt le x : Nat} {y : St} (h : VY v dt gt y) (hl : le < 3) (hd : 2 = 1 → 0 < dt) (hg : 2 = 2 → 0 < gt) (hd6 : dt ≤ 6) (hx : x ≤ 99) : VY (fun j => if j = (15 + 3 * (gt - 1)) + le then x else v j) dt gt (sA y 110 ((3 * (gt - 1)) + le) (nI x)) := by
  obtain ⟨h1, h2, h3⟩ := h
  have := hd
  have := hg
  refine ⟨fun j hj => ?_, fun d hd' l hl' => ?_, fun g hg' l hl' => ?_⟩
  · first | exact vy_no (h1 j hj) (by omega) | exact vy_go (h1 j hj) hx (by omega)
  · first | exact vy_no (h2 d hd' l hl') (by omega) | exact vy_go (h2 d hd' l hl') hx (by omega)
  · first | exact vy_no (h3 g hg' l hl') (by omega) | exact vy_go (h3 g hg' l hl') hx (by omega)
theorem q_most2 {post : Int32 → St → Prop} {y : St} {l : Nat} (hl : l < 3) (h : post (nI (moN (fi 2 + l))) y) : S_M_mostOf post (103 : Int32) (nI l) y := by
  unfold S_M_mostOf
  have : l = 0 ∨ l = 1 ∨ l = 2 := by omega
  rcases this with rfl | rfl | rfl
  all_goals first
    | exact pp_y rfl (pp_y rfl h)
    | exact pp_y rfl (pp_n (by decide) (pp_y rfl h))
    | exact pp_y rfl (pp_n (by decide) (pp_n (by decide) h))
    | exact pp_n (by decide) (pp_y rfl (pp_y rfl h))
    | exact pp_n (by decide) (pp_y rfl (pp_n (by decide) h))
    | exact pp_n (by decide) (pp_n (by decide) (pp_y rfl h))
    | exact pp_n (by decide) (pp_n (by decide) (pp_n (by decide) (pp_y rfl h)))
    | exact pp_n (by decide) (pp_n (by decide) (pp_n (by decide) (pp_n (by decide) h)))
    | omega
theorem q_usual2 {post : Int32 → St → Prop} {y : St} {l : Nat} (hl : l < 3) (h : post (nI (usN (fi 2 + l))) y) : S_M_usual post (103 : Int32) (nI l) y := by
  unfold S_M_usual
  have : l = 0 ∨ l = 1 ∨ l = 2 := by omega
  rcases this with rfl | rfl | rfl
  all_goals first
    | exact pp_y rfl (pp_y rfl h)
    | exact pp_y rfl (pp_n (by decide) (pp_y rfl h))
    | exact pp_y rfl (pp_n (by decide) (pp_n (by decide) h))
    | exact pp_n (by decide) (pp_y rfl h)
    | exact pp_n (by decide) (pp_n (by decide) (pp_y rfl h))
    | exact pp_n (by decide) (pp_n (by decide) (pp_n (by decide) (pp_y rfl h)))
    | exact pp_n (by decide) (pp_n (by decide) (pp_n (by decide) (pp_n (by decide) h)))
    | omega
theorem items2 {T : Nat → Nat} {n B r : Nat} {y0 : St} {post : St → Prop} {rt dt gt : Nat} (hd : 2 = 1 → 0 < dt) (hg : 2 = 2 → 0 < gt) (hd6 : dt ≤ 6) (hg6 : gt ≤ 6) : ∀ m p, n - p ≤ m → ∀ (y : St) (us le di nu : Nat) (v : Nat → Nat), RX T n B r y → gI y 105 = nI p → p ≤ n → (p < n → T p ≠ 32) → gI y 106 = -1 → us < 8 → noD T n p di → VY v dt gt y → Fr FHI FHA y0 y →
    (∀ p2 le' di' nu' us' v' y', p2 ≤ n → (p2 < n → T p2 ≠ 32) → RN T n (stepH T n) clH p (mkH 1 2 us le di nu rt dt gt v) = RN T n (stepH T n) clH p2 (mkH 1 2 us' le' di' nu' rt dt gt v') → spt 4 (atS T n p2) = none → noD T n p2 di' → VY v' dt gt y' → RX T n B r y' → gI y' 105 = nI p2 → gI y' 106 = -1 → Fr FHI FHA y0 y' → gI y' 113 = gI y 113 → gI y' 114 = gI y 114 → gI y' 116 = gI y 116 → post y') →
    (∀ f y', f ≤ n → (RN T n (stepH T n) clH p (mkH 1 2 us le di nu rt dt gt v)).1 = some f → gI y' 106 = nI f → Fr FHI FHA y0 y' → post y') →
    ∀ k, m + 2 ≤ k → L_M_readItems_r110_45 post k (103 : Int32) (nI (3 * (gt - 1))) 4 (nI us) (enc (spt 4 (atS T n p))) y := by
  intro m
  induction m using Nat.strongRecOn with
  | ind m ih =>
    intro p hm y us le di nu v hR h105 hpn h32 h106 hu hnD hV hF hy hn k hk
    obtain ⟨k, rfl⟩ : ∃ j, k = j + 1 := ⟨k - 1, by omega⟩
    have h960 := hR.n_le
    show B_M_readItems_r110_45 post _ _ _ _ _ _ y
    unfold B_M_readItems_r110_45
    cases hs : spt 4 (atS T n p) with
    | none => exact pp_y rfl (hy p le di nu us v y hpn h32 rfl hs hnD hV hR h105 h106 hF rfl rfl rfl)
    | some l =>
      have hl : l < 3 := spt_lt hs
      have c : p < n := by
        rcases Nat.lt_or_ge p n with c | c
        · exact c
        · unfold atS at hs; rw [if_neg (by omega), show spt 4 (-1) = none from spt_m1 2 (by omega)] at hs; cases hs
      have hsT : spt (2 + 2) (nI (T p)) = some l := by unfold atS at hs; rw [if_pos c] at hs; exact hs
      have hT := (hR.at c).2.2
      have hlet := spt_let (T p) hT 2 (by omega) (by rw [hsT]; rfl)
      have hst : stepH T n p (mkH 1 2 us le di nu rt dt gt v) = if us.testBit l = true then none else some (mkH 2 2 (us ||| 2 ^ l) l 0 0 rt dt gt v) := by
        unfold stepH mkH
        show (if (1 : Nat) = 0 then _ else if dg (T p) = true then _ else if (1 : Nat) = 2 then _ else if T p = 59 then _ else match spt (2 + 2) (nI (T p)) with | none => none | some l => if us.testBit l = true then none else some (mkH 2 2 (us ||| 2 ^ l) l 0 0 rt dt gt v)) = _
        rw [if_neg (by decide), if_neg hlet.1, if_neg (by decide), if_neg hlet.2, hsT]
        rfl
      have hb1 := bit_1 us (by omega) l (by omega)
      have hbu := bit_u us (by omega) l (by omega)
      rw [show enc (some l) = nI l from rfl]
      refine pp_n (fun q => (nI_m1 (by omega)).mp q) (pp_y h106 ?_)
      unfold S_M_has
      rw [hb1, hbu.1]
      refine ⟨fun cb => r11 ?_, fun cb => r01 (ev (ev ?_))⟩
      · rw [if_pos cb] at hst
        have e := RN_no (cl := clH) c (h32 c) hst
        exact q_fails_1 h105 h106 (hn p _ hpn (by rw [e]) rfl (hF.sI (by decide)))
      · rw [if_neg cb] at hst
        have hRN := RN_yes (cl := clH) c (h32 c) hst
        rw [h105, nI_1]
        refine q_most2 hl (q_number (kd := 2) (us := us ||| 2 ^ l) (le := l) (rt := rt) (dt := dt) (gt := gt) (v := v) (hR.sI (by decide) (by decide)) (p := p + 1) rfl (by omega) h106 (fun p2 x di2 hp2 hp2n hx hRN2 hdi => ?_) (fun f r2 y2 hfn hf e106 hfr => ?_))
        · have hx99 := mo_le (fi 2 + l)
          rw [sI_sI, nI_add, nI_clamp (by omega)]
          refine ⟨(vp_in_nI (by omega) (by omega)), ev (pp_y h106 ?_)⟩
          have hV2 : VY (fun j => if j = fv 2 dt gt + l then x else v j) dt gt (sA (sI y 105 (nI p2)) 110 ((3 * (gt - 1)) + l) (nI x)) := VY.p2 (y := sI y 105 (nI p2)) hV hl hd hg hd6 (by omega)
          have R2 : RX T n B r (sA (sI y 105 (nI p2)) 110 ((3 * (gt - 1)) + l) (nI x)) := (hR.sI (by decide) (by decide)).sA (by decide) (by decide)
          refine q_look R2 (p := p2) rfl hp2n (fun p3 hb3 => q_spotOf (by decide) ?_)
          have hRN3 := (hRN.trans hRN2).trans (RN_bl hb3)
          have hb31 := hb3.1
          have hb32 := hb3.2.1
          show L_M_readItems_r110_45 post k _ _ _ _ (enc (spt 4 (atS T n p3))) _
          refine ih (n - p3) (by omega) p3 (Nat.le_refl _) (sI (sA (sI y 105 (nI p2)) 110 ((3 * (gt - 1)) + l) (nI x)) 105 (nI p3)) (us ||| 2 ^ l) l di2 x _ (R2.sI (by decide) (by decide)) rfl hb3.2.1 hb3.2.2.2 h106 (bt8 us hu l (by omega)) (noD_bl hb3 hdi) (hV2.fr rfl rfl rfl) (((hF.sI (by decide)).sA (by decide)).sI (by decide)) (fun p4 le' di' nu' us' v' y' a1 a2 a3 a4 a5 a6 a7 a8 a9 a10 a11 a12 a13 => hy p4 le' di' nu' us' v' y' a1 a2 (hRN3.trans a3) a4 a5 a6 a7 a8 a9 a10 a11 a12 a13) (fun f y' a0 a1 a2 a3 => hn f y' a0 (by rw [hRN3]; exact a1) a2 a3) k (by omega)
        · rw [nI_add, nI_clamp (by omega)]
          refine ⟨(vp_in_nI (by omega) (by omega)), ev ?_⟩
          have n106 : ¬ gI (sA y2 110 ((3 * (gt - 1)) + l) r2) 106 = -1 := by
            show ¬ gI y2 106 = -1
            rw [e106]; exact fun q => (nI_m1 (by omega)).mp q
          refine pp_n n106 ?_
          obtain ⟨k, rfl⟩ : ∃ j, k = j + 1 := ⟨k - 1, by omega⟩
          show B_M_readItems_r110_45 post _ _ _ _ _ _ _
          unfold B_M_readItems_r110_45
          refine pp_n (fun q => (nI_m1 (by omega)).mp q) (pp_n n106 (hn f _ hfn (by rw [hRN]; exact hf) e106 ((hF.tr ((Fr.rf.sI (by decide)).tr (hfr.wk (by decide) (by decide)))).sA (by decide))))
