theorem Inv.tb {V : Nat} {z y : St} (h : Inv V z y) : ∃ nd, TB V nd (gA z 23) := by
  obtain ⟨nd, ng, tl, ln, wn, sn, a, n, v, hH, hT, hL, hW, hS, hTa, _⟩ := h; exact ⟨nd, hTa.2.1⟩
theorem o_saves {V V' : Nat} (hV : V ≤ V') : St_saves (Inv V) (Inv V') := by
  intro z y a1 a2 a3 a4 a5 h
  obtain ⟨nd, ng, mo, wg, q, lk, lw, hz, hy0, hl⟩ := h.ctx
  have hT := h.ta
  have h6 := hl.1
  have g6 := hl.2.1
  have hI : Inv V' z (sI y 100 0) := h.fr hV Fr.rf yt
  have hy := hy0.fr (yt : Fr MS MA y (sI y 100 0)) (by decide) (by decide)
  unfold S_B_saves S_M_saves
  rcases ix_cases a1 (n := ng) (by omega) with c | ⟨g, hg, rfl⟩
  · exact q_House_hasGuest_n hz.2.1 c (r01 (ev (q_M_isGuest_n hy.2.1 c (r01 ⟨rfl, hI⟩))))
  · refine q_House_hasGuest_y hz.2.1 g6 hg (r11 ?_)
    rcases ix_cases a2 (n := nd) (by omega) with c | ⟨d, hd, rfl⟩
    · exact q_House_hasDrink_n hz.1 c (r01 (ev (q_M_isGuest_y hy.2.1 g6 hg (r11 (q_M_isDrink_n hy.1 c (r01 ⟨rfl, hI⟩))))))
    · refine q_House_hasDrink_y hz.1 h6 hd (r11 ?_)
      obtain ⟨nd', tb⟩ := h.tb
      obtain ⟨p, hp, ep⟩ := tb.2.2.2.2.2.2.2 d (by omega)
      have e1 := (hT.g (show g < 6 by omega)).1
      have e2 := hT.d (show d < 6 by omega)
      -- one step of either loop
      have sB : ∀ (post : Int32 → St → Prop) (n i : Nat), i < 100 → (if gA z 23 (4 + g) + nI i * nI wg < nI p then L_B_saves_26 post n (nI g) (nI d) (nI (i + 1)) z else post (nI i) z) → L_B_saves_26 post (n + 1) (nI g) (nI d) (nI i) z := by
        intro post n i hi hh
        show B_B_saves_26 post _ _ _ _ z
        unfold B_B_saves_26 S_Table_moneyOf_8 S_Table_priceOf_8
        dsimp only
        rw [k99, nI_ltI (by omega) (by omega), k4, k22, nI_add, nI_add, nI_1, nI_clamp (by omega), nI_clamp (by omega), ep, hz.2.2.1]
        refine pp_n (by omega) ⟨(vp_in_nI (by omega) (by omega)), (vp_in_nI (by omega) (by omega)), fun c => ev ?_, fun c => ?_⟩
        · rw [if_pos c] at hh; exact hh
        · rw [if_neg c] at hh; exact hh
      have eB : ∀ (post : Int32 → St → Prop), post (-1) z → L_B_saves_26 post 1 (nI g) (nI d) (nI 100) z := by
        intro post hh
        show B_B_saves_26 post _ _ _ _ z
        unfold B_B_saves_26
        exact pp_y (by decide) hh
      have sM : ∀ (post : Int32 → St → Prop) (n i : Nat), i < 100 → (if gA z 23 (4 + g) + nI i * nI wg < nI p then L_M_saves_25 post n (nI g) (nI d) (nI (i + 1)) (sI y 100 0) else post (nI i) (sI y 100 0)) → L_M_saves_25 post (n + 1) (nI g) (nI d) (nI i) (sI y 100 0) := by
        intro post n i hi hh
        show B_M_saves_25 post _ _ _ _ _
        unfold B_M_saves_25 S_Math_min_7cf53_M
        dsimp only
        rw [k100, nI_leI (by omega) (by omega), k3, k18, pk_mul, show nI (3 * g) + 0 = nI (3 * g) from nI_add _ 0, nI_add, nI_1, nI_clamp (by omega), nI_clamp (by omega), hy.2.2.1, show gA (sI y 100 0) 113 (18 + d) = nI p from e2.trans ep, show gA (sI y 100 0) 113 (3 * g) = gA z 23 (4 + g) from e1]
        refine pp_n (by omega) ⟨(vp_in_nI (by omega) (by omega)), fun c0 => ⟨(vp_in_nI (by omega) (by omega)), fun c => ev ?_, fun c => ?_⟩, fun c0 => ⟨(vp_in_nI (by omega) (by omega)), fun c => ?_, fun c => ?_⟩⟩
        · rw [if_pos c] at hh; exact hh
        · rw [if_neg c] at hh; exact hh
        · rw [k99, nI_ltI (by omega) (by omega)] at c; omega
        · rw [if_neg (fun q => c0 (by rw [fa_lt, nI_toInt (by omega)] at q; rw [fa_lt, show (99 : Int32).toInt = 99 by decide]; omega))] at hh; exact hh
      have eM : ∀ (post : Int32 → St → Prop), post (-1) (sI y 100 0) → L_M_saves_25 post 1 (nI g) (nI d) (nI 100) (sI y 100 0) := by
        intro post hh
        show B_M_saves_25 post _ _ _ _ _
        unfold B_M_saves_25
        exact pp_y (by decide) hh
      by_cases ex : ∃ i, i < 100 ∧ ¬ gA z 23 (4 + g) + nI i * nI wg < nI p
      · obtain ⟨i0, hi0, hn, hlt⟩ := fb_first ex
        refine lp_up (fun n i => L_B_saves_26 _ n (nI g) (nI d) (nI i) z) i0 (fun n i hi ih => sB _ n i (by omega) ?_) (sB _ 0 i0 hi0 ?_)
        · rw [if_pos (Decidable.not_not.mp (hlt i hi))]; exact ih
        · rw [if_neg hn]
          refine ev (q_M_isGuest_y hy.2.1 g6 hg (r11 (q_M_isDrink_y hy.1 h6 hd (r11 ?_))))
          refine lp_up (fun n i => L_M_saves_25 _ n (nI g) (nI d) (nI i) (sI y 100 0)) i0 (fun n i hi ih => sM _ n i (by omega) ?_) (sM _ 0 i0 hi0 ?_)
          · rw [if_pos (Decidable.not_not.mp (hlt i hi))]; exact ih
          · rw [if_neg hn]; exact ⟨rfl, hI⟩
      · have hlt : ∀ i, i < 100 → gA z 23 (4 + g) + nI i * nI wg < nI p := fun i hi => Decidable.not_not.mp (fun q => ex ⟨i, hi, q⟩)
        refine lp_up (fun n i => L_B_saves_26 _ n (nI g) (nI d) (nI i) z) 100 (fun n i hi ih => sB _ n i (by omega) ?_) (eB _ ?_)
        · rw [if_pos (hlt i hi)]; exact ih
        · refine ev (q_M_isGuest_y hy.2.1 g6 hg (r11 (q_M_isDrink_y hy.1 h6 hd (r11 ?_))))
          refine lp_up (fun n i => L_M_saves_25 _ n (nI g) (nI d) (nI i) (sI y 100 0)) 100 (fun n i hi ih => sM _ n i (by omega) ?_) (eM _ ⟨rfl, hI⟩)
          rw [if_pos (hlt i hi)]; exact ih
theorem q_place {post : Int32 → St → Prop} {z : St} {n : Nat} (hn : n < 2 ^ 30) (h : post (nI (n % 100 * 4)) z) : S_Memory_placeOf post (nI n) z := by
  unfold S_Memory_placeOf S_Math_floorMod_7cf53_X
  rw [k100, pk_rem (by omega) (by omega) (by omega)]
  refine ⟨by rw [nI_eq0 (by omega)]; omega, ev (pp_y ?_ (show post (nI (n % 100) * 4) z by rw [k4, pk_mul]; exact h))⟩
  rw [fb_xorI, k0]
  have hx : n ^^^ 100 < 2 ^ 30 := Nat.xor_lt_two_pow hn (by omega)
  exact nI_le (Nat.zero_le _) (by omega)
theorem q_line {post : Int32 → St → Prop} {z : St} {n t : Nat} (hn : n < 2 ^ 30) (ht : t < 4) (h : post (gA z 26 (4 * (n % 100) + t)) z) : S_Memory_line post (nI n) (nI t) z := by
  unfold S_Memory_line
  refine q_place hn ?_
  have := Nat.mod_lt n (show 0 < 100 by omega)
  rw [nI_add, nI_clamp (by omega)]
  refine ⟨(vp_in_nI (by omega) (by omega)), ?_⟩
  rw [show n % 100 * 4 + t = 4 * (n % 100) + t by omega]; exact h
theorem Inv.bk {V : Nat} {z y : St} (h : Inv V z y) : ∃ nd ng v, gI z 26 = nI nd ∧ nd ≤ 6 ∧ gI z 27 = nI ng ∧ ng ≤ 6 ∧ v ≤ V ∧ gA z 23 3 = nI v ∧ BK nd v (gA y 113) (gA z 26) := by
  obtain ⟨nd, ng, tl, ln, wn, sn, a, n, v, hH, hT, hL, hW, hS, hTa, _⟩ := h
  exact ⟨nd, ng, v 0, hH.1, hH.2.2.2.2.1, hH.2.2.1, hH.2.2.2.2.2.1, hTa.2.2.2.1, hTa.2.2.1, hTa.2.2.2.2⟩
theorem o_book {V V' : Nat} (hV : V ≤ V') (hb : V < 2 ^ 29) : St_book (Inv V) (Inv V') := by
  intro z y a1 a2 a3 a4 a5 h
  have hI : Inv V' z (sI y 100 0) := h.fr hV Fr.rf yt
  obtain ⟨nd, ng, v, hd, h6, _, _, hv, e3, b1, b2, b3⟩ := h.bk
  have b1' : gA (sI y 100 0) 113 28 = nI (min 60 v) := b1
  unfold S_B_book
  have no : (a1 < 0 ∨ nI (min 60 v) ≤ a1 ∨ a2 < 0 ∨ nI 3 < a2) → S_M_book (fun r1 y1 => (-1000000 : Int32) = r1 ∧ Inv V' z y1) a1 a2 y := by
    intro c
    unfold S_M_book
    refine ev ?_
    rw [b1']
    refine q_isIn L0 rfl (fun p1 p2 => r11 ?_) (fun _ => r01 ⟨rfl, hI⟩)
    refine q_isIn_n (m := 3) L3 (by omega) ?_ (r01 ⟨rfl, hI⟩)
    rcases c with c | c | c | c
    · exfalso; rw [fa_lt] at c; rw [fa_le] at p1; omega
    · exfalso
      rw [fa_le, nI_toInt (by omega)] at c
      rw [fa_le] at p2
      rw [k1] at p2
      have : (nI (min 60 v) - nI 1).toInt = (min 60 v : Nat) - (1 : Nat) := pk_sub_toInt (by omega) (by omega)
      omega
    · exact .inl c
    · exact .inr c
  refine ⟨fun c => no (.inl c), fun c => ?_⟩
  unfold S_Table_visits_8
  rw [e3]
  refine q_bookLen (by omega) ⟨fun c1 => no (.inr (.inl c1)), fun c1 => ⟨fun c2 => no (.inr (.inr (.inl c2))), fun c2 => ⟨fun c3 => ?_, fun c3 => no (.inr (.inr (.inr (fa_of_nle c3))))⟩⟩⟩
  rcases ix_cases a1 (n := min 60 v) (by omega) with q | ⟨i, hi, rfl⟩
  · exact absurd q (fun q => q.elim c (fun q => c1 q.2))
  rcases wh_cases a2 3 (by omega) with q | ⟨t, ht, rfl⟩
  · exact absurd q (fun q => q.elim c2 (fun q => by rw [fa_lt, nI_toInt (by omega)] at q; rw [fa_le, show (3 : Int32).toInt = 3 by decide] at c3; omega))
  show S_Memory_line _ (gA z 23 3 - nI i) (nI t) z
  rw [e3, pk_sub (by omega)]
  refine q_line (by omega) (by omega) ?_
  unfold S_M_book
  refine ev ?_
  rw [b1', k1, pk_sub (by omega)]
  refine q_isIn_y (m := min 60 v - 1) rfl (by omega) (by omega) (r11 (q_isIn_y (m := 3) L3 (by omega) (by omega) (r11 ?_)))
  unfold S_M_page
  dsimp only
  rw [b1', pk_sub (by omega), pk_sub (by omega), k4, k29, pk_mul, nI_add, nI_add, nI_clamp (by omega)]
  refine ⟨(vp_in_nI (by omega) (by omega)), ?_, hI⟩
  rw [← b2 i t hi (by omega)]; rfl
theorem Inv.win {V : Nat} {z y : St} (h : Inv V z y) : ∃ wn, WinI wn (gI z 0) (gZ z) (gA z) (gI y 115) (gA y 111) (gA y 112) := by
  obtain ⟨nd, ng, tl, ln, wn, sn, a, n, v, hH, hT, hL, hW, _⟩ := h
  exact ⟨wn, hW⟩
theorem nI10 {a d : Nat} (ha : a < 3) (hd : d < 10) : nI (10 * a + d) / 10 = nI a ∧ nI (10 * a + d) - nI (10 * a + d) / 10 * 10 = nI d := by
  rw [k10, pk_div (by omega) (by omega) (by omega), pk_mul, pk_sub (by omega)]
  exact ⟨by congr 1; omega, by congr 1; omega⟩
theorem o_step {V V' : Nat} (hV : V ≤ V') : St_step (Inv V) (Inv V') := by
  intro z y a1 a2 a3 a4 a5 h
  have hI : Inv V' z (sI y 100 0) := h.fr hV Fr.rf yt
  obtain ⟨wn, w1, w2, w3, w4⟩ := h.win
  have w2' : gI (sI y 100 0) 115 = nI wn := w2
  unfold S_B_step
  rcases ix_cases a1 (n := wn) (by omega) with c | ⟨k, hk, rfl⟩
  · refine q_B_hasWinter_n w1 c (r01 ?_)
    unfold S_M_step
    exact ev (q_M_isWinter_n w2' c (r01 ⟨rfl, hI⟩))
  · obtain ⟨n, hn, ez, ey, hs⟩ := w4 k hk
    have ey' : gA (sI y 100 0) 112 k = nI n := ey
    refine q_B_hasWinter_y w1 w3 hk (r11 ?_)
    have no : (a2 < 0 ∨ nI n ≤ a2 ∨ a3 < 0 ∨ nI 1 < a3) → S_M_step (fun r1 y1 => (-1000000 : Int32) = r1 ∧ Inv V' z y1) (nI k) a2 a3 y := by
      intro c
      unfold S_M_step
      refine ev (q_M_isWinter_y w2' w3 hk (r11 ⟨(vp_in_nI (by omega) (by omega)), ?_⟩))
      rw [nI_clamp (by omega), ey']
      refine q_isIn L0 rfl (fun p1 p2 => r11 ?_) (fun _ => r01 ⟨rfl, hI⟩)
      refine q_isIn_n (m := 1) L1 (by omega) ?_ (r01 ⟨rfl, hI⟩)
      rcases c with c | c | c | c
      · exfalso; rw [fa_lt] at c; rw [fa_le] at p1; omega
      · exfalso
        rw [fa_le, nI_toInt (by omega)] at c
        rw [fa_le] at p2
        rw [k1] at p2
        have : (nI n - nI 1).toInt = (n : Nat) - (1 : Nat) := pk_sub_toInt (by omega) (by omega)
        omega
      · exact .inl c
      · exact .inr c
    refine ⟨fun c => no (.inl c), fun c => ⟨(vp_in_nI (by omega) (by omega)), ev ⟨(vp_in_nI (by omega) (by omega)), rfl, ?_⟩⟩⟩
    rw [nI_clamp (by omega), Nat.zero_add, ez]
    refine ⟨fun c1 => no (.inr (.inl c1)), fun c1 => ⟨fun c2 => no (.inr (.inr (.inl c2))), fun c2 => ⟨fun c3 => ?_, fun c3 => no (.inr (.inr (.inr (fa_of_nle c3))))⟩⟩⟩
    rcases ix_cases a2 (n := n) (by omega) with q | ⟨i, hi, rfl⟩
    · exact absurd q (fun q => q.elim c (fun q => c1 q.2))
    rcases wh_cases a3 1 (by omega) with q | ⟨t, ht, rfl⟩
    · exact absurd q (fun q => q.elim c2 (fun q => by rw [fa_lt, nI_toInt (by omega)] at q; rw [fa_le, show (1 : Int32).toInt = 1 by decide] at c3; omega))
    obtain ⟨a, d, ha, hd, s1, s2, s3⟩ := hs i hi
    have yes : ∀ r : Int32, r = (if t = 0 then nI a else if a = 1 then -1 else nI d) → S_M_step (fun r1 y1 => r = r1 ∧ Inv V' z y1) (nI k) (nI i) (nI t) y := fun r hr => by
      unfold S_M_step
      refine ev (q_M_isWinter_y w2' w3 hk (r11 ⟨(vp_in_nI (by omega) (by omega)), ?_⟩))
      rw [nI_clamp (by omega), ey', k1, pk_sub (by omega)]
      refine q_isIn_y (m := n - 1) rfl (by omega) (by omega) (r11 (q_isIn_y (m := 1) L1 (by omega) (by omega) (r11 ?_)))
      rw [k2, k16, pk_mul, nI_add, pk_mul, nI_add, nI_clamp (by omega)]
      refine ⟨(vp_in_nI (by omega) (by omega)), ?_, hI⟩
      rw [hr]
      have : t = 0 ∨ t = 1 := by omega
      rcases this with rfl | rfl
      · rw [if_pos rfl]; exact s2.symm
      · rw [if_neg (by omega)]; exact s3.symm
    refine ⟨(vp_in_nI (by omega) (by omega)), ev ⟨(vp_in_nI (by omega) (by omega)), rfl, (vp_in_nI (by omega) (by omega)), ?_⟩⟩
    rw [nI_clamp (by omega), s1, (nI10 ha hd).1]
    refine ev ⟨fun c4 => ?_, fun c4 => ⟨fun c5 => ?_, fun c5 => ?_⟩⟩
    · rw [nI_eq0 (by omega)] at c4
      exact yes _ (by rw [if_pos c4])
    · rw [nI_eq0 (by omega)] at c4
      rw [k1, nI_eq (by omega) (by omega)] at c5
      exact yes _ (by rw [if_neg c4, if_pos c5])
    · rw [nI_eq0 (by omega)] at c4
      rw [k1, nI_eq (by omega) (by omega)] at c5
      refine ⟨(vp_in_nI (by omega) (by omega)), ev ⟨(vp_in_nI (by omega) (by omega)), rfl, (vp_in_nI (by omega) (by omega)), ?_⟩⟩
      have e9 := (nI10 ha hd).2
      rw [(nI10 ha hd).1] at e9
      rw [e9]
      exact yes _ (by rw [if_neg c4, if_neg c5])
