theorem ev {α : Type} {e : α} {P : α → Prop} (h : P e) : ∀ v, v = e → P v := fun _ hv => hv ▸ h
theorem Inv.bot {V : Nat} {z y : St} (h : Inv V z y) {nd ng mo wg : Nat} {q : Nat → Nat} {lk : Nat → Int32} {lw : Option ((Nat → Int32) → Int32)} (hz : CZ nd ng mo wg q lk lw z) (hl : Lim nd ng mo wg q) (hg : 0 < ng) : ∃ b, b < nd ∧ gA z 23 0 = nI b ∧ gA y 113 24 = nI b := by
  obtain ⟨nd', ng', tl, ln, wn, sn, a, n, v, hH, hT, hL, hW, hS, hTa, _⟩ := h
  have e1 : nd' = nd := by
    have h1 := hH.1.symm.trans hz.1
    have h6 := hH.2.2.2.2.1
    have h7 := hl.1
    exact (nI_eq (by omega) (by omega)).mp h1
  subst e1
  obtain ⟨b, hb, eb⟩ := hTa.2.1.1
  have h2 := hl.2.2.2.2.2.1 hg
  exact ⟨b, by omega, eb, hTa.1.b.1.trans eb⟩
theorem o_drink {V V' : Nat} (hV : V ≤ V') : St_drink (Inv V) (Inv V') := by
  intro z y a1 a2 a3 a4 a5 h
  obtain ⟨nd, ng, mo, wg, q, lk, lw, hz, hy0, hl⟩ := h.ctx
  have hT := h.ta
  have h6 := hl.1
  have g6 := hl.2.1
  have hI : Inv V' z (sI y 100 0) := h.fr hV Fr.rf yt
  have hy := hy0.fr (yt : Fr MS MA y (sI y 100 0)) (by decide) (by decide)
  unfold S_B_drink S_M_drink
  rcases ix_cases a1 (n := nd) (by omega) with c | ⟨d, hd, rfl⟩
  · exact q_House_hasDrink_n hz.1 c (r01 (ev (q_M_isDrink_n hy.1 c (r01 ⟨rfl, hI⟩))))
  · refine q_House_hasDrink_y hz.1 h6 hd (r11 ?_)
    rcases wh_cases a2 1 (by omega) with c | ⟨j, hj, rfl⟩
    · have c0 : ¬ a2 = 0 := fun e => by subst e; revert c; decide
      have c1 : ¬ a2 = 1 := fun e => by subst e; revert c; decide
      exact pp_n c0 (pp_n c1 (ev (q_M_isDrink_y hy.1 h6 hd (r11 (q_isIn_n (m := 1) L1 (by omega) c (r01 ⟨rfl, hI⟩))))))
    · have hj2 : j = 0 ∨ j = 1 := by omega
      have e2 := hT.d (show d < 6 by omega)
      have e3 := (hz.2.2.2.2.1 d hd).trans (hy.2.2.2.2.1 d hd).symm
      rcases hj2 with rfl | rfl
      · refine pp_y rfl ⟨(vp_in_nI (by omega) (by omega)), ev (q_M_isDrink_y hy.1 h6 hd (r11 (q_isIn_y (m := 1) L1 (by omega) (by omega) (r11 (pp_y rfl (q_qual (by omega) ⟨?_, hI⟩))))))⟩
        rw [nI_clamp (by omega)]; exact e3
      · refine pp_n (by decide) (pp_y rfl ?_)
        unfold S_Table_priceOf_8
        rw [k22, nI_add, nI_clamp (by omega)]
        refine ⟨(vp_in_nI (by omega) (by omega)), ev (q_M_isDrink_y hy.1 h6 hd (r11 (q_isIn_y (m := 1) L1 (by omega) (by omega) (r11 (pp_n (by decide) ?_)))))⟩
        rw [k18, nI_add, nI_clamp (by omega)]
        exact ⟨(vp_in_nI (by omega) (by omega)), e2.symm, hI⟩
theorem o_glad {V V' : Nat} (hV : V ≤ V') : St_glad (Inv V) (Inv V') := by
  intro z y a1 a2 a3 a4 a5 h
  obtain ⟨nd, ng, mo, wg, q, lk, lw, hz, hy0, hl⟩ := h.ctx
  have hT := h.ta
  have h6 := hl.1
  have g6 := hl.2.1
  have hI : Inv V' z (sI y 100 0) := h.fr hV Fr.rf yt
  have hy := hy0.fr (yt : Fr MS MA y (sI y 100 0)) (by decide) (by decide)
  unfold S_B_glad S_M_glad
  rcases ix_cases a1 (n := ng) (by omega) with c | ⟨g, hg, rfl⟩
  · exact q_House_hasGuest_n hz.2.1 c (r01 (ev (q_M_isGuest_n hy.2.1 c (r01 ⟨rfl, hI⟩))))
  · refine q_House_hasGuest_y hz.2.1 g6 hg (r11 ?_)
    obtain ⟨b, hb, e1, e2⟩ := h.bot hz hl (by omega)
    unfold S_Table_gladness_8
    rw [nI_clamp (by omega), hz.2.2.2.2.2.1 g hg, e1]
    refine ⟨(vp_in_nI (by omega) (by omega)), q_joyX hz hl hb (ev (q_M_isGuest_y hy.2.1 g6 hg (r11 ?_)))⟩
    rw [k3, pk_mul, nI_clamp (by omega), hy.2.2.2.2.2.1 g hg, show gA (sI y 100 0) 113 24 = nI b from e2]
    exact ⟨(vp_in_nI (by omega) (by omega)), q_joyM hy hl hb ⟨rfl, hI⟩⟩
theorem o_law {V V' : Nat} (hV : V ≤ V') : St_law (Inv V) (Inv V') := by
  intro z y a1 a2 a3 a4 a5 h
  have hI : Inv V' z (sI y 100 0) := h.fr hV Fr.rf yt
  obtain ⟨ln, l1, l2, l3⟩ : ∃ ln, gI z 30 = nI ln ∧ gI y 102 = nI ln ∧ ln ≤ 4 := by
    obtain ⟨nd, ng, tl, ln, wn, sn, a, n, v, hH, hT, hL, _⟩ := h; exact ⟨ln, hL.1, hL.2.1, hL.2.2.1⟩
  have hy2 : gI (sI y 100 0) 102 = nI ln := l2
  have set : (a1 = -1 ∨ ∃ j, j < ln ∧ a1 = nI j) → Inv V' (sI z 31 a1) (sI (sI y 100 0) 117 a1) := fun ha => by
    refine h.u_law hV (Fr.rf.sI (by decide)) ((Fr.rf.sI (by decide)).sI (by decide)) ?_
    intro nd ng ln' hH hL
    obtain ⟨b1, b2, b3, b4, b5⟩ := hL
    have e : ln' = ln := (nI_eq (by omega) (by omega)).mp (b1.symm.trans l1)
    subst e
    refine ⟨ln', b1, b2, b3, ?_, b5⟩
    rcases ha with rfl | ⟨j, hj, rfl⟩
    · exact .inl ⟨rfl, rfl⟩
    · exact .inr ⟨j, hj, rfl, rfl⟩
  unfold S_B_law S_M_law
  by_cases c0 : a1 = -1
  · subst c0
    exact pp_n (by decide) (pp_y (by rw [l1, fa_lt, nI_toInt (by omega), ti_m1]; omega) (ev (ev (pp_y rfl (ev ⟨rfl, set (.inl rfl)⟩)))))
  · rcases ix_cases a1 (n := ln) (by omega) with c | ⟨j, hj, rfl⟩
    · have hr : S_M_law (fun r1 y1 => (0 : Int32) = r1 ∧ Inv V' z y1) a1 y := by
        unfold S_M_law
        refine ev (pp_n c0 ?_)
        rw [hy2]
        refine q_isIn L0 rfl (fun p q => ?_) (fun _ => r01 ⟨rfl, hI⟩)
        exfalso
        rcases c with c | ⟨c, c2⟩
        · rw [fa_lt] at c; rw [fa_le] at p; omega
        · rw [fa_le, nI_toInt (by omega)] at c2
          rw [fa_le] at q
          rcases Nat.eq_zero_or_pos ln with e | e
          · subst e
            rw [show (nI 0 - 1 : Int32).toInt = -1 by decide] at q; omega
          · rw [k1, pk_sub (by omega), nI_toInt (by omega)] at q; omega
      have hr2 : ∀ z1, z1 = z → (S_M_law (fun r1 y1 => (0 : Int32) = r1 ∧ Inv V' z1 y1) a1 y) := fun z1 e => by subst e; exact hr
      refine ⟨fun _ => hr, fun c1 => ⟨fun c2 => ?_, fun _ => hr⟩⟩
      exfalso
      rw [l1, fa_lt, nI_toInt (by omega)] at c2
      rw [fa_lt, ti_m1] at c1
      rcases c with c | ⟨c, c3⟩
      · rw [fa_lt, ti0] at c; exact c0 (by rw [fa_eq, ti_m1]; omega)
      · rw [fa_le, nI_toInt (by omega)] at c3; omega
    · refine pp_n (by rw [fa_lt, nI_toInt (by omega), ti_m1]; omega) (pp_y (by rw [l1]; exact nI_lt hj (by omega)) (ev (ev (pp_n c0 ?_))))
      rw [hy2]
      refine q_isIn L0 rfl (fun _ _ => r11 (ev ⟨rfl, set (.inr ⟨j, hj, rfl⟩)⟩)) (fun q => ?_)
      exfalso
      rcases q with q | q
      · exact nI_pos (by omega) q
      · rw [k1, pk_sub (by omega), nI_ltI (by omega) (by omega)] at q; omega
