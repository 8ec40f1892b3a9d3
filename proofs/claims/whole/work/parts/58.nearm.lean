theorem sub_gt0 {a b : Nat} (ha : a < 2 ^ 30) (hb : b < 2 ^ 30) : 0 < nI a - nI b ↔ b < a := by
  rw [fa_lt, pk_sub_toInt ha hb, show (0 : Int32).toInt = 0 by decide]; omega
theorem sub_eq0 {a b : Nat} (ha : a < 2 ^ 30) (hb : b < 2 ^ 30) : nI a - nI b = 0 ↔ a = b := by
  rw [fa_eq, pk_sub_toInt ha hb, show (0 : Int32).toInt = 0 by decide]; omega
theorem q_qual {post : Int32 → St → Prop} {y : St} {d : Nat} (hd : d < 6) (h : post (gA y 107 (2 * d)) y) : S_M_quality post (nI d) y := by
  unfold S_M_quality
  simp (disch := omega) only [k2, pk_mul, vp_in_nI, true_and, nI_clamp]
  exact h
theorem q_nearM113 {post : Int32 → St → Prop} {m : Int32} {y : St} {nd w : Nat} {q : Nat → Nat} {p : Nat → Int32} (hd : gI y 111 = nI nd) (h6 : nd ≤ 6) (hq : ∀ d, d < nd → gA y 107 (2 * d) = nI (q d)) (hq9 : ∀ d, d < nd → q d ≤ 9) (hp : ∀ d, d < nd → gA y 113 (18 + d) = p d) (hw : w ≤ 9) (hpost : post (enc (nearR q p w m nd)) y) : ∃ n, L_M_brings_r113_141 post n m (nI w) (-1 : Int32) (0 : Int32) y := by
  refine lp_up (fun n i => L_M_brings_r113_141 post n m (nI w) (enc (nearR q p w m i)) (nI i) y) nd ?_ ?_
  · intro n i hi ih
    show B_M_brings_r113_141 post _ _ _ _ _ y
    have hi9 := hq9 i hi
    have e1 : nI i + 1 = nI (i + 1) := add_lit
    unfold B_M_brings_r113_141
    rw [hd]
    refine pp_n (nI_ge hi (by omega)) ?_
    simp (disch := omega) only [k18, k22, nI_add, vp_in_nI, true_and, nI_clamp]
    rw [hp i hi]
    have dn : (0 : Int32) < 1 := by decide
    have stay : nearR q p w m (i + 1) = nearR q p w m i → L_M_brings_r113_141 post n m (nI w) (enc (nearR q p w m i)) (nI (i + 1)) y := fun e => by rw [← e]; exact ih
    have take : nearR q p w m (i + 1) = some i → L_M_brings_r113_141 post n m (nI w) (nI i) (nI (i + 1)) y := fun e => by have h9 := ih; simp only [e] at h9; exact h9
    have hR : nearR q p w m (i + 1) = nstep q p w m (nearR q p w m i) i := rfl
    cases hr : nearR q p w m i with
    | none =>
      rw [hr] at hR stay
      simp only [nstep] at hR
      simp only [B_M_brings_r113_200, B_M_brings_r113_229, B_M_brings_r113_233, forall_eq, e1]
      exact ⟨fun c => pp_y (by trivial) (pp_y dn (take (by rw [hR, if_pos c]))), fun c => stay (by rw [hR, if_neg c])⟩
    | some c0 =>
      have hc0 := (near_lt hr).1
      have hc9 := hq9 c0 (by omega)
      have d1 := dis_le hi9 hw
      have d2 := dis_le hc9 hw
      rw [hr] at hR stay
      simp only [nstep] at hR
      simp only [enc] at stay ⊢
      refine ⟨fun c => pp_n (fun h => (nI_m1 (by omega)).mp h) ?_, fun c => ?_⟩
      · refine q_qual (by omega) ?_
        rw [hq c0 (by omega)]
        refine q_absM (by omega) (by omega) ?_
        refine q_qual (by omega) ?_
        rw [hq i hi]
        refine q_absM (by omega) (by omega) ?_
        simp (disch := omega) only [B_M_brings_r113_200, B_M_brings_r113_229, B_M_brings_r113_233, forall_eq, e1, sub_gt0, sub_eq0, k18, nI_add, vp_in_nI, true_and, nI_clamp]
        rw [hp i hi, hp c0 (by omega)]
        refine ⟨fun c1 => take (by rw [hR, if_pos c, if_pos (.inl c1)]), fun c1 => ⟨fun c2 => ⟨fun c3 => ?_, fun c3 => ?_⟩, fun c2 => ?_⟩⟩
        · exact stay (by rw [hR, if_pos c, if_neg (fun h => h.elim c1 (fun h => absurd h.2 (fun h => by rw [fa_lt] at h; rw [fa_le] at c3; omega)))])
        · exact take (by rw [hR, if_pos c, if_pos (.inr ⟨c2.symm, fa_of_nle c3⟩)])
        · exact stay (by rw [hR, if_pos c, if_neg (fun h => h.elim c1 (fun h => c2 h.1.symm))])
      · simp only [B_M_brings_r113_233, forall_eq, e1]
        exact stay (by rw [hR, if_neg c])
  · show B_M_brings_r113_141 post _ _ _ _ _ y
    unfold B_M_brings_r113_141
    rw [hd]
    exact pp_y (nI_le (Nat.le_refl _) (by omega)) hpost
theorem q_nearM114 {post : Int32 → St → Prop} {m : Int32} {y : St} {nd w : Nat} {q : Nat → Nat} {p : Nat → Int32} (hd : gI y 111 = nI nd) (h6 : nd ≤ 6) (hq : ∀ d, d < nd → gA y 107 (2 * d) = nI (q d)) (hq9 : ∀ d, d < nd → q d ≤ 9) (hp : ∀ d, d < nd → gA y 114 (18 + d) = p d) (hw : w ≤ 9) (hpost : post (enc (nearR q p w m nd)) y) : ∃ n, L_M_brings_r114_141 post n m (nI w) (-1 : Int32) (0 : Int32) y := by
  refine lp_up (fun n i => L_M_brings_r114_141 post n m (nI w) (enc (nearR q p w m i)) (nI i) y) nd ?_ ?_
  · intro n i hi ih
    show B_M_brings_r114_141 post _ _ _ _ _ y
    have hi9 := hq9 i hi
    have e1 : nI i + 1 = nI (i + 1) := add_lit
    unfold B_M_brings_r114_141
    rw [hd]
    refine pp_n (nI_ge hi (by omega)) ?_
    simp (disch := omega) only [k18, k22, nI_add, vp_in_nI, true_and, nI_clamp]
    rw [hp i hi]
    have dn : (0 : Int32) < 1 := by decide
    have stay : nearR q p w m (i + 1) = nearR q p w m i → L_M_brings_r114_141 post n m (nI w) (enc (nearR q p w m i)) (nI (i + 1)) y := fun e => by rw [← e]; exact ih
    have take : nearR q p w m (i + 1) = some i → L_M_brings_r114_141 post n m (nI w) (nI i) (nI (i + 1)) y := fun e => by have h9 := ih; simp only [e] at h9; exact h9
    have hR : nearR q p w m (i + 1) = nstep q p w m (nearR q p w m i) i := rfl
    cases hr : nearR q p w m i with
    | none =>
      rw [hr] at hR stay
      simp only [nstep] at hR
      simp only [B_M_brings_r114_200, B_M_brings_r114_229, B_M_brings_r114_233, forall_eq, e1]
      exact ⟨fun c => pp_y (by trivial) (pp_y dn (take (by rw [hR, if_pos c]))), fun c => stay (by rw [hR, if_neg c])⟩
    | some c0 =>
      have hc0 := (near_lt hr).1
      have hc9 := hq9 c0 (by omega)
      have d1 := dis_le hi9 hw
      have d2 := dis_le hc9 hw
      rw [hr] at hR stay
      simp only [nstep] at hR
      simp only [enc] at stay ⊢
      refine ⟨fun c => pp_n (fun h => (nI_m1 (by omega)).mp h) ?_, fun c => ?_⟩
      · refine q_qual (by omega) ?_
        rw [hq c0 (by omega)]
        refine q_absM (by omega) (by omega) ?_
        refine q_qual (by omega) ?_
        rw [hq i hi]
        refine q_absM (by omega) (by omega) ?_
        simp (disch := omega) only [B_M_brings_r114_200, B_M_brings_r114_229, B_M_brings_r114_233, forall_eq, e1, sub_gt0, sub_eq0, k18, nI_add, vp_in_nI, true_and, nI_clamp]
        rw [hp i hi, hp c0 (by omega)]
        refine ⟨fun c1 => take (by rw [hR, if_pos c, if_pos (.inl c1)]), fun c1 => ⟨fun c2 => ⟨fun c3 => ?_, fun c3 => ?_⟩, fun c2 => ?_⟩⟩
        · exact stay (by rw [hR, if_pos c, if_neg (fun h => h.elim c1 (fun h => absurd h.2 (fun h => by rw [fa_lt] at h; rw [fa_le] at c3; omega)))])
        · exact take (by rw [hR, if_pos c, if_pos (.inr ⟨c2.symm, fa_of_nle c3⟩)])
        · exact stay (by rw [hR, if_pos c, if_neg (fun h => h.elim c1 (fun h => c2 h.1.symm))])
      · simp only [B_M_brings_r114_233, forall_eq, e1]
        exact stay (by rw [hR, if_neg c])
  · show B_M_brings_r114_141 post _ _ _ _ _ y
    unfold B_M_brings_r114_141
    rw [hd]
    exact pp_y (nI_le (Nat.le_refl _) (by omega)) hpost
