def sumI (f : Nat → Int32) : Nat → Int32
  | 0 => 0
  | k + 1 => sumI f k + f k
theorem sumI_cg {f g : Nat → Int32} : ∀ {n : Nat}, (∀ k, k < n → f k = g k) → sumI f n = sumI g n
  | 0, _ => rfl
  | n + 1, h => by simp only [sumI, sumI_cg (n := n) (fun k hk => h k (by omega)), h n (by omega)]
theorem q_joyAll8 {post : Int32 → St → Prop} {z : St} {ng : Nat} (hn : gI z 27 = nI ng) (g6 : ng ≤ 6) (h : post (sumI (fun g => gA z 23 (16 + g)) ng) z) : S_Table_joyOfAll_8 post z := by
  refine lp_up (fun n i => L_Table_joyOfAll_8_4 post n (sumI (fun g => gA z 23 (16 + g)) i) (nI i) z) ng ?_ ?_
  · intro n i hi ih
    show B_Table_joyOfAll_8_4 post _ _ _ z
    unfold B_Table_joyOfAll_8_4
    rw [hn, k16, nI_add, nI_1, nI_clamp (by omega)]
    exact pp_n (nI_ge hi (by omega)) ⟨(vp_in_nI (by omega) (by omega)), ev (ev ih)⟩
  · show B_Table_joyOfAll_8_4 post _ _ _ z
    unfold B_Table_joyOfAll_8_4
    rw [hn]
    exact pp_y (nI_le (Nat.le_refl _) (by omega)) h
theorem q_joyAll9 {post : Int32 → St → Prop} {z : St} {ng : Nat} (hn : gI z 27 = nI ng) (g6 : ng ≤ 6) (h : post (sumI (fun g => gA z 24 (16 + g)) ng) z) : S_Table_joyOfAll_9 post z := by
  refine lp_up (fun n i => L_Table_joyOfAll_9_4 post n (sumI (fun g => gA z 24 (16 + g)) i) (nI i) z) ng ?_ ?_
  · intro n i hi ih
    show B_Table_joyOfAll_9_4 post _ _ _ z
    unfold B_Table_joyOfAll_9_4
    rw [hn, k16, nI_add, nI_1, nI_clamp (by omega)]
    exact pp_n (nI_ge hi (by omega)) ⟨(vp_in_nI (by omega) (by omega)), ev (ev ih)⟩
  · show B_Table_joyOfAll_9_4 post _ _ _ z
    unfold B_Table_joyOfAll_9_4
    rw [hn]
    exact pp_y (nI_le (Nat.le_refl _) (by omega)) h
theorem q_count8 {post : Int32 → St → Prop} {y : St} {ng : Nat} (hn : gI y 112 = nI ng) (g6 : ng ≤ 6) (h : post (sumI (fun g => gA y 113 (3 * g + 2)) ng) y) : ∃ n, L_M_count_126 post n (0 : Int32) (0 : Int32) y := by
  refine lp_up (fun n i => L_M_count_126 post n (sumI (fun g => gA y 113 (3 * g + 2)) i) (nI i) y) ng ?_ ?_
  · intro n i hi ih
    show B_M_count_126 post _ _ _ y
    unfold B_M_count_126
    rw [hn, k3, k2, pk_mul, nI_add, nI_1, nI_clamp (by omega)]
    exact pp_n (nI_ge hi (by omega)) ⟨(vp_in_nI (by omega) (by omega)), ev (ev ih)⟩
  · show B_M_count_126 post _ _ _ y
    unfold B_M_count_126
    rw [hn]
    exact pp_y (nI_le (Nat.le_refl _) (by omega)) h
theorem q_bookLen {post : Int32 → St → Prop} {z : St} {v : Nat} (hv : v < 2 ^ 31) (h : post (nI (min 60 v)) z) : S_Memory_bookLength post (nI v) z := by
  unfold S_Memory_bookLength S_Math_min_7cf53_X
  rw [k60, nI_ltI hv (by omega)]
  refine ⟨fun c => ?_, fun c => ?_⟩
  · rw [show min 60 v = v by omega] at h; exact h
  · rw [show min 60 v = 60 by omega] at h; exact h
def bitR (c : Nat → Prop) [DecidablePred c] : Nat → Int32
  | 0 => 0
  | k + 1 => if c k then bitR c k ||| ((1 : Int32) <<< (nI k &&& 31)) else bitR c k
theorem q_payable {post : Int32 → St → Prop} {z : St} {nd g : Nat} (hn : gI z 26 = nI nd) (h6 : nd ≤ 6) (hg : g < 6) (h : post (bitR (fun d => ¬ gA z 23 (4 + g) < gA z 23 (22 + d)) nd) z) : S_Table_payable_8 post (nI g) z := by
  refine lp_up (fun n i => L_Table_payable_8_4 post n (nI g) (bitR (fun d => ¬ gA z 23 (4 + g) < gA z 23 (22 + d)) i) (nI i) z) nd ?_ ?_
  · intro n i hi ih
    show B_Table_payable_8_4 post _ _ _ _ z
    unfold B_Table_payable_8_4 B_Table_payable_8_41
    rw [hn, k22, k4, nI_add, nI_add, nI_1, nI_clamp (by omega), nI_clamp (by omega)]
    refine pp_n (nI_ge hi (by omega)) ⟨(vp_in_nI (by omega) (by omega)), (vp_in_nI (by omega) (by omega)), fun c => ev ?_, fun c => ev (ev ?_)⟩
    · simp only [bitR] at ih; rw [if_neg (fun q => q c)] at ih; exact ih
    · simp only [bitR] at ih; rw [if_pos c] at ih; exact ih
  · show B_Table_payable_8_4 post _ _ _ _ z
    unfold B_Table_payable_8_4
    rw [hn]
    exact pp_y (nI_le (Nat.le_refl _) (by omega)) h
theorem or0 (x : Int32) : x ||| 0 = x := Int32.or_zero
theorem q_affordsM {post : Int32 → St → Prop} {y : St} {nd g : Nat} (hn : gI y 111 = nI nd) (h6 : nd ≤ 6) (hg : g < 6) (h : post (bitR (fun d => ¬ gA y 113 (3 * g) < gA y 113 (18 + d)) nd) y) : ∃ n, L_M_affords_19 post n (nI g) (0 : Int32) (0 : Int32) y := by
  refine lp_up (fun n i => L_M_affords_19 post n (nI g) (bitR (fun d => ¬ gA y 113 (3 * g) < gA y 113 (18 + d)) i) (nI i) y) nd ?_ ?_
  · intro n i hi ih
    show B_M_affords_19 post _ _ _ _ y
    unfold B_M_affords_19 B_M_affords_57
    rw [hn, k3, k18, pk_mul, nI_add, show nI (3 * g) + 0 = nI (3 * g) from nI_add _ 0, nI_1, nI_clamp (by omega), nI_clamp (by omega)]
    refine pp_n (nI_ge hi (by omega)) ⟨(vp_in_nI (by omega) (by omega)), (vp_in_nI (by omega) (by omega)), fun c => ev (ev ?_), fun c => ev (ev ?_)⟩
    · simp only [bitR] at ih; rw [if_neg (fun q => q c)] at ih; rw [or0]; exact ih
    · simp only [bitR] at ih; rw [if_pos c] at ih; exact ih
  · show B_M_affords_19 post _ _ _ _ y
    unfold B_M_affords_19
    rw [hn]
    exact pp_y (nI_le (Nat.le_refl _) (by omega)) h
theorem bitR_cg {c d : Nat → Prop} [DecidablePred c] [DecidablePred d] : ∀ {n : Nat}, (∀ k, k < n → (c k ↔ d k)) → bitR c n = bitR d n
  | 0, _ => rfl
  | n + 1, h => by
    simp only [bitR, bitR_cg (n := n) (fun k hk => h k (by omega))]
    by_cases e : c n
    · rw [if_pos e, if_pos ((h n (by omega)).mp e)]
    · rw [if_neg e, if_neg (fun q => e ((h n (by omega)).mpr q))]
theorem o_affords {V V' : Nat} (hV : V ≤ V') : St_affords (Inv V) (Inv V') := by
  intro z y a1 a2 a3 a4 a5 h
  obtain ⟨nd, ng, mo, wg, q, lk, lw, hz, hy0, hl⟩ := h.ctx
  have hT := h.ta
  have h6 := hl.1
  have g6 := hl.2.1
  have hI : Inv V' z (sI y 100 0) := h.fr hV Fr.rf yt
  have hy := hy0.fr (yt : Fr MS MA y (sI y 100 0)) (by decide) (by decide)
  unfold S_B_affords S_M_affords
  rcases ix_cases a1 (n := ng) (by omega) with c | ⟨g, hg, rfl⟩
  · exact q_House_hasGuest_n hz.2.1 c (r01 (ev (q_M_isGuest_n hy.2.1 c (r01 ⟨rfl, hI⟩))))
  · refine q_House_hasGuest_y hz.2.1 g6 hg (r11 (q_payable hz.1 h6 (by omega) (ev (q_M_isGuest_y hy.2.1 g6 hg (r11 (q_affordsM hy.1 h6 (by omega) ⟨?_, hI⟩))))))
    refine bitR_cg (fun d hd => ?_)
    have e1 := (hT.g (show g < 6 by omega)).1
    have e2 := hT.d (show d < 6 by omega)
    rw [← e1, ← e2]; exact Iff.rfl
theorem Inv.vis {V : Nat} {z y : St} (h : Inv V z y) : ∃ v, v ≤ V ∧ gA z 23 3 = nI v ∧ gA y 113 28 = nI (min 60 v) := by
  obtain ⟨nd, ng, tl, ln, wn, sn, a, n, v, hH, hT, hL, hW, hS, hTa, _⟩ := h
  exact ⟨v 0, hTa.2.2.2.1, hTa.2.2.1, hTa.2.2.2.2.1⟩
theorem Inv.eqs {V : Nat} {z y : St} (h : Inv V z y) : gI z 27 = gI y 112 ∧ gI z 26 = gI y 111 ∧ gI z 30 = gI y 102 ∧ gI z 0 = gI y 115 ∧ gI z 2 = gI y 101 ∧ gI z 31 = gI y 117 ∧ gI z 1 = gI y 118 ∧ gI z 41 = gI y 128 ∧ gI z 25 = gI y 119 := by
  obtain ⟨nd, ng, tl, ln, wn, sn, a, n, v, hH, hT, hL, hW, hS, hTa, hP, hi, hs⟩ := h
  refine ⟨hH.2.2.1.trans hH.2.2.2.1.symm, hH.1.trans hH.2.1.symm, hL.1.trans hL.2.1.symm, hW.1.trans hW.2.1.symm, hT.1.trans hT.2.1.symm, ?_, hs, hS.1.trans hS.2.1.symm, hP.1.trans hP.2.1.symm⟩
  rcases hL.2.2.2.1 with ⟨e1, e2⟩ | ⟨k, _, e1, e2⟩
  · exact e1.trans e2.symm
  · exact e1.trans e2.symm
theorem o_count {V V' : Nat} (hV : V ≤ V') (hb : V < 2 ^ 31) : St_count (Inv V) (Inv V') := by
  intro z y a1 a2 a3 a4 a5 h
  obtain ⟨nd, ng, mo, wg, q, lk, lw, hz, hy0, hl⟩ := h.ctx
  have hT := h.ta
  have h6 := hl.1
  have g6 := hl.2.1
  have hI : Inv V' z (sI y 100 0) := h.fr hV Fr.rf yt
  have hy := hy0.fr (yt : Fr MS MA y (sI y 100 0)) (by decide) (by decide)
  obtain ⟨q0, q1, q2, q3, q4, q5, q9, q10, q13⟩ := h.eqs
  obtain ⟨v, hv, e3, e28⟩ := h.vis
  have tb := hT.b
  unfold S_B_count S_M_count
  by_cases c0 : a1 = 0
  · subst c0; exact pp_y rfl (ev (pp_y rfl ⟨q0, hI⟩))
  by_cases c1 : a1 = 1
  · subst c1; exact pp_n (by decide) (pp_y rfl (ev (pp_n (by decide) (pp_y rfl ⟨q1, hI⟩))))
  by_cases c2 : a1 = 2
  · subst c2; exact pp_n (by decide) (pp_n (by decide) (pp_y rfl (ev (pp_n (by decide) (pp_n (by decide) (pp_y rfl ⟨q2, hI⟩))))))
  by_cases c3 : a1 = 3
  · subst c3; exact pp_n (by decide) (pp_n (by decide) (pp_n (by decide) (pp_y rfl (ev (pp_n (by decide) (pp_n (by decide) (pp_n (by decide) (pp_y rfl ⟨q3, hI⟩))))))))
  by_cases c4 : a1 = 4
  · subst c4; exact pp_n (by decide) (pp_n (by decide) (pp_n (by decide) (pp_n (by decide) (pp_y rfl (ev (pp_n (by decide) (pp_n (by decide) (pp_n (by decide) (pp_n (by decide) (pp_y rfl ⟨q4, hI⟩))))))))))
  by_cases c5 : a1 = 5
  · subst c5; exact pp_n (by decide) (pp_n (by decide) (pp_n (by decide) (pp_n (by decide) (pp_n (by decide) (pp_y rfl (ev (pp_n (by decide) (pp_n (by decide) (pp_n (by decide) (pp_n (by decide) (pp_n (by decide) (pp_y rfl ⟨q5, hI⟩))))))))))))
  by_cases c6 : a1 = 6
  · subst c6; exact pp_n (by decide) (pp_n (by decide) (pp_n (by decide) (pp_n (by decide) (pp_n (by decide) (pp_n (by decide) (pp_y rfl (ev (pp_n (by decide) (pp_n (by decide) (pp_n (by decide) (pp_n (by decide) (pp_n (by decide) (pp_n (by decide) (pp_y rfl ⟨tb.2.2.2.symm, hI⟩))))))))))))))
  by_cases c7 : a1 = 7
  · subst c7; exact pp_n (by decide) (pp_n (by decide) (pp_n (by decide) (pp_n (by decide) (pp_n (by decide) (pp_n (by decide) (pp_n (by decide) (pp_y rfl (ev (pp_n (by decide) (pp_n (by decide) (pp_n (by decide) (pp_n (by decide) (pp_n (by decide) (pp_n (by decide) (pp_n (by decide) (pp_y rfl ⟨tb.2.1.symm, hI⟩))))))))))))))))
  by_cases c8 : a1 = 8
  · subst c8; refine pp_n (by decide) (pp_n (by decide) (pp_n (by decide) (pp_n (by decide) (pp_n (by decide) (pp_n (by decide) (pp_n (by decide) (pp_n (by decide) (pp_y rfl (q_joyAll8 hz.2.1 g6 (ev (pp_n (by decide) (pp_n (by decide) (pp_n (by decide) (pp_n (by decide) (pp_n (by decide) (pp_n (by decide) (pp_n (by decide) (pp_n (by decide) (pp_y rfl (q_count8 hy.2.1 g6 ⟨?_, hI⟩))))))))))))))))))))
    exact sumI_cg (fun g hg => ((hT.g (show g < 6 by omega)).2.2).symm)
  by_cases c9 : a1 = 9
  · subst c9; exact pp_n (by decide) (pp_n (by decide) (pp_n (by decide) (pp_n (by decide) (pp_n (by decide) (pp_n (by decide) (pp_n (by decide) (pp_n (by decide) (pp_n (by decide) (pp_y rfl (ev (pp_n (by decide) (pp_n (by decide) (pp_n (by decide) (pp_n (by decide) (pp_n (by decide) (pp_n (by decide) (pp_n (by decide) (pp_n (by decide) (pp_n (by decide) (pp_y rfl ⟨q9, hI⟩))))))))))))))))))))
  by_cases c10 : a1 = 10
  · subst c10; exact pp_n (by decide) (pp_n (by decide) (pp_n (by decide) (pp_n (by decide) (pp_n (by decide) (pp_n (by decide) (pp_n (by decide) (pp_n (by decide) (pp_n (by decide) (pp_n (by decide) (pp_y rfl (ev (pp_n (by decide) (pp_n (by decide) (pp_n (by decide) (pp_n (by decide) (pp_n (by decide) (pp_n (by decide) (pp_n (by decide) (pp_n (by decide) (pp_n (by decide) (pp_n (by decide) (pp_y rfl ⟨q10, hI⟩))))))))))))))))))))))
  by_cases c11 : a1 = 11
  · subst c11; exact pp_n (by decide) (pp_n (by decide) (pp_n (by decide) (pp_n (by decide) (pp_n (by decide) (pp_n (by decide) (pp_n (by decide) (pp_n (by decide) (pp_n (by decide) (pp_n (by decide) (pp_n (by decide) (pp_y rfl (ev (pp_n (by decide) (pp_n (by decide) (pp_n (by decide) (pp_n (by decide) (pp_n (by decide) (pp_n (by decide) (pp_n (by decide) (pp_n (by decide) (pp_n (by decide) (pp_n (by decide) (pp_n (by decide) (pp_y rfl ⟨tb.2.2.1.symm, hI⟩))))))))))))))))))))))))
  by_cases c12 : a1 = 12
  · subst c12; refine pp_n (by decide) (pp_n (by decide) (pp_n (by decide) (pp_n (by decide) (pp_n (by decide) (pp_n (by decide) (pp_n (by decide) (pp_n (by decide) (pp_n (by decide) (pp_n (by decide) (pp_n (by decide) (pp_n (by decide) (pp_y rfl ?_))))))))))))
    unfold S_Table_visits_8
    rw [e3]
    exact q_bookLen (by omega) (ev (pp_n (by decide) (pp_n (by decide) (pp_n (by decide) (pp_n (by decide) (pp_n (by decide) (pp_n (by decide) (pp_n (by decide) (pp_n (by decide) (pp_n (by decide) (pp_n (by decide) (pp_n (by decide) (pp_n (by decide) (pp_y rfl ⟨e28.symm, hI⟩))))))))))))))
  by_cases c13 : a1 = 13
  · subst c13; exact pp_n (by decide) (pp_n (by decide) (pp_n (by decide) (pp_n (by decide) (pp_n (by decide) (pp_n (by decide) (pp_n (by decide) (pp_n (by decide) (pp_n (by decide) (pp_n (by decide) (pp_n (by decide) (pp_n (by decide) (pp_n (by decide) (pp_y rfl (ev (pp_n (by decide) (pp_n (by decide) (pp_n (by decide) (pp_n (by decide) (pp_n (by decide) (pp_n (by decide) (pp_n (by decide) (pp_n (by decide) (pp_n (by decide) (pp_n (by decide) (pp_n (by decide) (pp_n (by decide) (pp_n (by decide) (pp_y rfl ⟨q13, hI⟩))))))))))))))))))))))))))))
  exact pp_n c0 (pp_n c1 (pp_n c2 (pp_n c3 (pp_n c4 (pp_n c5 (pp_n c6 (pp_n c7 (pp_n c8 (pp_n c9 (pp_n c10 (pp_n c11 (pp_n c12 (pp_n c13 (ev (pp_n c0 (pp_n c1 (pp_n c2 (pp_n c3 (pp_n c4 (pp_n c5 (pp_n c6 (pp_n c7 (pp_n c8 (pp_n c9 (pp_n c10 (pp_n c11 (pp_n c12 (pp_n c13 (⟨rfl, hI⟩)))))))))))))))))))))))))))))
