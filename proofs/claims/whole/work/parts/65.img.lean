theorem sF_sF (σ : St) (a : Nat) (f g : Nat → Int32) : sF (sF σ a f) a g = sF σ a g := by
  unfold sF
  refine congrArg (fun u => (σ.1, u, σ.2.2)) (funext fun b => ?_)
  by_cases h : b = a
  · simp [h]
  · simp [h]
theorem sA_sF (σ : St) (a i : Nat) (f : Nat → Int32) (v : Int32) : sA (sF σ a f) a i v = sF σ a (upd f i v) := by
  unfold sA; rw [sF_sF]; congr 1; rw [gA_sF, if_pos rfl]
theorem sF_id (σ : St) (a : Nat) : sF σ a (gA σ a) = σ := by
  unfold sF gA
  refine congrArg (fun u => (σ.1, u, σ.2.2)) (funext fun b => ?_)
  by_cases h : b = a
  · simp [h]
  · simp [h]
theorem pi_lt {k : Nat} (h : k < 28) : pi k < 28 := by unfold pi; split <;> (try split) <;> omega
theorem TR.cg {w c w' c' : Nat → Int32} (h : TR w c) (hw : ∀ k, k < 28 → w' k = w k) (hc : ∀ k, k < 28 → c' k = c k) : TR w' c' := fun k hk => by rw [hw k hk, hc _ (pi_lt hk)]; exact h k hk
theorem TB.cg {V nd : Nat} {c c' : Nat → Int32} (h : TB V nd c) (hc : ∀ k, k < 28 → c' k = c k) : TB V nd c' := by
  obtain ⟨h1, h2, h3, h4, h5, h6, h7, h8⟩ := h
  refine ⟨?_, ?_, ?_, ?_, fun g hg => ?_, fun g hg => ?_, fun g hg => ?_, fun g hg => ?_⟩
  · rw [hc 0 (by omega)]; exact h1
  · rw [hc 1 (by omega)]; exact h2
  · rw [hc 2 (by omega)]; exact h3
  · rw [hc 3 (by omega)]; exact h4
  · rw [hc _ (by omega)]; exact h5 g hg
  · rw [hc _ (by omega)]; exact h6 g hg
  · rw [hc _ (by omega)]; exact h7 g hg
  · rw [hc _ (by omega)]; exact h8 g hg
theorem BK.cg {nd v : Nat} {w L w' L' : Nat → Int32} (h : BK nd v w L) (hw : ∀ k, 28 ≤ k → k < 269 → w' k = w k) (hL : ∀ i t, i < min 60 v → t < 4 → L' (4 * ((v - i) % 100) + t) = L (4 * ((v - i) % 100) + t)) : BK nd v w' L' := by
  obtain ⟨h1, h2, h3⟩ := h
  refine ⟨?_, fun i t hi ht => ?_, fun i hi => ?_⟩
  · rw [hw 28 (by omega) (by omega)]; exact h1
  · rw [hw _ (by omega) (by omega), hL i t hi ht]; exact h2 i t hi ht
  · rw [hL i 1 hi (by omega)]; exact h3 i hi
theorem TaI.cg {V nd v : Nat} {w c L w' c' L' : Nat → Int32} (h : TaI V nd v w c L) (hw : ∀ k, k < 269 → w' k = w k) (hc : ∀ k, k < 28 → c' k = c k) (hL : ∀ k, k < 400 → L' k = L k) : TaI V nd v w' c' L' :=
  ⟨h.1.cg (fun k hk => hw k (by omega)) hc, h.2.1.cg hc, by rw [hc 3 (by omega)]; exact h.2.2.1, h.2.2.2.1, h.2.2.2.2.cg (fun k _ hk => hw k hk) (fun i t _ ht => hL _ (by have := Nat.mod_lt (v - i) (show 0 < 100 by omega); omega))⟩
theorem cpy_in {f g : Nat → Int32} {n k : Nat} (h : k < n) : va_cpy f g 0 0 n k = f k := sb_cpy0 h
theorem c400 : (400 : Int32).toNatClampNeg = 400 := by decide
theorem c28 : (28 : Int32).toNatClampNeg = 28 := by decide
theorem c0' : (0 : Int32).toNatClampNeg = 0 := by decide
theorem q_imageX {post : St → Prop} {z : St} (h : post (sI (sF (sF z 27 (va_cpy (gA z 23) (gA z 27) 0 0 28)) 28 (va_cpy (gA z 26) (gA z 28) 0 0 400)) 23 1)) : S_Memory_takeImage_r23 post z := by
  unfold S_Memory_takeImage_r23
  rw [c400, c28, c0']
  exact ⟨by decide, by decide, by decide, by decide, by decide, ev ⟨by decide, by decide, by decide, by decide, by decide, ev (ev h)⟩⟩
theorem q_imageM {post : Int32 → St → Prop} {y : St} (h : post (gA y 113 27) (sI (sF y 119 (fa_fill (gA y 113) (gA y 119) 269)) 129 1)) : ∃ n, L_M_image_16 post n (0 : Int32) y := by
  have h0 : y = sF y 119 (fa_fill (gA y 113) (gA y 119) 0) := by rw [fa_fill_0, sF_id]
  rw [h0]
  refine lp_up (fun n i => L_M_image_16 post n (nI i) (sF y 119 (fa_fill (gA y 113) (gA y 119) i))) 269 ?_ ?_
  · intro n i hi ih
    show B_M_image_16 post _ _ _
    unfold B_M_image_16
    rw [k269, nI_1, nI_clamp (by omega)]
    refine pp_n (nI_ge hi (by omega)) ⟨(vp_in_nI (by omega) (by omega)), (vp_in_nI (by omega) (by omega)), ev (ev ?_)⟩
    rw [sA_sF, gA_sF, if_neg (by decide), fa_fill_succ]
    exact ih
  · show B_M_image_16 post _ _ _
    unfold B_M_image_16
    exact pp_y (by decide) (ev h)
theorem o_image {V V' : Nat} (hV : V ≤ V') : St_image (Inv V) (Inv V') := by
  intro z y a1 a2 a3 a4 a5 h
  obtain ⟨nd, ng, mo, wg, q, lk, lw, hz, hy0, hl⟩ := h.ctx
  have hT := h.ta
  have h6 := hl.1
  have g6 := hl.2.1
  have hI : Inv V' z (sI y 100 0) := h.fr hV Fr.rf yt
  have hy := hy0.fr (yt : Fr MS MA y (sI y 100 0)) (by decide) (by decide)
  unfold S_B_image S_M_image
  rcases Nat.eq_zero_or_pos ng with e | e
  · exact q_isTold_n hz.2.1 e (r01 (ev (pp_y (by rw [hy.2.1, e]; rfl) ⟨rfl, hI⟩)))
  · refine q_isTold_y hz.2.1 g6 e (r11 (q_imageX (ev (pp_n (by rw [hy.2.1]; exact nI_ne0 e (by omega)) (q_imageM ⟨hT.b.2.2.2.symm, ?_⟩)))))
    refine h.u_img hV (((Fr.rf.sF (by decide)).sF (by decide)).sI (by decide)) (((Fr.rf.sI (by decide)).sF (by decide)).sI (by decide)) ?_
    intro nd ng v hH hTa hI
    refine .inr ⟨rfl, rfl, v 0, (hTa.mono hV).cg (fun k hk => ?_) (fun k hk => ?_) (fun k hk => ?_)⟩
    · exact fa_fill_in hk
    · exact cpy_in hk
    · exact cpy_in hk
theorem q_backX {post : Int32 → St → Prop} {z : St} (hi : gI z 23 = 1) (h : post 1 (sI (sF (sF z 23 (va_cpy (gA z 27) (gA z 23) 0 0 28)) 26 (va_cpy (gA z 28) (gA z 26) 0 0 400)) 25 0)) : S_Memory_goBack_r23 post z := by
  unfold S_Memory_goBack_r23
  rw [c400, c28, c0', hi]
  exact pp_n (by decide) ⟨by decide, by decide, by decide, by decide, by decide, ev ⟨by decide, by decide, by decide, by decide, by decide, ev (ev h)⟩⟩
theorem q_backM {post : Int32 → St → Prop} {y : St} (h : post (gA y 119 27) (sI (sF y 113 (fa_fill (gA y 119) (gA y 113) 269)) 119 0)) : ∃ n, L_M_back_16 post n (0 : Int32) y := by
  have h0 : y = sF y 113 (fa_fill (gA y 119) (gA y 113) 0) := by rw [fa_fill_0, sF_id]
  rw [h0]
  refine lp_up (fun n i => L_M_back_16 post n (nI i) (sF y 113 (fa_fill (gA y 119) (gA y 113) i))) 269 ?_ ?_
  · intro n i hi ih
    show B_M_back_16 post _ _ _
    unfold B_M_back_16
    rw [k269, nI_1, nI_clamp (by omega)]
    refine pp_n (nI_ge hi (by omega)) ⟨(vp_in_nI (by omega) (by omega)), (vp_in_nI (by omega) (by omega)), ev (ev ?_)⟩
    rw [sA_sF, gA_sF, if_neg (by decide), fa_fill_succ]
    exact ih
  · show B_M_back_16 post _ _ _
    unfold B_M_back_16
    refine pp_y (by decide) (ev ?_)
    rw [gA_sI, gA_sF, if_pos rfl, fa_fill_in (by omega)]
    exact h
theorem o_back {V V' : Nat} (hV : V ≤ V') : St_back (Inv V) (Inv V') := by
  intro z y a1 a2 a3 a4 a5 h
  have hI : Inv V' z (sI y 100 0) := h.fr hV Fr.rf yt
  obtain ⟨nd0, hi⟩ : ∃ nd, ImgI V nd (gI z 23) (gA z 27) (gA z 28) (gI y 129) (gA y 119) := by
    obtain ⟨nd, ng, tl, ln, wn, sn, a, n, v, hH, hT, hL, hW, hS, hTa, hP, hi, hs⟩ := h; exact ⟨nd, hi⟩
  unfold S_B_back S_M_back
  rcases hi with ⟨e1, e2⟩ | ⟨e1, e2, v, tv⟩
  · unfold S_Memory_goBack_r23
    rw [e1]
    exact pp_y rfl (r01 (ev (pp_y e2 ⟨rfl, hI⟩)))
  · refine q_backX e1 (r11 (ev (pp_n (show ¬ gI y 129 = 0 by rw [e2]; decide) (q_backM ⟨?_, ?_⟩))))
    · rw [gA_sI, gA_sF, if_neg (by decide), gA_sF, if_pos rfl, cpy_in (by omega)]
      exact tv.1.b.2.2.2.symm
    · refine h.u_back hV (((Fr.rf.sF (by decide)).sF (by decide)).sI (by decide)) (((Fr.rf.sI (by decide)).sF (by decide)).sI (by decide)) ?_
      intro nd ng v a n hH hTa hP hi
      rcases hi with ⟨e3, _⟩ | ⟨_, _, v2, tv2⟩
      · exact absurd (e1.symm.trans e3) (by decide)
      · refine ⟨fun _ => v2, 0, n, (tv2.mono hV).cg (fun k hk => ?_) (fun k hk => ?_) (fun k hk => ?_), rfl, rfl, by omega, hP.2.2.2.1, hP.2.2.2.2.1, fun j hj => absurd hj (by omega)⟩
        · exact fa_fill_in hk
        · exact cpy_in hk
        · exact cpy_in hk
