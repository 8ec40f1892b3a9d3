theorem bring_cg {nd : Nat} {q : Nat → Nat} {mo : Nat} {p p' : Nat → Int32} {lw : Option ((Nat → Int32) → Int32)} {l : Int32} {mood : Nat} {m n : Int32} {got : Nat} (hg : got < nd) (h : ∀ d, d < nd → p d = p' d) : bringN nd q mo p lw l mood m n got = bringN nd q mo p' lw l mood m n got := by
  unfold bringN
  have e : wishN lw q p l (moodN mood (joyN q mo l got)) m n got = wishN lw q p' l (moodN mood (joyN q mo l got)) m n got := by
    unfold wishN
    cases lw with
    | none => rfl
    | some ev => show cl9 _ = cl9 _; rw [h got hg]
  rw [e]
  exact near_cg (fun _ _ => rfl) h
theorem o_makes {V V' : Nat} (hV : V ≤ V') (hb : V < 2 ^ 31) : St_makes (Inv V) (Inv V') := by
  intro z y a1 a2 a3 a4 a5 h
  obtain ⟨nd, ng, mo, wg, q, lk, lw, hz, hy0, hl⟩ := h.ctx
  have hT := h.ta
  have h6 := hl.1
  have g6 := hl.2.1
  have hI : Inv V' z (sI y 100 0) := h.fr hV Fr.rf yt
  have hy := hy0.fr (yt : Fr MS MA y (sI y 100 0)) (by decide) (by decide)
  obtain ⟨nd', tb⟩ := h.tb
  unfold S_B_makes S_M_makes
  rcases ix_cases a1 (n := ng) (by omega) with c | ⟨g, hg, rfl⟩
  · exact q_House_hasGuest_n hz.2.1 c (r01 (ev (q_M_isGuest_n hy.2.1 c (r01 ⟨rfl, hI⟩))))
  · refine q_House_hasGuest_y hz.2.1 g6 hg (r11 ?_)
    rcases ix_cases a2 (n := nd) (by omega) with c | ⟨d, hd, rfl⟩
    · exact q_House_hasDrink_n hz.1 c (r01 (ev (q_M_isGuest_y hy.2.1 g6 hg (r11 (q_M_isDrink_n hy.1 c (r01 ⟨rfl, hI⟩))))))
    · refine q_House_hasDrink_y hz.1 h6 hd (r11 ?_)
      obtain ⟨m, hm, em⟩ := tb.2.2.2.2.2.1 g (by omega)
      have tg := hT.g (show g < 6 by omega)
      unfold S_Table_wouldBring_8
      rw [nI_clamp (by omega), k10, k4, nI_add, nI_add, nI_clamp (by omega), nI_clamp (by omega), em, hz.2.2.2.2.2.1 g hg]
      refine ⟨(vp_in_nI (by omega) (by omega)), (vp_in_nI (by omega) (by omega)), (vp_in_nI (by omega) (by omega)), q_brings8 hz hl hd hm (fun z' hf => ev (q_M_isGuest_y hy.2.1 g6 hg (r11 (q_M_isDrink_y hy.1 h6 hd (r11 ?_)))))⟩
      unfold S_M_makesNow
      rw [k3, pk_mul, k1, nI_add, show nI (3 * g) + 0 = nI (3 * g) from nI_add _ 0, nI_clamp (by omega), nI_clamp (by omega), hy.2.2.2.2.2.1 g hg, show gA (sI y 100 0) 113 (3 * g + 1) = nI m from tg.2.1.trans em, show gA (sI y 100 0) 113 (3 * g) = gA z 23 (4 + g) from tg.1, show gA (sI y 100 0) 113 27 = gA z 23 3 from hT.b.2.2.2]
      refine ⟨(vp_in_nI (by omega) (by omega)), (vp_in_nI (by omega) (by omega)), (vp_in_nI (by omega) (by omega)), q_makesOf113 hy hl hd hm (tb.m_min (by omega)) (tb.n_min hb) (by rw [show gA (sI y 100 0) 113 (18 + d) = gA z 23 (22 + d) from hT.d (by omega)]; exact tb.p_min (by omega)) (fun y' hf2 => ⟨?_, ?_⟩)⟩
      · rw [bring_cg hd (fun d hd => (hT.d (show d < 6 by omega)).symm)]; rfl
      · exact h.fr hV (hf.wk (by decide) (by decide)) (yt.tr (hf2.wk (by decide) (by decide)))
/-- the cells behind a visit -/
def visC (q : Nat → Nat) (mo : Nat) (l : Int32) (br : Option Nat) (mood got : Nat) (g : Nat) (c : Nat → Int32) : Nat → Int32 :=
  let c1 := upd (upd (upd c (10 + g) (nI (moodN mood (joyN q mo l got)))) (16 + g) (c (16 + g) + nI (joyN q mo l got))) 3 (c 3 + 1)
  match br with
  | none => c1
  | some b => upd (upd c1 (4 + g) (c (4 + g) - c (22 + b))) 0 (nI b)
