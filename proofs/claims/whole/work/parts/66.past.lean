theorem q_undoM {post : Int32 → St → Prop} {y : St} {a : Nat} (ha : gI y 119 = nI a) (h4 : a < 40) (h : post (nI a) (sF y 113 (fa_fill (fun k => gA y 115 (269 * a + k)) (gA y 113) 269))) : ∃ n, L_M_undo_26 post n (0 : Int32) y := by
  have h0 : y = sF y 113 (fa_fill (fun k => gA y 115 (269 * a + k)) (gA y 113) 0) := by rw [fa_fill_0, sF_id]
  rw [h0]
  refine lp_up (fun n i => L_M_undo_26 post n (nI i) (sF y 113 (fa_fill (fun k => gA y 115 (269 * a + k)) (gA y 113) i))) 269 ?_ ?_
  · intro n i hi ih
    show B_M_undo_26 post _ _ _
    unfold B_M_undo_26
    rw [show gI (sF y 113 (fa_fill (fun k => gA y 115 (269 * a + k)) (gA y 113) i)) 119 = nI a from ha, k269, nI_1, pk_mul, nI_add, nI_clamp (by omega), nI_clamp (by omega)]
    refine pp_n (nI_ge hi (by omega)) ⟨(vp_in_nI (by omega) (by omega)), (vp_in_nI (by omega) (by omega)), ev (ev ?_)⟩
    rw [sA_sF, gA_sF, if_neg (by decide)]
    have e := fa_fill_succ (fun k => gA y 115 (269 * a + k)) (gA y 113) i
    rw [e]
    exact ih
  · show B_M_undo_26 post _ _ _
    unfold B_M_undo_26
    refine pp_y (by decide) ?_
    rw [show gI (sF y 113 (fa_fill (fun k => gA y 115 (269 * a + k)) (gA y 113) 269)) 119 = nI a from ha]
    exact h
theorem pk_rem40 {a : Nat} (ha : a < 2 ^ 31) : nI a - nI a / 40 * 40 = nI (a % 40) := by rw [k40, pk_rem ha (by omega) (by omega)]
theorem q_takeBack {post : Int32 → St → Prop} {z : St} {a n : Nat} (ha : gI z 25 = nI (a + 1)) (h4 : a < 40) (hn : gI z 24 = nI n) (hn4 : n < 40) (h : post 1 (sF (sI (sI z 25 (nI a)) 24 (nI ((n + 39) % 40))) 23 (va_cpy (gA z 25) (gA z 23) (28 * ((n + 39) % 40)) 0 28))) : S_Memory_takeBack_r23 post z := by
  have hm := Nat.mod_lt (n + 39) (show 0 < 40 by omega)
  unfold S_Memory_takeBack_r23
  rw [ha, k1, nI_leI (by omega) (by omega), pk_sub (by omega), show a + 1 - 1 = a by omega]
  refine pp_y (by omega) (ev ?_)
  rw [show gI (sI z 25 (nI a)) 24 = nI n from hn]
  have e : nI n + 40 - nI 1 - (nI n + 40 - nI 1) / 40 * 40 = nI ((n + 39) % 40) := by
    rw [show (40 : Int32) = nI 40 from rfl, nI_add, pk_sub (by omega), show n + 40 - 1 = n + 39 by omega]
    exact pk_rem (by omega) (by omega) (by omega)
  rw [e]
  refine ev ?_
  rw [show gI (sI (sI z 25 (nI a)) 24 (nI ((n + 39) % 40))) 24 = nI ((n + 39) % 40) from rfl, c28, c0', k28, pk_mul, nI_clamp (by omega)]
  refine ⟨nI_pos (by omega), by decide, by decide, by omega, by omega, ev ?_⟩
  rw [show (n + 39) % 40 * 28 = 28 * ((n + 39) % 40) by omega]
  exact h
theorem o_undo {V V' : Nat} (hV : V ≤ V') : St_undo (Inv V) (Inv V') := by
  intro z y a1 a2 a3 a4 a5 h
  have hI : Inv V' z (sI y 100 0) := h.fr hV Fr.rf yt
  obtain ⟨a, n, p1, p2, p3, p4, p5⟩ : ∃ a n, gI z 25 = nI a ∧ gI y 119 = nI a ∧ a ≤ 40 ∧ gI z 24 = nI n ∧ n < 40 := by
    obtain ⟨nd, ng, tl, ln, wn, sn, a, n, v, hH, hT, hL, hW, hS, hTa, hP, hi, hs⟩ := h; exact ⟨a, n, hP.1, hP.2.1, hP.2.2.1, hP.2.2.2.1, hP.2.2.2.2.1⟩
  unfold S_B_undo S_M_undo
  rcases Nat.eq_zero_or_pos a with e | e
  · subst e
    unfold S_Memory_takeBack_r23
    rw [p1]
    exact pp_n (by decide) (r01 (ev (pp_y p2 ⟨rfl, hI⟩)))
  · obtain ⟨b, rfl⟩ : ∃ b, a = b + 1 := ⟨a - 1, by omega⟩
    have p2' : gI (sI y 100 0) 119 = nI (b + 1) := p2
    have e2 : nI (b + 1) - 1 = nI b := nI_pred b
    refine q_takeBack p1 (by omega) p4 p5 (r11 (ev (pp_n (by rw [p2']; exact nI_ne0 (by omega) (by omega)) ?_)))
    rw [p2', e2]
    refine ev (q_undoM (a := b) rfl (by omega) ⟨rfl, ?_⟩)
    refine h.u_act hV (((Fr.rf.sI (by decide)).sI (by decide)).sF (by decide)) (((Fr.rf.sI (by decide)).sI (by decide)).sF (by decide)) ?_
    intro nd ng v a n' hH hTa hP
    have ea : a = b + 1 := (nI_eq (by have := hP.2.2.1; omega) (by omega)).mp (hP.1.symm.trans p1)
    have en : n' = n := (nI_eq (by have := hP.2.2.2.2.1; omega) (by omega)).mp (hP.2.2.2.1.symm.trans p4)
    subst ea en
    have hm := Nat.mod_lt (n' + 39) (show 0 < 40 by omega)
    obtain ⟨c1, c2, t0⟩ := hP.2.2.2.2.2 0 (by omega)
    refine ⟨fun j => v (j + 1), b, (n' + 39) % 40, (t0.mono hV).cg (fun k hk => ?_) (fun k hk => ?_) (fun k hk => rfl), rfl, rfl, by omega, rfl, hm, fun j hj => ?_⟩
    · show fa_fill (fun k => gA y 115 (269 * b + k)) (gA y 113) 269 k = gA y 115 (269 * (b + 1 - 1 - 0) + k)
      rw [fa_fill_in hk]; congr 1
    · show va_cpy (gA z 25) (gA z 23) (28 * ((n' + 39) % 40)) 0 28 k = gA z 25 (28 * ((n' + 39 - 0) % 40) + k)
      unfold va_cpy; rw [if_pos (by omega)]; congr 1
    · obtain ⟨d1, d2, t1⟩ := hP.2.2.2.2.2 (j + 1) (by omega)
      refine ⟨d1, d2, (t1.mono hV).cg (fun k hk => ?_) (fun k hk => ?_) (fun k hk => rfl)⟩
      · show gA y 115 (269 * (b - 1 - j) + k) = gA y 115 (269 * (b + 1 - 1 - (j + 1)) + k)
        congr 2; omega
      · show gA z 25 (28 * (((n' + 39) % 40 + 39 - j) % 40) + k) = gA z 25 (28 * ((n' + 39 - (j + 1)) % 40) + k)
        congr 3; omega
/-- keeping: what the class does -/
def keepX (a n : Nat) (z : St) : St := sI (sI (sF z 25 (va_cpy (gA z 23) (gA z 25) 0 (28 * n) 28)) 24 (nI ((n + 1) % 40))) 25 (nI (min 40 (a + 1)))
theorem q_keep {post : St → Prop} {z : St} {a n : Nat} (ha : gI z 25 = nI a) (h4 : a ≤ 40) (hn : gI z 24 = nI n) (hn4 : n < 40) (h : post (keepX a n z)) : S_Memory_keep_r23 post z := by
  unfold S_Memory_keep_r23 S_Math_min_7cf53_X
  rw [hn, c28, c0', k28, pk_mul, nI_clamp (by omega)]
  refine ⟨by decide, nI_pos (by omega), by decide, by omega, by omega, ev ?_⟩
  rw [show gI (sF z 25 (va_cpy (gA z 23) (gA z 25) 0 (n * 28) 28)) 24 = nI n from hn, nI_1, pk_rem40 (by omega)]
  refine ev ?_
  rw [show gI (sI (sF z 25 (va_cpy (gA z 23) (gA z 25) 0 (n * 28) 28)) 24 (nI ((n + 1) % 40))) 25 = nI a from ha, nI_1, k40, nI_ltI (by omega) (by omega)]
  unfold keepX at h
  rw [show 28 * n = n * 28 by omega] at h
  refine ⟨fun c => ev ?_, fun c => ev ?_⟩
  · rw [show min 40 (a + 1) = a + 1 by omega] at h; exact h
  · rw [show min 40 (a + 1) = 40 by omega] at h; exact h
/-- what the reference does: u the rows of old -/
def remR (a : Nat) (w u : Nat → Int32) : Nat → Int32 :=
  if a = 40 then fb_put (fa_fill (fun k => u (k + 269)) u 10491) w (269 * 39) 269 else fb_put u w (269 * a) 269
def remY (a : Nat) (y : St) : St := sI (sF y 115 (remR a (gA y 113) (gA y 115))) 119 (nI (min 40 (a + 1)))
theorem sI_sI (σ : St) (k : Nat) (u v : Int32) : sI (sI σ k u) k v = sI σ k v := by
  unfold sI
  refine congrArg (fun f => (f, σ.2)) (funext fun j => ?_)
  by_cases h : j = k
  · simp [h]
  · simp [h]
theorem q_rem52 {post : St → Prop} {y : St} {a : Nat} (ha : gI y 119 = nI a) (h4 : a < 40) (h : post (sI (sF y 115 (fb_put (gA y 115) (gA y 113) (269 * a) 269)) 119 (nI (a + 1)))) : B_M_remember_50 post y := by
  unfold B_M_remember_50
  have h0 : y = sF y 115 (fb_put (gA y 115) (gA y 113) (269 * a) 0) := by rw [fb_put_0, sF_id]
  rw [h0]
  refine lp_up (fun n i => L_M_remember_52 post n (nI i) (sF y 115 (fb_put (gA y 115) (gA y 113) (269 * a) i))) 269 ?_ ?_
  · intro n i hi ih
    show B_M_remember_52 post _ _ _
    unfold B_M_remember_52
    rw [show gI (sF y 115 (fb_put (gA y 115) (gA y 113) (269 * a) i)) 119 = nI a from ha, k269, nI_1 i, pk_mul, nI_add, nI_clamp (by omega), nI_clamp (by omega)]
    refine pp_n (nI_ge hi (by omega)) ⟨(vp_in_nI (by omega) (by omega)), (vp_in_nI (by omega) (by omega)), ev (ev ?_)⟩
    rw [sA_sF, gA_sF, if_neg (by decide), fb_put_succ]
    exact ih
  · show B_M_remember_52 post _ _ _
    unfold B_M_remember_52
    refine pp_y (by decide) (ev ?_)
    rw [show gI (sF y 115 (fb_put (gA y 115) (gA y 113) (269 * a) 269)) 119 = nI a from ha, nI_1]
    exact h
theorem q_rem {post : St → Prop} {y : St} {a : Nat} (ha : gI y 119 = nI a) (h4 : a ≤ 40) (h : post (remY a y)) : S_M_remember post y := by
  unfold S_M_remember
  unfold remY remR at h
  by_cases c : a = 40
  · subst c
    rw [ha]
    refine pp_y rfl ?_
    rw [if_pos rfl] at h
    have h0 : y = sF y 115 (fa_fill (fun k => gA y 115 (k + 269)) (gA y 115) 0) := by rw [fa_fill_0, sF_id]
    rw [h0]
    refine lp_up (fun n i => L_M_remember_11 post n (nI i) (sF y 115 (fa_fill (fun k => gA y 115 (k + 269)) (gA y 115) i))) 10491 ?_ ?_
    · intro n i hi ih
      show B_M_remember_11 post _ _ _
      unfold B_M_remember_11
      rw [k10491, k269, nI_1, nI_add, nI_clamp (by omega), nI_clamp (by omega)]
      refine pp_n (nI_ge hi (by omega)) ⟨(vp_in_nI (by omega) (by omega)), (vp_in_nI (by omega) (by omega)), ev (ev ?_)⟩
      rw [sA_sF, gA_sF, if_pos rfl, fa_fill_out (show i ≤ i + 269 by omega)]
      have e := fa_fill_succ (fun k => gA y 115 (k + 269)) (gA y 115) i
      rw [e]
      exact ih
    · show B_M_remember_11 post _ _ _
      unfold B_M_remember_11
      refine pp_y (by decide) (ev ?_)
      refine q_rem52 (a := 39) ?_ (by omega) ?_
      · rw [gI_sI, if_pos rfl, show gI (sF y 115 (fa_fill (fun k => gA y 115 (k + 269)) (gA y 115) 10491)) 119 = nI 40 from ha]; decide
      · have e1 : sI (sF (sI (sF y 115 (fa_fill (fun k => gA y 115 (k + 269)) (gA y 115) 10491)) 119 (gI (sF y 115 (fa_fill (fun k => gA y 115 (k + 269)) (gA y 115) 10491)) 119 - 1)) 115 (fb_put (fa_fill (fun k => gA y 115 (k + 269)) (gA y 115) 10491) (gA y 113) (269 * 39) 269)) 119 (nI 40) = sI (sF y 115 (fb_put (fa_fill (fun k => gA y 115 (k + 269)) (gA y 115) 10491) (gA y 113) (269 * 39) 269)) 119 (nI 40) := by
          show sI (sI (sF (sF y 115 _) 115 _) 119 _) 119 _ = _
          rw [sI_sI, sF_sF]
        exact e1 ▸ h
  · rw [ha]
    refine pp_n (by rw [k40, nI_eq (by omega) (by omega)]; exact c) (q_rem52 ha (by omega) ?_)
    rw [if_neg c, show min 40 (a + 1) = a + 1 by omega] at h
    exact h
/-- both keep: the acts stay tied -/
theorem PastI.keep {V nd a n : Nat} {v : Nat → Nat} {zk zn yk : Int32} {zp L yp w c : Nat → Int32} (hT : TaI V nd (v 0) w c L) (h : PastI V nd a n v zk zn zp L yk yp) : PastI V nd (min 40 (a + 1)) ((n + 1) % 40) (fun j => v (j - 1)) (nI (min 40 (a + 1))) (nI ((n + 1) % 40)) (va_cpy c zp 0 (28 * n) 28) L (nI (min 40 (a + 1))) (remR a w yp) := by
  obtain ⟨p1, p2, p3, p4, p5, p6⟩ := h
  have hm := Nat.mod_lt (n + 1) (show 0 < 40 by omega)
  refine ⟨rfl, rfl, by omega, rfl, hm, fun j hj => ?_⟩
  rcases Nat.eq_zero_or_pos j with e | e
  · subst e
    refine ⟨Nat.le_refl _, by show v 0 ≤ v 0 + 1; omega, hT.cg (fun k hk => ?_) (fun k hk => ?_) (fun k hk => rfl)⟩
    · show remR a w yp (269 * (min 40 (a + 1) - 1 - 0) + k) = w k
      unfold remR
      by_cases c : a = 40
      · subst c
        rw [if_pos rfl, fb_put_in (by omega) (by omega)]; exact congrArg w (by omega)
      · rw [if_neg c, fb_put_in (by omega) (by omega)]; exact congrArg w (by omega)
    · show va_cpy c zp 0 (28 * n) 28 (28 * (((n + 1) % 40 + 39 - 0) % 40) + k) = c k
      unfold va_cpy
      rw [if_pos (by omega)]; congr 1; omega
  · obtain ⟨i, rfl⟩ : ∃ i, j = i + 1 := ⟨j - 1, by omega⟩
    obtain ⟨d1, d2, t⟩ := p6 i (by omega)
    refine ⟨d1, d2, t.cg (fun k hk => ?_) (fun k hk => ?_) (fun k hk => rfl)⟩
    · show remR a w yp (269 * (min 40 (a + 1) - 1 - (i + 1)) + k) = yp (269 * (a - 1 - i) + k)
      unfold remR
      by_cases c : a = 40
      · subst c
        rw [if_pos rfl, fb_put_out (by omega), fa_fill_in (by omega)]; exact congrArg yp (by omega)
      · rw [if_neg c, fb_put_out (by omega)]; exact congrArg yp (by omega)
    · show va_cpy c zp 0 (28 * n) 28 (28 * (((n + 1) % 40 + 39 - (i + 1)) % 40) + k) = zp (28 * ((n + 39 - i) % 40) + k)
      unfold va_cpy
      rw [if_neg (by omega)]; congr 1; omega
