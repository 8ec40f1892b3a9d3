theorem updL_s (f : Nat → Int64) (i : Nat) (x : Int64) : vp_updL f i x i = x := by simp [vp_updL]
theorem o_guest {V V' : Nat} (hV : V ≤ V') : St_guest (Inv V) (Inv V') := by
  intro z y f a1 a2 a3 a4 a5 h
  obtain ⟨nd, ng, mo, wg, q, lk, lw, hz, hy0, hl⟩ := h.ctx
  have hT := h.ta
  have h6 := hl.1
  have g6 := hl.2.1
  have hI : Inv V' z (sI y 100 0) := h.fr hV Fr.rf yt
  have hy := hy0.fr (yt : Fr MS MA y (sI y 100 0)) (by decide) (by decide)
  have hI1 : Inv V' z (sI y 100 1) := h.fr hV Fr.rf (Fr.rf.sI (by decide))
  have no : ∀ y1, y1 = y → B_M_guest_25 (fun r1 y1 => S_M_thrown (fun r2 y2 => r2 = 1 ∧ ((1 : Int32) = 0 → f (0 : Int32).toNatClampNeg = r1.toInt64) ∧ Inv V' z y2) y1) a1 a2 y1 := fun y1 e => by
    subst e
    exact ev (pp_n (show ¬ (1 : Int32) ≤ 0 by decide) ⟨rfl, fun h => absurd h (by decide), hI1⟩)
  unfold S_B_guest
  rcases ix_cases a1 (n := ng) (by omega) with c | ⟨g, hg, rfl⟩
  · refine q_House_hasGuest_n hz.2.1 c (r01 ?_)
    unfold B_B_guest_20 GPP S_M_guest
    exact q_M_isGuest_n hy0.2.1 c (r01 (no y rfl))
  · refine q_House_hasGuest_y hz.2.1 g6 hg (r11 ?_)
    rcases wh_cases a2 3 (by omega) with c | ⟨j, hj, rfl⟩
    · have out : B_B_guest_20 (fun r z1 => GPP (Inv V') (nI g) a2 y 0 (z1, vp_updL f (0 : Int32).toNatClampNeg r.toInt64)) (fun z1 => GPP (Inv V') (nI g) a2 y 1 (z1, f)) z := by
        unfold B_B_guest_20 GPP S_M_guest
        exact q_M_isGuest_y hy0.2.1 g6 hg (r11 (q_isIn_n (m := 3) L3 (by omega) c (r01 (no y rfl))))
      refine ⟨fun _ => out, fun c1 => pp_n (fun c2 => ?_) out⟩
      rcases c with c | c
      · exact c1 c
      · rw [fa_lt, nI_toInt (by omega)] at c; rw [fa_le, show (3 : Int32).toInt = 3 by decide] at c2; omega
    · have tg := hT.g (show g < 6 by omega)
      have yes : ∀ r : Int32, r = (if j = 0 then gA y 109 (3 * g) else gA y 113 (3 * g + j - 1)) → GPP (Inv V') (nI g) (nI j) y 0 (z, vp_updL f (0 : Int32).toNatClampNeg r.toInt64) := fun r hr => by
        unfold GPP S_M_guest
        refine q_M_isGuest_y hy0.2.1 g6 hg (r11 (q_isIn_y (m := 3) L3 (by omega) (by omega) (r11 (ev (pp_y (show (0 : Int32) ≤ 0 by decide) ?_)))))
        refine ⟨fun c => ?_, fun c => ?_⟩
        · rw [nI_eq0 (by omega)] at c
          rw [if_pos c] at hr
          rw [k3, pk_mul, nI_clamp (by omega)]
          refine ⟨(vp_in_nI (by omega) (by omega)), rfl, fun _ => ?_, hI⟩
          show vp_updL f (0 : Int32).toNatClampNeg r.toInt64 (0 : Int32).toNatClampNeg = _
          rw [updL_s, hr]; rfl
        · rw [nI_eq0 (by omega)] at c
          rw [if_neg c] at hr
          rw [k3, k1, pk_mul, nI_add, pk_sub (by omega), nI_clamp (by omega)]
          refine ⟨(vp_in_nI (by omega) (by omega)), rfl, fun _ => ?_, hI⟩
          show vp_updL f (0 : Int32).toNatClampNeg r.toInt64 (0 : Int32).toNatClampNeg = _
          rw [updL_s, hr]; rfl
      refine pp_n (nI_pos (by omega)) (pp_y (show nI j ≤ nI 3 from nI_le (by omega) (by omega)) ?_)
      have : j = 0 ∨ j = 1 ∨ j = 2 ∨ j = 3 := by omega
      rcases this with rfl | rfl | rfl | rfl
      · refine pp_y rfl ⟨(vp_in_nI (by omega) (by omega)), yes _ ?_⟩
        rw [nI_clamp (by omega), hz.2.2.2.2.2.1 g hg]; exact (hy0.2.2.2.2.2.1 g hg).symm
      · refine pp_n (by decide) (pp_y rfl ?_)
        unfold S_Table_moneyOf_8
        rw [k4, nI_add, nI_clamp (by omega)]
        exact ⟨(vp_in_nI (by omega) (by omega)), yes _ tg.1.symm⟩
      · refine pp_n (by decide) (pp_n (by decide) (pp_y rfl ?_))
        unfold S_Table_moodOf_8
        rw [k10, nI_add, nI_clamp (by omega)]
        exact ⟨(vp_in_nI (by omega) (by omega)), yes _ tg.2.1.symm⟩
      · refine pp_n (by decide) (pp_n (by decide) (pp_n (by decide) ?_))
        unfold S_Table_joyOf_8
        rw [k16, nI_add, nI_clamp (by omega)]
        exact ⟨(vp_in_nI (by omega) (by omega)), yes _ tg.2.2.symm⟩
theorem q_share {post : Int32 → St → Prop} {nd ng mo wg : Nat} {q : Nat → Nat} {lk : Nat → Int32} {lw : Option ((Nat → Int32) → Int32)} {z : St} (hC : CZ nd ng mo wg q lk lw z) (hl : Lim nd ng mo wg q) {g d e : Nat} (hg : g < ng) (hd : d < nd) (he : e < nd) (h : post (nI (joyN q mo (lk g) d) - gA z 23 (22 + e) / 3) z) : S_Table_share_8 post (nI g) (nI d) (nI e) z := by
  have h6 := hl.1
  have g6 := hl.2.1
  unfold S_Table_share_8
  rw [nI_clamp (by omega), hC.2.2.2.2.2.1 g hg]
  refine ⟨(vp_in_nI (by omega) (by omega)), q_joyX hC hl hd ?_⟩
  rw [k22, nI_add, nI_clamp (by omega)]
  exact ⟨(vp_in_nI (by omega) (by omega)), h⟩
theorem q_gameOf {post : Int32 → St → Prop} {nd ng mo wg : Nat} {q : Nat → Nat} {lk : Nat → Int32} {lw : Option ((Nat → Int32) → Int32)} {y : St} (hC : CY nd ng mo wg q lk lw y) (hl : Lim nd ng mo wg q) {g d e : Nat} (hg : g < ng) (hd : d < nd) (he : e < nd) (h : post (nI (joyN q mo (lk g) d) - gA y 113 (18 + e) / 3) y) : S_M_gameOf post (nI g) (nI e) (nI d) y := by
  have h6 := hl.1
  have g6 := hl.2.1
  unfold S_M_gameOf
  rw [k3, pk_mul, nI_clamp (by omega), hC.2.2.2.2.2.1 g hg]
  refine ⟨(vp_in_nI (by omega) (by omega)), q_joyM hC hl hd ?_⟩
  rw [k18, nI_add, nI_clamp (by omega)]
  exact ⟨(vp_in_nI (by omega) (by omega)), h⟩
theorem o_game {V V' : Nat} (hV : V ≤ V') : St_game (Inv V) (Inv V') := by
  intro z y a1 a2 a3 a4 a5 h
  obtain ⟨nd, ng, mo, wg, q, lk, lw, hz, hy0, hl⟩ := h.ctx
  have hT := h.ta
  have h6 := hl.1
  have g6 := hl.2.1
  have hI : Inv V' z (sI y 100 0) := h.fr hV Fr.rf yt
  have hy := hy0.fr (yt : Fr MS MA y (sI y 100 0)) (by decide) (by decide)
  unfold S_B_game S_M_game
  have no31 : ∀ {post : Int32 → St → Prop} {x1 x2 x3 x4 x5 : Int32}, post (-1000000) z → B_B_game_31 post x1 x2 x3 x4 x5 z := fun h => r01 h
  rcases ix_cases a1 (n := ng) (by omega) with c | ⟨g, hg, rfl⟩
  · exact q_House_hasGuest_n hz.2.1 c (r01 (no31 (ev (q_M_isGuest_n hy.2.1 c (r01 (r01 ⟨rfl, hI⟩))))))
  · refine q_House_hasGuest_y hz.2.1 g6 hg (r11 ?_)
    rcases ix_cases a2 (n := ng) (by omega) with c | ⟨g2, hg2, rfl⟩
    · exact q_House_hasGuest_n hz.2.1 c (r01 (no31 (ev (q_M_isGuest_y hy.2.1 g6 hg (r11 (q_M_isGuest_n hy.2.1 c (r01 (r01 ⟨rfl, hI⟩))))))))
    · refine q_House_hasGuest_y hz.2.1 g6 hg2 (r11 ?_)
      refine ⟨fun c => no31 (ev (q_M_isGuest_y hy.2.1 g6 hg (r11 (q_M_isGuest_y hy.2.1 g6 hg2 (r11 (pp_y c (r01 ⟨rfl, hI⟩))))))), fun cne => r11 ?_⟩
      have pre : ∀ {post : Int32 → St → Prop} {y' : St}, y' = sI y 100 0 → post 1 y' → S_M_isGame post (nI g) (nI g2) y' := fun e h => by subst e; exact q_M_isGuest_y hy.2.1 g6 hg (r11 (q_M_isGuest_y hy.2.1 g6 hg2 (r11 (pp_n cne h))))
      rcases ix_cases a3 (n := nd) (by omega) with c | ⟨d, hd, rfl⟩
      · exact q_House_hasDrink_n hz.1 c (r01 (ev (pre rfl (r11 (q_M_isDrink_n hy.1 c (r01 ⟨rfl, hI⟩))))))
      · refine q_House_hasDrink_y hz.1 h6 hd (r11 ?_)
        rcases ix_cases a4 (n := nd) (by omega) with c | ⟨e, he, rfl⟩
        · exact q_House_hasDrink_n hz.1 c (r01 (ev (pre rfl (r11 (q_M_isDrink_y hy.1 h6 hd (r11 (q_M_isDrink_n hy.1 c (r01 ⟨rfl, hI⟩))))))))
        · refine q_House_hasDrink_y hz.1 h6 he (r11 ?_)
          have t1 := hT.d (show d < 6 by omega)
          have t2 := hT.d (show e < 6 by omega)
          rcases wh_cases a5 1 (by omega) with c | ⟨j, hj, rfl⟩
          · refine ⟨fun _ => (ev (pre rfl (r11 (q_M_isDrink_y hy.1 h6 hd (r11 (q_M_isDrink_y hy.1 h6 he (r11 (q_isIn_n (m := 1) L1 (by omega) c (r01 ⟨rfl, hI⟩))))))))), fun c1 => pp_n (fun c2 => ?_) (ev (pre rfl (r11 (q_M_isDrink_y hy.1 h6 hd (r11 (q_M_isDrink_y hy.1 h6 he (r11 (q_isIn_n (m := 1) L1 (by omega) c (r01 ⟨rfl, hI⟩)))))))))⟩
            rcases c with c | c
            · exact c1 c
            · rw [fa_lt, nI_toInt (by omega)] at c; rw [fa_le, show (1 : Int32).toInt = 1 by decide] at c2; omega
          · refine pp_n (nI_pos (by omega)) (pp_y (show nI j ≤ nI 1 from nI_le (by omega) (by omega)) ?_)
            have : j = 0 ∨ j = 1 := by omega
            rcases this with rfl | rfl
            · refine pp_y rfl (q_share hz hl hg he hd (ev (pre rfl (r11 (q_M_isDrink_y hy.1 h6 hd (r11 (q_M_isDrink_y hy.1 h6 he (r11 (q_isIn_y (m := 1) L1 (by omega) (by omega) (r11 (pp_y rfl (q_gameOf hy hl hg he hd ⟨?_, hI⟩))))))))))))
              rw [← t1]; rfl
            · refine pp_n (by decide) (q_share hz hl hg2 hd he (ev (pre rfl (r11 (q_M_isDrink_y hy.1 h6 hd (r11 (q_M_isDrink_y hy.1 h6 he (r11 (q_isIn_y (m := 1) L1 (by omega) (by omega) (r11 (pp_n (by decide) (q_gameOf hy hl hg2 hd he ⟨?_, hI⟩))))))))))))
              rw [← t2]; rfl
