theorem pi_inj {j k : Nat} (hj : j < 28) (hk : k < 28) (h : pi j = pi k) : j = k := by
  unfold pi at h
  split at h <;> split at h <;> (try split at h) <;> (try split at h) <;> omega
theorem TR.up {w c : Nat → Int32} (h : TR w c) {k i : Nat} (hk : k < 28) (hi : i = pi k) (v : Int32) : TR (upd w k v) (upd c i v) := fun j hj => by
  by_cases e : j = k
  · subst e; rw [hi, pk_us, pk_us]
  · rw [pk_un e, pk_un (fun q => e (pi_inj hj hk (q.trans hi)))]; exact h j hj
theorem TR.hi {w c : Nat → Int32} (h : TR w c) {k : Nat} (hk : 28 ≤ k) (v : Int32) : TR (upd w k v) c := fun j hj => by
  rw [pk_un (by omega)]; exact h j hj
theorem pi_m {g : Nat} (hg : g < 6) : 4 + g = pi (3 * g) := by unfold pi; rw [if_pos (by omega)]; omega
theorem pi_h {g : Nat} (hg : g < 6) : 10 + g = pi (3 * g + 1) := by unfold pi; rw [if_pos (by omega)]; omega
theorem pi_j {g : Nat} (hg : g < 6) : 16 + g = pi (3 * g + 2) := by unfold pi; rw [if_pos (by omega)]; omega
theorem pi_p {d : Nat} (hd : d < 6) : 22 + d = pi (18 + d) := by unfold pi; rw [if_neg (by omega), if_pos (by omega)]; omega
theorem TB.bottle {V nd x : Nat} {c : Nat → Int32} (h : TB V nd c) (hb : x ≤ nd - 1) : TB V nd (upd c (0) (nI x)) := by
  obtain ⟨h0, h1, h2, h3, h4, h5, h6, h7⟩ := h
  refine ⟨?_, ?_, ?_, ?_, fun g hg => ?_, fun g hg => ?_, fun g hg => ?_, fun g hg => ?_⟩
  · rw [pk_us]; exact ⟨x, hb, rfl⟩
  · rw [pk_un (by omega)]; exact h1
  · rw [pk_un (by omega)]; exact h2
  · rw [pk_un (by omega)]; exact h3
  · rw [pk_un (by omega)]; exact h4 g hg
  · rw [pk_un (by omega)]; exact h5 g hg
  · rw [pk_un (by omega)]; exact h6 g hg
  · rw [pk_un (by omega)]; exact h7 g hg
theorem TB.month {V nd x : Nat} {c : Nat → Int32} (h : TB V nd c) (hb : x ≤ 999) : TB V nd (upd c (1) (nI x)) := by
  obtain ⟨h0, h1, h2, h3, h4, h5, h6, h7⟩ := h
  refine ⟨?_, ?_, ?_, ?_, fun g hg => ?_, fun g hg => ?_, fun g hg => ?_, fun g hg => ?_⟩
  · rw [pk_un (by omega)]; exact h0
  · rw [pk_us]; exact ⟨x, hb, rfl⟩
  · rw [pk_un (by omega)]; exact h2
  · rw [pk_un (by omega)]; exact h3
  · rw [pk_un (by omega)]; exact h4 g hg
  · rw [pk_un (by omega)]; exact h5 g hg
  · rw [pk_un (by omega)]; exact h6 g hg
  · rw [pk_un (by omega)]; exact h7 g hg
theorem TB.vis {V nd x : Nat} {c : Nat → Int32} (h : TB V nd c) (hb : x ≤ V) : TB V nd (upd c (3) (nI x)) := by
  obtain ⟨h0, h1, h2, h3, h4, h5, h6, h7⟩ := h
  refine ⟨?_, ?_, ?_, ?_, fun g hg => ?_, fun g hg => ?_, fun g hg => ?_, fun g hg => ?_⟩
  · rw [pk_un (by omega)]; exact h0
  · rw [pk_un (by omega)]; exact h1
  · rw [pk_un (by omega)]; exact h2
  · rw [pk_us]; exact ⟨x, hb, rfl⟩
  · rw [pk_un (by omega)]; exact h4 g hg
  · rw [pk_un (by omega)]; exact h5 g hg
  · rw [pk_un (by omega)]; exact h6 g hg
  · rw [pk_un (by omega)]; exact h7 g hg
theorem TB.money {V nd x i : Nat} {c : Nat → Int32} (h : TB V nd c) (hi : i < 6) (hb : x ≤ 99) : TB V nd (upd c (4 + i) (nI x)) := by
  obtain ⟨h0, h1, h2, h3, h4, h5, h6, h7⟩ := h
  refine ⟨?_, ?_, ?_, ?_, fun g hg => ?_, fun g hg => ?_, fun g hg => ?_, fun g hg => ?_⟩
  · rw [pk_un (by omega)]; exact h0
  · rw [pk_un (by omega)]; exact h1
  · rw [pk_un (by omega)]; exact h2
  · rw [pk_un (by omega)]; exact h3
  · by_cases e : g = i
    · subst e; rw [pk_us]; exact ⟨x, hb, rfl⟩
    · rw [pk_un (by omega)]; exact h4 g hg
  · rw [pk_un (by omega)]; exact h5 g hg
  · rw [pk_un (by omega)]; exact h6 g hg
  · rw [pk_un (by omega)]; exact h7 g hg
theorem TB.mood {V nd x i : Nat} {c : Nat → Int32} (h : TB V nd c) (hi : i < 6) (hb : x ≤ 9) : TB V nd (upd c (10 + i) (nI x)) := by
  obtain ⟨h0, h1, h2, h3, h4, h5, h6, h7⟩ := h
  refine ⟨?_, ?_, ?_, ?_, fun g hg => ?_, fun g hg => ?_, fun g hg => ?_, fun g hg => ?_⟩
  · rw [pk_un (by omega)]; exact h0
  · rw [pk_un (by omega)]; exact h1
  · rw [pk_un (by omega)]; exact h2
  · rw [pk_un (by omega)]; exact h3
  · rw [pk_un (by omega)]; exact h4 g hg
  · by_cases e : g = i
    · subst e; rw [pk_us]; exact ⟨x, hb, rfl⟩
    · rw [pk_un (by omega)]; exact h5 g hg
  · rw [pk_un (by omega)]; exact h6 g hg
  · rw [pk_un (by omega)]; exact h7 g hg
theorem TB.joy {V nd x i : Nat} {c : Nat → Int32} (h : TB V nd c) (hi : i < 6) (hb : x ≤ 18 * V) : TB V nd (upd c (16 + i) (nI x)) := by
  obtain ⟨h0, h1, h2, h3, h4, h5, h6, h7⟩ := h
  refine ⟨?_, ?_, ?_, ?_, fun g hg => ?_, fun g hg => ?_, fun g hg => ?_, fun g hg => ?_⟩
  · rw [pk_un (by omega)]; exact h0
  · rw [pk_un (by omega)]; exact h1
  · rw [pk_un (by omega)]; exact h2
  · rw [pk_un (by omega)]; exact h3
  · rw [pk_un (by omega)]; exact h4 g hg
  · rw [pk_un (by omega)]; exact h5 g hg
  · by_cases e : g = i
    · subst e; rw [pk_us]; exact ⟨x, hb, rfl⟩
    · rw [pk_un (by omega)]; exact h6 g hg
  · rw [pk_un (by omega)]; exact h7 g hg
theorem TB.price {V nd x i : Nat} {c : Nat → Int32} (h : TB V nd c) (hi : i < 6) (hb : x ≤ 60) : TB V nd (upd c (22 + i) (nI x)) := by
  obtain ⟨h0, h1, h2, h3, h4, h5, h6, h7⟩ := h
  refine ⟨?_, ?_, ?_, ?_, fun g hg => ?_, fun g hg => ?_, fun g hg => ?_, fun g hg => ?_⟩
  · rw [pk_un (by omega)]; exact h0
  · rw [pk_un (by omega)]; exact h1
  · rw [pk_un (by omega)]; exact h2
  · rw [pk_un (by omega)]; exact h3
  · rw [pk_un (by omega)]; exact h4 g hg
  · rw [pk_un (by omega)]; exact h5 g hg
  · rw [pk_un (by omega)]; exact h6 g hg
  · by_cases e : g = i
    · subst e; rw [pk_us]; exact ⟨x, hb, rfl⟩
    · rw [pk_un (by omega)]; exact h7 g hg
theorem TB.put {V nd : Nat} {c : Nat → Int32} {x : Int32} (h : TB V nd c) (hx : x = 0 ∨ x = 1) : TB V nd (upd c 2 x) := by
  obtain ⟨h0, h1, h2, h3, h4, h5, h6, h7⟩ := h
  refine ⟨?_, ?_, ?_, ?_, fun g hg => ?_, fun g hg => ?_, fun g hg => ?_, fun g hg => ?_⟩
  · rw [pk_un (by omega)]; exact h0
  · rw [pk_un (by omega)]; exact h1
  · rw [pk_us]; exact hx
  · rw [pk_un (by omega)]; exact h3
  · rw [pk_un (by omega)]; exact h4 g hg
  · rw [pk_un (by omega)]; exact h5 g hg
  · rw [pk_un (by omega)]; exact h6 g hg
  · rw [pk_un (by omega)]; exact h7 g hg
theorem fr_keep {a n : Nat} {z : St} : Fr ([25, 24] ++ XS) ([23, 26, 25, 26] ++ XA) z (keepX a n z) := ((Fr.rf.sF (by decide)).sI (by decide)).sI (by decide)
theorem fr_rem {a : Nat} {y : St} : Fr ([119] ++ MS) ([113, 115] ++ MA) y (remY a (sI y 100 0)) := ((Fr.rf.sI (by decide)).sF (by decide)).sI (by decide)
theorem Inv.past {V : Nat} {z y : St} (h : Inv V z y) : ∃ a n, gI z 25 = nI a ∧ gI y 119 = nI a ∧ a ≤ 40 ∧ gI z 24 = nI n ∧ n < 40 := by
  obtain ⟨nd, ng, tl, ln, wn, sn, a, n, v, hH, hT, hL, hW, hS, hTa, hP, hi, hs⟩ := h; exact ⟨a, n, hP.1, hP.2.1, hP.2.2.1, hP.2.2.2.1, hP.2.2.2.2.1⟩
/-- an act that changes cells alone: kept, then the tables' cells -/
theorem Inv.actC {V V' : Nat} {z y z' y' : St} (h : Inv V z y) (hV : V ≤ V') {a n : Nat} (ha : gI z 25 = nI a) (hn : gI z 24 = nI n) (hn4 : n < 40) (ha4 : a ≤ 40) (hz : Fr XS (23 :: XA) (keepX a n z) z') (hy : Fr MS (113 :: MA) (remY a (sI y 100 0)) y')
    (hc : ∀ nd v, gI z 26 = nI nd → nd ≤ 6 → TaI V nd v (gA y 113) (gA z 23) (gA z 26) → TaI V' nd v (gA y' 113) (gA z' 23) (gA z 26)) : Inv V' z' y' := by
  refine h.u_act hV (fr_keep.tr (hz.wk (fun k hk => List.mem_append_right _ hk) (fun k hk => ?_))) (fr_rem.tr (hy.wk (fun k hk => List.mem_append_right _ hk) (fun k hk => ?_))) ?_
  · rcases List.mem_cons.mp hk with e | e
    · subst e; decide
    · exact List.mem_append_right _ e
  · rcases List.mem_cons.mp hk with e | e
    · subst e; decide
    · exact List.mem_append_right _ e
  · intro nd ng v a' n' hH hTa hP
    have ea : a' = a := (nI_eq (by have := hP.2.2.1; omega) (by omega)).mp (hP.1.symm.trans ha)
    have en : n' = n := (nI_eq (by have := hP.2.2.2.2.1; omega) (by omega)).mp (hP.2.2.2.1.symm.trans hn)
    subst ea en
    refine ⟨fun j => v (j - 1), min 40 (a' + 1), (n' + 1) % 40, ?_, ?_⟩
    · rw [show gA z' 26 = gA z 26 from hz.2.1 26 (by decide)]
      exact hc nd (v 0) hH.1 hH.2.2.2.2.1 hTa
    · rw [show gI z' 25 = nI (min 40 (a' + 1)) from hz.1 25 (by decide), show gI z' 24 = nI ((n' + 1) % 40) from hz.1 24 (by decide), show gA z' 25 = va_cpy (gA z 23) (gA z 25) 0 (28 * n') 28 from hz.2.1 25 (by decide), show gA z' 26 = gA z 26 from hz.2.1 26 (by decide), show gI y' 119 = nI (min 40 (a' + 1)) from hy.1 119 (by decide), show gA y' 115 = remR a' (gA y 113) (gA y 115) from hy.2.1 115 (by decide)]
      exact (hP.keep hTa).mono hV
theorem o_pay {V V' : Nat} (hV : V ≤ V') : St_pay (Inv V) (Inv V') := by
  intro z y a1 a2 a3 a4 a5 h
  obtain ⟨nd, ng, mo, wg, q, lk, lw, hz, hy0, hl⟩ := h.ctx
  have hT := h.ta
  have h6 := hl.1
  have g6 := hl.2.1
  have hI : Inv V' z (sI y 100 0) := h.fr hV Fr.rf yt
  have hy := hy0.fr (yt : Fr MS MA y (sI y 100 0)) (by decide) (by decide)
  obtain ⟨a, n, p1, p2, p3, p4, p5⟩ := h.past
  obtain ⟨nd', tb⟩ := h.tb
  unfold S_B_pay
  have no : (∀ g, g < ng → a1 = nI g → 1 ≤ a2 → a2 ≤ 50 → gA z 23 (4 + g) + a2 ≤ 99 → False) → S_M_pay (fun r1 y1 => (-1 : Int32) = r1 ∧ Inv V' z y1) a1 a2 y := fun hn => by
    unfold S_M_pay
    rcases ix_cases a1 (n := ng) (by omega) with c | ⟨g, hg, rfl⟩
    · exact ev (q_M_isGuest_n hy.2.1 c (r01 ⟨rfl, hI⟩))
    · refine ev (q_M_isGuest_y hy.2.1 g6 hg (r11 (q_isIn L1 L50 (fun c1 c2 => r11 ?_) (fun _ => r01 ⟨rfl, hI⟩))))
      rw [k3, pk_mul, show nI (3 * g) + 0 = nI (3 * g) from nI_add _ 0, nI_clamp (by omega), show gA (sI y 100 0) 113 (3 * g) = gA z 23 (4 + g) from (hT.g (show g < 6 by omega)).1]
      exact ⟨(vp_in_nI (by omega) (by omega)), fun c3 => absurd (hn g hg rfl c1 c2 c3) id, fun _ => ⟨rfl, hI⟩⟩
  rcases ix_cases a1 (n := ng) (by omega) with c | ⟨g, hg, rfl⟩
  · refine q_House_hasGuest_n hz.2.1 c (r01 (no (fun g hg e _ _ _ => ?_)))
    rcases c with c | ⟨c, c2⟩
    · subst e; exact nI_pos (by omega) c
    · subst e; exact nI_ge hg (by omega) c2
  · refine q_House_hasGuest_y hz.2.1 g6 hg (r11 ⟨fun c1 => no (fun _ _ _ q _ _ => ?_), fun c1 => ⟨fun c2 => no (fun _ _ _ _ q _ => ?_), fun c2 => ?_⟩⟩)
    · rw [fa_lt] at c1; rw [fa_le] at q; omega
    · rw [fa_lt] at c2; rw [fa_le] at q; omega
    · unfold S_Table_moneyOf_8
      rw [k4, nI_add, nI_clamp (by omega)]
      refine ⟨(vp_in_nI (by omega) (by omega)), fun c3 => ?_, fun c3 => no (fun g' hg' e' _ _ q => c3 ?_)⟩
      · obtain ⟨m, hm, em⟩ := tb.2.2.2.2.1 g (by omega)
        obtain ⟨x, hx, rfl⟩ := nI_of2 (M := 50) (n := 50) (by decide) (fun q => c1 (by rw [fa_lt, ti0] at q; rw [fa_lt, show (1 : Int32).toInt = 1 by decide]; omega)) (fa_of_nlt c2)
        have x1 : 1 ≤ x := by rw [k1, nI_ltI (by omega) (by omega)] at c1; omega
        have s99 : m + x ≤ 99 := by rw [em, nI_add, k99, nI_leI (by omega) (by omega)] at c3; exact c3
        refine q_keep p1 p3 p4 p5 ?_
        unfold S_Table_give_8 S_Math_min_7cf53_X
        rw [k4, nI_add, nI_clamp (by omega), show gA (keepX a n z) 23 (4 + g) = nI m from em, nI_add, k99, nI_ltI (by omega) (by omega)]
        have key : ∀ r, r = nI (m + x) → (vp_in (nI (4 + g)) 28 ∧ ∀ z2 : St, z2 = sA (keepX a n z) 23 (4 + g) r → (vp_in (nI (4 + g)) 28 ∧ S_M_pay (fun r1 y1 => gA z2 23 (4 + g) = r1 ∧ Inv V' z2 y1) (nI g) (nI x) y)) := fun r hr => by
          subst hr
          refine ⟨(vp_in_nI (by omega) (by omega)), ev ?_⟩
          unfold S_M_pay
          refine ⟨(vp_in_nI (by omega) (by omega)), ev (q_M_isGuest_y hy.2.1 g6 hg (r11 (q_isIn L1 L50 (fun _ _ => r11 ?_) (fun q => ?_))))⟩
          · have t1 : gA (sI y 100 0) 113 (3 * g) = nI m := (hT.g (show g < 6 by omega)).1.trans em
            rw [k3, pk_mul, show nI (3 * g) + 0 = nI (3 * g) from nI_add _ 0, nI_clamp (by omega), t1, nI_add]
            refine ⟨(vp_in_nI (by omega) (by omega)), pp_y (by rw [k99, nI_leI (by omega) (by omega)]; exact s99) (q_rem p2 p3 ⟨(vp_in_nI (by omega) (by omega)), (vp_in_nI (by omega) (by omega)), ev ⟨(vp_in_nI (by omega) (by omega)), ?_, ?_⟩⟩)⟩
            · rw [show gA (remY a (sI y 100 0)) 113 (3 * g) = nI m from t1, nI_add, gA_sA, if_pos rfl, pk_us, gA_sA, if_pos rfl, pk_us]
            · rw [show gA (remY a (sI y 100 0)) 113 (3 * g) = nI m from t1, nI_add]
              refine h.actC hV p1 p4 p5 p3 (Fr.rf.sA (by decide)) (Fr.rf.sA (by decide)) (fun nd v _ _ tv => ?_)
              obtain ⟨w1, w2, w3, w4, w5⟩ := tv.mono hV
              refine ⟨w1.up (by omega) (pi_m (by omega)) _, w2.money (by omega) (by omega), ?_, w4, w5.cg (fun k hk _ => ?_) (fun _ _ _ _ => rfl)⟩
              · exact (pk_un (by omega)).trans w3
              · exact pk_un (by omega)
          · exfalso
            rcases q with q | q
            · rw [k1, nI_ltI (by omega) (by omega)] at q; omega
            · rw [k50, nI_ltI (by omega) (by omega)] at q; omega
        exact ⟨(vp_in_nI (by omega) (by omega)), fun c => key _ rfl, fun c => key _ (by rw [show m + x = 99 by omega])⟩
      · have eg : g' = g := (nI_eq (by omega) (by omega)).mp e'.symm
        subst eg; exact q
theorem o_price {V V' : Nat} (hV : V ≤ V') : St_price (Inv V) (Inv V') := by
  intro z y a1 a2 a3 a4 a5 h
  obtain ⟨nd, ng, mo, wg, q, lk, lw, hz, hy0, hl⟩ := h.ctx
  have hT := h.ta
  have h6 := hl.1
  have g6 := hl.2.1
  have hI : Inv V' z (sI y 100 0) := h.fr hV Fr.rf yt
  have hy := hy0.fr (yt : Fr MS MA y (sI y 100 0)) (by decide) (by decide)
  obtain ⟨a, n, p1, p2, p3, p4, p5⟩ := h.past
  unfold S_B_price
  rcases ix_cases a1 (n := nd) (by omega) with c | ⟨d, hd, rfl⟩
  · refine q_House_hasDrink_n hz.1 c (r01 ?_)
    unfold S_M_price
    exact ev (q_M_isDrink_n hy.1 c (r01 ⟨rfl, hI⟩))
  · have t1 : gA (sI y 100 0) 113 (18 + d) = gA z 23 (22 + d) := hT.d (show d < 6 by omega)
    have no : (a2 < 0 ∨ 60 < a2 ∨ a2 = gA z 23 (22 + d)) → S_M_price (fun r1 y1 => (-1 : Int32) = r1 ∧ Inv V' z y1) (nI d) a2 y := fun c => by
      unfold S_M_price
      refine ev (q_M_isDrink_y hy.1 h6 hd (r11 (q_isIn L0 L60 (fun c1 c2 => r11 ?_) (fun _ => r01 ⟨rfl, hI⟩))))
      rw [k18, nI_add, nI_clamp (by omega), t1]
      refine ⟨(vp_in_nI (by omega) (by omega)), pp_y ?_ ⟨rfl, hI⟩⟩
      rcases c with c | c | c
      · exfalso; rw [fa_lt] at c; rw [fa_le] at c1; omega
      · exfalso; rw [fa_lt] at c; rw [fa_le] at c2; omega
      · exact c.symm
    refine q_House_hasDrink_y hz.1 h6 hd (r11 ⟨fun c1 => no (.inl c1), fun c1 => ⟨fun c2 => no (.inr (.inl c2)), fun c2 => ?_⟩⟩)
    unfold S_Table_priceOf_8
    rw [k22, nI_add, nI_clamp (by omega)]
    refine ⟨(vp_in_nI (by omega) (by omega)), fun c3 => no (.inr (.inr c3)), fun c3 => ⟨(vp_in_nI (by omega) (by omega)), q_keep p1 p3 p4 p5 ?_⟩⟩
    obtain ⟨x, hx, rfl⟩ := nI_of2 (M := 60) (n := 60) (by decide) c1 (fa_of_nlt c2)
    unfold S_Table_setPrice_8 S_M_price
    rw [k22, nI_add, nI_clamp (by omega)]
    refine ⟨(vp_in_nI (by omega) (by omega)), ev (ev (q_M_isDrink_y hy.1 h6 hd (r11 (q_isIn L0 L60 (fun _ _ => r11 ?_) (fun q => ?_)))))⟩
    · rw [k18, nI_add, nI_clamp (by omega), t1]
      refine ⟨(vp_in_nI (by omega) (by omega)), pp_n (fun q => c3 q.symm) (q_rem p2 p3 ⟨(vp_in_nI (by omega) (by omega)), ev ⟨(vp_in_nI (by omega) (by omega)), ev ⟨t1.symm, ?_⟩⟩⟩)⟩
      refine h.actC hV p1 p4 p5 p3 (Fr.rf.sA (by decide)) (Fr.rf.sA (by decide)) (fun nd v _ _ tv => ?_)
      obtain ⟨w1, w2, w3, w4, w5⟩ := tv.mono hV
      refine ⟨w1.up (by omega) (pi_p (by omega)) _, w2.price (by omega) (by omega), ?_, w4, w5.cg (fun k hk _ => ?_) (fun _ _ _ _ => rfl)⟩
      · exact (pk_un (by omega)).trans w3
      · exact pk_un (by omega)
    · exfalso
      rcases q with q | q
      · exact c1 q
      · exact c2 q
