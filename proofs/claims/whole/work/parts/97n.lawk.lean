/-! laws: text -/
theorem q_cpT {post : Int32 → St → Prop} {y : St} {ln n : Nat} (hw : gI y 102 = nI ln) (h4 : ln < 4) (h240 : n ≤ 240) (hp : post (nI ln) (sI (sA (sF y 102 (fb_put (gA y 102) (fun k => vp_nar .byte (gA y 101 k)) (240 * ln) n)) 103 ln (nI n)) 102 (nI (ln + 1)))) : ∃ k, L_M_text_71 post k (nI n) (0 : Int32) y := by
  have h0 : y = sF y 102 (fb_put (gA y 102) (fun k => vp_nar .byte (gA y 101 k)) (240 * ln) 0) := by rw [fb_put_0, sF_id]
  rw [h0]
  refine lp_up (fun k i => L_M_text_71 post k (nI n) (nI i) (sF y 102 (fb_put (gA y 102) (fun k => vp_nar .byte (gA y 101 k)) (240 * ln) i))) n ?_ ?_
  · intro k i hi ih
    show B_M_text_71 post _ _ _ _
    unfold B_M_text_71
    rw [show gI (sF y 102 (fb_put (gA y 102) (fun k => vp_nar .byte (gA y 101 k)) (240 * ln) i)) 102 = nI ln from hw, show (240 : Int32) = nI 240 from rfl, pk_mul, nI_add, nI_clamp (n := 240 * ln + i) (by omega), nI_clamp (n := i) (by omega), nI_leI (by omega) (by omega), nI_1]
    refine pp_n (by omega) ⟨(vp_in_nI (by omega) (by omega)), (vp_in_nI (by omega) (by omega)), ev (ev ?_)⟩
    have e := fb_put_succ (gA y 102) (fun k => vp_nar .byte (gA y 101 k)) (240 * ln) i
    rw [sA_sF, gA_sF, if_neg (by decide), e]
    exact ih
  · show B_M_text_71 post _ _ _ _
    unfold B_M_text_71
    rw [show gI (sF y 102 (fb_put (gA y 102) (fun k => vp_nar .byte (gA y 101 k)) (240 * ln) n)) 102 = nI ln from hw, nI_clamp (n := ln) (by omega)]
    refine pp_y (Int32.le_refl _) ⟨(vp_in_nI (by omega) (by omega)), ev (ev ?_)⟩
    show post (gI (sI (sA (sF y 102 (fb_put (gA y 102) (fun k => vp_nar .byte (gA y 101 k)) (240 * ln) n)) 103 ln (nI n)) 102 (gI y 102 + 1)) 102 - 1) (sI (sA (sF y 102 (fb_put (gA y 102) (fun k => vp_nar .byte (gA y 101 k)) (240 * ln) n)) 103 ln (nI n)) 102 (gI y 102 + 1))
    rw [hw, nI_1, show gI (sI (sA (sF y 102 (fb_put (gA y 102) (fun k => vp_nar .byte (gA y 101 k)) (240 * ln) n)) 103 ln (nI n)) 102 (nI (ln + 1))) 102 = nI (ln + 1) from rfl, nI_pred]
    exact hp
theorem LawM.cg {T T' : Nat → Int32} {n : Nat} {ev : (Nat → Int32) → Int32} (h : LawM T n ev) (e : ∀ i, i < n → T' i = T i) : LawM T' n ev :=
  fun y k post h4 hT hm hp => h y k post h4 (fun i hi => (hT i hi).trans (e i hi)) hm hp
theorem LZ.la {z : St} {s : SL} (h : LZ z s) : LA s.2.1 s.2.2 z := by
  obtain ⟨⟨aw, st, cm, di, wi⟩, W, CR⟩ := s
  exact h.2.2.2.2.2
theorem go102_fr {B n : Nat} {y : St} : Fr RD [] y (goY102 B n y) := (((((((Fr.rf.sT.sI (by decide)).sI (by decide)).sI (by decide)).sI (by decide)).sI (by decide)).sI (by decide)).sI (by decide)).sI (by decide)
theorem LawM_of {z : St} {n : Nat} {T : Nat → Int32} (h240 : n ≤ 240) (hT : ∀ i, i < n → tpB z i < 256 ∧ T i = (nI (tpB z i)).toInt8.toInt32) (hr : (resL z n).1 = none) : LawM T n (fun L => wrt L (resL z n).2.2.2.reverse [] false) := by
  intro y h post h4 hy hm hp
  rw [show (240 : Int32) = nI 240 from rfl, pk_mul]
  have hR : RX (tpB z) n (240 * h) 102 (goY102 (240 * h) n y) := ⟨rfl, .inr ⟨rfl, by omega⟩, rfl, rfl, fun i hi => ⟨(hT i hi).1, (hy i hi).trans (hT i hi).2⟩⟩
  refine q_go102 (st := gI z 17) (cm := gI z 18) (di := gI z 19) h240 hR (fun y' hE => hp y' (go102_fr.tr (hE.1.wk (by decide) (by decide))) ?_)
  have hk := hE.2.2 hr
  have e0 : lets (gA (goY102 (240 * h) n y) 104) = lets (gA y 104) := rfl
  rw [e0] at hk
  show gI y' 109 = wrt (lets (gA y 104)) (resL z n).2.2.2.reverse [] false
  rcases hk with ⟨_, k2, k3⟩ | ⟨_, k3⟩
  · have := k3 hm []
    rw [List.append_nil] at this
    exact k2.trans this.symm
  · have := k3 hm []
    rw [List.append_nil] at this
    exact this.symm
theorem LawI.add {ln : Nat} {a b e f : Int32} {zz zz' : Nat → Nat} {zc zc' : Nat → Nat → Int32} {yt yl yt' yl' : Nat → Int32} (h : LawI ln a b zz zc e f yt yl) (h4 : ln < 4) {n : Nat} {ev : (Nat → Int32) → Int32} (h240 : n ≤ 240) (hz : ∀ k, k < ln → zz' (8 + (4 + k)) = zz (8 + (4 + k))) (hc : ∀ k, k < ln → zc' (32 + (4 + k)) = zc (32 + (4 + k))) (ht : ∀ j, j < 240 * ln → yt' j = yt j) (hl : ∀ j, j < ln → yl' j = yl j) (hlN : yl' ln = nI n) (hC : LawC (zc' (32 + (4 + ln))) (zz' (8 + (4 + ln))) ev) (hM : LawM (fun i => yt' (240 * ln + i)) n ev) : LawI (ln + 1) (nI (ln + 1)) b zz' zc' (nI (ln + 1)) f yt' yl' := by
  obtain ⟨h1, h2, h3, h5, h6⟩ := h
  refine ⟨rfl, rfl, by omega, h5.imp id (fun ⟨k, k1, k2⟩ => ⟨k, by omega, k2⟩), fun k hk => ?_⟩
  by_cases ek : k = ln
  · subst ek
    exact ⟨n, ev, h240, hlN, hC, hM⟩
  · obtain ⟨m, ev', e1, e2, e3, e4⟩ := h6 k (by omega)
    refine ⟨m, ev', e1, (hl k (by omega)).trans e2, ?_, e4.cg (fun i hi => ht _ (by omega))⟩
    rw [hz k (by omega), hc k (by omega)]
    exact e3
theorem Inv.lawE {V : Nat} {z y : St} (h : Inv V z y) : ∃ ln, LawI ln (gI z 30) (gI z 31) (gZ z) (gA z) (gI y 102) (gI y 117) (gA y 102) (gA y 103) := by
  obtain ⟨nd, ng, tl, ln, wn, sn, a, n, v, hH, hT, hL, _⟩ := h
  exact ⟨ln, hL⟩
theorem rev_at (l : List Int32) {j : Nat} (h : j < l.length) : l.getD (l.length - 1 - j) 0 = l.reverse.getD j 0 := by
  rw [List.getD_eq_getElem?_getD, List.getD_eq_getElem?_getD, List.getElem?_reverse h]
theorem o_text_v1 {V V' : Nat} (hV : V ≤ V') : St_text_v1 (Inv V) (Inv V') := by
  intro z y a1 a2 a3 a4 a5 h e
  subst e
  obtain ⟨n, t1, t2, t3, t4⟩ := h.tape
  obtain ⟨ln, hL⟩ := h.lawE
  have l4 := hL.2.2.1
  have e102 := hL.2.1
  unfold S_B_text_v1 S_B_readerOf_v1
  refine ⟨by decide, rfl, q_faultL t1 t3 (fun i hi => ⟨(t4 i hi).1, (t4 i hi).2.1⟩) (fun z' hf hw => ?_)⟩
  have fz : Fr XS XA z z' := hf.wk (by decide) (by decide)
  have hIz : Inv V' z' (sI y 100 0) := h.fr hV fz yt
  have hle : ∀ f, (resL z n).1 = some f → f ≤ n := fun f q => runR_le (n - 0) 0 _ (by omega) q
  have mY : ln < 4 → ∀ P : Int32 → St → Prop, (∀ y', OkG (tpB z) n 0 (mkW 0 (gI z 17) (gI z 18) (gI z 19) [] []) (goY101 0 n (sI (sI y 100 0) 100 0)) y' → ((resL z n).1 = none → ∃ k, L_M_text_71 P k (gI y' 101) 0 (sI y' 101 0)) ∧ (¬ (resL z n).1 = none → P (-1) y')) → S_M_text P 1 y := fun h4 P hP => by
    unfold S_M_text B_M_text_30 B_M_text_43
    refine ev (q_isIn_y (j := 1) (m := 2) L2 (by omega) (by omega) (r11 (pp_y rfl ?_)))
    rw [show gI (sI y 100 0) 102 = nI ln from e102, k4, nI_eq (by omega) (by omega)]
    refine pp_n (by omega) (pp_n (by decide) (q_fault1 (z := z) (y := sI y 100 0) t2 t3 (fun i hi => ⟨(t4 i hi).1, (t4 i hi).2.2⟩) (fun y' hE => ?_)))
    have hP := hP y' hE
    rw [faI_ne (by omega) hle]
    exact ⟨fun c => ev (ev (pp_y rfl (hP.1 c))), fun c => hP.2 c⟩
  have early : ln = 4 → ∀ z2, Inv V' z2 (sI y 100 0) → S_M_text (fun r1 y1 => (-1 : Int32) = r1 ∧ Inv V' z2 y1) 1 y := fun h4 z2 hI2 => by
    unfold S_M_text
    refine ev (q_isIn_y (j := 1) (m := 2) L2 (by omega) (by omega) (r11 (pp_y rfl ?_)))
    rw [show gI (sI y 100 0) 102 = nI ln from e102, h4]
    exact pp_y rfl ⟨rfl, hI2⟩
  rw [faI_ne (by omega) hle]
  refine ⟨fun c => ⟨by decide, rfl, ?_⟩, fun c => ?_⟩
  · obtain ⟨w1, w2, w3, w5, w6, w7⟩ := (hw c).la
    unfold S_Laws_add_r3
    have e0 : gI z' 30 = nI ln := (hf.1 30 (by decide)).trans hL.1
    rw [e0, k4, nI_ltI (by omega) (by omega)]
    refine ⟨fun h4 => ?_, fun h4 => ?_⟩
    · unfold S_LawReader_codeRead S_copy_14
      rw [w1, nI_clamp (n := (resL z n).2.2.2.length) (by omega), nI_clamp (n := ln) (by omega)]
      refine ⟨nI_pos (by omega), w2, fun f hfj q2 => ⟨(vp_in_nI (by omega) (by omega)), ev (ev ?_)⟩⟩
      rw [show gI (sNew z' 4 ln q2 (resL z n).2.2.2.length f) 30 = nI ln from e0, nI_1, show gI (sI (sNew z' 4 ln q2 (resL z n).2.2.2.length f) 30 (nI (ln + 1))) 30 = nI (ln + 1) from rfl, nI_pred]
      unfold B_B_text_v1_61
      refine pp_n (fun q => (nI_m1 (by omega)).mp q) (ev ?_)
      refine mY h4 _ (fun y' hE => ⟨fun _ => ?_, fun q => absurd c q⟩)
      have fy : Fr MS MA y y' := (Fr.rf.sI (by decide)).tr (fl_ty hE.1)
      rw [(fy.1 101 (by decide)).trans t2]
      refine q_cpT (y := sI y' 101 0) ((fy.1 102 (by decide)).trans e102) h4 t3 ⟨rfl, ?_⟩
      refine h.u_TLW hV (fun k hk => ?_) (fun k hk => ?_) (fun k hk => ?_) (fun k hk => ?_) (fun tl ln' wn hT hL' hW => ⟨0, ln + 1, wn, ?_, ?_, ?_⟩)
      · rw [gI_sI, if_neg (by revert k; decide), gI_sI, if_neg (by revert k; decide)]
        exact hf.1 k (by revert k; decide)
      · show gA (sNew z' 4 ln q2 (resL z n).2.2.2.length f) k = gA z k
        unfold sNew
        rw [gA_sF, if_neg (by intro q; subst q; simp at hk; omega)]
        exact hf.2.1 k (by revert k; decide)
      · rw [gI_sI, if_neg (by revert k; decide)]
        show gI (sI y' 101 0) k = _
        rw [gI_sI, if_neg (by revert k; decide)]
        exact fy.1 k (by revert k; decide)
      · show gA (sA (sF (sI y' 101 0) 102 _) 103 ln _) k = _
        rw [gA_sA, if_neg (by revert k; decide), gA_sF, if_neg (by revert k; decide)]
        exact fy.2.1 k (by revert k; decide)
      · exact ⟨rfl, rfl, by omega, fun i hi => absurd hi (Nat.not_lt_zero _)⟩
      · show LawI (ln + 1) (nI (ln + 1)) (gI z' 31) (gZ (sNew z' 4 ln q2 (resL z n).2.2.2.length f)) (gA (sNew z' 4 ln q2 (resL z n).2.2.2.length f)) (nI (ln + 1)) (gI y' 117) (fb_put (gA y' 102) (fun k => vp_nar .byte (gA y' 101 k)) (240 * ln) n) (upd (gA y' 103) ln (nI n))
        rw [hf.1 31 (by decide), fy.1 117 (by decide), fy.2.1 102 (by decide), fy.2.1 103 (by decide), fy.2.1 101 (by decide)]
        refine hL.add h4 (n := n) (ev := fun L => wrt L (resL z n).2.2.2.reverse [] false) t3 (fun k hk => ?_) (fun k hk => ?_) (fun j hj => fb_put_out (by omega)) (fun j hj => pk_un (by omega)) (pk_us) ?_ ?_
        · unfold sNew
          rw [gZ_sF, gZ_sZ, if_neg (by omega), gZ_sZ, if_neg (by omega), hf.2.2.1]
        · unfold sNew
          rw [gA_sF, if_neg (by omega)]
          exact hf.2.1 (32 + (4 + k)) (by intro q; simp at q; omega)
        · have eN : gZ (sNew z' 4 ln q2 (resL z n).2.2.2.length f) (8 + (4 + ln)) = (resL z n).2.2.2.reverse.length := by
            unfold sNew
            rw [gZ_sF, gZ_sZ, if_pos rfl, List.length_reverse]
          have eF : gA (sNew z' 4 ln q2 (resL z n).2.2.2.length f) (32 + (4 + ln)) = f := by
            unfold sNew
            rw [gA_sF, if_pos rfl]
          rw [eN, eF]
          refine LawC_of (by rw [List.length_reverse]; exact w2) (fun j hj => ?_)
          rw [List.length_reverse] at hj
          rw [hfj j hj, w6 j hj]
          exact rev_at _ hj
        · refine LawM_of t3 (fun i hi => ⟨(t4 i hi).1, ?_⟩) c
          show fb_put (gA y 102) (fun k => vp_nar .byte (gA y 101 k)) (240 * ln) n (240 * ln + i) = _
          rw [fb_put_in (by omega) (by omega), show 240 * ln + i - 240 * ln = i by omega, (t4 i hi).2.2]
          exact fb_byte_twice _
      · show WinI wn (gI z' 0) (gZ (sNew z' 4 ln q2 (resL z n).2.2.2.length f)) (gA (sNew z' 4 ln q2 (resL z n).2.2.2.length f)) (gI y' 115) (gA y' 111) (gA y' 112)
        rw [hf.1 0 (by decide), fy.1 115 (by decide), fy.2.1 111 (by decide), fy.2.1 112 (by decide)]
        refine hW.cg (fun k h1 h2 => ?_) (fun k h1 h2 => ?_)
        · unfold sNew
          rw [gZ_sF, gZ_sZ, if_neg (by omega), gZ_sZ, if_neg (by omega), hf.2.2.1]
        · unfold sNew
          rw [gA_sF, if_neg (by omega)]
          exact hf.2.1 k (by intro q; simp at q; omega)
    · unfold B_B_text_v1_61
      exact pp_y rfl (early (by omega) z' hIz)
  · by_cases h4 : ln < 4
    · exact mY h4 _ (fun y' hE => ⟨fun q => absurd q c, fun _ => ⟨rfl, h.fr hV fz ((Fr.rf.sI (by decide)).tr (fl_ty hE.1))⟩⟩)
    · exact early (by omega) z' hIz
