/-! houses: fault and text -/
def s0H : SH := mkH 0 0 0 0 0 0 0 0 0 (begV 0 0 (fun _ => 0))
def resH (z : St) (n : Nat) : Option Nat × SH := runR (tpB z) n (stepH (tpB z) n) clH n 0 s0H
theorem q_startH {post : St → Prop} {z : St} (hp : ∀ z', Fr HF [13] z z' → HZ z' s0H → post z') : S_HouseReader_start post z := by
  unfold S_HouseReader_start
  refine ev (ev (ev ?_))
  show S_HouseReader_begin _ (2 + 0) (nI (fi 0)) (nI 0) _
  refine q_begin (kd := 0) (by omega) (by decide) (fun z' hf e4 e5 e6 eT e3 e7 e8 e9 e11 eA => ev (hp _ (((((Fr.rf.sI (by decide)).sI (by decide)).sI (by decide)).tr hf).sI (by decide)) ?_))
  refine ⟨rfl, by omega, e4, by omega, e5, by omega, e6, by omega, fun q => absurd rfl q, fun j hj => ?_, fun d hd => absurd hd (Nat.not_lt_zero _), fun g hg => absurd hg (Nat.not_lt_zero _)⟩
  show gA z' 13 j = nI (begV 0 0 (fun _ => 0) j) ∧ begV 0 0 (fun _ => 0) j ≤ moN j
  have hj3 : 0 ≤ j ∧ j < 0 + cn 0 := ⟨by omega, by show j < 0 + 3; omega⟩
  unfold begV
  rw [eA j, if_pos hj3, if_pos hj3, show fi 0 + (j - 0) = j by show 0 + (j - 0) = j; omega]
  exact ⟨rfl, us_mo j (by omega)⟩
theorem q_faultH {post : Int32 → St → Prop} {z : St} {n : Nat} (hn : gI z 2 = nI n) (h240 : n ≤ 240) (hT : ∀ i, i < n → tpB z i < 256 ∧ gA z 12 i = nI (tpB z i)) (hp : ∀ z', Fr HF [13] z z' → ((resH z n).1 = none → HZ z' (resH z n).2) → post (faI (resH z n).1) z') : S_Reader_faultOf_2_r1 post z := by
  unfold S_Reader_faultOf_2_r1
  refine q_startH (fun z1 hf hH => ⟨n + 1, ?_⟩)
  exact flt_H h240 (fun i hi => (hT i hi).1) n 0 (by omega) z1 s0H 0 post rfl ((hf.1 2 (by decide)).trans hn) (fun i hi => by rw [hf.2.1 12 (by decide)]; exact (hT i hi).2) hH (fun z' hf2 hw => hp z' (hf.tr hf2) hw) _ (Nat.le_refl _)
theorem q_readHouse {post : St → Prop} {z y : St} {n : Nat} (hn : gI y 101 = nI n) (h240 : n ≤ 240) (hT : ∀ i, i < n → tpB z i < 256 ∧ gA y 101 i = (nI (tpB z i)).toInt8.toInt32) (hp : ∀ y', endH (rdY n y) y' (resH z n) → post y') : S_M_readHouse post y := by
  unfold S_M_readHouse S_M_starts_r101
  rw [hn]
  refine ev (ev (ev (ev (ev (ev (ev (ev ?_)))))))
  generalize hy1 : sI (sI (sI (sI (sI (sI (sI (sT y 1 101) 103 0) 104 (nI n)) 105 0) 106 (-1)) 113 0) 114 0) 116 0 = y1
  have f1 : Fr FHI FHA (rdY n y) y1 := by rw [← hy1]; exact ((Fr.rf.sI (by decide)).sI (by decide)).sI (by decide)
  have R1 : RX (tpB z) n 0 101 y1 := by
    rw [← hy1]
    exact (((rdY_RX h240 hT).sI (by decide) (by decide)).sI (by decide) (by decide)).sI (by decide) (by decide)
  have h0 : y1 = sF y1 106 (fb_put (gA y1 106) (fun l => nI (usN (fi 0 + l))) 0 0) := by rw [fb_put_0, sF_id]
  have e105 : gI y1 105 = nI 0 := by rw [← hy1]; rfl
  have e106 : gI y1 106 = -1 := by rw [← hy1]; rfl
  have e113 : gI y1 113 = nI 0 := by rw [← hy1]; rfl
  have e114 : gI y1 114 = nI 0 := by rw [← hy1]; rfl
  have e116 : gI y1 116 = nI 0 := by rw [← hy1]; rfl
  rw [h0]
  refine lp_up (fun m i => L_M_readHouse_30 post m (nI i) (sF y1 106 (fb_put (gA y1 106) (fun l => nI (usN (fi 0 + l))) 0 i))) 3 ?_ ?_
  · intro m i hi ih
    show B_M_readHouse_30 post _ _ _
    unfold B_M_readHouse_30
    refine pp_n (show ¬ nI 3 ≤ nI i from nI_ge hi (by omega)) (q_usual0 hi ?_)
    rw [nI_clamp (by omega), nI_1]
    refine ⟨(vp_in_nI (by omega) (by omega)), ev (ev ?_)⟩
    have e := fb_put_succ (gA y1 106) (fun l => nI (usN (fi 0 + l))) 0 i
    rw [Nat.zero_add] at e
    rw [sA_sF, e]
    exact ih
  · show B_M_readHouse_30 post _ _ _
    unfold B_M_readHouse_30
    refine pp_y (by decide) ⟨15, ?_⟩
    exact house_M (T := tpB z) (n := n) (B := 0) (r := 101) (y0 := rdY n y) 13 (sF y1 106 (fb_put (gA y1 106) (fun l => nI (usN (fi 0 + l))) 0 3)) 0 0 0 0 0 0 0 0 0 (begV 0 0 (fun _ => 0)) (by omega) (R1.sF (by decide) (by decide)) e105 (by omega) e106 e113 e114 e116 (by omega) (by omega) (by omega) ⟨fun j hj => vb_go (c := 3) rfl (by decide) (fun q => by omega) (by omega) (by omega), fun d hd => absurd hd (Nat.not_lt_zero _), fun g hg => absurd hg (Nat.not_lt_zero _)⟩ (f1.sF (by decide)) hp 15 (by omega)
theorem q_fault0 {post : Int32 → St → Prop} {z y : St} {n : Nat} (hn : gI y 101 = nI n) (h240 : n ≤ 240) (hT : ∀ i, i < n → tpB z i < 256 ∧ gA y 101 i = (nI (tpB z i)).toInt8.toInt32) (hp : ∀ y', endH (rdY n (sI y 100 0)) y' (resH z n) → post (faI (resH z n).1) y') : S_M_fault post (0 : Int32) y := by
  unfold S_M_fault B_M_fault_28 B_M_fault_46 B_M_fault_55
  refine ev (q_isIn_y (j := 0) (m := 2) L2 (by omega) (by omega) (r11 (pp_y rfl (q_readHouse (y := sI y 100 0) hn h240 hT (fun y' hE => pp_n (by decide) (pp_n (by decide) ?_))))))
  rw [hE.2.1]
  exact hp y' hE
theorem fh_ty {n : Nat} {y y' : St} (h : Fr FHI FHA (rdY n (sI y 100 0)) y') : Fr MS MA y y' := (((Fr.rf.sI (by decide)).tr (rdY_fr.wk (fun _ h => h) (by decide))).tr (h.wk (by decide) (by decide)))
theorem o_fault_v0 {V V' : Nat} (hV : V ≤ V') : St_fault_v0 (Inv V) (Inv V') := by
  intro z y a1 a2 a3 a4 a5 h e
  subst e
  obtain ⟨n, t1, t2, t3, t4⟩ := h.tape
  unfold S_B_fault_v0 S_B_readerOf_v0
  refine ⟨rfl, q_faultH t1 t3 (fun i hi => ⟨(t4 i hi).1, (t4 i hi).2.1⟩) (fun z' hf hw => q_fault0 (z := z) t2 t3 (fun i hi => ⟨(t4 i hi).1, (t4 i hi).2.2⟩) (fun y' hE => ⟨rfl, ?_⟩))⟩
  exact h.fr hV (hf.wk (by decide) (by decide)) (fh_ty hE.1)
/-! a house settles -/
theorem q_fill23 {post : St → Prop} {z : St} (h : post (sF z 23 (fa_fill (fun _ => 0) (gA z 23) 28))) : S_Arrays_fill_53178_X_r23 post (0 : Int32) z := by
  unfold S_Arrays_fill_53178_X_r23
  have h0 : z = sF z 23 (fa_fill (fun _ => 0) (gA z 23) 0) := by rw [fa_fill_0, sF_id]
  rw [h0]
  refine lp_up (fun n i => L_Arrays_fill_53178_X_r23_5 post n 0 (nI i) 28 (sF z 23 (fa_fill (fun _ => 0) (gA z 23) i))) 28 ?_ ?_
  · intro n i hi ih
    show B_Arrays_fill_53178_X_r23_5 post _ _ _ _ _
    unfold B_Arrays_fill_53178_X_r23_5
    rw [show (28 : Int32) = nI 28 from rfl, nI_leI (by omega) (by omega), nI_clamp (by omega), nI_1]
    refine pp_n (by omega) ⟨(vp_in_nI (by omega) (by omega)), ev (ev ?_)⟩
    rw [sA_sF, fa_fill_succ (fun _ => 0) (gA z 23) i]
    exact ih
  · show B_Arrays_fill_53178_X_r23_5 post _ _ _ _ _
    unfold B_Arrays_fill_53178_X_r23_5
    exact pp_y (by decide) h
theorem q_set34 {post : St → Prop} {z : St} {dt : Nat} (h26 : gI z 26 = nI dt) (h6 : dt ≤ 6) (h : ∃ n, L_House_settle_r2_61 post n 0 (sF z 18 (fa_fill (fun d => gA z 13 (3 + 2 * d)) (gA z 18) dt))) : ∃ n, L_House_settle_r2_34 post n 0 z := by
  have h0 : z = sF z 18 (fa_fill (fun d => gA z 13 (3 + 2 * d)) (gA z 18) 0) := by rw [fa_fill_0, sF_id]
  rw [h0]
  refine lp_up (fun n i => L_House_settle_r2_34 post n (nI i) (sF z 18 (fa_fill (fun d => gA z 13 (3 + 2 * d)) (gA z 18) i))) dt ?_ ?_
  · intro n i hi ih
    show B_House_settle_r2_34 post _ _ _
    unfold B_House_settle_r2_34 S_HouseReader_qualityTold
    rw [show gI (sF z 18 (fa_fill (fun d => gA z 13 (3 + 2 * d)) (gA z 18) i)) 26 = nI dt from h26, k3, k2, pk_mul, nI_add, nI_leI (by omega) (by omega), nI_clamp (n := 3 + 2 * i) (by omega), nI_clamp (n := i) (by omega), nI_1]
    refine pp_n (by omega) ⟨(vp_in_nI (by omega) (by omega)), (vp_in_nI (by omega) (by omega)), ev (ev ?_)⟩
    rw [sA_sF]
    show L_House_settle_r2_34 post n (nI (i + 1)) (sF z 18 (upd (fa_fill (fun d => gA z 13 (3 + 2 * d)) (gA z 18) i) i (gA z 13 (3 + 2 * i))))
    rw [fa_fill_succ (fun d => gA z 13 (3 + 2 * d)) (gA z 18) i]
    exact ih
  · show B_House_settle_r2_34 post _ _ _
    unfold B_House_settle_r2_34
    rw [show gI (sF z 18 (fa_fill (fun d => gA z 13 (3 + 2 * d)) (gA z 18) dt)) 26 = nI dt from h26]
    exact pp_y (nI_le (Nat.le_refl _) (by omega)) h
theorem q_set61 {post : St → Prop} {z : St} {gt : Nat} (h27 : gI z 27 = nI gt) (h6 : gt ≤ 6) (h : post (sF z 19 (fa_fill (fun g => gA z 13 (15 + 3 * g)) (gA z 19) gt))) : ∃ n, L_House_settle_r2_61 post n 0 z := by
  have h0 : z = sF z 19 (fa_fill (fun g => gA z 13 (15 + 3 * g)) (gA z 19) 0) := by rw [fa_fill_0, sF_id]
  rw [h0]
  refine lp_up (fun n i => L_House_settle_r2_61 post n (nI i) (sF z 19 (fa_fill (fun g => gA z 13 (15 + 3 * g)) (gA z 19) i))) gt ?_ ?_
  · intro n i hi ih
    show B_House_settle_r2_61 post _ _ _
    unfold B_House_settle_r2_61 S_HouseReader_likeTold
    rw [show gI (sF z 19 (fa_fill (fun g => gA z 13 (15 + 3 * g)) (gA z 19) i)) 27 = nI gt from h27, show (15 : Int32) = nI 15 from rfl, k3, pk_mul, nI_add, nI_leI (by omega) (by omega), nI_clamp (n := 15 + 3 * i) (by omega), nI_clamp (n := i) (by omega), nI_1]
    refine pp_n (by omega) ⟨(vp_in_nI (by omega) (by omega)), (vp_in_nI (by omega) (by omega)), ev (ev ?_)⟩
    rw [sA_sF]
    show L_House_settle_r2_61 post n (nI (i + 1)) (sF z 19 (upd (fa_fill (fun g => gA z 13 (15 + 3 * g)) (gA z 19) i) i (gA z 13 (15 + 3 * i))))
    rw [fa_fill_succ (fun g => gA z 13 (15 + 3 * g)) (gA z 19) i]
    exact ih
  · show B_House_settle_r2_61 post _ _ _
    unfold B_House_settle_r2_61
    rw [show gI (sF z 19 (fa_fill (fun g => gA z 13 (15 + 3 * g)) (gA z 19) gt)) 27 = nI gt from h27]
    exact pp_y (nI_le (Nat.le_refl _) (by omega)) h
theorem q_tab20 {post : St → Prop} {z : St} {dt : Nat} (h26 : gI z 26 = nI dt) (h6 : dt ≤ 6) (h : ∃ n, L_Table_settle_8_r2_53 post n 0 (sF z 23 (fb_put (gA z 23) (fun d => gA z 13 (3 + 2 * d + 1)) 22 dt))) : ∃ n, L_Table_settle_8_r2_20 post n 0 z := by
  have h0 : z = sF z 23 (fb_put (gA z 23) (fun d => gA z 13 (3 + 2 * d + 1)) 22 0) := by rw [fb_put_0, sF_id]
  rw [h0]
  refine lp_up (fun n i => L_Table_settle_8_r2_20 post n (nI i) (sF z 23 (fb_put (gA z 23) (fun d => gA z 13 (3 + 2 * d + 1)) 22 i))) dt ?_ ?_
  · intro n i hi ih
    show B_Table_settle_8_r2_20 post _ _ _
    unfold B_Table_settle_8_r2_20 S_HouseReader_priceTold
    rw [show gI (sF z 23 (fb_put (gA z 23) (fun d => gA z 13 (3 + 2 * d + 1)) 22 i)) 26 = nI dt from h26, k3, k2, pk_mul, nI_add, nI_1 (3 + 2 * i), show (22 : Int32) = nI 22 from rfl, nI_add 22 i, nI_leI (by omega) (by omega), nI_clamp (n := 3 + 2 * i + 1) (by omega), nI_clamp (n := 22 + i) (by omega), nI_1]
    refine pp_n (by omega) ⟨(vp_in_nI (by omega) (by omega)), (vp_in_nI (by omega) (by omega)), ev (ev ?_)⟩
    rw [sA_sF]
    show L_Table_settle_8_r2_20 post n (nI (i + 1)) (sF z 23 (upd (fb_put (gA z 23) (fun d => gA z 13 (3 + 2 * d + 1)) 22 i) (22 + i) (gA z 13 (3 + 2 * i + 1))))
    have e := fb_put_succ (gA z 23) (fun d => gA z 13 (3 + 2 * d + 1)) 22 i
    rw [e]
    exact ih
  · show B_Table_settle_8_r2_20 post _ _ _
    unfold B_Table_settle_8_r2_20
    rw [show gI (sF z 23 (fb_put (gA z 23) (fun d => gA z 13 (3 + 2 * d + 1)) 22 dt)) 26 = nI dt from h26]
    exact pp_y (nI_le (Nat.le_refl _) (by omega)) h
theorem q_tab53 {post : St → Prop} {z : St} {gt : Nat} (h27 : gI z 27 = nI gt) (h6 : gt ≤ 6) (h : ∀ f, (∀ k, f k = if 4 ≤ k ∧ k < 4 + gt then gA z 13 (15 + 3 * (k - 4) + 1) else if 10 ≤ k ∧ k < 10 + gt then gA z 13 (15 + 3 * (k - 10) + 2) else gA z 23 k) → post (sF z 23 f)) : ∃ n, L_Table_settle_8_r2_53 post n 0 z := by
  have lp : ∀ m g, g + m = gt → ∀ f0, (∀ k, f0 k = if 4 ≤ k ∧ k < 4 + g then gA z 13 (15 + 3 * (k - 4) + 1) else if 10 ≤ k ∧ k < 10 + g then gA z 13 (15 + 3 * (k - 10) + 2) else gA z 23 k) → ∀ k, m + 1 ≤ k → L_Table_settle_8_r2_53 post k (nI g) (sF z 23 f0) := by
    intro m
    induction m with
    | zero =>
      intro g hg f0 hf k hk
      obtain ⟨k, rfl⟩ : ∃ j, k = j + 1 := ⟨k - 1, by omega⟩
      show B_Table_settle_8_r2_53 post _ _ _
      unfold B_Table_settle_8_r2_53
      rw [show gI (sF z 23 f0) 27 = nI gt from h27]
      refine pp_y (nI_le (by omega) (by omega)) (h f0 ?_)
      rw [show gt = g by omega]; exact hf
    | succ m ih =>
      intro g hg f0 hf k hk
      obtain ⟨k, rfl⟩ : ∃ j, k = j + 1 := ⟨k - 1, by omega⟩
      show B_Table_settle_8_r2_53 post _ _ _
      unfold B_Table_settle_8_r2_53 S_HouseReader_moneyTold S_HouseReader_moodTold
      rw [show gI (sF z 23 f0) 27 = nI gt from h27, show (15 : Int32) = nI 15 from rfl, k3, k2, pk_mul, nI_add, nI_1 (15 + 3 * g), nI_add (15 + 3 * g) 2, k4, k10, nI_add 4 g, nI_add 10 g, nI_leI (by omega) (by omega), nI_clamp (n := 15 + 3 * g + 1) (by omega), nI_clamp (n := 15 + 3 * g + 2) (by omega), nI_clamp (n := 4 + g) (by omega), nI_clamp (n := 10 + g) (by omega), nI_1]
      refine pp_n (by omega) ⟨(vp_in_nI (by omega) (by omega)), (vp_in_nI (by omega) (by omega)), ev ⟨(vp_in_nI (by omega) (by omega)), (vp_in_nI (by omega) (by omega)), ev (ev ?_)⟩⟩
      rw [sA_sF, sA_sF]
      refine ih (g + 1) (by omega) _ (fun j => ?_) k (by omega)
      show upd (upd f0 (4 + g) (gA z 13 (15 + 3 * g + 1))) (10 + g) (gA z 13 (15 + 3 * g + 2)) j = _
      by_cases c1 : j = 10 + g
      · subst c1
        rw [pk_us, if_neg (by omega), if_pos (by omega), show 10 + g - 10 = g by omega]
      · rw [pk_un c1]
        by_cases c2 : j = 4 + g
        · subst c2
          rw [pk_us, if_pos (by omega), show 4 + g - 4 = g by omega]
        · rw [pk_un c2, hf j]
          by_cases c3 : 4 ≤ j ∧ j < 4 + g
          · rw [if_pos c3, if_pos (by omega)]
          · rw [if_neg c3, if_neg (show ¬ (4 ≤ j ∧ j < 4 + (g + 1)) by omega)]
            by_cases c4 : 10 ≤ j ∧ j < 10 + g
            · rw [if_pos c4, if_pos (show 10 ≤ j ∧ j < 10 + (g + 1) by omega)]
            · rw [if_neg c4, if_neg (show ¬ (10 ≤ j ∧ j < 10 + (g + 1)) by omega)]
  have := lp gt 0 (by omega) (gA z 23) (fun k => by rw [if_neg (by omega), if_neg (by omega)]) _ (Nat.le_refl _)
  rw [sF_id] at this
  exact ⟨_, this⟩
def tabF (v : Nat → Nat) (dt gt : Nat) (k : Nat) : Nat :=
  if k = 0 then v 0 else if 4 ≤ k ∧ k < 4 + gt then v (15 + 3 * (k - 4) + 1) else if 10 ≤ k ∧ k < 10 + gt then v (15 + 3 * (k - 10) + 2) else if 22 ≤ k ∧ k < 22 + dt then v (3 + 2 * (k - 22) + 1) else 0
theorem q_settleH {post : Int32 → St → Prop} {z : St} {aw kd us le di nu rt dt gt : Nat} {v : Nat → Nat} (hH : HZ z ((aw, kd, us, le, di, nu), (rt, dt, gt), v)) (hp : ∀ z', Fr [26, 27, 28, 29, 25, 23, 41] [18, 19, 23] z z' → gI z' 26 = nI dt → gI z' 27 = nI gt → gI z' 28 = nI (v 1) → gI z' 29 = nI (v 2) → gI z' 25 = 0 → gI z' 23 = 0 → gI z' 41 = 0 → (∀ d, d < dt → gA z' 18 d = nI (v (3 + 2 * d))) → (∀ g, g < gt → gA z' 19 g = nI (v (15 + 3 * g))) → (∀ k, k < 28 → gA z' 23 k = nI (tabF v dt gt k)) → post (nI gt) z') : S_B_settleHouse post z := by
  obtain ⟨w3, a2, w4, r1, w5, d6, w6, g6, hA, hV⟩ := hH
  unfold S_B_settleHouse S_House_settle_r2 S_HouseReader_wagesTold S_HouseReader_moreTold
  refine ev (ev (ev (ev ?_)))
  have v1 := hV.1 1 (by omega)
  have v2 := hV.1 2 (by omega)
  have v0 := hV.1 0 (by omega)
  rw [w5, show gI (sI z 26 (nI dt)) 6 = nI gt from w6]
  show ∃ n, L_House_settle_r2_34 _ n 0 (sI (sI (sI (sI z 26 (nI dt)) 27 (nI gt)) 28 (gA z 13 1)) 29 (gA z 13 2))
  rw [v1.1, v2.1]
  refine q_set34 (dt := dt) rfl d6 (q_set61 (gt := gt) rfl g6 ?_)
  unfold S_Table_settle_8_r2 S_HouseReader_bottleTold S_Memory_forgetAll
  refine q_fill23 (ev (q_tab20 (dt := dt) rfl d6 (q_tab53 (gt := gt) rfl g6 (fun f hf => ev (ev (ev ?_))))))
  refine hp _ (((((((((((((Fr.rf.sI (by decide)).sI (by decide)).sI (by decide)).sI (by decide)).sF (by decide)).sF (by decide)).sF (by decide)).sA (by decide)).sF (by decide)).sF (by decide)).sI (by decide)).sI (by decide)).sI (by decide)) rfl rfl rfl rfl rfl rfl rfl (fun d hd => ?_) (fun g hg => ?_) (fun k hk => ?_)
  · show fa_fill (fun d => gA z 13 (3 + 2 * d)) (gA z 18) dt d = _
    rw [fa_fill_in hd]; exact (hV.2.1 d hd 0 (by omega)).1
  · show fa_fill (fun g => gA z 13 (15 + 3 * g)) (gA z 19) gt g = _
    rw [fa_fill_in hg]; exact (hV.2.2 g hg 0 (by omega)).1
  · show f k = _
    rw [hf k]
    show (if 4 ≤ k ∧ k < 4 + gt then gA z 13 (15 + 3 * (k - 4) + 1) else if 10 ≤ k ∧ k < 10 + gt then gA z 13 (15 + 3 * (k - 10) + 2) else fb_put (upd (fa_fill (fun _ => 0) (gA z 23) 28) 0 (gA z 13 0)) (fun d => gA z 13 (3 + 2 * d + 1)) 22 dt k) = _
    unfold tabF
    by_cases c0 : k = 0
    · subst c0
      rw [if_neg (by omega), if_neg (by omega), if_pos rfl, fb_put_out (by omega), pk_us]; exact v0.1
    · rw [if_neg c0]
      by_cases c1 : 4 ≤ k ∧ k < 4 + gt
      · rw [if_pos c1, if_pos c1]; exact (hV.2.2 (k - 4) (by omega) 1 (by omega)).1
      · rw [if_neg c1, if_neg c1]
        by_cases c2 : 10 ≤ k ∧ k < 10 + gt
        · rw [if_pos c2, if_pos c2]; exact (hV.2.2 (k - 10) (by omega) 2 (by omega)).1
        · rw [if_neg c2, if_neg c2]
          by_cases c3 : 22 ≤ k ∧ k < 22 + dt
          · rw [if_pos c3, fb_put_in (by omega) (by omega)]; exact (hV.2.1 (k - 22) (by omega) 1 (by omega)).1
          · rw [if_neg c3, fb_put_out (by omega), pk_un c0, fa_fill_in (by omega)]; rfl
/-! the reference settles a house -/
theorem q_t223 {post : Int32 → St → Prop} {y : St} (h : ∃ n, L_M_text_248 post n 0 (sF y 105 (fa_fill (gA y 106) (gA y 105) 3))) : ∃ n, L_M_text_223 post n 0 y := by
  have h0 : y = sF y 105 (fa_fill (gA y 106) (gA y 105) 0) := by rw [fa_fill_0, sF_id]
  rw [h0]
  refine lp_up (fun n i => L_M_text_223 post n (nI i) (sF y 105 (fa_fill (gA y 106) (gA y 105) i))) 3 ?_ ?_
  · intro n i hi ih
    show B_M_text_223 post _ _ _
    unfold B_M_text_223
    rw [k3, nI_leI (by omega) (by omega), nI_clamp (by omega), nI_1]
    refine pp_n (by omega) ⟨(vp_in_nI (by omega) (by omega)), (vp_in_nI (by omega) (by omega)), ev (ev ?_)⟩
    rw [sA_sF]
    show L_M_text_223 post n (nI (i + 1)) (sF y 105 (upd (fa_fill (gA y 106) (gA y 105) i) i (gA y 106 i)))
    rw [fa_fill_succ (gA y 106) (gA y 105) i]
    exact ih
  · show B_M_text_223 post _ _ _
    unfold B_M_text_223
    exact pp_y (by decide) h
theorem q_t248 {post : Int32 → St → Prop} {y : St} (h : ∃ n, L_M_text_274 post n 0 (sF y 107 (fa_fill (gA y 108) (gA y 107) 12))) : ∃ n, L_M_text_248 post n 0 y := by
  have h0 : y = sF y 107 (fa_fill (gA y 108) (gA y 107) 0) := by rw [fa_fill_0, sF_id]
  rw [h0]
  refine lp_up (fun n i => L_M_text_248 post n (nI i) (sF y 107 (fa_fill (gA y 108) (gA y 107) i))) 12 ?_ ?_
  · intro n i hi ih
    show B_M_text_248 post _ _ _
    unfold B_M_text_248
    rw [show (12 : Int32) = nI 12 from rfl, nI_leI (by omega) (by omega), nI_clamp (by omega), nI_1]
    refine pp_n (by omega) ⟨(vp_in_nI (by omega) (by omega)), (vp_in_nI (by omega) (by omega)), ev (ev ?_)⟩
    rw [sA_sF]
    show L_M_text_248 post n (nI (i + 1)) (sF y 107 (upd (fa_fill (gA y 108) (gA y 107) i) i (gA y 108 i)))
    rw [fa_fill_succ (gA y 108) (gA y 107) i]
    exact ih
  · show B_M_text_248 post _ _ _
    unfold B_M_text_248
    exact pp_y (by decide) h
theorem q_t274 {post : Int32 → St → Prop} {y : St} (h : ∃ n, L_M_text_300 post n 0 (sF y 109 (fa_fill (gA y 110) (gA y 109) 18))) : ∃ n, L_M_text_274 post n 0 y := by
  have h0 : y = sF y 109 (fa_fill (gA y 110) (gA y 109) 0) := by rw [fa_fill_0, sF_id]
  rw [h0]
  refine lp_up (fun n i => L_M_text_274 post n (nI i) (sF y 109 (fa_fill (gA y 110) (gA y 109) i))) 18 ?_ ?_
  · intro n i hi ih
    show B_M_text_274 post _ _ _
    unfold B_M_text_274
    rw [show (18 : Int32) = nI 18 from rfl, nI_leI (by omega) (by omega), nI_clamp (by omega), nI_1]
    refine pp_n (by omega) ⟨(vp_in_nI (by omega) (by omega)), (vp_in_nI (by omega) (by omega)), ev (ev ?_)⟩
    rw [sA_sF]
    show L_M_text_274 post n (nI (i + 1)) (sF y 109 (upd (fa_fill (gA y 110) (gA y 109) i) i (gA y 110 i)))
    rw [fa_fill_succ (gA y 110) (gA y 109) i]
    exact ih
  · show B_M_text_274 post _ _ _
    unfold B_M_text_274
    exact pp_y (by decide) h
theorem q_t300 {post : Int32 → St → Prop} {y : St} (h : ∃ n, L_M_text_322 post n 0 (sF y 113 (fa_fill (fun _ => 0) (gA y 113) 269))) : ∃ n, L_M_text_300 post n 0 y := by
  have h0 : y = sF y 113 (fa_fill (fun _ => 0) (gA y 113) 0) := by rw [fa_fill_0, sF_id]
  rw [h0]
  refine lp_up (fun n i => L_M_text_300 post n (nI i) (sF y 113 (fa_fill (fun _ => 0) (gA y 113) i))) 269 ?_ ?_
  · intro n i hi ih
    show B_M_text_300 post _ _ _
    unfold B_M_text_300
    rw [show (269 : Int32) = nI 269 from rfl, nI_leI (by omega) (by omega), nI_clamp (by omega), nI_1]
    refine pp_n (by omega) ⟨(vp_in_nI (by omega) (by omega)), ev (ev ?_)⟩
    rw [sA_sF, fa_fill_succ (fun _ => 0) (gA y 113) i]
    exact ih
  · show B_M_text_300 post _ _ _
    unfold B_M_text_300
    exact pp_y (by decide) h
theorem q_t322 {post : Int32 → St → Prop} {y : St} {gt : Nat} (h112 : gI y 112 = nI gt) (h6 : gt ≤ 6) (h : ∀ f, (∀ k, f k = if k < 3 * gt ∧ k % 3 ≠ 2 then gA y 109 (k + 1) else gA y 113 k) → ∃ n, L_M_text_378 post n 0 (sF y 113 f)) : ∃ n, L_M_text_322 post n 0 y := by
  have lp : ∀ m g, g + m = gt → ∀ f0, (∀ k, f0 k = if k < 3 * g ∧ k % 3 ≠ 2 then gA y 109 (k + 1) else gA y 113 k) → ∀ k, m + 1 ≤ k → L_M_text_322 post k (nI g) (sF y 113 f0) := by
    intro m
    induction m with
    | zero =>
      intro g hg f0 hf k hk
      obtain ⟨k, rfl⟩ : ∃ j, k = j + 1 := ⟨k - 1, by omega⟩
      show B_M_text_322 post _ _ _
      unfold B_M_text_322
      rw [show gI (sF y 113 f0) 112 = nI gt from h112]
      refine pp_y (nI_le (by omega) (by omega)) (h f0 ?_)
      rw [show gt = g by omega]; exact hf
    | succ m ih =>
      intro g hg f0 hf k hk
      obtain ⟨k, rfl⟩ : ∃ j, k = j + 1 := ⟨k - 1, by omega⟩
      show B_M_text_322 post _ _ _
      unfold B_M_text_322
      rw [show gI (sF y 113 f0) 112 = nI gt from h112, k3, k2, pk_mul, nI_1 (3 * g), nI_add (3 * g) 2, show (nI (3 * g) + 0 : Int32) = nI (3 * g) from nI_add (3 * g) 0, nI_leI (by omega) (by omega), nI_clamp (n := 3 * g + 1) (by omega), nI_clamp (n := 3 * g + 2) (by omega), nI_clamp (n := 3 * g) (by omega), nI_1]
      refine pp_n (by omega) ⟨(vp_in_nI (by omega) (by omega)), (vp_in_nI (by omega) (by omega)), ev ⟨(vp_in_nI (by omega) (by omega)), (vp_in_nI (by omega) (by omega)), ev (ev ?_)⟩⟩
      rw [sA_sF, sA_sF]
      refine ih (g + 1) (by omega) _ (fun j => ?_) k (by omega)
      show upd (upd f0 (3 * g) (gA y 109 (3 * g + 1))) (3 * g + 1) (gA y 109 (3 * g + 2)) j = _
      by_cases c1 : j = 3 * g + 1
      · subst c1
        rw [pk_us, if_pos (by omega)]
      · rw [pk_un c1]
        by_cases c2 : j = 3 * g
        · subst c2
          rw [pk_us, if_pos (by omega)]
        · rw [pk_un c2, hf j]
          by_cases c3 : j < 3 * g ∧ j % 3 ≠ 2
          · rw [if_pos c3, if_pos (by omega)]
          · rw [if_neg c3, if_neg (by omega)]
  have := lp gt 0 (by omega) (gA y 113) (fun k => by rw [if_neg (by omega)]) _ (Nat.le_refl _)
  rw [sF_id] at this
  exact ⟨_, this⟩
theorem q_t378 {post : Int32 → St → Prop} {y : St} {dt : Nat} (h111 : gI y 111 = nI dt) (h6 : dt ≤ 6) (h : post (gI y 112) (sI (sI (sI (sA (sF y 113 (fb_put (gA y 113) (fun d => gA y 107 (2 * d + 1)) 18 dt)) 113 24 (gA y 105 0)) 128 0) 119 0) 129 0)) : ∃ n, L_M_text_378 post n 0 y := by
  have h0 : y = sF y 113 (fb_put (gA y 113) (fun d => gA y 107 (2 * d + 1)) 18 0) := by rw [fb_put_0, sF_id]
  rw [h0]
  refine lp_up (fun n i => L_M_text_378 post n (nI i) (sF y 113 (fb_put (gA y 113) (fun d => gA y 107 (2 * d + 1)) 18 i))) dt ?_ ?_
  · intro n i hi ih
    show B_M_text_378 post _ _ _
    unfold B_M_text_378
    rw [show gI (sF y 113 (fb_put (gA y 113) (fun d => gA y 107 (2 * d + 1)) 18 i)) 111 = nI dt from h111, k2, pk_mul, nI_1 (2 * i), show (18 : Int32) = nI 18 from rfl, nI_add 18 i, nI_leI (by omega) (by omega), nI_clamp (n := 2 * i + 1) (by omega), nI_clamp (n := 18 + i) (by omega), nI_1]
    refine pp_n (by omega) ⟨(vp_in_nI (by omega) (by omega)), (vp_in_nI (by omega) (by omega)), ev (ev ?_)⟩
    rw [sA_sF]
    show L_M_text_378 post n (nI (i + 1)) (sF y 113 (upd (fb_put (gA y 113) (fun d => gA y 107 (2 * d + 1)) 18 i) (18 + i) (gA y 107 (2 * i + 1))))
    have e := fb_put_succ (gA y 113) (fun d => gA y 107 (2 * d + 1)) 18 i
    rw [e]
    exact ih
  · show B_M_text_378 post _ _ _
    unfold B_M_text_378
    rw [show gI (sF y 113 (fb_put (gA y 113) (fun d => gA y 107 (2 * d + 1)) 18 dt)) 111 = nI dt from h111]
    exact pp_y (nI_le (Nat.le_refl _) (by omega)) (ev (ev (ev (ev h))))
theorem q_settleM {post : Int32 → St → Prop} {y : St} {dt gt : Nat} {v : Nat → Nat} (h113 : gI y 113 = nI dt) (h114 : gI y 114 = nI gt) (hd6 : dt ≤ 6) (hg6 : gt ≤ 6) (hV : VY v dt gt y) (hp : ∀ y', Fr [101, 111, 112, 128, 119, 129] [105, 107, 109, 113] y y' → gI y' 101 = 0 → gI y' 111 = nI dt → gI y' 112 = nI gt → gI y' 128 = 0 → gI y' 119 = 0 → gI y' 129 = 0 → (∀ j, j < 3 → gA y' 105 j = nI (v j)) → (∀ d, d < dt → gA y' 107 (2 * d) = nI (v (3 + 2 * d))) → (∀ g, g < gt → gA y' 109 (3 * g) = nI (v (15 + 3 * g))) → gA y' 113 28 = 0 → (∀ k, k < 28 → gA y' 113 k = nI (tabF v dt gt (pi k))) → post (nI gt) y') : ∃ n, L_M_text_223 post n 0 (sI (sI (sI y 101 0) 111 (gI y 113)) 112 (gI y 114)) := by
  obtain ⟨v1, v2, v3⟩ := hV
  rw [h113, h114]
  refine q_t223 (q_t248 (q_t274 (q_t300 (q_t322 (gt := gt) rfl hg6 (fun f hf => q_t378 (dt := dt) rfl hd6 ?_)))))
  refine hp _ ((((((((((((((Fr.rf.sI (by decide)).sI (by decide)).sI (by decide)).sF (by decide)).sF (by decide)).sF (by decide)).sF (by decide)).sF (by decide)).sF (by decide)).sA (by decide)).sI (by decide)).sI (by decide)).sI (by decide))) rfl rfl rfl rfl rfl rfl (fun j hj => ?_) (fun d hd => ?_) (fun g hg => ?_) ?_ (fun k hk => ?_)
  · show fa_fill (gA y 106) (gA y 105) 3 j = _
    rw [fa_fill_in hj]; exact (v1 j hj).1
  · show fa_fill (gA y 108) (gA y 107) 12 (2 * d) = _
    rw [fa_fill_in (by omega)]; exact (v2 d hd 0 (by omega)).1
  · show fa_fill (gA y 110) (gA y 109) 18 (3 * g) = _
    rw [fa_fill_in (by omega)]; exact (v3 g hg 0 (by omega)).1
  · show upd (fb_put f (fun d => fa_fill (gA y 108) (gA y 107) 12 (2 * d + 1)) 18 dt) 24 (fa_fill (gA y 106) (gA y 105) 3 0) 28 = 0
    rw [pk_un (by omega), fb_put_out (by omega), hf 28, if_neg (by omega)]
    show fa_fill (fun _ => (0 : Int32)) (gA y 113) 269 28 = 0
    exact fa_fill_in (by omega)
  · show upd (fb_put f (fun d => fa_fill (gA y 108) (gA y 107) 12 (2 * d + 1)) 18 dt) 24 (fa_fill (gA y 106) (gA y 105) 3 0) k = _
    by_cases c24 : k = 24
    · subst c24
      rw [pk_us, fa_fill_in (by omega)]; exact (v1 0 (by omega)).1
    · rw [pk_un c24]
      by_cases c18 : 18 ≤ k ∧ k < 18 + dt
      · rw [fb_put_in c18.1 c18.2]
        show fa_fill (gA y 108) (gA y 107) 12 (2 * (k - 18) + 1) = _
        rw [fa_fill_in (by omega), (v2 (k - 18) (by omega) 1 (by omega)).1]
        unfold tabF pi
        rw [if_neg (show ¬ k < 18 by omega), if_pos (show k < 24 by omega), if_neg (by omega), if_neg (by omega), if_neg (by omega), if_pos (by omega)]
        congr 2
      · rw [fb_put_out (by omega), hf k]
        show (if k < 3 * gt ∧ k % 3 ≠ 2 then fa_fill (gA y 110) (gA y 109) 18 (k + 1) else fa_fill (fun _ => (0 : Int32)) (gA y 113) 269 k) = _
        by_cases c3 : k < 3 * gt ∧ k % 3 ≠ 2
        · rw [if_pos c3, fa_fill_in (by omega)]
          have e := (v3 (k / 3) (by omega) (k % 3 + 1) (by omega)).1
          rw [show 3 * (k / 3) + (k % 3 + 1) = k + 1 by omega] at e
          rw [e]
          unfold tabF pi
          rw [if_pos (show k < 18 by omega), if_neg (by omega)]
          by_cases c0 : k % 3 = 0
          · rw [if_pos (by omega)]; congr 2; omega
          · rw [if_neg (by omega), if_pos (by omega)]; congr 2; omega
        · rw [if_neg c3, fa_fill_in (by omega)]
          unfold tabF pi
          by_cases ck : k < 18
          · rw [if_pos ck, if_neg (by omega), if_neg (by omega), if_neg (by omega), if_neg (by omega)]; rfl
          · rw [if_neg ck]
            by_cases ck2 : k < 24
            · rw [if_pos ck2, if_neg (by omega), if_neg (by omega), if_neg (by omega), if_neg (by omega)]; rfl
            · rw [if_neg ck2, if_neg (by omega), if_neg (by omega), if_neg (by omega), if_neg (by omega)]; rfl
theorem VZ.vv {v : Nat → Nat} {dt gt : Nat} {f : Nat → Int32} (h : VZ v dt gt f) : v 0 ≤ 5 ∧ v 1 ≤ 30 ∧ v 2 ≤ 9 ∧ (∀ d, d < dt → v (3 + 2 * d) ≤ 9 ∧ v (3 + 2 * d + 1) ≤ 60) ∧ (∀ g, g < gt → v (15 + 3 * g) ≤ 5 ∧ v (15 + 3 * g + 1) ≤ 99 ∧ v (15 + 3 * g + 2) ≤ 9) :=
  ⟨(h.1 0 (by omega)).2, (h.1 1 (by omega)).2, (h.1 2 (by omega)).2, fun d hd => ⟨(h.2.1 d hd 0 (by omega)).2, (h.2.1 d hd 1 (by omega)).2⟩, fun g hg => ⟨(h.2.2 g hg 0 (by omega)).2, (h.2.2 g hg 1 (by omega)).2, (h.2.2 g hg 2 (by omega)).2⟩⟩
theorem TaI_new {V dt gt : Nat} {v : Nat → Nat} {f : Nat → Int32} (hV : VZ v dt gt f) (hd6 : dt ≤ 6) (hg6 : gt ≤ 6) (h0 : v 0 < dt) {w c L : Nat → Int32} (hc : ∀ k, k < 28 → c k = nI (tabF v dt gt k)) (hw : ∀ k, k < 28 → w k = nI (tabF v dt gt (pi k))) (hw28 : w 28 = 0) : TaI V dt 0 w c L := by
  obtain ⟨b0, b1, b2, b3, b4⟩ := hV.vv
  have t : ∀ k, k < 28 → ∀ x, tabF v dt gt k = x → c k = nI x := fun k hk x hx => by rw [hc k hk, hx]
  refine ⟨fun k hk => ?_, ⟨⟨v 0, by omega, t 0 (by omega) _ rfl⟩, ⟨0, by omega, t 1 (by omega) _ ?_⟩, .inl (t 2 (by omega) 0 ?_), ⟨0, by omega, t 3 (by omega) _ ?_⟩, fun g hg => ?_, fun g hg => ?_, fun g hg => ⟨0, by omega, t (16 + g) (by omega) _ ?_⟩, fun d hd => ?_⟩, t 3 (by omega) 0 ?_, by omega, ?_, fun i t hi => ?_, fun i hi => ?_⟩
  · have : pi k < 28 := by unfold pi; split; omega; split <;> omega
    rw [hw k hk, hc _ this]
  · unfold tabF; rw [if_neg (by omega), if_neg (by omega), if_neg (by omega), if_neg (by omega)]
  · unfold tabF; rw [if_neg (by omega), if_neg (by omega), if_neg (by omega), if_neg (by omega)]
  · unfold tabF; rw [if_neg (by omega), if_neg (by omega), if_neg (by omega), if_neg (by omega)]
  · by_cases c1 : g < gt
    · refine ⟨v (15 + 3 * g + 1), (b4 g c1).2.1, t _ (by omega) _ ?_⟩
      unfold tabF; rw [if_neg (by omega), if_pos (by omega), show 4 + g - 4 = g by omega]
    · refine ⟨0, by omega, t _ (by omega) _ ?_⟩
      unfold tabF; rw [if_neg (by omega), if_neg (by omega), if_neg (by omega), if_neg (by omega)]
  · by_cases c1 : g < gt
    · refine ⟨v (15 + 3 * g + 2), (b4 g c1).2.2, t _ (by omega) _ ?_⟩
      unfold tabF; rw [if_neg (by omega), if_neg (by omega), if_pos (by omega), show 10 + g - 10 = g by omega]
    · refine ⟨0, by omega, t _ (by omega) _ ?_⟩
      unfold tabF; rw [if_neg (by omega), if_neg (by omega), if_neg (by omega), if_neg (by omega)]
  · unfold tabF; rw [if_neg (by omega), if_neg (by omega), if_neg (by omega), if_neg (by omega)]
  · by_cases c1 : d < dt
    · refine ⟨v (3 + 2 * d + 1), (b3 d c1).2, t _ (by omega) _ ?_⟩
      unfold tabF; rw [if_neg (by omega), if_neg (by omega), if_neg (by omega), if_pos (by omega), show 22 + d - 22 = d by omega]
    · refine ⟨0, by omega, t _ (by omega) _ ?_⟩
      unfold tabF; rw [if_neg (by omega), if_neg (by omega), if_neg (by omega), if_neg (by omega)]
  · unfold tabF; rw [if_neg (by omega), if_neg (by omega), if_neg (by omega), if_neg (by omega)]
  · rw [hw28]; rfl
  · exact absurd hi (by omega)
  · exact absurd hi (by omega)
theorem runR_cl {σ : Type} {T : Nat → Nat} {n : Nat} {step : Nat → σ → Option σ} {cl : σ → Option σ} : ∀ m i s, (runR T n step cl m i s).1 = none → ∃ s', cl s' = some (runR T n step cl m i s).2
  | 0, i, s, h => by
    rw [runR] at h ⊢
    cases hc : cl s with
    | none => rw [hc] at h; cases h
    | some s' => exact ⟨s, hc⟩
  | m + 1, i, s, h => by
    rw [runR] at h ⊢
    by_cases c : T i = 32
    · rw [if_pos c] at h ⊢; exact runR_cl m (i + 1) s h
    · rw [if_neg c] at h ⊢
      cases hs : step i s with
      | none => rw [hs] at h; cases h
      | some s' => rw [hs] at h; exact runR_cl m (i + 1) s' h
theorem clH_w {s s' : SH} (h : clH s = some s') : wholeH s'.2.1.2.1 s'.2.1.2.2 s'.2.2 = true := by
  obtain ⟨⟨aw, kd, us, le, di, nu⟩, ⟨rt, dt, gt⟩, v⟩ := s
  have h : (if aw = 1 ∧ wholeH dt gt v = true then some (mkH aw kd us le di nu rt dt gt v) else none) = some s' := h
  by_cases c : aw = 1 ∧ wholeH dt gt v = true
  · rw [if_pos c] at h
    injection h with h
    subst h
    exact c.2
  · rw [if_neg c] at h; cases h
theorem o_text_v0 {V V' : Nat} (hV : V ≤ V') : St_text_v0 (Inv V) (Inv V') := by
  intro z y a1 a2 a3 a4 a5 h e
  subst e
  obtain ⟨n, t1, t2, t3, t4⟩ := h.tape
  unfold S_B_text_v0 S_B_readerOf_v0
  refine ⟨rfl, q_faultH t1 t3 (fun i hi => ⟨(t4 i hi).1, (t4 i hi).2.1⟩) (fun z' hf hw => ?_)⟩
  have fz : Fr XS XA z z' := hf.wk (by decide) (by decide)
  have hle : ∀ f, (resH z n).1 = some f → f ≤ n := fun f q => runR_le n 0 s0H (by omega) q
  have mY : ∀ P : Int32 → St → Prop, (∀ y', endH (rdY n (sI (sI y 100 0) 100 0)) y' (resH z n) → ((resH z n).1 = none → ∃ k, L_M_text_223 P k 0 (sI (sI (sI y' 101 0) 111 (gI y' 113)) 112 (gI y' 114))) ∧ (¬ (resH z n).1 = none → P (-1) y')) → S_M_text P 0 y := fun P hP => by
    unfold S_M_text B_M_text_30 B_M_text_43
    refine ev (q_isIn_y (j := 0) (m := 2) L2 (by omega) (by omega) (r11 (pp_n (by decide) (pp_n (by decide) ?_))))
    refine q_fault0 (z := z) (y := sI y 100 0) t2 t3 (fun i hi => ⟨(t4 i hi).1, (t4 i hi).2.2⟩) (fun y' hE => ?_)
    have hP := hP y' hE
    rw [faI_ne (by omega) hle]
    exact ⟨fun c => ev (ev (pp_n (by decide) (pp_n (by decide) (ev (ev (hP.1 c)))))), fun c => hP.2 c⟩
  have fy : ∀ y', endH (rdY n (sI (sI y 100 0) 100 0)) y' (resH z n) → Fr MS MA y y' := fun y' hE => (Fr.rf.sI (by decide)).tr (fh_ty hE.1)
  rw [faI_ne (by omega) hle]
  refine ⟨fun c => ⟨rfl, ?_⟩, fun c => mY _ (fun y' hE => ⟨fun q => absurd q c, fun _ => ⟨rfl, h.fr hV fz (fy y' hE)⟩⟩)⟩
  have hw := hw c
  obtain ⟨s', hs'⟩ := runR_cl n 0 s0H c
  have hwh := clH_w hs'
  have hE3 : ∀ y', endH (rdY n (sI (sI y 100 0) 100 0)) y' (resH z n) → _ := fun y' hE => hE.2.2 c
  have eR : (runR (tpB z) n (stepH (tpB z) n) clH n 0 s0H).2 = (resH z n).2 := rfl
  rw [eR] at hwh
  generalize hs : (resH z n).2 = s at *
  obtain ⟨⟨aw, kd, us, le, di, nu⟩, ⟨rt, dt, gt⟩, v⟩ := s
  have hHZ := hw
  obtain ⟨w3, a2, w4, r1, w5, d6, w6, g6, hA, hVZ⟩ := hw
  have hwh : wholeH dt gt v = true := hwh
  unfold wholeH at hwh
  rw [Bool.and_eq_true_iff, Bool.and_eq_true_iff, Bool.and_eq_true_iff, decide_eq_true_iff, decide_eq_true_iff, decide_eq_true_iff] at hwh
  obtain ⟨b0, b1, b2, b3, b4⟩ := hVZ.vv
  refine q_settleH hHZ (fun z2 f2 e26 e27 e28 e29 e25 e23 e41 e18 e19 eT => ?_)
  unfold B_B_text_v0_61
  refine pp_n (fun q => (nI_m1 (by omega)).mp q) (ev ?_)
  refine mY _ (fun y' hE => ⟨fun _ => ?_, fun q => absurd c q⟩)
  obtain ⟨x1, x2, x3⟩ := hE3 y' hE
  refine q_settleM x1 x2 d6 g6 x3 (fun y2 g2 g101 g111 g112 g128 g119 g129 g105 g107 g109 gw28 gw => ⟨rfl, ?_⟩)
  refine h.u_house hV ((fz.wk (by decide) (by decide)).tr ((f2.wk (by decide) (by decide)).sI (by decide))) (((fy y' hE).wk (by decide) (by decide)).tr (g2.wk (by decide) (by decide))) (fun nd ng tl sn v0 a n0 hH hT hS hTa hP hI => ⟨dt, gt, 0, 0, fun _ => 0, 0, n0, ?_, ?_, ?_, ?_, ?_, ?_⟩)
  · refine ⟨e26, g111, e27, g112, d6, g6, fun _ => hwh.1.1.1, fun q => absurd q (by omega), e28.trans (g105 1 (by omega)).symm, e29.trans (g105 2 (by omega)).symm, ⟨v 1, b1, e28⟩, ⟨v 2, b2, e29⟩, fun d hd => (e18 d hd).trans (g107 d hd).symm, fun d hd => ⟨_, (b3 d hd).1, e18 d hd⟩, fun g hg => (e19 g hg).trans (g109 g hg).symm⟩
  · exact ⟨rfl, g101, by omega, fun i hi => absurd hi (Nat.not_lt_zero _)⟩
  · exact ⟨e41, g128, by omega, fun i hi => absurd hi (Nat.not_lt_zero _), fun i hi => absurd hi (by omega), fun i hi => absurd hi (Nat.not_lt_zero _)⟩
  · exact TaI_new hVZ d6 g6 hwh.1.2 eT gw gw28
  · refine ⟨e25, g119, by omega, ?_, hP.2.2.2.2.1, fun j hj => absurd hj (Nat.not_lt_zero _)⟩
    show gI z2 24 = nI n0
    rw [f2.1 24 (by decide), fz.1 24 (by decide)]; exact hP.2.2.2.1
  · exact .inl ⟨e23, g129⟩
