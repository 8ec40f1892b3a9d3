/-! houses: fault and text -/
def s0H : SH := mkH 0 0 0 0 0 0 0 0 0 (begV 0 0 (fun _ => 0))
def resH (z : St) (n : Nat) : Option Nat × SH := runR (tpB z) n (stepH (tpB z) n) clH n 0 s0H
theorem q_startH {post : St → Prop} {z : St} (hp : ∀ z', Fr HF [13] z z' → HZ z' s0H → post z') : S_HouseReader_start post z := by
  unfold S_HouseReader_start
  refine ev (ev (ev ?_))
  show S_HouseReader_begin _ (2 + 0) (nI (fi 0)) (nI 0) _
  refine q_begin (kd := 0) (by omega) (by decide) (fun z' hf e4 e5 e6 eT e3 e7 e8 e9 e11 eA => ev (hp _ (((((Fr.rf.sI (by decide)).sI (by decide)).sI (by decide)).tr hf).sI (by decide)) ?_))
  refine ⟨rfl, by omega, e4, by omega, e5, by omega, e6, by omega, fun q => absurd rfl q, fun j hj => ?_, fun d hd => absurd hd (Nat.not_lt_zero _), fun g hg => absurd hg (Nat.not_lt_zero _)⟩
  show gA z' 13 j = nI (begV 0 0 (fun _ => 0) j) ∧ begV 0 0 (fun _ => 0) j ≤ moN j
  have hj3 : 0 ≤ j ∧ j < 0 + cn 0 := ⟨by omega, by show j < 0 + 3; omega⟩
  unfold begV
  rw [eA j, if_pos hj3, if_pos hj3, show fi 0 + (j - 0) = j by show 0 + (j - 0) = j; omega]
  exact ⟨rfl, us_mo j (by omega)⟩
theorem q_faultH {post : Int32 → St → Prop} {z : St} {n : Nat} (hn : gI z 2 = nI n) (h240 : n ≤ 240) (hT : ∀ i, i < n → tpB z i < 256 ∧ gA z 12 i = nI (tpB z i)) (hp : ∀ z', Fr HF [13] z z' → ((resH z n).1 = none → HZ z' (resH z n).2) → post (faI (resH z n).1) z') : S_Reader_faultOf_2_r1 post z := by
  unfold S_Reader_faultOf_2_r1
  refine q_startH (fun z1 hf hH => ⟨n + 1, ?_⟩)
  exact flt_H h240 (fun i hi => (hT i hi).1) n 0 (by omega) z1 s0H 0 post rfl ((hf.1 2 (by decide)).trans hn) (fun i hi => by rw [hf.2.1 12 (by decide)]; exact (hT i hi).2) hH (fun z' hf2 hw => hp z' (hf.tr hf2) hw) _ (Nat.le_refl _)
theorem q_readHouse {post : St → Prop} {z y : St} {n : Nat} (hn : gI y 101 = nI n) (h240 : n ≤ 240) (hT : ∀ i, i < n → tpB z i < 256 ∧ gA y 101 i = (nI (tpB z i)).toInt8.toInt32) (hp : ∀ y', endH (rdY n y) y' (resH z n) → post y') : S_M_readHouse post y := by
  unfold S_M_readHouse S_M_starts_r101
  rw [hn]
  refine ev (ev (ev (ev (ev (ev (ev (ev ?_)))))))
  generalize hy1 : sI (sI (sI (sI (sI (sI (sI (sT y 1 101) 103 0) 104 (nI n)) 105 0) 106 (-1)) 113 0) 114 0) 116 0 = y1
  have f1 : Fr FHI FHA (rdY n y) y1 := by rw [← hy1]; exact ((Fr.rf.sI (by decide)).sI (by decide)).sI (by decide)
  have R1 : RX (tpB z) n 0 101 y1 := by
    rw [← hy1]
    exact (((rdY_RX h240 hT).sI (by decide) (by decide)).sI (by decide) (by decide)).sI (by decide) (by decide)
  have h0 : y1 = sF y1 106 (fb_put (gA y1 106) (fun l => nI (usN (fi 0 + l))) 0 0) := by rw [fb_put_0, sF_id]
  have e105 : gI y1 105 = nI 0 := by rw [← hy1]; rfl
  have e106 : gI y1 106 = -1 := by rw [← hy1]; rfl
  have e113 : gI y1 113 = nI 0 := by rw [← hy1]; rfl
  have e114 : gI y1 114 = nI 0 := by rw [← hy1]; rfl
  have e116 : gI y1 116 = nI 0 := by rw [← hy1]; rfl
  rw [h0]
  refine lp_up (fun m i => L_M_readHouse_30 post m (nI i) (sF y1 106 (fb_put (gA y1 106) (fun l => nI (usN (fi 0 + l))) 0 i))) 3 ?_ ?_
  · intro m i hi ih
    show B_M_readHouse_30 post _ _ _
    unfold B_M_readHouse_30
    refine pp_n (show ¬ nI 3 ≤ nI i from nI_ge hi (by omega)) (q_usual0 hi ?_)
    rw [nI_clamp (by omega), nI_1]
    refine ⟨(vp_in_nI (by omega) (by omega)), ev (ev ?_)⟩
    have e := fb_put_succ (gA y1 106) (fun l => nI (usN (fi 0 + l))) 0 i
    rw [Nat.zero_add] at e
    rw [sA_sF, e]
    exact ih
  · show B_M_readHouse_30 post _ _ _
    unfold B_M_readHouse_30
    refine pp_y (by decide) ⟨15, ?_⟩
    exact house_M (T := tpB z) (n := n) (B := 0) (r := 101) (y0 := rdY n y) 13 (sF y1 106 (fb_put (gA y1 106) (fun l => nI (usN (fi 0 + l))) 0 3)) 0 0 0 0 0 0 0 0 0 (begV 0 0 (fun _ => 0)) (by omega) (R1.sF (by decide) (by decide)) e105 (by omega) e106 e113 e114 e116 (by omega) (by omega) (by omega) ⟨fun j hj => vb_go (c := 3) rfl (by decide) (fun q => by omega) (by omega) (by omega), fun d hd => absurd hd (Nat.not_lt_zero _), fun g hg => absurd hg (Nat.not_lt_zero _)⟩ (f1.sF (by decide)) hp 15 (by omega)
theorem q_fault0 {post : Int32 → St → Prop} {z y : St} {n : Nat} (hn : gI y 101 = nI n) (h240 : n ≤ 240) (hT : ∀ i, i < n → tpB z i < 256 ∧ gA y 101 i = (nI (tpB z i)).toInt8.toInt32) (hp : ∀ y', endH (rdY n (sI y 100 0)) y' (resH z n) → post (faI (resH z n).1) y') : S_M_fault post (0 : Int32) y := by
  unfold S_M_fault B_M_fault_28 B_M_fault_46 B_M_fault_55
  refine ev (q_isIn_y (j := 0) (m := 2) L2 (by omega) (by omega) (r11 (pp_y rfl (q_readHouse (y := sI y 100 0) hn h240 hT (fun y' hE => pp_n (by decide) (pp_n (by decide) ?_))))))
  rw [hE.2.1]
  exact hp y' hE
theorem fh_ty {n : Nat} {y y' : St} (h : Fr FHI FHA (rdY n (sI y 100 0)) y') : Fr MS MA y y' := (((Fr.rf.sI (by decide)).tr (rdY_fr.wk (fun _ h => h) (by decide))).tr (h.wk (by decide) (by decide)))
theorem o_fault_v0 {V V' : Nat} (hV : V ≤ V') : St_fault_v0 (Inv V) (Inv V') := by
  intro z y a1 a2 a3 a4 a5 h e
  subst e
  obtain ⟨n, t1, t2, t3, t4⟩ := h.tape
  unfold S_B_fault_v0 S_B_readerOf_v0
  refine ⟨rfl, q_faultH t1 t3 (fun i hi => ⟨(t4 i hi).1, (t4 i hi).2.1⟩) (fun z' hf hw => q_fault0 (z := z) t2 t3 (fun i hi => ⟨(t4 i hi).1, (t4 i hi).2.2⟩) (fun y' hE => ⟨rfl, ?_⟩))⟩
  exact h.fr hV (hf.wk (by decide) (by decide)) (fh_ty hE.1)
