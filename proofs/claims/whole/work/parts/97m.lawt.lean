/-! laws: fault -/
def resL (z : St) (n : Nat) : Option Nat × SL := rnL (tpB z) n 0 (mkW 0 (gI z 17) (gI z 18) (gI z 19) [] [])
theorem q_faultL {post : Int32 → St → Prop} {z : St} {n : Nat} (hn : gI z 2 = nI n) (h240 : n ≤ 240) (hT : ∀ i, i < n → tpB z i < 256 ∧ gA z 12 i = nI (tpB z i)) (hp : ∀ z', Fr LF [14, 15] z z' → ((resL z n).1 = none → LZ z' (resL z n).2) → post (faI (resL z n).1) z') : S_Reader_faultOf_3_r1 post z := by
  unfold S_Reader_faultOf_3_r1 S_LawReader_start
  refine ev (ev (ev (ev ⟨n + 1, ?_⟩)))
  have f0 : Fr LF [14, 15] z (sI (sI (sI (sI z 13 0) 14 0) 15 0) 16 0) := (((Fr.rf.sI (by decide)).sI (by decide)).sI (by decide)).sI (by decide)
  refine flt_L h240 (fun i hi => (hT i hi).1) n 0 (by omega) (sI (sI (sI (sI z 13 0) 14 0) 15 0) 16 0) (mkW 0 (gI z 17) (gI z 18) (gI z 19) [] []) 0 post rfl hn (fun i hi => (hT i hi).2) ⟨rfl, rfl, rfl, rfl, rfl, rfl, by show 0 ≤ 241; omega, rfl, by show 0 ≤ 64; omega, fun i hi => absurd hi (Nat.not_lt_zero _), fun i hi => absurd hi (Nat.not_lt_zero _), fun x hx => absurd hx List.not_mem_nil⟩ (fun z' hf2 hw => hp z' (f0.tr hf2) hw) _ (Nat.le_refl _)
theorem goY_RX {T : Nat → Nat} {n : Nat} {y : St} (h240 : n ≤ 240) (hT : ∀ i, i < n → T i < 256 ∧ gA y 101 i = (nI (T i)).toInt8.toInt32) : RX T n 0 101 (goY101 0 n y) :=
  ⟨rfl, .inl ⟨rfl, by omega⟩, rfl, rfl, fun i hi => ⟨(hT i hi).1, by rw [Nat.zero_add]; exact (hT i hi).2⟩⟩
theorem goY_fr {B n : Nat} {y : St} : Fr MS MA y (goY101 B n y) := (((((((Fr.rf.sT.sI (by decide)).sI (by decide)).sI (by decide)).sI (by decide)).sI (by decide)).sI (by decide)).sI (by decide)).sI (by decide)
theorem q_fault1 {post : Int32 → St → Prop} {z y : St} {n : Nat} (hn : gI y 101 = nI n) (h240 : n ≤ 240) (hT : ∀ i, i < n → tpB z i < 256 ∧ gA y 101 i = (nI (tpB z i)).toInt8.toInt32) (hp : ∀ y', OkG (tpB z) n 0 (mkW 0 (gI z 17) (gI z 18) (gI z 19) [] []) (goY101 0 n (sI y 100 0)) y' → post (faI (resL z n).1) y') : S_M_fault post (1 : Int32) y := by
  unfold S_M_fault B_M_fault_28 B_M_fault_46 B_M_fault_55
  refine ev (q_isIn_y (j := 1) (m := 2) L2 (by omega) (by omega) (r11 (pp_n (by decide) (pp_y rfl ?_))))
  rw [show gI (sI y 100 0) 101 = nI n from hn]
  show S_M_goThrough_r101 _ (nI 0) (nI n) _
  refine q_go101 (st := gI z 17) (cm := gI z 18) (di := gI z 19) h240 (goY_RX h240 hT) (fun y' hE => pp_n (by decide) ?_)
  rw [hE.2.1]
  exact hp y' hE
theorem fl_ty {n B : Nat} {y y' : St} (h : Fr FC [] (goY101 B n (sI y 100 0)) y') : Fr MS MA y y' := ((Fr.rf.sI (by decide)).tr goY_fr).tr (h.wk (by decide) (by decide))
theorem o_fault_v1 {V V' : Nat} (hV : V ≤ V') : St_fault_v1 (Inv V) (Inv V') := by
  intro z y a1 a2 a3 a4 a5 h e
  subst e
  obtain ⟨n, t1, t2, t3, t4⟩ := h.tape
  unfold S_B_fault_v1 S_B_readerOf_v1
  refine ⟨by decide, rfl, q_faultL t1 t3 (fun i hi => ⟨(t4 i hi).1, (t4 i hi).2.1⟩) (fun z' hf hw => q_fault1 (z := z) t2 t3 (fun i hi => ⟨(t4 i hi).1, (t4 i hi).2.2⟩) (fun y' hE => ⟨rfl, ?_⟩))⟩
  exact h.fr hV (hf.wk (by decide) (by decide)) (fl_ty hE.1)
