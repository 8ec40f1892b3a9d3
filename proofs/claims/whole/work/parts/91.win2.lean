/-! fault and text: what stays, the winter, no such sort -/
theorem Inv.u_TLW {V V' : Nat} {z y z' y' : St} (h : Inv V z y) (hV : V ≤ V') (hzI : ∀ k, k ∈ [26, 27, 28, 29, 41, 25, 24, 23, 1] → gI z' k = gI z k) (hzA : ∀ k, k ∈ [18, 19, 30, 23, 26, 25, 27, 28] → gA z' k = gA z k) (hyI : ∀ k, k ∈ [111, 112, 128, 119, 129, 118] → gI y' k = gI y k) (hyA : ∀ k, k ∈ [105, 107, 109, 117, 113, 115, 119] → gA y' k = gA y k)
    (hc : ∀ tl ln wn, TapeI tl (gI z 2) (gA z 12) (gI y 101) (gA y 101) → LawI ln (gI z 30) (gI z 31) (gZ z) (gA z) (gI y 102) (gI y 117) (gA y 102) (gA y 103) → WinI wn (gI z 0) (gZ z) (gA z) (gI y 115) (gA y 111) (gA y 112) → ∃ tl' ln' wn', TapeI tl' (gI z' 2) (gA z' 12) (gI y' 101) (gA y' 101) ∧ LawI ln' (gI z' 30) (gI z' 31) (gZ z') (gA z') (gI y' 102) (gI y' 117) (gA y' 102) (gA y' 103) ∧ WinI wn' (gI z' 0) (gZ z') (gA z') (gI y' 115) (gA y' 111) (gA y' 112)) : Inv V' z' y' := by
  obtain ⟨nd, ng, tl, ln, wn, sn, a, n, v, hH, hT, hL, hW, hS, hTa, hP, hI, hs⟩ := h.mono hV
  obtain ⟨tl', ln', wn', hT', hL', hW'⟩ := hc tl ln wn hT hL hW
  refine ⟨nd, ng, tl', ln', wn', sn, a, n, v, ?_, hT', hL', hW', ?_, ?_, ?_, ?_, ?_⟩
  · rw [hzI 26 (by decide), hzI 27 (by decide), hzI 28 (by decide), hzI 29 (by decide), hzA 18 (by decide), hzA 19 (by decide), hyI 111 (by decide), hyI 112 (by decide), hyA 105 (by decide), hyA 107 (by decide), hyA 109 (by decide)]; exact hH
  · rw [hzI 41 (by decide), hzA 30 (by decide), hyI 128 (by decide), hyA 117 (by decide)]; exact hS
  · rw [hzA 23 (by decide), hzA 26 (by decide), hyA 113 (by decide)]; exact hTa
  · rw [hzI 25 (by decide), hzI 24 (by decide), hzA 25 (by decide), hzA 26 (by decide), hyI 119 (by decide), hyA 115 (by decide)]; exact hP
  · rw [hzI 23 (by decide), hzA 27 (by decide), hzA 28 (by decide), hyI 129 (by decide), hyA 119 (by decide)]; exact hI
  · rw [hzI 1 (by decide), hyI 118 (by decide)]; exact hs
/-- the tape as bytes -/
def tpB (z : St) (i : Nat) : Nat := tN (gA z 12 i)
theorem Inv.tape {V : Nat} {z y : St} (h : Inv V z y) : ∃ n, gI z 2 = nI n ∧ gI y 101 = nI n ∧ n ≤ 240 ∧ ∀ i, i < n → tpB z i < 256 ∧ gA z 12 i = nI (tpB z i) ∧ gA y 101 i = (nI (tpB z i)).toInt8.toInt32 := by
  obtain ⟨nd, ng, tl, ln, wn, sn, a, n, v, hH, ⟨t1, t2, t3, t4⟩, _⟩ := h
  refine ⟨tl, t1, t2, t3, fun i hi => ?_⟩
  obtain ⟨b, hb, e1, e2⟩ := t4 i hi
  unfold tpB
  rw [e1, tN_nI (by omega)]
  exact ⟨hb, rfl, e2⟩
theorem WinI.cgM {wn : Nat} {a e : Int32} {zz : Nat → Nat} {zc : Nat → Nat → Int32} {yw yl yw' yl' : Nat → Int32} (h : WinI wn a zz zc e yw yl) (hw : ∀ j, j < 128 → yw' j = yw j) (hl : ∀ j, j < 4 → yl' j = yl j) : WinI wn a zz zc e yw' yl' := by
  obtain ⟨h1, h2, h3, h4⟩ := h
  refine ⟨h1, h2, h3, fun k hk => ?_⟩
  obtain ⟨n, hn, e1, e2, e3⟩ := h4 k hk
  refine ⟨n, hn, e1, by rw [hl k (by omega)]; exact e2, fun i hi => ?_⟩
  obtain ⟨a, d, ha, hd, f1, f2, f3⟩ := e3 i hi
  exact ⟨a, d, ha, hd, f1, by rw [hw _ (by omega)]; exact f2, by rw [hw _ (by omega)]; exact f3⟩
/-- what the reference begins to read with -/
def rdY (n : Nat) (y : St) : St := sI (sI (sI (sI (sT y 1 101) 103 0) 104 (nI n)) 105 0) 106 (-1)
theorem rdY_RX {T : Nat → Nat} {n : Nat} {y : St} (h240 : n ≤ 240) (hT : ∀ i, i < n → T i < 256 ∧ gA y 101 i = (nI (T i)).toInt8.toInt32) : RX T n 0 101 (rdY n y) :=
  ⟨rfl, .inl ⟨rfl, by omega⟩, rfl, rfl, fun i hi => ⟨(hT i hi).1, by rw [Nat.zero_add]; exact (hT i hi).2⟩⟩
theorem rdY_fr {n : Nat} {y : St} : Fr MS MA y (rdY n y) := (((Fr.rf.sT.sI (by decide)).sI (by decide)).sI (by decide)).sI (by decide)
def s0W : SW := (0, 0, 0, fun _ => 0)
def resW (z : St) (n : Nat) : Option Nat × SW := runR (tpB z) n (stepW (tpB z)) clW n 0 s0W
theorem q_faultW {post : Int32 → St → Prop} {z : St} {n : Nat} (hn : gI z 2 = nI n) (h240 : n ≤ 240) (hT : ∀ i, i < n → tpB z i < 256 ∧ gA z 12 i = nI (tpB z i)) (hp : ∀ z', Fr [20, 21, 22] [16] z z' → ((resW z n).1 = none → WZ (resW z n).2 z') → post (faI (resW z n).1) z') : S_Reader_faultOf_4_r1 post z := by
  unfold S_Reader_faultOf_4_r1 S_WinterReader_start
  refine ev (ev ⟨n + 1, flt_W h240 n 0 (by omega) (sI (sI z 20 0) 22 0) s0W _ _ hn hT ⟨rfl, by decide, fun q => absurd (show (0 : Nat) = 1 from q) (by decide), rfl, by decide, fun j hj => absurd hj (Nat.not_lt_zero _)⟩ (fun z' hf hw => hp z' (((Fr.rf.sI (by decide)).sI (by decide)).tr hf) hw) _ (Nat.le_refl _)⟩)
theorem q_readWin {post : St → Prop} {z y : St} {n : Nat} (hn : gI y 101 = nI n) (h240 : n ≤ 240) (hT : ∀ i, i < n → tpB z i < 256 ∧ gA y 101 i = (nI (tpB z i)).toInt8.toInt32) (hp : ∀ y', FW (rdY n y) y' → gI y' 106 = faI (resW z n).1 → ((resW z n).1 = none → WY (resW z n).2 y' ∧ gA y' 112 4 = nI (resW z n).2.2.2.1 ∧ (resW z n).2.2.2.1 ≤ 16) → post y') : S_M_readWinter post y := by
  unfold S_M_readWinter S_M_starts_r101
  rw [hn]
  refine ev (ev (ev (ev (ev ⟨17, ?_⟩))))
  exact win_M (y0 := rdY n y) 16 (rdY n y) 0 0 (fun _ => 0) 0 (by omega) (by omega) (rdY_RX h240 hT) rfl (by omega) rfl (fun j hj => absurd hj (Nat.not_lt_zero _)) FW.rf hp 17 (by omega)
theorem q_fault2 {post : Int32 → St → Prop} {z y : St} {n : Nat} (hn : gI y 101 = nI n) (h240 : n ≤ 240) (hT : ∀ i, i < n → tpB z i < 256 ∧ gA y 101 i = (nI (tpB z i)).toInt8.toInt32) (hp : ∀ y', FW (rdY n (sI y 100 0)) y' → ((resW z n).1 = none → WY (resW z n).2 y' ∧ gA y' 112 4 = nI (resW z n).2.2.2.1 ∧ (resW z n).2.2.2.1 ≤ 16) → post (faI (resW z n).1) y') : S_M_fault post (2 : Int32) y := by
  unfold S_M_fault B_M_fault_28 B_M_fault_46 B_M_fault_55
  refine ev (q_isIn_y (j := 2) (m := 2) L2 (by omega) (by omega) (r11 (pp_n (by decide) (pp_n (by decide) (pp_y rfl (q_readWin (y := sI y 100 0) hn h240 hT (fun y' hF e hw => ?_)))))))
  rw [e]
  exact hp y' hF hw
theorem fw_ty {n : Nat} {y y' : St} (h : FW (rdY n (sI y 100 0)) y') : Fr (MS) (111 :: 112 :: MA) y y' := (((Fr.rf.sI (by decide)).tr (rdY_fr.wk (fun _ h => h) (by decide))).tr (h.1.wk (by decide) (by decide)))
theorem o_fault_v2 {V V' : Nat} (hV : V ≤ V') : St_fault_v2 (Inv V) (Inv V') := by
  intro z y a1 a2 a3 a4 a5 h e
  subst e
  obtain ⟨n, t1, t2, t3, t4⟩ := h.tape
  unfold S_B_fault_v2 S_B_readerOf_v2 B_B_readerOf_v2_32
  refine ⟨by decide, by decide, rfl, q_faultW t1 t3 (fun i hi => ⟨(t4 i hi).1, (t4 i hi).2.1⟩) (fun z' hf hw => q_fault2 (z := z) t2 t3 (fun i hi => ⟨(t4 i hi).1, (t4 i hi).2.2⟩) (fun y' hF hw2 => ⟨rfl, ?_⟩))⟩
  have fy := fw_ty hF
  refine h.u_TLW hV (fun k hk => hf.1 k (by revert k; decide)) (fun k hk => hf.2.1 k (by revert k; decide)) (fun k hk => fy.1 k (by revert k; decide)) (fun k hk => fy.2.1 k (by revert k; decide)) (fun tl ln wn hT hL hW => ⟨tl, ln, wn, ?_, ?_, ?_⟩)
  · rw [hf.1 2 (by decide), hf.2.1 12 (by decide), fy.1 101 (by decide), fy.2.1 101 (by decide)]; exact hT
  · rw [hf.1 30 (by decide), hf.1 31 (by decide), fy.1 102 (by decide), fy.1 117 (by decide), fy.2.1 102 (by decide), fy.2.1 103 (by decide)]
    exact hL.cg (fun k _ _ => by rw [hf.2.2.1]) (fun k h1 h2 => hf.2.1 k (by intro q; simp at q; omega))
  · rw [hf.1 0 (by decide), fy.1 115 (by decide)]
    exact (hW.cg (fun k _ _ => by rw [hf.2.2.1]) (fun k h1 h2 => hf.2.1 k (by intro q; simp at q; omega))).cgM hF.2.1 hF.2.2
theorem isIn02 {post : Int32 → St → Prop} {x : Int32} {y : St} (h0 : ¬ x = 0) (h1 : ¬ x = 1) (h2 : ¬ x = 2) (h : post 0 y) : S_M_isIn post x.toInt64 0 2 y := by
  refine q_isIn L0 L2 (fun p1 p2 => ?_) (fun _ => h)
  exfalso
  obtain ⟨j, hj, e⟩ := nI_of2 (n := 2) (by decide) (fa_of_lt_le p1) p2
  have : j = 0 ∨ j = 1 ∨ j = 2 := by omega
  rcases this with rfl | rfl | rfl
  · exact h0 e
  · exact h1 e
  · exact h2 e
theorem o_fault_vn {V V' : Nat} (hV : V ≤ V') : St_fault_vn (Inv V) (Inv V') := by
  intro z y a1 a2 a3 a4 a5 h h0 h1 h2
  have hI : Inv V' z (sI y 100 0) := h.fr hV Fr.rf yt
  unfold S_B_fault_vn S_B_readerOf_vn S_M_fault
  exact ⟨h0, h1, h2, ev (isIn02 h0 h1 h2 (r01 ⟨rfl, hI⟩))⟩
theorem o_text_vn {V V' : Nat} (hV : V ≤ V') : St_text_vn (Inv V) (Inv V') := by
  intro z y a1 a2 a3 a4 a5 h h0 h1 h2
  have hI : Inv V' z (sI y 100 0) := h.fr hV Fr.rf yt
  unfold S_B_text_vn S_B_readerOf_vn S_M_text
  exact ⟨h0, h1, h2, ev (isIn02 h0 h1 h2 (r01 ⟨rfl, hI⟩))⟩
theorem q_cpW {post : Int32 → St → Prop} {y : St} {wn : Nat} (hw : gI y 115 = nI wn) (h4 : wn < 4) (hp : post (nI wn) (sI (sA (sF y 111 (fb_put (gA y 111) (fun k => gA y 111 (128 + k)) (32 * wn) 32)) 112 wn (gA y 112 4)) 115 (nI (wn + 1)))) : ∃ n, L_M_text_137 post n (0 : Int32) y := by
  have h0 : y = sF y 111 (fb_put (gA y 111) (fun k => gA y 111 (128 + k)) (32 * wn) 0) := by rw [fb_put_0, sF_id]
  rw [h0]
  refine lp_up (fun n i => L_M_text_137 post n (nI i) (sF y 111 (fb_put (gA y 111) (fun k => gA y 111 (128 + k)) (32 * wn) i))) 32 ?_ ?_
  · intro n i hi ih
    show B_M_text_137 post _ _ _
    unfold B_M_text_137
    rw [show gI (sF y 111 (fb_put (gA y 111) (fun k => gA y 111 (128 + k)) (32 * wn) i)) 115 = nI wn from hw, k32, show (128 : Int32) = nI 128 from rfl, pk_mul, nI_add, nI_add, nI_clamp (by omega), nI_clamp (by omega), nI_clamp (by omega), nI_leI (by omega) (by omega), nI_1]
    refine pp_n (by omega) ⟨(vp_in_nI (by omega) (by omega)), (vp_in_nI (by omega) (by omega)), ev (ev ?_)⟩
    have e := fb_put_succ (gA y 111) (fun k => gA y 111 (128 + k)) (32 * wn) i
    rw [sA_sF, gA_sF, if_pos rfl, fb_put_out (by omega), e]
    exact ih
  · show B_M_text_137 post _ _ _
    unfold B_M_text_137
    rw [show gI (sF y 111 (fb_put (gA y 111) (fun k => gA y 111 (128 + k)) (32 * wn) 32)) 115 = nI wn from hw, nI_clamp (by omega)]
    refine pp_y (by decide) ⟨(vp_in_nI (by omega) (by omega)), ev (ev ?_)⟩
    show post (gI (sI (sA (sF y 111 (fb_put (gA y 111) (fun k => gA y 111 (128 + k)) (32 * wn) 32)) 112 wn (gA y 112 4)) 115 (gI y 115 + 1)) 115 - 1) (sI (sA (sF y 111 (fb_put (gA y 111) (fun k => gA y 111 (128 + k)) (32 * wn) 32)) 112 wn (gA y 112 4)) 115 (gI y 115 + 1))
    rw [hw, nI_1, show gI (sI (sA (sF y 111 (fb_put (gA y 111) (fun k => gA y 111 (128 + k)) (32 * wn) 32)) 112 wn (gA y 112 4)) 115 (nI (wn + 1))) 115 = nI (wn + 1) from rfl, nI_pred]
    exact hp
theorem WinI.add {wn : Nat} {a e : Int32} {zz zz' : Nat → Nat} {zc zc' : Nat → Nat → Int32} {yw yl yw' yl' : Nat → Int32} (h : WinI wn a zz zc e yw yl) (h4 : wn < 4) {s : SW} (h16 : s.2.2.1 ≤ 16) (hz : ∀ k, k < wn → zz' (8 + k) = zz (8 + k)) (hzN : zz' (8 + wn) = s.2.2.1) (hc : ∀ k, k < wn → zc' (32 + k) = zc (32 + k)) (hcN : ∀ j, j < s.2.2.1 → zc' (32 + wn) j = nI (s.2.2.2 j)) (hw : ∀ j, j < 32 * wn → yw' j = yw j) (hl : ∀ j, j < wn → yl' j = yl j) (hlN : yl' wn = nI s.2.2.1)
    (hr : ∀ j, j < s.2.2.1 → s.2.2.2 j < 30 ∧ yw' (32 * wn + 2 * j) = nI (s.2.2.2 j / 10) ∧ yw' (32 * wn + 2 * j + 1) = (if s.2.2.2 j / 10 = 1 then -1 else nI (s.2.2.2 j % 10))) : WinI (wn + 1) (nI (wn + 1)) zz' zc' (nI (wn + 1)) yw' yl' := by
  obtain ⟨h1, h2, h3, h5⟩ := h
  refine ⟨rfl, rfl, by omega, fun k hk => ?_⟩
  by_cases ek : k = wn
  · subst ek
    refine ⟨s.2.2.1, h16, hzN, hlN, fun i hi => ?_⟩
    obtain ⟨r1, r2, r3⟩ := hr i hi
    refine ⟨s.2.2.2 i / 10, s.2.2.2 i % 10, by omega, by omega, ?_, ?_, ?_⟩
    · rw [hcN i hi]; congr 1; omega
    · rw [show 2 * (16 * k + i) = 32 * k + 2 * i by omega]; exact r2
    · rw [show 2 * (16 * k + i) + 1 = 32 * k + 2 * i + 1 by omega]; exact r3
  · obtain ⟨n, hn, e1, e2, e3⟩ := h5 k (by omega)
    refine ⟨n, hn, (hz k (by omega)).trans e1, (hl k (by omega)).trans e2, fun i hi => ?_⟩
    obtain ⟨a, d, ha, hd, f1, f2, f3⟩ := e3 i hi
    exact ⟨a, d, ha, hd, by rw [hc k (by omega)]; exact f1, by rw [hw _ (by omega)]; exact f2, by rw [hw _ (by omega)]; exact f3⟩
theorem runR_le {σ : Type} {T : Nat → Nat} {n : Nat} {step : Nat → σ → Option σ} {cl : σ → Option σ} {f : Nat} : ∀ m i s, i + m = n → (runR T n step cl m i s).1 = some f → f ≤ n
  | 0, i, s, _, h => by
    rw [runR] at h
    cases hc : cl s with
    | none => rw [hc] at h; injection h with h; omega
    | some s' => rw [hc] at h; cases h
  | m + 1, i, s, hi, h => by
    rw [runR] at h
    split at h
    · exact runR_le m (i + 1) s (by omega) h
    · cases hs : step i s with
      | none => rw [hs] at h; injection h with h; omega
      | some s' => rw [hs] at h; exact runR_le m (i + 1) s' (by omega) h
theorem faI_ne {r : Option Nat} {n : Nat} (hn : n < 2 ^ 31) (h : ∀ f, r = some f → f ≤ n) : faI r = -1 ↔ r = none := by
  cases r with
  | none => exact ⟨fun _ => rfl, fun _ => rfl⟩
  | some f =>
    have := h f rfl
    exact ⟨fun q => absurd q (fun q => (nI_m1 (by omega)).mp q), fun q => by cases q⟩
theorem o_text_v2 {V V' : Nat} (hV : V ≤ V') : St_text_v2 (Inv V) (Inv V') := by
  intro z y a1 a2 a3 a4 a5 h e
  subst e
  obtain ⟨n, t1, t2, t3, t4⟩ := h.tape
  obtain ⟨wn, hW⟩ := h.win
  have w4 := hW.2.2.1
  unfold S_B_text_v2 S_B_readerOf_v2 B_B_readerOf_v2_32
  refine ⟨by decide, by decide, rfl, q_faultW t1 t3 (fun i hi => ⟨(t4 i hi).1, (t4 i hi).2.1⟩) (fun z' hf hw => ?_)⟩
  have fz : Fr XS XA z z' := hf.wk (by decide) (by decide)
  have hIz : Inv V' z' (sI y 100 0) := h.fr hV fz yt
  have hle : ∀ f, (resW z n).1 = some f → f ≤ n := fun f q => runR_le n 0 s0W (by omega) q
  -- the reference, up to its reading
  have mY : wn < 4 → ∀ P : Int32 → St → Prop, (∀ y', FW (rdY n (sI (sI y 100 0) 100 0)) y' → ((resW z n).1 = none → WY (resW z n).2 y' ∧ gA y' 112 4 = nI (resW z n).2.2.2.1 ∧ (resW z n).2.2.2.1 ≤ 16) → ((resW z n).1 = none → ∃ k, L_M_text_137 P k 0 (sI y' 101 0)) ∧ (¬ (resW z n).1 = none → P (-1) y')) → S_M_text P 2 y := fun h4 P hP => by
    unfold S_M_text B_M_text_30 B_M_text_43
    refine ev (q_isIn_y (j := 2) (m := 2) L2 (by omega) (by omega) (r11 (pp_n (by decide) (pp_y rfl ?_))))
    rw [show gI (sI y 100 0) 115 = nI wn from hW.2.1, k4, nI_eq (by omega) (by omega)]
    refine pp_n (by omega) (q_fault2 (z := z) (y := sI y 100 0) t2 t3 (fun i hi => ⟨(t4 i hi).1, (t4 i hi).2.2⟩) (fun y' hF hw2 => ?_))
    have hP := hP y' hF hw2
    rw [faI_ne (by omega) hle]
    exact ⟨fun c => ev (ev (pp_n (by decide) (pp_y rfl (hP.1 c)))), fun c => hP.2 c⟩
  have early : wn = 4 → ∀ z2, Inv V' z2 (sI y 100 0) → S_M_text (fun r1 y1 => (-1 : Int32) = r1 ∧ Inv V' z2 y1) 2 y := fun h4 z2 hI2 => by
    unfold S_M_text B_M_text_30
    refine ev (q_isIn_y (j := 2) (m := 2) L2 (by omega) (by omega) (r11 (pp_n (by decide) (pp_y rfl ?_))))
    rw [show gI (sI y 100 0) 115 = nI wn from hW.2.1, h4]
    exact pp_y rfl ⟨rfl, hI2⟩
  have keepW : ∀ y', FW (rdY n (sI (sI y 100 0) 100 0)) y' → Inv V' z' y' := fun y' hF => by
    have fy : Fr MS (111 :: 112 :: MA) y y' := (Fr.rf.sI (by decide)).tr (fw_ty hF)
    refine h.u_TLW hV (fun k hk => hf.1 k (by revert k; decide)) (fun k hk => hf.2.1 k (by revert k; decide)) (fun k hk => fy.1 k (by revert k; decide)) (fun k hk => fy.2.1 k (by revert k; decide)) (fun tl ln wn hT hL hW => ⟨tl, ln, wn, ?_, ?_, ?_⟩)
    · rw [hf.1 2 (by decide), hf.2.1 12 (by decide), fy.1 101 (by decide), fy.2.1 101 (by decide)]; exact hT
    · rw [hf.1 30 (by decide), hf.1 31 (by decide), fy.1 102 (by decide), fy.1 117 (by decide), fy.2.1 102 (by decide), fy.2.1 103 (by decide)]
      exact hL.cg (fun k _ _ => by rw [hf.2.2.1]) (fun k h1 h2 => hf.2.1 k (by intro q; simp at q; omega))
    · rw [hf.1 0 (by decide), fy.1 115 (by decide)]
      exact (hW.cg (fun k _ _ => by rw [hf.2.2.1]) (fun k h1 h2 => hf.2.1 k (by intro q; simp at q; omega))).cgM hF.2.1 hF.2.2
  rw [faI_ne (by omega) hle]
  refine ⟨fun c => ⟨by decide, by decide, ?_⟩, fun c => ?_⟩
  · obtain ⟨w1, w2, w3, w5, w6, w7⟩ := hw c
    unfold S_B_addWinter
    have e0 : gI z' 0 = nI wn := (hf.1 0 (by decide)).trans hW.1
    rw [e0, k4, nI_ltI (by omega) (by omega)]
    refine ⟨fun h4 => ?_, fun h4 => ?_⟩
    · unfold S_WinterReader_stepsRead S_copy_16
      rw [w5, nI_clamp (by omega), nI_clamp (by omega)]
      refine ⟨nI_pos (by omega), w6, fun f hfj q2 => ⟨(vp_in_nI (by omega) (by omega)), ev (ev ?_)⟩⟩
      rw [show gI (sNew z' 0 wn q2 (resW z n).2.2.2.1 f) 0 = nI wn from e0, nI_1, show gI (sI (sNew z' 0 wn q2 (resW z n).2.2.2.1 f) 0 (nI (wn + 1))) 0 = nI (wn + 1) from rfl, nI_pred]
      unfold B_B_text_v2_61
      refine pp_n (fun q => (nI_m1 (by omega)).mp q) (ev ?_)
      refine mY h4 _ (fun y' hF hw2 => ⟨fun _ => ?_, fun q => absurd c q⟩)
      obtain ⟨v1, v2, v3⟩ := hw2 c
      have fy : Fr MS (111 :: 112 :: MA) y y' := (Fr.rf.sI (by decide)).tr (fw_ty hF)
      refine q_cpW (y := sI y' 101 0) ((fy.1 115 (by decide)).trans hW.2.1) h4 ⟨rfl, ?_⟩
      refine h.u_TLW hV (fun k hk => ?_) (fun k hk => ?_) (fun k hk => ?_) (fun k hk => ?_) (fun tl ln wn' hT hL hW' => ⟨0, ln, wn + 1, ?_, ?_, ?_⟩)
      · rw [gI_sI, if_neg (by revert k; decide), gI_sI, if_neg (by revert k; decide)]
        exact hf.1 k (by revert k; decide)
      · show gA (sNew z' 0 wn q2 (resW z n).2.2.2.1 f) k = gA z k
        unfold sNew
        rw [gA_sF, if_neg (by intro q; subst q; simp at hk; omega)]
        exact hf.2.1 k (by revert k; decide)
      · rw [gI_sI, if_neg (by revert k; decide)]
        show gI (sI y' 101 0) k = _
        rw [gI_sI, if_neg (by revert k; decide)]
        exact fy.1 k (by revert k; decide)
      · show gA (sA (sF (sI y' 101 0) 111 _) 112 wn _) k = _
        rw [gA_sA, if_neg (by revert k; decide), gA_sF, if_neg (by revert k; decide)]
        exact fy.2.1 k (by revert k; decide)
      · exact ⟨rfl, rfl, by omega, fun i hi => absurd hi (Nat.not_lt_zero _)⟩
      · show LawI ln (gI z' 30) (gI z' 31) (gZ (sNew z' 0 wn q2 (resW z n).2.2.2.1 f)) (gA (sNew z' 0 wn q2 (resW z n).2.2.2.1 f)) (gI y' 102) (gI y' 117) (gA y' 102) (gA y' 103)
        rw [hf.1 30 (by decide), hf.1 31 (by decide), fy.1 102 (by decide), fy.1 117 (by decide), fy.2.1 102 (by decide), fy.2.1 103 (by decide)]
        refine hL.cg (fun k h1 h2 => ?_) (fun k h1 h2 => ?_)
        · unfold sNew
          rw [gZ_sF, gZ_sZ, if_neg (by omega), gZ_sZ, if_neg (by omega), hf.2.2.1]
        · unfold sNew
          rw [gA_sF, if_neg (by omega)]
          exact hf.2.1 k (by intro q; simp at q; omega)
      · have ew : wn' = wn := (nI_eq (by have := hW'.2.2.1; omega) (by omega)).mp (hW'.1.symm.trans hW.1)
        subst ew
        show WinI (wn' + 1) (nI (wn' + 1)) (gZ (sNew z' 0 wn' q2 (resW z n).2.2.2.1 f)) (gA (sNew z' 0 wn' q2 (resW z n).2.2.2.1 f)) (nI (wn' + 1)) (fb_put (gA y' 111) (fun k => gA y' 111 (128 + k)) (32 * wn') 32) (upd (gA y' 112) wn' (gA y' 112 4))
        refine hW.add h4 (s := (resW z n).2) w6 (fun k hk => ?_) ?_ (fun k hk => ?_) (fun j hj => ?_) (fun j hj => ?_) (fun j hj => ?_) ?_ (fun j hj => ?_)
        · unfold sNew
          rw [gZ_sF, gZ_sZ, if_neg (by omega), gZ_sZ, if_neg (by omega), hf.2.2.1]
        · unfold sNew
          rw [gZ_sF, gZ_sZ, if_pos (by omega)]
        · unfold sNew
          rw [gA_sF, if_neg (by omega)]
          exact hf.2.1 (32 + k) (by intro q; simp at q; omega)
        · unfold sNew
          rw [gA_sF, if_pos (by omega), hfj j hj]
          exact (w7 j hj).1
        · rw [fb_put_out (by omega)]; exact hF.2.1 j (by omega)
        · rw [pk_un (by omega)]; exact hF.2.2 j (by omega)
        · rw [pk_us]; exact v2
        · obtain ⟨x1, x2, x3⟩ := v1 j hj
          rw [fb_put_in (by omega) (by omega), fb_put_in (by omega) (by omega), show 32 * wn' + 2 * j - 32 * wn' = 2 * j by omega, show 32 * wn' + 2 * j + 1 - 32 * wn' = 2 * j + 1 by omega, show 128 + 2 * j = 2 * (64 + j) by omega, show 128 + (2 * j + 1) = 2 * (64 + j) + 1 by omega]
          exact ⟨x1, x2, x3⟩
    · unfold B_B_text_v2_61
      exact pp_y rfl (early (by omega) z' hIz)
  · by_cases h4 : wn < 4
    · exact mY h4 _ (fun y' hF hw2 => ⟨fun q => absurd q c, fun _ => ⟨rfl, keepW y' hF⟩⟩)
    · exact early (by omega) z' hIz
