/-! feed. The family 'Int32 by its bits' is the kit's, pasted -/
def bt (x : Int32) (i : Nat) : Bool := x.toBitVec.getLsbD i
theorem b_ext {x y : Int32} (h : ∀ i, i < 32 → bt x i = bt y i) : x = y := Int32.toBitVec_inj.mp (BitVec.eq_of_getLsbD_eq (fun i hi => h i hi))
theorem b_and (x y : Int32) (i : Nat) : bt (x &&& y) i = (bt x i && bt y i) := by unfold bt; rw [Int32.toBitVec_and, BitVec.getLsbD_and]
theorem b_big {x : Int32} {i : Nat} (h : 32 ≤ i) : bt x i = false := BitVec.getLsbD_of_ge _ _ h
theorem b_255 (i : Nat) : bt 255 i = decide (i < 8) := by
  rcases Nat.lt_or_ge i 32 with h | h
  · exact (by decide +kernel : ∀ i, i < 32 → bt 255 i = decide (i < 8)) i h
  · rw [b_big h, decide_eq_false (by omega)]
theorem s_l : ∀ n, n < 32 → ((nI n &&& 31).toBitVec.smod 32).toNat = n := by decide +kernel
theorem s_u : ∀ n, n < 32 → (((nI n).toUInt32 &&& Int32.toUInt32 31).toBitVec % 32).toNat = n := by decide +kernel
theorem b_ushr (n : Nat) (hn : n < 32) (x : Int32) (i : Nat) : bt ((x.toUInt32 >>> ((nI n).toUInt32 &&& Int32.toUInt32 31)).toInt32) i = bt x (n + i) := by
  show (x.toUInt32 >>> ((nI n).toUInt32 &&& Int32.toUInt32 31)).toBitVec.getLsbD i = x.toUInt32.toBitVec.getLsbD (n + i)
  rw [UInt32.toBitVec_shiftRight]
  show (x.toUInt32.toBitVec >>> (((nI n).toUInt32 &&& Int32.toUInt32 31).toBitVec % 32).toNat).getLsbD i = _
  rw [s_u n hn, BitVec.getLsbD_ushiftRight]
theorem b_sshr (n : Nat) (hn : n < 32) (x : Int32) {i : Nat} (hi : i < 32) : bt (x >>> (nI n &&& 31)) i = if n + i < 32 then bt x (n + i) else bt x 31 := by
  unfold bt
  rw [Int32.toBitVec_shiftRight]
  show (x.toBitVec.sshiftRight ((nI n &&& 31).toBitVec.smod 32).toNat).getLsbD i = _
  rw [s_l n hn, BitVec.getLsbD_sshiftRight, BitVec.msb_eq_getLsbD_last]
  simp [hi]
theorem by_same {s : Nat} (hs : s ≤ 24) (x : Int32) : (x.toUInt32 >>> ((nI s).toUInt32 &&& Int32.toUInt32 31)).toInt32 &&& 255 = (x >>> (nI s &&& 31)) &&& 255 := by
  refine b_ext (fun i hi => ?_)
  rw [b_and, b_and, b_255]
  by_cases c : i < 8
  · rw [b_ushr s (by omega), b_sshr s (by omega) x hi, if_pos (by omega)]
  · rw [decide_eq_false c, Bool.and_false, Bool.and_false]
theorem as_nI (y : Int32) : y = nI y.toBitVec.toNat := by
  apply Int32.toBitVec_inj.1
  show y.toBitVec = BitVec.ofNat 32 y.toBitVec.toNat
  rw [BitVec.ofNat_toNat, BitVec.setWidth_eq]
/-- a byte of a word -/
def bv (x : Int32) (s : Nat) : Nat := (x >>> (nI s &&& 31)).toBitVec.toNat % 256
theorem bv_lt (x : Int32) (s : Nat) : bv x s < 256 := Nat.mod_lt _ (by omega)
theorem bv_M (x : Int32) (s : Nat) : (x >>> (nI s &&& 31)) &&& 255 = nI (bv x s) := by
  conv => lhs; rw [as_nI (x >>> (nI s &&& 31))]
  exact fa_mask _ 8
theorem bv_X {s : Nat} (hs : s ≤ 24) (x : Int32) : (x.toUInt32 >>> ((nI s).toUInt32 &&& Int32.toUInt32 31)).toInt32 &&& 255 = nI (bv x s) := by rw [by_same hs, bv_M]
theorem bv_8 (x : Int32) (s : Nat) : (x >>> (nI s &&& 31)).toInt8.toInt32 = (nI (bv x s)).toInt8.toInt32 := by rw [← bv_M, fa_byte_low]
def c1 (x : Int32) (s : Nat) : Nat := if bv x s = 0 then 0 else 1
def cW (x : Int32) : Nat := c1 x 24 + c1 x 16 + c1 x 8 + c1 x 0
theorem cW_le (x : Int32) : cW x ≤ 4 := by
  unfold cW c1; split <;> split <;> split <;> split <;> omega
def apF (e : Nat → Int32) (x : Int32) (s n : Nat) (f : Nat → Int32) : Nat → Int32 := if bv x s = 0 then f else upd f n (e (bv x s))
def wF (e : Nat → Int32) (x : Int32) (n : Nat) (f : Nat → Int32) : Nat → Int32 :=
  apF e x 0 (n + c1 x 24 + c1 x 16 + c1 x 8) (apF e x 8 (n + c1 x 24 + c1 x 16) (apF e x 16 (n + c1 x 24) (apF e x 24 n f)))
def TX (z : St) (n : Nat) (f : Nat → Int32) : St := sI (sF z 12 f) 2 (nI n)
def TY (y : St) (n : Nat) (f : Nat → Int32) : St := sI (sF y 101 f) 101 (nI n)
def eX (b : Nat) : Int32 := nI b
def eY (b : Nat) : Int32 := (nI b).toInt8.toInt32
theorem TX_up {z : St} {n : Nat} {f : Nat → Int32} {v : Int32} : sI (sA (TX z n f) 12 n v) 2 (nI (n + 1)) = TX z (n + 1) (upd f n v) := by
  show sI (sI (sF (sF z 12 f) 12 (upd f n v)) 2 (nI n)) 2 (nI (n + 1)) = _
  rw [sI_sI, sF_sF]; rfl
theorem TY_up {y : St} {n : Nat} {f : Nat → Int32} {v : Int32} : sI (sA (TY y n f) 101 n v) 101 (nI (n + 1)) = TY y (n + 1) (upd f n v) := by
  show sI (sI (sF (sF y 101 f) 101 (upd f n v)) 101 (nI n)) 101 (nI (n + 1)) = _
  rw [sI_sI, sF_sF]; rfl
theorem add_1 {post : St → Prop} {z : St} {x : Int32} {s n k : Nat} {f : Nat → Int32} {t : Int32} (hs : s ≤ 24) (ht : nI s + -8 = t) (hn : n + c1 x s ≤ 240) (h : L_Tape_add_3 post k x t (TX z (n + c1 x s) (apF eX x s n f))) : L_Tape_add_3 post (k + 1) x (nI s) (TX z n f) := by
  show B_Tape_add_3 post _ _ _ _
  unfold B_Tape_add_3 B_Tape_add_49
  rw [bv_X hs, ht]
  refine pp_n (nI_pos (by omega)) (ev ?_)
  have hb := bv_lt x s
  unfold c1 at hn h
  unfold apF at h
  rw [nI_eq0 (by omega)]
  refine ⟨fun c => ev ?_, fun c => ?_⟩
  · rw [if_pos c, if_pos c] at h; exact h
  · rw [if_neg c] at hn
    rw [if_neg c, if_neg c] at h
    rw [show gI (TX z n f) 2 = nI n from rfl, k240, nI_leI (by omega) (by omega), nI_clamp (by omega)]
    refine pp_n (by omega) ⟨(vp_in_nI (by omega) (by omega)), ev (ev (ev ?_))⟩
    rw [show gI (sA (TX z n f) 12 n (nI (bv x s))) 2 = nI n from rfl, nI_1, TX_up]
    exact h
theorem put_1 {post : St → Prop} {y : St} {x : Int32} {s n k : Nat} {f : Nat → Int32} {t : Int32} (ht : nI s + -8 = t) (hs : s ≤ 24) (hn : n + c1 x s ≤ 240) (h : L_M_put_3 post k x t (TY y (n + c1 x s) (apF eY x s n f))) : L_M_put_3 post (k + 1) x (nI s) (TY y n f) := by
  show B_M_put_3 post _ _ _ _
  unfold B_M_put_3 B_M_put_43
  rw [bv_M, bv_8, ht]
  refine pp_n (nI_pos (by omega)) ?_
  have hb := bv_lt x s
  unfold c1 at hn h
  unfold apF at h
  rw [nI_eq0 (by omega)]
  refine ⟨fun c => ev ?_, fun c => ?_⟩
  · rw [if_pos c, if_pos c] at h; exact h
  · rw [if_neg c] at hn
    rw [if_neg c, if_neg c] at h
    rw [show gI (TY y n f) 101 = nI n from rfl, nI_clamp (by omega), show vp_nar .byte (nI (bv x s)).toInt8.toInt32 = eY (bv x s) from fb_byte_twice _]
    refine ⟨(vp_in_nI (by omega) (by omega)), ev (ev (ev ?_))⟩
    rw [show gI (sA (TY y n f) 101 n (eY (bv x s))) 101 = nI n from rfl, nI_1, TY_up]
    exact h
theorem q_add {post : St → Prop} {z : St} {x : Int32} {n : Nat} {f : Nat → Int32} (hn : n + cW x ≤ 240) (h : post (TX z (n + cW x) (wF eX x n f))) : S_Tape_add post x (TX z n f) := by
  unfold cW at hn
  refine ⟨5, add_1 (s := 24) (by omega) (show _ = nI 16 by decide) (by omega) (add_1 (s := 16) (by omega) (show _ = nI 8 by decide) (by omega) (add_1 (s := 8) (by omega) (show _ = nI 0 by decide) (by omega) (add_1 (s := 0) (by omega) (show _ = (-8 : Int32) by decide) (by omega) ?_)))⟩
  show B_Tape_add_3 post _ _ _ _
  unfold B_Tape_add_3
  refine pp_y (by decide) ?_
  rw [show n + c1 x 24 + c1 x 16 + c1 x 8 + c1 x 0 = n + cW x by unfold cW; omega]
  exact h
theorem q_put {post : St → Prop} {y : St} {x : Int32} {n : Nat} {f : Nat → Int32} (hn : n + cW x ≤ 240) (h : post (TY y (n + cW x) (wF eY x n f))) : S_M_put post x (TY y n f) := by
  unfold cW at hn
  refine ⟨5, put_1 (s := 24) (show _ = nI 16 by decide) (by omega) (by omega) (put_1 (s := 16) (show _ = nI 8 by decide) (by omega) (by omega) (put_1 (s := 8) (show _ = nI 0 by decide) (by omega) (by omega) (put_1 (s := 0) (show _ = (-8 : Int32) by decide) (by omega) (by omega) ?_)))⟩
  show B_M_put_3 post _ _ _ _
  unfold B_M_put_3
  refine pp_y (by decide) ?_
  rw [show n + c1 x 24 + c1 x 16 + c1 x 8 + c1 x 0 = n + cW x by unfold cW; omega]
  exact h
theorem cnt_1 {post : Int32 → St → Prop} {z : St} {x : Int32} {s m k : Nat} {t : Int32} (hs : s ≤ 24) (ht : nI s + -8 = t) (h : L_Tape_bytesOf_5 post k x (nI (m + c1 x s)) t z) : L_Tape_bytesOf_5 post (k + 1) x (nI m) (nI s) z := by
  show B_Tape_bytesOf_5 post _ _ _ _ _
  unfold B_Tape_bytesOf_5 B_Tape_bytesOf_22
  rw [bv_X hs, ht, nI_1]
  have hb := bv_lt x s
  rw [nI_eq0 (by omega)]
  unfold c1 at h
  refine pp_n (nI_pos (by omega)) ⟨fun c => ev ?_, fun c => ev (ev ?_)⟩
  · rw [if_pos c] at h; exact h
  · rw [if_neg c] at h; exact h
theorem cnt_2 {post : Int32 → St → Prop} {z : St} {x : Int32} {s m k : Nat} {t : Int32} (hs : s ≤ 24) (ht : nI s + -8 = t) (h : L_M_bytesIn_5 post k x (nI (m + c1 x s)) t z) : L_M_bytesIn_5 post (k + 1) x (nI m) (nI s) z := by
  show B_M_bytesIn_5 post _ _ _ _ _
  unfold B_M_bytesIn_5 B_M_bytesIn_25
  rw [bv_M, ht, k1, nI_add]
  have hb := bv_lt x s
  rw [nI_eq0 (by omega)]
  unfold c1 at h
  refine pp_n (nI_pos (by omega)) ⟨fun c => ev (ev ?_), fun c => ev (ev ?_)⟩
  · rw [if_pos c] at h; rw [Int32.add_zero]; exact h
  · rw [if_neg c] at h; exact h
theorem q_bytesOf {post : Int32 → St → Prop} {z : St} {x : Int32} (h : post (nI (cW x)) z) : S_Tape_bytesOf post x z := by
  refine ⟨5, cnt_1 (s := 24) (m := 0) (by omega) (show _ = nI 16 by decide) (cnt_1 (s := 16) (by omega) (show _ = nI 8 by decide) (cnt_1 (s := 8) (by omega) (show _ = nI 0 by decide) (cnt_1 (s := 0) (by omega) (show _ = (-8 : Int32) by decide) ?_)))⟩
  show B_Tape_bytesOf_5 post _ _ _ _ _
  unfold B_Tape_bytesOf_5
  refine pp_y (by decide) ?_
  rw [show 0 + c1 x 24 + c1 x 16 + c1 x 8 + c1 x 0 = cW x by unfold cW; omega]
  exact h
theorem q_bytesIn {post : Int32 → St → Prop} {z : St} {x : Int32} (h : post (nI (cW x)) z) : S_M_bytesIn post x z := by
  refine ⟨5, cnt_2 (s := 24) (m := 0) (by omega) (show _ = nI 16 by decide) (cnt_2 (s := 16) (by omega) (show _ = nI 8 by decide) (cnt_2 (s := 8) (by omega) (show _ = nI 0 by decide) (cnt_2 (s := 0) (by omega) (show _ = (-8 : Int32) by decide) ?_)))⟩
  show B_M_bytesIn_5 post _ _ _ _ _
  unfold B_M_bytesIn_5
  refine pp_y (by decide) ?_
  rw [show 0 + c1 x 24 + c1 x 16 + c1 x 8 + c1 x 0 = cW x by unfold cW; omega]
  exact h
def TT (n : Nat) (f g : Nat → Int32) : Prop := ∀ i, i < n → ∃ b, b < 256 ∧ f i = nI b ∧ g i = (nI b).toInt8.toInt32
theorem TT.ap {n : Nat} {f g : Nat → Int32} (h : TT n f g) (x : Int32) (s : Nat) : TT (n + c1 x s) (apF eX x s n f) (apF eY x s n g) := by
  unfold c1 apF
  by_cases c : bv x s = 0
  · rw [if_pos c, if_pos c, if_pos c]; exact h
  · rw [if_neg c, if_neg c, if_neg c]
    intro i hi
    by_cases e : i = n
    · subst e; rw [pk_us, pk_us]; exact ⟨bv x s, bv_lt x s, rfl, rfl⟩
    · rw [pk_un e, pk_un e]; exact h i (by omega)
theorem TT.w {n : Nat} {f g : Nat → Int32} (h : TT n f g) (x : Int32) : TT (n + cW x) (wF eX x n f) (wF eY x n g) := by
  have := (((h.ap x 24).ap x 16).ap x 8).ap x 0
  rw [show n + c1 x 24 + c1 x 16 + c1 x 8 + c1 x 0 = n + cW x by unfold cW; omega] at this
  exact this
theorem o_feed {V V' : Nat} (hV : V ≤ V') : St_feed (Inv V) (Inv V') := by
  intro z y a1 a2 a3 a4 a5 h
  have hI : Inv V' z (sI y 100 0) := h.fr hV Fr.rf yt
  obtain ⟨n, t1, t2, t3, t4⟩ : ∃ n, TapeI n (gI z 2) (gA z 12) (gI y 101) (gA y 101) := by
    obtain ⟨nd, ng, tl, ln, wn, sn, a, n, v, hH, hT, _⟩ := h; exact ⟨tl, hT⟩
  have w1 := cW_le a1
  have w2 := cW_le a2
  have w3 := cW_le a3
  have w4 := cW_le a4
  have w5 := cW_le a5
  unfold S_B_feed
  refine q_bytesOf (q_bytesOf (q_bytesOf (q_bytesOf (q_bytesOf (ev ?_)))))
  rw [nI_add, nI_add, nI_add, nI_add, t1, nI_add, k240, nI_leI (by omega) (by omega)]
  have e1 : gI (sI y 100 0) 101 = nI n := t2
  refine ⟨fun c => ?_, fun c => ?_⟩
  · have hz0 : z = TX z n (gA z 12) := by
      unfold TX
      rw [sF_id, ← t1]
      refine Prod.ext (funext fun j => ?_) rfl
      show z.1 j = if j = 2 then gI z 2 else z.1 j
      split
      · rename_i e; rw [e]; rfl
      · rfl
    have hy0 : sI y 100 0 = TY (sI y 100 0) n (gA y 101) := by
      unfold TY
      rw [show gA y 101 = gA (sI y 100 0) 101 from rfl, sF_id, ← e1]
      refine Prod.ext (funext fun j => ?_) rfl
      show (sI y 100 0).1 j = if j = 101 then gI (sI y 100 0) 101 else (sI y 100 0).1 j
      split
      · rename_i e; rw [e]; rfl
      · rfl
    rw [hz0]
    refine q_add (by omega) (q_add (by omega) (q_add (by omega) (q_add (by omega) (q_add (by omega) ?_))))
    unfold S_M_feed
    refine ev (q_bytesIn (q_bytesIn (q_bytesIn (q_bytesIn (q_bytesIn ?_)))))
    rw [e1, nI_add, nI_add, nI_add, nI_add, nI_add, k240, nI_leI (by omega) (by omega)]
    refine pp_y (by omega) ?_
    rw [hy0]
    refine q_put (by omega) (q_put (by omega) (q_put (by omega) (q_put (by omega) (q_put (by omega) ⟨rfl, ?_⟩))))
    refine h.u_tape hV ((Fr.rf.sF (by decide)).sI (by decide)) (((Fr.rf.sI (by decide)).sF (by decide)).sI (by decide)) (fun nd ng tl hH hT => ?_)
    have tt : TT n (gA z 12) (gA y 101) := t4
    exact ⟨n + cW a1 + cW a2 + cW a3 + cW a4 + cW a5, rfl, rfl, by omega, ((((tt.w a1).w a2).w a3).w a4).w a5⟩
  · unfold S_M_feed
    refine ev (q_bytesIn (q_bytesIn (q_bytesIn (q_bytesIn (q_bytesIn ?_)))))
    rw [e1, nI_add, nI_add, nI_add, nI_add, nI_add, k240, nI_leI (by omega) (by omega)]
    exact pp_n (by omega) ⟨rfl, hI⟩
