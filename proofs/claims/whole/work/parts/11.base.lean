/-! My own state of a world: ints by number, arrays by number, plain numbers (places of arrays that are replaced, their lengths, constant texts), longs. -/
abbrev St : Type := (Nat → Int32) × (Nat → Nat → Int32) × (Nat → Nat) × (Nat → Int64) × (Nat → Nat)
def gI (σ : St) (k : Nat) : Int32 := σ.1 k
def gA (σ : St) (a : Nat) : Nat → Int32 := σ.2.1 a
def gZ (σ : St) (k : Nat) : Nat := σ.2.2.1 k
def gL (σ : St) (k : Nat) : Int64 := σ.2.2.2.1 k
def gT (σ : St) (k : Nat) : Nat := σ.2.2.2.2 k
def sI (σ : St) (k : Nat) (v : Int32) : St := (fun j => if j = k then v else σ.1 j, σ.2)
def sF (σ : St) (a : Nat) (f : Nat → Int32) : St := (σ.1, (fun b => if b = a then f else σ.2.1 b), σ.2.2)
def sA (σ : St) (a i : Nat) (v : Int32) : St := sF σ a (upd (gA σ a) i v)
def sZ (σ : St) (k : Nat) (v : Nat) : St := (σ.1, σ.2.1, (fun j => if j = k then v else σ.2.2.1 j), σ.2.2.2)
def sL (σ : St) (k : Nat) (v : Int64) : St := (σ.1, σ.2.1, σ.2.2.1, (fun j => if j = k then v else σ.2.2.2.1 j), σ.2.2.2.2)
def sT (σ : St) (k : Nat) (v : Nat) : St := (σ.1, σ.2.1, σ.2.2.1, σ.2.2.2.1, fun j => if j = k then v else σ.2.2.2.2 j)
theorem gI_sI (σ : St) (k : Nat) (v : Int32) (j : Nat) : gI (sI σ k v) j = if j = k then v else gI σ j := rfl
theorem gI_sF (σ : St) (a : Nat) (f : Nat → Int32) (j : Nat) : gI (sF σ a f) j = gI σ j := rfl
theorem gI_sA (σ : St) (a i : Nat) (v : Int32) (j : Nat) : gI (sA σ a i v) j = gI σ j := rfl
theorem gI_sZ (σ : St) (k : Nat) (v : Nat) (j : Nat) : gI (sZ σ k v) j = gI σ j := rfl
theorem gI_sL (σ : St) (k : Nat) (v : Int64) (j : Nat) : gI (sL σ k v) j = gI σ j := rfl
theorem gI_sT (σ : St) (k : Nat) (v : Nat) (j : Nat) : gI (sT σ k v) j = gI σ j := rfl
theorem gA_sI (σ : St) (k : Nat) (v : Int32) (j : Nat) : gA (sI σ k v) j = gA σ j := rfl
theorem gA_sF (σ : St) (a : Nat) (f : Nat → Int32) (j : Nat) : gA (sF σ a f) j = if j = a then f else gA σ j := rfl
theorem gA_sA (σ : St) (a i : Nat) (v : Int32) (j : Nat) : gA (sA σ a i v) j = if j = a then upd (gA σ a) i v else gA σ j := rfl
theorem gA_sZ (σ : St) (k : Nat) (v : Nat) (j : Nat) : gA (sZ σ k v) j = gA σ j := rfl
theorem gA_sL (σ : St) (k : Nat) (v : Int64) (j : Nat) : gA (sL σ k v) j = gA σ j := rfl
theorem gA_sT (σ : St) (k : Nat) (v : Nat) (j : Nat) : gA (sT σ k v) j = gA σ j := rfl
theorem gZ_sI (σ : St) (k : Nat) (v : Int32) (j : Nat) : gZ (sI σ k v) j = gZ σ j := rfl
theorem gZ_sF (σ : St) (a : Nat) (f : Nat → Int32) (j : Nat) : gZ (sF σ a f) j = gZ σ j := rfl
theorem gZ_sA (σ : St) (a i : Nat) (v : Int32) (j : Nat) : gZ (sA σ a i v) j = gZ σ j := rfl
theorem gZ_sZ (σ : St) (k : Nat) (v : Nat) (j : Nat) : gZ (sZ σ k v) j = if j = k then v else gZ σ j := rfl
theorem gZ_sL (σ : St) (k : Nat) (v : Int64) (j : Nat) : gZ (sL σ k v) j = gZ σ j := rfl
theorem gZ_sT (σ : St) (k : Nat) (v : Nat) (j : Nat) : gZ (sT σ k v) j = gZ σ j := rfl
theorem gL_sI (σ : St) (k : Nat) (v : Int32) (j : Nat) : gL (sI σ k v) j = gL σ j := rfl
theorem gL_sF (σ : St) (a : Nat) (f : Nat → Int32) (j : Nat) : gL (sF σ a f) j = gL σ j := rfl
theorem gL_sA (σ : St) (a i : Nat) (v : Int32) (j : Nat) : gL (sA σ a i v) j = gL σ j := rfl
theorem gL_sZ (σ : St) (k : Nat) (v : Nat) (j : Nat) : gL (sZ σ k v) j = gL σ j := rfl
theorem gL_sL (σ : St) (k : Nat) (v : Int64) (j : Nat) : gL (sL σ k v) j = if j = k then v else gL σ j := rfl
theorem gL_sT (σ : St) (k : Nat) (v : Nat) (j : Nat) : gL (sT σ k v) j = gL σ j := rfl
theorem gT_sI (σ : St) (k : Nat) (v : Int32) (j : Nat) : gT (sI σ k v) j = gT σ j := rfl
theorem gT_sF (σ : St) (a : Nat) (f : Nat → Int32) (j : Nat) : gT (sF σ a f) j = gT σ j := rfl
theorem gT_sA (σ : St) (a i : Nat) (v : Int32) (j : Nat) : gT (sA σ a i v) j = gT σ j := rfl
theorem gT_sZ (σ : St) (k : Nat) (v : Nat) (j : Nat) : gT (sZ σ k v) j = gT σ j := rfl
theorem gT_sL (σ : St) (k : Nat) (v : Int64) (j : Nat) : gT (sL σ k v) j = gT σ j := rfl
theorem gT_sT (σ : St) (k : Nat) (v : Nat) (j : Nat) : gT (sT σ k v) j = if j = k then v else gT σ j := rfl
/-- what never changes: class numbers and slots, array classes, addresses of the cells, addresses of constant texts and of their bytes -/
abbrev GX : Type := va_G × (Nat → ClassId) × (Nat → Nat) × (Nat → Nat) × (Nat → Nat)
def ad (G : GX) (k : Nat) : Nat := G.2.2.1 k
def cy (G : GX) (k : Nat) : ClassId := G.2.1 k
/-! The worlds: the class's cells (wX) and the reference's (wM), by my state. -/
def tx (G : GX) (k : Nat) : Nat := G.2.2.2.1 k
abbrev classes : List vw_C := [(RX0, TX0, 6), (RX1, TX1, 12), (RX2, TX2, 9), (RX3, TX3, 5), (RX4, TX4, 7), (RX6, TX6, 12), (RX7, TX7, 6), (RX8, TX8, 3), (RX9, TX9, 2), (RX10, TX10, 4), (RX11, TX11, 14), (RX12, TX12, 53)]
abbrev etys (G : GX) : List (ClassId × FieldType) := [(cy G 0, .int), (cy G 1, .byte), (cy G 2, .array .int)]
def wX (G : GX) (σ : St) : va_W := [
  (ad G 0, .inr (10, [.ref (ad G 1), .ref (ad G 2), .ref (ad G 3), .ref (ad G 4), .ref (ad G 17), .ref (ad G 5), .ref (ad G 6), .ref (ad G 7), .ref (ad G 8), .ref (ad G 9), .ref (ad G 10), .ref (ad G 11), .int (gI σ 0), .int (gI σ 1)])),
  (ad G 1, .inr (8, [.ref (ad G 12), .int (gI σ 2)])),
  (ad G 2, .inr (1, [.ref (ad G 13), .int (gI σ 3), .int (gI σ 4), .int (gI σ 5), .int (gI σ 6), .ref (tx G (gT σ 0)), .int (gI σ 7), .int (gI σ 8), .int (gI σ 9), .int (gI σ 10), .int (gI σ 11), .int (gI σ 12)])),
  (ad G 3, .inr (2, [.ref (ad G 14), .ref (ad G 15), .int (gI σ 13), .int (gI σ 14), .int (gI σ 15), .int (gI σ 16), .int (gI σ 17), .int (gI σ 18), .int (gI σ 19)])),
  (ad G 4, .inr (9, [.ref (ad G 16), .int (gI σ 20), .int (gI σ 21), .int (gI σ 22)])),
  (ad G 5, .inr (4, [.ref (ad G 25), .ref (ad G 26), .ref (ad G 27), .ref (ad G 28), .int (gI σ 23), .int (gI σ 24), .int (gI σ 25)])),
  (ad G 6, .inr (0, [.ref (ad G 18), .ref (ad G 19), .int (gI σ 26), .int (gI σ 27), .int (gI σ 28), .int (gI σ 29)])),
  (ad G 7, .inr (3, [.ref (ad G 20), .ref (ad G 21), .ref (ad G 22), .int (gI σ 30), .int (gI σ 31)])),
  (ad G 8, .inr (7, [.ref (ad G 23), .ref (ad G 6), .ref (ad G 7)])),
  (ad G 9, .inr (7, [.ref (ad G 24), .ref (ad G 6), .ref (ad G 7)])),
  (ad G 10, .inr (5, [.ref (ad G 6), .ref (ad G 8), .ref (ad G 9), .int (gI σ 32), .int (gI σ 33), .int (gI σ 34), .int (gI σ 35), .int (gI σ 36), .int (gI σ 37), .int (gI σ 38), .int (gI σ 39), .int (gI σ 40)])),
  (ad G 11, .inr (6, [.ref (ad G 29), .ref (ad G 30), .ref (ad G 31), .ref (ad G 6), .ref (ad G 8), .int (gI σ 41)])),
  (ad G 12, .inl (cy G 0, 240, .inl (gA σ 12))),
  (ad G 13, .inl (cy G 0, 33, .inl (gA σ 13))),
  (ad G 14, .inl (cy G 0, 241, .inl (gA σ 14))),
  (ad G 15, .inl (cy G 0, 64, .inl (gA σ 15))),
  (ad G 16, .inl (cy G 0, 16, .inl (gA σ 16))),
  (ad G 17, .inl (cy G 2, 4, .inr (.inr (.inr (.inr (fun i => if i < 4 then some (gZ σ (0 + i)) else none)))))),
  (ad G 18, .inl (cy G 0, 6, .inl (gA σ 18))),
  (ad G 19, .inl (cy G 0, 6, .inl (gA σ 19))),
  (ad G 20, .inl (cy G 2, 4, .inr (.inr (.inr (.inr (fun i => if i < 4 then some (gZ σ (4 + i)) else none)))))),
  (ad G 21, .inl (cy G 0, 6, .inl (gA σ 21))),
  (ad G 22, .inl (cy G 0, 64, .inl (gA σ 22))),
  (ad G 23, .inl (cy G 0, 28, .inl (gA σ 23))),
  (ad G 24, .inl (cy G 0, 28, .inl (gA σ 24))),
  (ad G 25, .inl (cy G 0, 1120, .inl (gA σ 25))),
  (ad G 26, .inl (cy G 0, 400, .inl (gA σ 26))),
  (ad G 27, .inl (cy G 0, 28, .inl (gA σ 27))),
  (ad G 28, .inl (cy G 0, 400, .inl (gA σ 28))),
  (ad G 29, .inl (cy G 0, 60, .inl (gA σ 29))),
  (ad G 30, .inl (cy G 0, 40, .inl (gA σ 30))),
  (ad G 31, .inl (cy G 0, 7, .inl (gA σ 31))),
  (gZ σ 0, .inl (cy G 0, gZ σ 8, .inl (gA σ 32))),
  (gZ σ 1, .inl (cy G 0, gZ σ 9, .inl (gA σ 33))),
  (gZ σ 2, .inl (cy G 0, gZ σ 10, .inl (gA σ 34))),
  (gZ σ 3, .inl (cy G 0, gZ σ 11, .inl (gA σ 35))),
  (gZ σ 4, .inl (cy G 0, gZ σ 12, .inl (gA σ 36))),
  (gZ σ 5, .inl (cy G 0, gZ σ 13, .inl (gA σ 37))),
  (gZ σ 6, .inl (cy G 0, gZ σ 14, .inl (gA σ 38))),
  (gZ σ 7, .inl (cy G 0, gZ σ 15, .inl (gA σ 39)))]

def wM (G : GX) (σ : St) : va_W := [
  (ad G 100, .inr (11, [.int (gI σ 100), .ref (ad G 101), .ref (ad G 102), .ref (ad G 103), .ref (ad G 104), .ref (ad G (gT σ 1)), .int (gI σ 101), .int (gI σ 102), .int (gI σ 103), .int (gI σ 104), .int (gI σ 105), .int (gI σ 106), .int (gI σ 107), .int (gI σ 108), .int (gI σ 109), .ref (tx G 7), .ref (tx G 1), .int (gI σ 110), .ref (ad G 105), .ref (ad G 106), .ref (ad G 107), .ref (ad G 108), .ref (ad G 109), .ref (ad G 110), .ref (ad G 111), .ref (ad G 112), .int (gI σ 111), .int (gI σ 112), .int (gI σ 113), .int (gI σ 114), .int (gI σ 115), .int (gI σ 116), .ref (ad G 113), .ref (ad G 114), .int (gI σ 117), .int (gI σ 118), .ref (ad G 115), .int (gI σ 119), .long (gL σ 0), .int (gI σ 120), .ref (ad G 116), .int (gI σ 121), .int (gI σ 122), .int (gI σ 123), .int (gI σ 124), .int (gI σ 125), .int (gI σ 126), .int (gI σ 127), .ref (ad G 117), .ref (ad G 118), .int (gI σ 128), .ref (ad G 119), .int (gI σ 129)])),
  (ad G 101, .inl (cy G 1, 240, .inl (gA σ 101))),
  (ad G 102, .inl (cy G 1, 960, .inl (gA σ 102))),
  (ad G 103, .inl (cy G 0, 4, .inl (gA σ 103))),
  (ad G 104, .inl (cy G 0, 128, .inl (gA σ 104))),
  (ad G 105, .inl (cy G 0, 3, .inl (gA σ 105))),
  (ad G 106, .inl (cy G 0, 3, .inl (gA σ 106))),
  (ad G 107, .inl (cy G 0, 12, .inl (gA σ 107))),
  (ad G 108, .inl (cy G 0, 12, .inl (gA σ 108))),
  (ad G 109, .inl (cy G 0, 18, .inl (gA σ 109))),
  (ad G 110, .inl (cy G 0, 18, .inl (gA σ 110))),
  (ad G 111, .inl (cy G 0, 160, .inl (gA σ 111))),
  (ad G 112, .inl (cy G 0, 5, .inl (gA σ 112))),
  (ad G 113, .inl (cy G 0, 269, .inl (gA σ 113))),
  (ad G 114, .inl (cy G 0, 269, .inl (gA σ 114))),
  (ad G 115, .inl (cy G 0, 10760, .inl (gA σ 115))),
  (ad G 116, .inl (cy G 0, 203, .inl (gA σ 116))),
  (ad G 117, .inl (cy G 0, 40, .inl (gA σ 117))),
  (ad G 118, .inl (cy G 0, 7, .inl (gA σ 118))),
  (ad G 119, .inl (cy G 0, 269, .inl (gA σ 119)))]

def slen : List Nat := [0, 6, 3, 2, 3, 3, 36, 1]
def sbyt : List (List Int32) := [[], [113, 104, 108, 109, 110, 112], [98, 119, 106], [113, 112], [108, 109, 104], [103, 109, 104], [110, 111, 32, 115, 117, 99, 104, 32, 103, 117, 101, 115, 116, 44, 32, 111, 114, 32, 110, 111, 116, 104, 105, 110, 103, 32, 115, 117, 99, 104, 32, 111, 102, 32, 105, 116], [121]]
def tv (G : GX) (k : Nat) : Nat := G.2.2.2.2 k
/-- the class of the arrays of int arrays is over that of the int arrays -/
def eAA (G : GX) (U : State) : Prop := ∃ kA : Class, U.vm.classes[cy G 2]? = some kA ∧ kA.kind = .array (cy G 0) (.array .int)
theorem eAA.moved {G : GX} {u U : State} (hvm : u.vm.Alike U.vm) (h : eAA G u) : eAA G U := by
  obtain ⟨k, h1, h2⟩ := h
  obtain ⟨k1, hk1, he⟩ := hvm.2.2 _ _ h1
  exact ⟨k1, hk1, by rw [he]; exact h2⟩
def st50 : List Int32 := [0, 5, 3, 5, 5, 0, 20, 5]
def st51 : List Int32 := [5, 30, 9, 9, 60, 5, 99, 9]
def envR (G : GX) (A : Nat → Prop) (U : State) (H : Heap) : Prop :=
  va_Nw (.fieldLinkNest RX0 18 "BottleBefore$HouseReader" "drinksTold" "I" "BottleBefore") U ∧
  va_Nw (.fieldLinkNest RX0 27 "BottleBefore$HouseReader" "guestsTold" "I" "BottleBefore") U ∧
  va_Nw (.declares ⟨RX5, "start", "()V"⟩) U ∧
  va_Nw (.declares ⟨RX5, "takes", "(IIZ)Z"⟩) U ∧
  va_Nw (.declares ⟨RX5, "closes", "()Z"⟩) U ∧
  vk_R RX1 15 "" (tx G 0) U ∧
  vk_R RX3 16 "qhlmnp" (tx G 1) U ∧
  vk_R RX1 31 "bwj" (tx G 2) U ∧
  vk_R RX1 57 "qp" (tx G 3) U ∧
  vk_R RX1 59 "lmh" (tx G 4) U ∧
  vk_R RX2 61 "qhlmnp" (tx G 1) U ∧
  vk_R RX10 38 "gmh" (tx G 5) U ∧
  vk_R RX11 176 "no such guest, or nothing such of it" (tx G 6) U ∧
  vk_R RX12 26 "y" (tx G 7) U ∧
  vk_R RX12 32 "qhlmnp" (tx G 1) U ∧
  vk_R RX12 237 "bwj" (tx G 2) U ∧
  vk_R RX12 243 "qp" (tx G 3) U ∧
  vk_R RX12 245 "lmh" (tx G 4) U ∧
  vk_R RX12 253 "gmh" (tx G 5) U ∧
  vk_S 8 slen sbyt (tx G) (tv G) A U H ∧
  va_Z RX1 "USUAL" "[I" (.ref (ad G 50)) A U H ∧
  va_T .int (ad G 50) 8 (fun j => .int (st50.getD j 0)) A U H ∧
  va_Z RX1 "MOST" "[I" (.ref (ad G 51)) A U H ∧
  va_T .int (ad G 51) 8 (fun j => .int (st51.getD j 0)) A U H ∧
  va_Z RJ0 "COMPACT_STRINGS" "Z" (.int 1) A U H ∧
  va_Zq "jdk/internal/util/Preconditions" "SIOOBE_FORMATTER" "Ljava/util/function/BiFunction;" A U H ∧
  eAA G U ∧
  va_Nw (.castable "[I" "java/lang/Cloneable") U ∧
  va_Nw (.castable "java/util/NoSuchElementException" "java/util/NoSuchElementException") U ∧
  va_Nw (.declares (Bundle.initS "java/lang/RuntimeException")) U ∧
  va_Nw (.declares (Bundle.initS "java/lang/Exception")) U ∧
  va_Nw (.declares (Bundle.initS "java/lang/Throwable")) U ∧
  vx_Zq Bundle.tN "UNASSIGNED_STACK" Bundle.steD A U H ∧
  vx_Zq Bundle.tN "SUPPRESSED_SENTINEL" Bundle.listD A U H
theorem envR.warm {G : GX} {A : Nat → Prop} {s U : State} {H : Heap} (hW : s.WarmedH U.vm) (h : envR G A s H) : envR G A U H := ⟨va_Nw.warmF hW (h.1), va_Nw.warmF hW (h.2.1), va_Nw.warmD hW (h.2.2.1), va_Nw.warmD hW (h.2.2.2.1), va_Nw.warmD hW (h.2.2.2.2.1), vk_R.warm hW (h.2.2.2.2.2.1), vk_R.warm hW (h.2.2.2.2.2.2.1), vk_R.warm hW (h.2.2.2.2.2.2.2.1), vk_R.warm hW (h.2.2.2.2.2.2.2.2.1), vk_R.warm hW (h.2.2.2.2.2.2.2.2.2.1), vk_R.warm hW (h.2.2.2.2.2.2.2.2.2.2.1), vk_R.warm hW (h.2.2.2.2.2.2.2.2.2.2.2.1), vk_R.warm hW (h.2.2.2.2.2.2.2.2.2.2.2.2.1), vk_R.warm hW (h.2.2.2.2.2.2.2.2.2.2.2.2.2.1), vk_R.warm hW (h.2.2.2.2.2.2.2.2.2.2.2.2.2.2.1), vk_R.warm hW (h.2.2.2.2.2.2.2.2.2.2.2.2.2.2.2.1), vk_R.warm hW (h.2.2.2.2.2.2.2.2.2.2.2.2.2.2.2.2.1), vk_R.warm hW (h.2.2.2.2.2.2.2.2.2.2.2.2.2.2.2.2.2.1), vk_R.warm hW (h.2.2.2.2.2.2.2.2.2.2.2.2.2.2.2.2.2.2.1), vk_S.moved hW.alike (h.2.2.2.2.2.2.2.2.2.2.2.2.2.2.2.2.2.2.2.1), va_Z.moved hW.alike (h.2.2.2.2.2.2.2.2.2.2.2.2.2.2.2.2.2.2.2.2.1), va_T.moved hW.alike (h.2.2.2.2.2.2.2.2.2.2.2.2.2.2.2.2.2.2.2.2.2.1), va_Z.moved hW.alike (h.2.2.2.2.2.2.2.2.2.2.2.2.2.2.2.2.2.2.2.2.2.2.1), va_T.moved hW.alike (h.2.2.2.2.2.2.2.2.2.2.2.2.2.2.2.2.2.2.2.2.2.2.2.1), va_Z.moved hW.alike (h.2.2.2.2.2.2.2.2.2.2.2.2.2.2.2.2.2.2.2.2.2.2.2.2.1), va_Zq.moved hW.alike (h.2.2.2.2.2.2.2.2.2.2.2.2.2.2.2.2.2.2.2.2.2.2.2.2.2.1), eAA.moved hW.alike (h.2.2.2.2.2.2.2.2.2.2.2.2.2.2.2.2.2.2.2.2.2.2.2.2.2.2.1), va_Nw.warmC hW (h.2.2.2.2.2.2.2.2.2.2.2.2.2.2.2.2.2.2.2.2.2.2.2.2.2.2.2.1), va_Nw.warmC hW (h.2.2.2.2.2.2.2.2.2.2.2.2.2.2.2.2.2.2.2.2.2.2.2.2.2.2.2.2.1), va_Nw.warmD hW (h.2.2.2.2.2.2.2.2.2.2.2.2.2.2.2.2.2.2.2.2.2.2.2.2.2.2.2.2.2.1), va_Nw.warmD hW (h.2.2.2.2.2.2.2.2.2.2.2.2.2.2.2.2.2.2.2.2.2.2.2.2.2.2.2.2.2.2.1), va_Nw.warmD hW (h.2.2.2.2.2.2.2.2.2.2.2.2.2.2.2.2.2.2.2.2.2.2.2.2.2.2.2.2.2.2.2.1), vx_Zq.moved hW.alike (h.2.2.2.2.2.2.2.2.2.2.2.2.2.2.2.2.2.2.2.2.2.2.2.2.2.2.2.2.2.2.2.2.1), vx_Zq.moved hW.alike (h.2.2.2.2.2.2.2.2.2.2.2.2.2.2.2.2.2.2.2.2.2.2.2.2.2.2.2.2.2.2.2.2.2)⟩
theorem envR.same {G : GX} {A : Nat → Prop} {u U : State} {H : Heap} (hv : U.vm = u.vm) (h : envR G A u H) : envR G A U H := ⟨va_Nw.same rfl hv.symm (h.1), va_Nw.same rfl hv.symm (h.2.1), va_Nw.same rfl hv.symm (h.2.2.1), va_Nw.same rfl hv.symm (h.2.2.2.1), va_Nw.same rfl hv.symm (h.2.2.2.2.1), vk_R.same hv (h.2.2.2.2.2.1), vk_R.same hv (h.2.2.2.2.2.2.1), vk_R.same hv (h.2.2.2.2.2.2.2.1), vk_R.same hv (h.2.2.2.2.2.2.2.2.1), vk_R.same hv (h.2.2.2.2.2.2.2.2.2.1), vk_R.same hv (h.2.2.2.2.2.2.2.2.2.2.1), vk_R.same hv (h.2.2.2.2.2.2.2.2.2.2.2.1), vk_R.same hv (h.2.2.2.2.2.2.2.2.2.2.2.2.1), vk_R.same hv (h.2.2.2.2.2.2.2.2.2.2.2.2.2.1), vk_R.same hv (h.2.2.2.2.2.2.2.2.2.2.2.2.2.2.1), vk_R.same hv (h.2.2.2.2.2.2.2.2.2.2.2.2.2.2.2.1), vk_R.same hv (h.2.2.2.2.2.2.2.2.2.2.2.2.2.2.2.2.1), vk_R.same hv (h.2.2.2.2.2.2.2.2.2.2.2.2.2.2.2.2.2.1), vk_R.same hv (h.2.2.2.2.2.2.2.2.2.2.2.2.2.2.2.2.2.2.1), vk_S.moved (hv ▸ Vm.Alike.refl u.vm) (h.2.2.2.2.2.2.2.2.2.2.2.2.2.2.2.2.2.2.2.1), va_Z.moved (hv ▸ Vm.Alike.refl u.vm) (h.2.2.2.2.2.2.2.2.2.2.2.2.2.2.2.2.2.2.2.2.1), va_T.moved (hv ▸ Vm.Alike.refl u.vm) (h.2.2.2.2.2.2.2.2.2.2.2.2.2.2.2.2.2.2.2.2.2.1), va_Z.moved (hv ▸ Vm.Alike.refl u.vm) (h.2.2.2.2.2.2.2.2.2.2.2.2.2.2.2.2.2.2.2.2.2.2.1), va_T.moved (hv ▸ Vm.Alike.refl u.vm) (h.2.2.2.2.2.2.2.2.2.2.2.2.2.2.2.2.2.2.2.2.2.2.2.1), va_Z.moved (hv ▸ Vm.Alike.refl u.vm) (h.2.2.2.2.2.2.2.2.2.2.2.2.2.2.2.2.2.2.2.2.2.2.2.2.1), va_Zq.moved (hv ▸ Vm.Alike.refl u.vm) (h.2.2.2.2.2.2.2.2.2.2.2.2.2.2.2.2.2.2.2.2.2.2.2.2.2.1), eAA.moved (hv ▸ Vm.Alike.refl u.vm) (h.2.2.2.2.2.2.2.2.2.2.2.2.2.2.2.2.2.2.2.2.2.2.2.2.2.2.1), va_Nw.same rfl hv.symm (h.2.2.2.2.2.2.2.2.2.2.2.2.2.2.2.2.2.2.2.2.2.2.2.2.2.2.2.1), va_Nw.same rfl hv.symm (h.2.2.2.2.2.2.2.2.2.2.2.2.2.2.2.2.2.2.2.2.2.2.2.2.2.2.2.2.1), va_Nw.same rfl hv.symm (h.2.2.2.2.2.2.2.2.2.2.2.2.2.2.2.2.2.2.2.2.2.2.2.2.2.2.2.2.2.1), va_Nw.same rfl hv.symm (h.2.2.2.2.2.2.2.2.2.2.2.2.2.2.2.2.2.2.2.2.2.2.2.2.2.2.2.2.2.2.1), va_Nw.same rfl hv.symm (h.2.2.2.2.2.2.2.2.2.2.2.2.2.2.2.2.2.2.2.2.2.2.2.2.2.2.2.2.2.2.2.1), vx_Zq.moved (hv ▸ Vm.Alike.refl u.vm) (h.2.2.2.2.2.2.2.2.2.2.2.2.2.2.2.2.2.2.2.2.2.2.2.2.2.2.2.2.2.2.2.2.1), vx_Zq.moved (hv ▸ Vm.Alike.refl u.vm) (h.2.2.2.2.2.2.2.2.2.2.2.2.2.2.2.2.2.2.2.2.2.2.2.2.2.2.2.2.2.2.2.2.2)⟩
theorem envR.kept {G : GX} {A : Nat → Prop} {U : State} {H H1 : Heap} (h : envR G A U H) (hq : ∀ a : Nat, a < H.size → ¬ A a → H1[a]? = H[a]?) : envR G A U H1 := ⟨(h.1), (h.2.1), (h.2.2.1), (h.2.2.2.1), (h.2.2.2.2.1), (h.2.2.2.2.2.1), (h.2.2.2.2.2.2.1), (h.2.2.2.2.2.2.2.1), (h.2.2.2.2.2.2.2.2.1), (h.2.2.2.2.2.2.2.2.2.1), (h.2.2.2.2.2.2.2.2.2.2.1), (h.2.2.2.2.2.2.2.2.2.2.2.1), (h.2.2.2.2.2.2.2.2.2.2.2.2.1), (h.2.2.2.2.2.2.2.2.2.2.2.2.2.1), (h.2.2.2.2.2.2.2.2.2.2.2.2.2.2.1), (h.2.2.2.2.2.2.2.2.2.2.2.2.2.2.2.1), (h.2.2.2.2.2.2.2.2.2.2.2.2.2.2.2.2.1), (h.2.2.2.2.2.2.2.2.2.2.2.2.2.2.2.2.2.1), (h.2.2.2.2.2.2.2.2.2.2.2.2.2.2.2.2.2.2.1), vk_S.kept (h.2.2.2.2.2.2.2.2.2.2.2.2.2.2.2.2.2.2.2.1) hq, va_Z.kept (h.2.2.2.2.2.2.2.2.2.2.2.2.2.2.2.2.2.2.2.2.1) hq, va_T.kept (h.2.2.2.2.2.2.2.2.2.2.2.2.2.2.2.2.2.2.2.2.2.1) hq, va_Z.kept (h.2.2.2.2.2.2.2.2.2.2.2.2.2.2.2.2.2.2.2.2.2.2.1) hq, va_T.kept (h.2.2.2.2.2.2.2.2.2.2.2.2.2.2.2.2.2.2.2.2.2.2.2.1) hq, va_Z.kept (h.2.2.2.2.2.2.2.2.2.2.2.2.2.2.2.2.2.2.2.2.2.2.2.2.1) hq, va_Zq.kept (h.2.2.2.2.2.2.2.2.2.2.2.2.2.2.2.2.2.2.2.2.2.2.2.2.2.1) hq, (h.2.2.2.2.2.2.2.2.2.2.2.2.2.2.2.2.2.2.2.2.2.2.2.2.2.2.1), (h.2.2.2.2.2.2.2.2.2.2.2.2.2.2.2.2.2.2.2.2.2.2.2.2.2.2.2.1), (h.2.2.2.2.2.2.2.2.2.2.2.2.2.2.2.2.2.2.2.2.2.2.2.2.2.2.2.2.1), (h.2.2.2.2.2.2.2.2.2.2.2.2.2.2.2.2.2.2.2.2.2.2.2.2.2.2.2.2.2.1), (h.2.2.2.2.2.2.2.2.2.2.2.2.2.2.2.2.2.2.2.2.2.2.2.2.2.2.2.2.2.2.1), (h.2.2.2.2.2.2.2.2.2.2.2.2.2.2.2.2.2.2.2.2.2.2.2.2.2.2.2.2.2.2.2.1), vx_Zq.kept (h.2.2.2.2.2.2.2.2.2.2.2.2.2.2.2.2.2.2.2.2.2.2.2.2.2.2.2.2.2.2.2.2.1) hq, vx_Zq.kept (h.2.2.2.2.2.2.2.2.2.2.2.2.2.2.2.2.2.2.2.2.2.2.2.2.2.2.2.2.2.2.2.2.2) hq⟩
theorem envR.narrow {G : GX} {A B : Nat → Prop} {U : State} {H : Heap} (h : envR G A U H) (hAB : ∀ q, B q → A q) : envR G B U H := ⟨(h.1), (h.2.1), (h.2.2.1), (h.2.2.2.1), (h.2.2.2.2.1), (h.2.2.2.2.2.1), (h.2.2.2.2.2.2.1), (h.2.2.2.2.2.2.2.1), (h.2.2.2.2.2.2.2.2.1), (h.2.2.2.2.2.2.2.2.2.1), (h.2.2.2.2.2.2.2.2.2.2.1), (h.2.2.2.2.2.2.2.2.2.2.2.1), (h.2.2.2.2.2.2.2.2.2.2.2.2.1), (h.2.2.2.2.2.2.2.2.2.2.2.2.2.1), (h.2.2.2.2.2.2.2.2.2.2.2.2.2.2.1), (h.2.2.2.2.2.2.2.2.2.2.2.2.2.2.2.1), (h.2.2.2.2.2.2.2.2.2.2.2.2.2.2.2.2.1), (h.2.2.2.2.2.2.2.2.2.2.2.2.2.2.2.2.2.1), (h.2.2.2.2.2.2.2.2.2.2.2.2.2.2.2.2.2.2.1), vk_S.narrow (h.2.2.2.2.2.2.2.2.2.2.2.2.2.2.2.2.2.2.2.1) hAB, va_Z.narrow (h.2.2.2.2.2.2.2.2.2.2.2.2.2.2.2.2.2.2.2.2.1) hAB, va_T.narrow (h.2.2.2.2.2.2.2.2.2.2.2.2.2.2.2.2.2.2.2.2.2.1) hAB, va_Z.narrow (h.2.2.2.2.2.2.2.2.2.2.2.2.2.2.2.2.2.2.2.2.2.2.1) hAB, va_T.narrow (h.2.2.2.2.2.2.2.2.2.2.2.2.2.2.2.2.2.2.2.2.2.2.2.1) hAB, va_Z.narrow (h.2.2.2.2.2.2.2.2.2.2.2.2.2.2.2.2.2.2.2.2.2.2.2.2.1) hAB, va_Zq.narrow (h.2.2.2.2.2.2.2.2.2.2.2.2.2.2.2.2.2.2.2.2.2.2.2.2.2.1) hAB, (h.2.2.2.2.2.2.2.2.2.2.2.2.2.2.2.2.2.2.2.2.2.2.2.2.2.2.1), (h.2.2.2.2.2.2.2.2.2.2.2.2.2.2.2.2.2.2.2.2.2.2.2.2.2.2.2.1), (h.2.2.2.2.2.2.2.2.2.2.2.2.2.2.2.2.2.2.2.2.2.2.2.2.2.2.2.2.1), (h.2.2.2.2.2.2.2.2.2.2.2.2.2.2.2.2.2.2.2.2.2.2.2.2.2.2.2.2.2.1), (h.2.2.2.2.2.2.2.2.2.2.2.2.2.2.2.2.2.2.2.2.2.2.2.2.2.2.2.2.2.2.1), (h.2.2.2.2.2.2.2.2.2.2.2.2.2.2.2.2.2.2.2.2.2.2.2.2.2.2.2.2.2.2.2.1), vx_Zq.narrow (h.2.2.2.2.2.2.2.2.2.2.2.2.2.2.2.2.2.2.2.2.2.2.2.2.2.2.2.2.2.2.2.2.1) hAB, vx_Zq.narrow (h.2.2.2.2.2.2.2.2.2.2.2.2.2.2.2.2.2.2.2.2.2.2.2.2.2.2.2.2.2.2.2.2.2) hAB⟩
theorem en_X0_18 {G : GX} {A : Nat → Prop} {U : State} {H : Heap} (h : envR G A U H) : va_Nw (.fieldLinkNest RX0 18 "BottleBefore$HouseReader" "drinksTold" "I" "BottleBefore") U := h.1
theorem en_X0_27 {G : GX} {A : Nat → Prop} {U : State} {H : Heap} (h : envR G A U H) : va_Nw (.fieldLinkNest RX0 27 "BottleBefore$HouseReader" "guestsTold" "I" "BottleBefore") U := h.2.1
theorem ed_start {G : GX} {A : Nat → Prop} {U : State} {H : Heap} (h : envR G A U H) : va_Nw (.declares ⟨RX5, "start", "()V"⟩) U := h.2.2.1
theorem ed_takes {G : GX} {A : Nat → Prop} {U : State} {H : Heap} (h : envR G A U H) : va_Nw (.declares ⟨RX5, "takes", "(IIZ)Z"⟩) U := h.2.2.2.1
theorem ed_closes {G : GX} {A : Nat → Prop} {U : State} {H : Heap} (h : envR G A U H) : va_Nw (.declares ⟨RX5, "closes", "()Z"⟩) U := h.2.2.2.2.1
theorem es_X1_15 {G : GX} {A : Nat → Prop} {U : State} {H : Heap} (h : envR G A U H) : vk_R RX1 15 "" (tx G 0) U := h.2.2.2.2.2.1
theorem es_X3_16 {G : GX} {A : Nat → Prop} {U : State} {H : Heap} (h : envR G A U H) : vk_R RX3 16 "qhlmnp" (tx G 1) U := h.2.2.2.2.2.2.1
theorem es_X1_31 {G : GX} {A : Nat → Prop} {U : State} {H : Heap} (h : envR G A U H) : vk_R RX1 31 "bwj" (tx G 2) U := h.2.2.2.2.2.2.2.1
theorem es_X1_57 {G : GX} {A : Nat → Prop} {U : State} {H : Heap} (h : envR G A U H) : vk_R RX1 57 "qp" (tx G 3) U := h.2.2.2.2.2.2.2.2.1
theorem es_X1_59 {G : GX} {A : Nat → Prop} {U : State} {H : Heap} (h : envR G A U H) : vk_R RX1 59 "lmh" (tx G 4) U := h.2.2.2.2.2.2.2.2.2.1
theorem es_X2_61 {G : GX} {A : Nat → Prop} {U : State} {H : Heap} (h : envR G A U H) : vk_R RX2 61 "qhlmnp" (tx G 1) U := h.2.2.2.2.2.2.2.2.2.2.1
theorem es_X10_38 {G : GX} {A : Nat → Prop} {U : State} {H : Heap} (h : envR G A U H) : vk_R RX10 38 "gmh" (tx G 5) U := h.2.2.2.2.2.2.2.2.2.2.2.1
theorem es_X11_176 {G : GX} {A : Nat → Prop} {U : State} {H : Heap} (h : envR G A U H) : vk_R RX11 176 "no such guest, or nothing such of it" (tx G 6) U := h.2.2.2.2.2.2.2.2.2.2.2.2.1
theorem es_X12_26 {G : GX} {A : Nat → Prop} {U : State} {H : Heap} (h : envR G A U H) : vk_R RX12 26 "y" (tx G 7) U := h.2.2.2.2.2.2.2.2.2.2.2.2.2.1
theorem es_X12_32 {G : GX} {A : Nat → Prop} {U : State} {H : Heap} (h : envR G A U H) : vk_R RX12 32 "qhlmnp" (tx G 1) U := h.2.2.2.2.2.2.2.2.2.2.2.2.2.2.1
theorem es_X12_237 {G : GX} {A : Nat → Prop} {U : State} {H : Heap} (h : envR G A U H) : vk_R RX12 237 "bwj" (tx G 2) U := h.2.2.2.2.2.2.2.2.2.2.2.2.2.2.2.1
theorem es_X12_243 {G : GX} {A : Nat → Prop} {U : State} {H : Heap} (h : envR G A U H) : vk_R RX12 243 "qp" (tx G 3) U := h.2.2.2.2.2.2.2.2.2.2.2.2.2.2.2.2.1
theorem es_X12_245 {G : GX} {A : Nat → Prop} {U : State} {H : Heap} (h : envR G A U H) : vk_R RX12 245 "lmh" (tx G 4) U := h.2.2.2.2.2.2.2.2.2.2.2.2.2.2.2.2.2.1
theorem es_X12_253 {G : GX} {A : Nat → Prop} {U : State} {H : Heap} (h : envR G A U H) : vk_R RX12 253 "gmh" (tx G 5) U := h.2.2.2.2.2.2.2.2.2.2.2.2.2.2.2.2.2.2.1
theorem eS {G : GX} {A : Nat → Prop} {U : State} {H : Heap} (h : envR G A U H) : vk_S 8 slen sbyt (tx G) (tv G) A U H := h.2.2.2.2.2.2.2.2.2.2.2.2.2.2.2.2.2.2.2.1
theorem ez_X1_USUAL {G : GX} {A : Nat → Prop} {U : State} {H : Heap} (h : envR G A U H) : va_Z RX1 "USUAL" "[I" (.ref (ad G 50)) A U H := h.2.2.2.2.2.2.2.2.2.2.2.2.2.2.2.2.2.2.2.2.1
theorem et_50 {G : GX} {A : Nat → Prop} {U : State} {H : Heap} (h : envR G A U H) : va_T .int (ad G 50) 8 (fun j => .int (st50.getD j 0)) A U H := h.2.2.2.2.2.2.2.2.2.2.2.2.2.2.2.2.2.2.2.2.2.1
theorem ez_X1_MOST {G : GX} {A : Nat → Prop} {U : State} {H : Heap} (h : envR G A U H) : va_Z RX1 "MOST" "[I" (.ref (ad G 51)) A U H := h.2.2.2.2.2.2.2.2.2.2.2.2.2.2.2.2.2.2.2.2.2.2.1
theorem et_51 {G : GX} {A : Nat → Prop} {U : State} {H : Heap} (h : envR G A U H) : va_T .int (ad G 51) 8 (fun j => .int (st51.getD j 0)) A U H := h.2.2.2.2.2.2.2.2.2.2.2.2.2.2.2.2.2.2.2.2.2.2.2.1
theorem ez_J0_COMPACT_STRINGS {G : GX} {A : Nat → Prop} {U : State} {H : Heap} (h : envR G A U H) : va_Z RJ0 "COMPACT_STRINGS" "Z" (.int 1) A U H := h.2.2.2.2.2.2.2.2.2.2.2.2.2.2.2.2.2.2.2.2.2.2.2.2.1
theorem e_AA {G : GX} {A : Nat → Prop} {U : State} {H : Heap} (h : envR G A U H) : eAA G U := h.2.2.2.2.2.2.2.2.2.2.2.2.2.2.2.2.2.2.2.2.2.2.2.2.2.2.1
theorem e_CL {G : GX} {A : Nat → Prop} {U : State} {H : Heap} (h : envR G A U H) : va_Nw (.castable "[I" "java/lang/Cloneable") U := h.2.2.2.2.2.2.2.2.2.2.2.2.2.2.2.2.2.2.2.2.2.2.2.2.2.2.2.1
theorem e_XX {G : GX} {A : Nat → Prop} {U : State} {H : Heap} (h : envR G A U H) : va_Nw (.castable "java/util/NoSuchElementException" "java/util/NoSuchElementException") U := h.2.2.2.2.2.2.2.2.2.2.2.2.2.2.2.2.2.2.2.2.2.2.2.2.2.2.2.2.1
theorem e_D1 {G : GX} {A : Nat → Prop} {U : State} {H : Heap} (h : envR G A U H) : va_Nw (.declares (Bundle.initS "java/lang/RuntimeException")) U := h.2.2.2.2.2.2.2.2.2.2.2.2.2.2.2.2.2.2.2.2.2.2.2.2.2.2.2.2.2.1
theorem e_D2 {G : GX} {A : Nat → Prop} {U : State} {H : Heap} (h : envR G A U H) : va_Nw (.declares (Bundle.initS "java/lang/Exception")) U := h.2.2.2.2.2.2.2.2.2.2.2.2.2.2.2.2.2.2.2.2.2.2.2.2.2.2.2.2.2.2.1
theorem e_D3 {G : GX} {A : Nat → Prop} {U : State} {H : Heap} (h : envR G A U H) : va_Nw (.declares (Bundle.initS "java/lang/Throwable")) U := h.2.2.2.2.2.2.2.2.2.2.2.2.2.2.2.2.2.2.2.2.2.2.2.2.2.2.2.2.2.2.2.1
theorem e_ZU {G : GX} {A : Nat → Prop} {U : State} {H : Heap} (h : envR G A U H) : vx_Zq Bundle.tN "UNASSIGNED_STACK" Bundle.steD A U H := h.2.2.2.2.2.2.2.2.2.2.2.2.2.2.2.2.2.2.2.2.2.2.2.2.2.2.2.2.2.2.2.2.1
theorem e_ZS {G : GX} {A : Nat → Prop} {U : State} {H : Heap} (h : envR G A U H) : vx_Zq Bundle.tN "SUPPRESSED_SENTINEL" Bundle.listD A U H := h.2.2.2.2.2.2.2.2.2.2.2.2.2.2.2.2.2.2.2.2.2.2.2.2.2.2.2.2.2.2.2.2.2
theorem ez_SIOOBE {G : GX} {A : Nat → Prop} {U : State} {H : Heap} (h : envR G A U H) : va_Zq "jdk/internal/util/Preconditions" "SIOOBE_FORMATTER" "Ljava/util/function/BiFunction;" A U H := h.2.2.2.2.2.2.2.2.2.2.2.2.2.2.2.2.2.2.2.2.2.2.2.2.2.1
/-! Contracts over a world w of my state, and calls by them. -/
def env (G : GX) (A : Nat → Prop) (U : State) (H : Heap) : Prop := va_K G.1 classes (etys G) U ∧ envR G A U H
theorem env.warm {G : GX} {A : Nat → Prop} {s U : State} {H : Heap} (hW : s.WarmedH U.vm) (h : env G A s H) : env G A U H := ⟨va_K.moved hW.alike h.1, envR.warm hW h.2⟩
theorem env.same {G : GX} {A : Nat → Prop} {u U : State} {H : Heap} (hv : U.vm = u.vm) (h : env G A u H) : env G A U H := ⟨va_K.moved (hv ▸ Vm.Alike.refl u.vm) h.1, envR.same hv h.2⟩
theorem env.kept {G : GX} {A : Nat → Prop} {U : State} {H H1 : Heap} (h : env G A U H) (hq : ∀ a : Nat, a < H.size → ¬ A a → H1[a]? = H[a]?) : env G A U H1 := ⟨h.1, envR.kept h.2 hq⟩
theorem env.narrow {G : GX} {A B : Nat → Prop} {U : State} {H : Heap} (h : env G A U H) (hAB : ∀ q, B q → A q) : env G B U H := ⟨h.1, envR.narrow h.2 hAB⟩
abbrev Wd : Type := GX → St → va_W
def WPre (w : Wd) (G : GX) (σ : St) (sz : Nat) (Sp : Prop) (U : State) : Prop := U.heap.size = sz ∧ va_P G.1 classes (w G σ) U.heap ∧ va_D (fun _ => True) (w G σ) ∧ env G (va_A (w G σ) sz) U U.heap ∧ Sp
def WAt (w : Wd) (G : GX) (A : Nat → Prop) (σ : St) (t : State) : Prop := va_P G.1 classes (w G σ) t.heap ∧ va_D A (w G σ)
theorem WPre.blind {w : Wd} {G : GX} {σ : St} {sz : Nat} {Sp : Prop} (av : List Value) : FrameBlind (va_Pc av (WPre w G σ sz Sp)) := fun a U g mk q => by
  obtain ⟨q0, q1, q2, q3, q4, q5⟩ := q
  exact ⟨q0, q1, q2, q3, env.same rfl q4, q5⟩
abbrev MetI (l : Launch) (w : Wd) (y : MethodName) (cc : ByteArray) (n : Nat) (ret : Option FieldType) (rm : Room) (av : List Value) (G : GX) (σ : St) (sz : Nat) (Sp : Prop) (post : Int32 → St → Prop) : Prop :=
  Met l y (Cond.code y cc n ret :: GW) rm (va_Pc av (WPre w G σ sz Sp)) (va_Qi post (WAt w G (va_A (w G σ) sz)) (va_A (w G σ) sz)) 0 0 (va_A (w G σ) sz)
abbrev MetL (l : Launch) (w : Wd) (y : MethodName) (cc : ByteArray) (n : Nat) (ret : Option FieldType) (rm : Room) (av : List Value) (G : GX) (σ : St) (sz : Nat) (Sp : Prop) (post : Int64 → St → Prop) : Prop :=
  Met l y (Cond.code y cc n ret :: GW) rm (va_Pc av (WPre w G σ sz Sp)) (va_Ql post (WAt w G (va_A (w G σ) sz)) (va_A (w G σ) sz)) 0 0 (va_A (w G σ) sz)
abbrev MetV (l : Launch) (w : Wd) (y : MethodName) (cc : ByteArray) (n : Nat) (ret : Option FieldType) (rm : Room) (av : List Value) (G : GX) (σ : St) (sz : Nat) (Sp : Prop) (post : St → Prop) : Prop :=
  Met l y (Cond.code y cc n ret :: GW) rm (va_Pc av (WPre w G σ sz Sp)) (va_Qv post (WAt w G (va_A (w G σ) sz)) (va_A (w G σ) sz)) 0 0 (va_A (w G σ) sz)
abbrev MetQ (l : Launch) (w : Wd) (y : MethodName) (cc : ByteArray) (n : Nat) (ret : Option FieldType) (rm : Room) (av : List Value) (G : GX) (σ : St) (sz : Nat) (Sp : Prop) (res : Option Nat) (post : St → Prop) : Prop :=
  Met l y (Cond.code y cc n ret :: GW) rm (va_Pc av (WPre w G σ sz Sp)) (va_Qq (fun r u => r = res ∧ post u) (WAt w G (va_A (w G σ) sz)) (va_A (w G σ) sz)) 0 0 (va_A (w G σ) sz)
/-- as MetI, of a method that makes at most kc cells of ks slots -/
abbrev MetJ (kc ks : Nat) (l : Launch) (w : Wd) (y : MethodName) (cc : ByteArray) (n : Nat) (ret : Option FieldType) (rm : Room) (av : List Value) (G : GX) (σ : St) (sz : Nat) (Sp : Prop) (post : Int32 → St → Prop) : Prop :=
  Met l y (Cond.code y cc n ret :: GW) rm (va_Pc av (WPre w G σ sz Sp)) (va_Qi post (WAt w G (va_A (w G σ) sz)) (va_A (w G σ) sz)) kc ks (va_A (w G σ) sz)
/-- a method that answers a new int array of N ints f -/
abbrev MetN (ks : Nat) (l : Launch) (w : Wd) (y : MethodName) (cc : ByteArray) (n : Nat) (ret : Option FieldType) (rm : Room) (av : List Value) (G : GX) (σ : St) (sz : Nat) (Sp : Prop) (post : St → Nat → (Nat → Int32) → Prop) : Prop :=
  Met l y (Cond.code y cc n ret :: GW) rm (va_Pc av (WPre w G σ sz Sp)) (va_Qr (fun u : St × Nat × (Nat → Int32) => post u.1 u.2.1 u.2.2) (fun u ra t => va_P G.1 classes (w G u.1 ++ [(ra, .inl (cy G 0, u.2.1, .inl u.2.2))]) t.heap ∧ va_D (va_A (w G σ) sz) (w G u.1 ++ [(ra, .inl (cy G 0, u.2.1, .inl u.2.2))])) (va_A (w G σ) sz)) 1 ks (va_A (w G σ) sz)
theorem gw_in {ws : List Cond} (h : ∀ w ∈ ws, w ∈ GW) : GoodIn GW ws := fun w hw => ⟨h w hw, good_of_word (List.all_eq_true.mp gw_good w (h w hw))⟩
section CALLS
variable {p : Program} {l : Launch} {e : Env} {R : Room} {s : State} {m : MethodId} {args : Array Value} {below : List Frame} {meth : Method} {c : Code} {H : Heap} {locs : List Loc} {Q : State → Prop}
variable {y : MethodName} {bytes cc : ByteArray} {maxL nL n index : Nat} {ret : Option FieldType} {rm : Room} {own C : String} {b : Addr} {rest st0 : List Value} {pc : Nat} {ls : Array Slot} {w : Wd} {G : GX} {A : Nat → Prop} {σ : St} {Sp : Prop} {cells slots : Nat}
theorem xpre (hE : env G A s s.heap) (hP : va_P G.1 classes (w G σ) H) (hD : va_D A (w G σ)) (hS : va_S A s.heap H locs) (hA : ∀ q, s.heap.size ≤ q → A q) (hB : Sp) {U : State} (hU : U.heap = H) (hW : s.WarmedH U.vm) : WPre w G σ H.size Sp U := by
  have hF : ∀ q, va_A (w G σ) H.size q → A q := fun q h => by
    rcases h with ⟨k, e, h⟩ | h
    · exact hD.2 k (q, e) h
    · exact hA q (Nat.le_trans hS.1 h)
  refine ⟨by rw [hU], by rw [hU]; exact hP, hD.weaken (fun _ _ _ _ => trivial), ?_, hB⟩
  rw [hU]
  exact env.narrow (env.kept (env.warm hW hE) (fun a h1 h2 => hS.2.1 a h1 h2)) hF
theorem xfree (hD : va_D A (w G σ)) (hS : va_S A s.heap H locs) (hA : ∀ q, s.heap.size ≤ q → A q) : ∀ q, va_A (w G σ) H.size q → A q := fun q h => by
  rcases h with ⟨k, e, h⟩ | h
  · exact hD.2 k (q, e) h
  · exact hA q (Nat.le_trans hS.1 h)
/-- a virtual call that answers an int -/
theorem xcVi {post : Int32 → St → Prop} (As : List Value) (S : CallFix p m c cc nL s args GW own) (hE : env G A s s.heap) (hA : ∀ q, s.heap.size ≤ q → A q) (hP : va_P G.1 classes (w G σ) H) (hD : va_D A (w G σ)) (hS : va_S A s.heap H locs)
    (hM : MetI l w y bytes maxL ret rm (Value.ref b :: As) G σ H.size Sp post) (hB : Sp) (hlm : ∀ x ∈ wsV own index C y (Cond.code y bytes maxL ret :: GW), x ∈ GW)
    (hd : y.cls = C ∧ y.cls ≠ "java/lang/invoke/MethodHandle" ∧ y.cls ≠ "java/lang/invoke/VarHandle" ∧ (parseMethodDescriptor y.desc).map (fun d => d.parameters.length) = some n) (hrc : rm.cells = 0) (hrs : rm.slots = 0) (hRf : rm.frames + 1 ≤ R.frames) (hRl : 8 + (maxL + 11) + rm.locals ≤ R.locals) (hc : cells ≤ R.cells ∧ slots ≤ R.slots)
    (hrv : ∃ cell : Cell, H[b]? = some cell ∧ cell.vm.isStatics = false ∧ s.vm.findClass C = some cell.cls) (hn : As.length = n) (hsz : ls.size = nL) (hst : st0 = As.reverse ++ .ref b :: rest) (hW : (rest.map fun v => v.category).sum ≤ 8) (hdg : decode cc pc = .ok (.invokevirtual index, 3))
    (kk : ∀ (r : Int32) (σ1 : St) (H1 : Heap) (locs1 : List Loc), post r σ1 → va_P G.1 classes (w G σ1) H1 → va_D A (w G σ1) → va_S A s.heap H1 locs1 → W p l e R s m args below meth c H1 locs1 cells slots Q (F0 m (pc + 3) ls (.int r :: rest))) : W p l e R s m args below meth c H locs cells slots Q (F0 m pc ls st0) := by
  have hF := xfree hD hS hA
  refine va_calli (va_runV (As := As) (rest := rest) (R := R) S hM (cwV n S.2.2.2.2 (gw_in hlm) rfl hrc hrs hd ⟨hRf, hRl⟩) ⟨WPre.blind _, hrv, fun U hU hW => ⟨rfl, xpre hE hP hD hS hA hB hU hW⟩⟩ rfl hn hsz hst (lv_room hW) hdg hc) hS (fun q _ h => hF q h) hF (fun r u t H1 locs1 ht hvm hw hB1 hz1 hk1 hS1 => ?_)
  obtain ⟨hP1, hD1⟩ := hB1
  rw [ht] at hP1
  exact kk r u H1 locs1 hw hP1 (hD1.weaken (fun _ _ _ h => hF _ h)) hS1
theorem xcVl {post : Int64 → St → Prop} (As : List Value) (S : CallFix p m c cc nL s args GW own) (hE : env G A s s.heap) (hA : ∀ q, s.heap.size ≤ q → A q) (hP : va_P G.1 classes (w G σ) H) (hD : va_D A (w G σ)) (hS : va_S A s.heap H locs)
    (hM : MetL l w y bytes maxL ret rm (Value.ref b :: As) G σ H.size Sp post) (hB : Sp) (hlm : ∀ x ∈ wsV own index C y (Cond.code y bytes maxL ret :: GW), x ∈ GW)
    (hd : y.cls = C ∧ y.cls ≠ "java/lang/invoke/MethodHandle" ∧ y.cls ≠ "java/lang/invoke/VarHandle" ∧ (parseMethodDescriptor y.desc).map (fun d => d.parameters.length) = some n) (hrc : rm.cells = 0) (hrs : rm.slots = 0) (hRf : rm.frames + 1 ≤ R.frames) (hRl : 8 + (maxL + 11) + rm.locals ≤ R.locals) (hc : cells ≤ R.cells ∧ slots ≤ R.slots)
    (hrv : ∃ cell : Cell, H[b]? = some cell ∧ cell.vm.isStatics = false ∧ s.vm.findClass C = some cell.cls) (hn : As.length = n) (hsz : ls.size = nL) (hst : st0 = As.reverse ++ .ref b :: rest) (hW : (rest.map fun v => v.category).sum ≤ 8) (hdg : decode cc pc = .ok (.invokevirtual index, 3))
    (kk : ∀ (r : Int64) (σ1 : St) (H1 : Heap) (locs1 : List Loc), post r σ1 → va_P G.1 classes (w G σ1) H1 → va_D A (w G σ1) → va_S A s.heap H1 locs1 → W p l e R s m args below meth c H1 locs1 cells slots Q (F0 m (pc + 3) ls (.long r :: rest))) : W p l e R s m args below meth c H locs cells slots Q (F0 m pc ls st0) := by
  have hF := xfree hD hS hA
  refine va_calll (va_runV (As := As) (rest := rest) (R := R) S hM (cwV n S.2.2.2.2 (gw_in hlm) rfl hrc hrs hd ⟨hRf, hRl⟩) ⟨WPre.blind _, hrv, fun U hU hW => ⟨rfl, xpre hE hP hD hS hA hB hU hW⟩⟩ rfl hn hsz hst (lv_room hW) hdg hc) hS (fun q _ h => hF q h) hF (fun r u t H1 locs1 ht hvm hw hB1 hz1 hk1 hS1 => ?_)
  obtain ⟨hP1, hD1⟩ := hB1
  rw [ht] at hP1
  exact kk r u H1 locs1 hw hP1 (hD1.weaken (fun _ _ _ h => hF _ h)) hS1
/-- a virtual call that answers nothing -/
theorem xcVv {post : St → Prop} (As : List Value) (S : CallFix p m c cc nL s args GW own) (hE : env G A s s.heap) (hA : ∀ q, s.heap.size ≤ q → A q) (hP : va_P G.1 classes (w G σ) H) (hD : va_D A (w G σ)) (hS : va_S A s.heap H locs)
    (hM : MetV l w y bytes maxL ret rm (Value.ref b :: As) G σ H.size Sp post) (hB : Sp) (hlm : ∀ x ∈ wsV own index C y (Cond.code y bytes maxL ret :: GW), x ∈ GW)
    (hd : y.cls = C ∧ y.cls ≠ "java/lang/invoke/MethodHandle" ∧ y.cls ≠ "java/lang/invoke/VarHandle" ∧ (parseMethodDescriptor y.desc).map (fun d => d.parameters.length) = some n) (hrc : rm.cells = 0) (hrs : rm.slots = 0) (hRf : rm.frames + 1 ≤ R.frames) (hRl : 8 + (maxL + 11) + rm.locals ≤ R.locals) (hc : cells ≤ R.cells ∧ slots ≤ R.slots)
    (hrv : ∃ cell : Cell, H[b]? = some cell ∧ cell.vm.isStatics = false ∧ s.vm.findClass C = some cell.cls) (hn : As.length = n) (hsz : ls.size = nL) (hst : st0 = As.reverse ++ .ref b :: rest) (hW : (rest.map fun v => v.category).sum ≤ 8) (hdg : decode cc pc = .ok (.invokevirtual index, 3))
    (kk : ∀ (σ1 : St) (H1 : Heap) (locs1 : List Loc), post σ1 → va_P G.1 classes (w G σ1) H1 → va_D A (w G σ1) → va_S A s.heap H1 locs1 → W p l e R s m args below meth c H1 locs1 cells slots Q (F0 m (pc + 3) ls rest)) : W p l e R s m args below meth c H locs cells slots Q (F0 m pc ls st0) := by
  have hF := xfree hD hS hA
  refine va_callv (va_runV (As := As) (rest := rest) (R := R) S hM (cwV n S.2.2.2.2 (gw_in hlm) rfl hrc hrs hd ⟨hRf, hRl⟩) ⟨WPre.blind _, hrv, fun U hU hW => ⟨rfl, xpre hE hP hD hS hA hB hU hW⟩⟩ rfl hn hsz hst (lv_room hW) hdg hc) hS (fun q _ h => hF q h) hF (fun u t H1 locs1 ht hvm hw hB1 hz1 hk1 hS1 => ?_)
  obtain ⟨hP1, hD1⟩ := hB1
  rw [ht] at hP1
  exact kk u H1 locs1 hw hP1 (hD1.weaken (fun _ _ _ h => hF _ h)) hS1
/-- a static call that answers an int -/
theorem xcSi {post : Int32 → St → Prop} (As : List Value) (S : CallFix p m c cc nL s args GW own) (hE : env G A s s.heap) (hA : ∀ q, s.heap.size ≤ q → A q) (hP : va_P G.1 classes (w G σ) H) (hD : va_D A (w G σ)) (hS : va_S A s.heap H locs)
    (hM : MetI l w y bytes maxL ret rm As G σ H.size Sp post) (hB : Sp) (hlm : ∀ x ∈ va_wsS own index y (Cond.code y bytes maxL ret :: GW), x ∈ GW)
    (hd : y.cls ≠ "java/lang/invoke/MethodHandle" ∧ y.cls ≠ "java/lang/invoke/VarHandle" ∧ (parseMethodDescriptor y.desc).map (fun d => d.parameters.length) = some n) (hrc : rm.cells = 0) (hrs : rm.slots = 0) (hRf : rm.frames + 1 ≤ R.frames) (hRl : 8 + (maxL + 11) + rm.locals ≤ R.locals) (hc : cells ≤ R.cells ∧ slots ≤ R.slots)
    (hn : As.length = n) (hsz : ls.size = nL) (hst : st0 = As.reverse ++ rest) (hW : (rest.map fun v => v.category).sum ≤ 8) (hdg : decode cc pc = .ok (.invokestatic index, 3))
    (kk : ∀ (r : Int32) (σ1 : St) (H1 : Heap) (locs1 : List Loc), post r σ1 → va_P G.1 classes (w G σ1) H1 → va_D A (w G σ1) → va_S A s.heap H1 locs1 → W p l e R s m args below meth c H1 locs1 cells slots Q (F0 m (pc + 3) ls (.int r :: rest))) : W p l e R s m args below meth c H locs cells slots Q (F0 m pc ls st0) := by
  have hF := xfree hD hS hA
  have ok : ∀ x ∈ va_wsS own index y (Cond.code y bytes maxL ret :: GW), x.before args s = true := fun x h => S.2.2.2.2 x (hlm x h)
  refine va_calli (va_runS (As := As) (rest := rest) (R := R) S hM ⟨callB_of n S.2.2.2.2 (gw_in (fun x h => hlm x (by unfold va_wsS; exact List.mem_append_right _ h))) rfl hrc hrs (ok _ (by simp [va_wsS])) (ok _ (by simp [va_wsS])) hd ⟨hRf, hRl⟩, ok _ (by simp [va_wsS])⟩ ⟨WPre.blind _, fun U hU hW => ⟨rfl, xpre hE hP hD hS hA hB hU hW⟩⟩ rfl hn hsz hst (lv_room hW) hdg hc) hS (fun q _ h => hF q h) hF (fun r u t H1 locs1 ht hvm hw hB1 hz1 hk1 hS1 => ?_)
  obtain ⟨hP1, hD1⟩ := hB1
  rw [ht] at hP1
  exact kk r u H1 locs1 hw hP1 (hD1.weaken (fun _ _ _ h => hF _ h)) hS1
theorem xcSl {post : Int64 → St → Prop} (As : List Value) (S : CallFix p m c cc nL s args GW own) (hE : env G A s s.heap) (hA : ∀ q, s.heap.size ≤ q → A q) (hP : va_P G.1 classes (w G σ) H) (hD : va_D A (w G σ)) (hS : va_S A s.heap H locs)
    (hM : MetL l w y bytes maxL ret rm As G σ H.size Sp post) (hB : Sp) (hlm : ∀ x ∈ va_wsS own index y (Cond.code y bytes maxL ret :: GW), x ∈ GW)
    (hd : y.cls ≠ "java/lang/invoke/MethodHandle" ∧ y.cls ≠ "java/lang/invoke/VarHandle" ∧ (parseMethodDescriptor y.desc).map (fun d => d.parameters.length) = some n) (hrc : rm.cells = 0) (hrs : rm.slots = 0) (hRf : rm.frames + 1 ≤ R.frames) (hRl : 8 + (maxL + 11) + rm.locals ≤ R.locals) (hc : cells ≤ R.cells ∧ slots ≤ R.slots)
    (hn : As.length = n) (hsz : ls.size = nL) (hst : st0 = As.reverse ++ rest) (hW : (rest.map fun v => v.category).sum ≤ 8) (hdg : decode cc pc = .ok (.invokestatic index, 3))
    (kk : ∀ (r : Int64) (σ1 : St) (H1 : Heap) (locs1 : List Loc), post r σ1 → va_P G.1 classes (w G σ1) H1 → va_D A (w G σ1) → va_S A s.heap H1 locs1 → W p l e R s m args below meth c H1 locs1 cells slots Q (F0 m (pc + 3) ls (.long r :: rest))) : W p l e R s m args below meth c H locs cells slots Q (F0 m pc ls st0) := by
  have hF := xfree hD hS hA
  have ok : ∀ x ∈ va_wsS own index y (Cond.code y bytes maxL ret :: GW), x.before args s = true := fun x h => S.2.2.2.2 x (hlm x h)
  refine va_calll (va_runS (As := As) (rest := rest) (R := R) S hM ⟨callB_of n S.2.2.2.2 (gw_in (fun x h => hlm x (by unfold va_wsS; exact List.mem_append_right _ h))) rfl hrc hrs (ok _ (by simp [va_wsS])) (ok _ (by simp [va_wsS])) hd ⟨hRf, hRl⟩, ok _ (by simp [va_wsS])⟩ ⟨WPre.blind _, fun U hU hW => ⟨rfl, xpre hE hP hD hS hA hB hU hW⟩⟩ rfl hn hsz hst (lv_room hW) hdg hc) hS (fun q _ h => hF q h) hF (fun r u t H1 locs1 ht hvm hw hB1 hz1 hk1 hS1 => ?_)
  obtain ⟨hP1, hD1⟩ := hB1
  rw [ht] at hP1
  exact kk r u H1 locs1 hw hP1 (hD1.weaken (fun _ _ _ h => hF _ h)) hS1
theorem xcSv {post : St → Prop} (As : List Value) (S : CallFix p m c cc nL s args GW own) (hE : env G A s s.heap) (hA : ∀ q, s.heap.size ≤ q → A q) (hP : va_P G.1 classes (w G σ) H) (hD : va_D A (w G σ)) (hS : va_S A s.heap H locs)
    (hM : MetV l w y bytes maxL ret rm As G σ H.size Sp post) (hB : Sp) (hlm : ∀ x ∈ va_wsS own index y (Cond.code y bytes maxL ret :: GW), x ∈ GW)
    (hd : y.cls ≠ "java/lang/invoke/MethodHandle" ∧ y.cls ≠ "java/lang/invoke/VarHandle" ∧ (parseMethodDescriptor y.desc).map (fun d => d.parameters.length) = some n) (hrc : rm.cells = 0) (hrs : rm.slots = 0) (hRf : rm.frames + 1 ≤ R.frames) (hRl : 8 + (maxL + 11) + rm.locals ≤ R.locals) (hc : cells ≤ R.cells ∧ slots ≤ R.slots)
    (hn : As.length = n) (hsz : ls.size = nL) (hst : st0 = As.reverse ++ rest) (hW : (rest.map fun v => v.category).sum ≤ 8) (hdg : decode cc pc = .ok (.invokestatic index, 3))
    (kk : ∀ (σ1 : St) (H1 : Heap) (locs1 : List Loc), post σ1 → va_P G.1 classes (w G σ1) H1 → va_D A (w G σ1) → va_S A s.heap H1 locs1 → W p l e R s m args below meth c H1 locs1 cells slots Q (F0 m (pc + 3) ls rest)) : W p l e R s m args below meth c H locs cells slots Q (F0 m pc ls st0) := by
  have hF := xfree hD hS hA
  have ok : ∀ x ∈ va_wsS own index y (Cond.code y bytes maxL ret :: GW), x.before args s = true := fun x h => S.2.2.2.2 x (hlm x h)
  refine va_callv (va_runS (As := As) (rest := rest) (R := R) S hM ⟨callB_of n S.2.2.2.2 (gw_in (fun x h => hlm x (by unfold va_wsS; exact List.mem_append_right _ h))) rfl hrc hrs (ok _ (by simp [va_wsS])) (ok _ (by simp [va_wsS])) hd ⟨hRf, hRl⟩, ok _ (by simp [va_wsS])⟩ ⟨WPre.blind _, fun U hU hW => ⟨rfl, xpre hE hP hD hS hA hB hU hW⟩⟩ rfl hn hsz hst (lv_room hW) hdg hc) hS (fun q _ h => hF q h) hF (fun u t H1 locs1 ht hvm hw hB1 hz1 hk1 hS1 => ?_)
  obtain ⟨hP1, hD1⟩ := hB1
  rw [ht] at hP1
  exact kk u H1 locs1 hw hP1 (hD1.weaken (fun _ _ _ h => hF _ h)) hS1
/-- a virtual call that answers a known reference -/
theorem xcVq {post : St → Prop} {res : Option Nat} {v : Value} (As : List Value) (S : CallFix p m c cc nL s args GW own) (hE : env G A s s.heap) (hA : ∀ q, s.heap.size ≤ q → A q) (hP : va_P G.1 classes (w G σ) H) (hD : va_D A (w G σ)) (hS : va_S A s.heap H locs)
    (hM : MetQ l w y bytes maxL ret rm (Value.ref b :: As) G σ H.size Sp res post) (hB : Sp) (hlm : ∀ x ∈ wsV own index C y (Cond.code y bytes maxL ret :: GW), x ∈ GW)
    (hd : y.cls = C ∧ y.cls ≠ "java/lang/invoke/MethodHandle" ∧ y.cls ≠ "java/lang/invoke/VarHandle" ∧ (parseMethodDescriptor y.desc).map (fun d => d.parameters.length) = some n) (hrc : rm.cells = 0) (hrs : rm.slots = 0) (hRf : rm.frames + 1 ≤ R.frames) (hRl : 8 + (maxL + 11) + rm.locals ≤ R.locals) (hc : cells ≤ R.cells ∧ slots ≤ R.slots)
    (hrv : ∃ cell : Cell, H[b]? = some cell ∧ cell.vm.isStatics = false ∧ s.vm.findClass C = some cell.cls) (hn : As.length = n) (hsz : ls.size = nL) (hst : st0 = As.reverse ++ .ref b :: rest) (hW : (rest.map fun v => v.category).sum ≤ 8) (hdg : decode cc pc = .ok (.invokevirtual index, 3)) (hv : va_rf res = v)
    (kk : ∀ (σ1 : St) (H1 : Heap) (locs1 : List Loc), post σ1 → va_P G.1 classes (w G σ1) H1 → va_D A (w G σ1) → va_S A s.heap H1 locs1 → W p l e R s m args below meth c H1 locs1 cells slots Q (F0 m (pc + 3) ls (v :: rest))) : W p l e R s m args below meth c H locs cells slots Q (F0 m pc ls st0) := by
  have hF := xfree hD hS hA
  refine va_callq (va_runV (As := As) (rest := rest) (R := R) S hM (cwV n S.2.2.2.2 (gw_in hlm) rfl hrc hrs hd ⟨hRf, hRl⟩) ⟨WPre.blind _, hrv, fun U hU hW => ⟨rfl, xpre hE hP hD hS hA hB hU hW⟩⟩ rfl hn hsz hst (lv_room hW) hdg hc) hS (fun q _ h => hF q h) hF (fun r u t H1 locs1 ht hvm hw hB1 hz1 hk1 hS1 => ?_)
  obtain ⟨hP1, hD1⟩ := hB1
  rw [ht] at hP1
  obtain ⟨rfl, hw⟩ := hw
  rw [hv]
  exact kk u H1 locs1 hw hP1 (hD1.weaken (fun _ _ _ h => hF _ h)) hS1
/-- a virtual call that answers an int and makes cells -/
theorem xcVj {kc ks : Nat} {post : Int32 → St → Prop} (As : List Value) (S : CallFix p m c cc nL s args GW own) (hE : env G A s s.heap) (hA : ∀ q, s.heap.size ≤ q → A q) (hP : va_P G.1 classes (w G σ) H) (hD : va_D A (w G σ)) (hS : va_S A s.heap H locs)
    (hM : MetJ kc ks l w y bytes maxL ret rm (Value.ref b :: As) G σ H.size Sp post) (hB : Sp) (hlm : ∀ x ∈ wsV own index C y (Cond.code y bytes maxL ret :: GW), x ∈ GW)
    (hd : y.cls = C ∧ y.cls ≠ "java/lang/invoke/MethodHandle" ∧ y.cls ≠ "java/lang/invoke/VarHandle" ∧ (parseMethodDescriptor y.desc).map (fun d => d.parameters.length) = some n) (hrc : rm.cells = kc) (hrs : rm.slots = ks) (hRf : rm.frames + 1 ≤ R.frames) (hRl : 8 + (maxL + 11) + rm.locals ≤ R.locals) (hc : cells + kc ≤ R.cells ∧ slots + ks ≤ R.slots)
    (hrv : ∃ cell : Cell, H[b]? = some cell ∧ cell.vm.isStatics = false ∧ s.vm.findClass C = some cell.cls) (hn : As.length = n) (hsz : ls.size = nL) (hst : st0 = As.reverse ++ .ref b :: rest) (hW : (rest.map fun v => v.category).sum ≤ 8) (hdg : decode cc pc = .ok (.invokevirtual index, 3))
    (kk : ∀ (r : Int32) (σ1 : St) (H1 : Heap) (locs1 : List Loc), post r σ1 → va_P G.1 classes (w G σ1) H1 → va_D A (w G σ1) → va_S A s.heap H1 locs1 → W p l e R s m args below meth c H1 locs1 (cells + kc) (slots + ks) Q (F0 m (pc + 3) ls (.int r :: rest))) : W p l e R s m args below meth c H locs cells slots Q (F0 m pc ls st0) := by
  have hF := xfree hD hS hA
  refine va_calli (va_runV (As := As) (rest := rest) (R := R) S hM (cwV n S.2.2.2.2 (gw_in hlm) rfl hrc hrs hd ⟨hRf, hRl⟩) ⟨WPre.blind _, hrv, fun U hU hW => ⟨rfl, xpre hE hP hD hS hA hB hU hW⟩⟩ rfl hn hsz hst (lv_room hW) hdg hc) hS (fun q _ h => hF q h) hF (fun r u t H1 locs1 ht hvm hw hB1 hz1 hk1 hS1 => ?_)
  obtain ⟨hP1, hD1⟩ := hB1
  rw [ht] at hP1
  exact kk r u H1 locs1 hw hP1 (hD1.weaken (fun _ _ _ h => hF _ h)) hS1
/-- a virtual call that answers a new int array -/
theorem xcVn {ks : Nat} {post : St → Nat → (Nat → Int32) → Prop} (As : List Value) (S : CallFix p m c cc nL s args GW own) (hE : env G A s s.heap) (hA : ∀ q, s.heap.size ≤ q → A q) (hP : va_P G.1 classes (w G σ) H) (hD : va_D A (w G σ)) (hS : va_S A s.heap H locs)
    (hM : MetN ks l w y bytes maxL ret rm (Value.ref b :: As) G σ H.size Sp post) (hB : Sp) (hlm : ∀ x ∈ wsV own index C y (Cond.code y bytes maxL ret :: GW), x ∈ GW)
    (hd : y.cls = C ∧ y.cls ≠ "java/lang/invoke/MethodHandle" ∧ y.cls ≠ "java/lang/invoke/VarHandle" ∧ (parseMethodDescriptor y.desc).map (fun d => d.parameters.length) = some n) (hrc : rm.cells = 1) (hrs : rm.slots = ks) (hRf : rm.frames + 1 ≤ R.frames) (hRl : 8 + (maxL + 11) + rm.locals ≤ R.locals) (hc : cells + 1 ≤ R.cells ∧ slots + ks ≤ R.slots)
    (hrv : ∃ cell : Cell, H[b]? = some cell ∧ cell.vm.isStatics = false ∧ s.vm.findClass C = some cell.cls) (hn : As.length = n) (hsz : ls.size = nL) (hst : st0 = As.reverse ++ .ref b :: rest) (hW : (rest.map fun v => v.category).sum ≤ 8) (hdg : decode cc pc = .ok (.invokevirtual index, 3))
    (kk : ∀ (q N : Nat) (f : Nat → Int32) (σ1 : St) (H1 : Heap) (locs1 : List Loc), post σ1 N f → va_P G.1 classes (w G σ1 ++ [(q, .inl (cy G 0, N, .inl f))]) H1 → va_D A (w G σ1 ++ [(q, .inl (cy G 0, N, .inl f))]) → va_S A s.heap H1 locs1 → W p l e R s m args below meth c H1 locs1 (cells + 1) (slots + ks) Q (F0 m (pc + 3) ls (.ref q :: rest))) : W p l e R s m args below meth c H locs cells slots Q (F0 m pc ls st0) := by
  have hF := xfree hD hS hA
  refine va_callr (va_runV (As := As) (rest := rest) (R := R) S hM (cwV n S.2.2.2.2 (gw_in hlm) rfl hrc hrs hd ⟨hRf, hRl⟩) ⟨WPre.blind _, hrv, fun U hU hW => ⟨rfl, xpre hE hP hD hS hA hB hU hW⟩⟩ rfl hn hsz hst (lv_room hW) hdg hc) hS (fun q _ h => hF q h) hF (fun u ra t H1 locs1 ht hvm hw hB1 hz1 hk1 hS1 => ?_)
  obtain ⟨hP1, hD1⟩ := hB1
  rw [ht] at hP1
  exact kk ra u.2.1 u.2.2 u.1 H1 locs1 hw hP1 (hD1.weaken (fun _ _ _ h => hF _ h)) hS1
/-- a static call that answers a new int array -/
theorem xcSn {ks : Nat} {post : St → Nat → (Nat → Int32) → Prop} (As : List Value) (S : CallFix p m c cc nL s args GW own) (hE : env G A s s.heap) (hA : ∀ q, s.heap.size ≤ q → A q) (hP : va_P G.1 classes (w G σ) H) (hD : va_D A (w G σ)) (hS : va_S A s.heap H locs)
    (hM : MetN ks l w y bytes maxL ret rm As G σ H.size Sp post) (hB : Sp) (hlm : ∀ x ∈ va_wsS own index y (Cond.code y bytes maxL ret :: GW), x ∈ GW)
    (hd : y.cls ≠ "java/lang/invoke/MethodHandle" ∧ y.cls ≠ "java/lang/invoke/VarHandle" ∧ (parseMethodDescriptor y.desc).map (fun d => d.parameters.length) = some n) (hrc : rm.cells = 1) (hrs : rm.slots = ks) (hRf : rm.frames + 1 ≤ R.frames) (hRl : 8 + (maxL + 11) + rm.locals ≤ R.locals) (hc : cells + 1 ≤ R.cells ∧ slots + ks ≤ R.slots)
    (hn : As.length = n) (hsz : ls.size = nL) (hst : st0 = As.reverse ++ rest) (hW : (rest.map fun v => v.category).sum ≤ 8) (hdg : decode cc pc = .ok (.invokestatic index, 3))
    (kk : ∀ (q N : Nat) (f : Nat → Int32) (σ1 : St) (H1 : Heap) (locs1 : List Loc), post σ1 N f → va_P G.1 classes (w G σ1 ++ [(q, .inl (cy G 0, N, .inl f))]) H1 → va_D A (w G σ1 ++ [(q, .inl (cy G 0, N, .inl f))]) → va_S A s.heap H1 locs1 → W p l e R s m args below meth c H1 locs1 (cells + 1) (slots + ks) Q (F0 m (pc + 3) ls (.ref q :: rest))) : W p l e R s m args below meth c H locs cells slots Q (F0 m pc ls st0) := by
  have hF := xfree hD hS hA
  have ok : ∀ x ∈ va_wsS own index y (Cond.code y bytes maxL ret :: GW), x.before args s = true := fun x h => S.2.2.2.2 x (hlm x h)
  refine va_callr (va_runS (As := As) (rest := rest) (R := R) S hM ⟨callB_of n S.2.2.2.2 (gw_in (fun x h => hlm x (by unfold va_wsS; exact List.mem_append_right _ h))) rfl hrc hrs (ok _ (by simp [va_wsS])) (ok _ (by simp [va_wsS])) hd ⟨hRf, hRl⟩, ok _ (by simp [va_wsS])⟩ ⟨WPre.blind _, fun U hU hW => ⟨rfl, xpre hE hP hD hS hA hB hU hW⟩⟩ rfl hn hsz hst (lv_room hW) hdg hc) hS (fun q _ h => hF q h) hF (fun u ra t H1 locs1 ht hvm hw hB1 hz1 hk1 hS1 => ?_)
  obtain ⟨hP1, hD1⟩ := hB1
  rw [ht] at hP1
  exact kk ra u.2.1 u.2.2 u.1 H1 locs1 hw hP1 (hD1.weaken (fun _ _ _ h => hF _ h)) hS1
end CALLS
/-- from this place on, in any heap that holds the world of σ, with these locals and this stack, the method comes to its end -/
abbrev Xw (p : Program) (l : Launch) (e : Env) (R : Room) (s : State) (m : MethodId) (args : Array Value) (below : List Frame) (meth : Method) (c : Code) (Q : State → Prop) (kc ks : Nat) (w : Wd) (G : GX) (A : Nat → Prop) (σ : St) (nL : Nat) (lv : List (Nat × Value)) (pc : Nat) (st : List Value) : Prop :=
  ∀ (H : Heap) (locs : List Loc) (ls : Array Slot), va_P G.1 classes (w G σ) H → va_D A (w G σ) → va_S A s.heap H locs → lv_has ls nL lv → W p l e R s m args below meth c H locs kc ks Q (F0 m pc ls st)
abbrev RetI (p : Program) (l : Launch) (e : Env) (R : Room) (s : State) (m : MethodId) (args : Array Value) (below : List Frame) (meth : Method) (c : Code) (Q : State → Prop) (kc ks : Nat) (w : Wd) (G : GX) (A : Nat → Prop) (cc : ByteArray) (post : Int32 → St → Prop) : Prop :=
  ∀ (pc : Nat) (ls : Array Slot) (r : Int32) (σ : St) (H : Heap) (locs : List Loc), decode cc pc = .ok (.ireturn, 1) → post r σ → va_P G.1 classes (w G σ) H → va_D A (w G σ) → va_S A s.heap H locs → W p l e R s m args below meth c H locs kc ks Q (F0 m pc ls [.int r])
abbrev RetZ (p : Program) (l : Launch) (e : Env) (R : Room) (s : State) (m : MethodId) (args : Array Value) (below : List Frame) (meth : Method) (c : Code) (Q : State → Prop) (kc ks : Nat) (w : Wd) (G : GX) (A : Nat → Prop) (cc : ByteArray) (post : Int32 → St → Prop) : Prop :=
  ∀ (pc : Nat) (ls : Array Slot) (r : Int32) (σ : St) (H : Heap) (locs : List Loc), decode cc pc = .ok (.ireturn, 1) → (r = 0 ∨ r = 1) ∧ post r σ → va_P G.1 classes (w G σ) H → va_D A (w G σ) → va_S A s.heap H locs → W p l e R s m args below meth c H locs kc ks Q (F0 m pc ls [.int r])
abbrev RetB (p : Program) (l : Launch) (e : Env) (R : Room) (s : State) (m : MethodId) (args : Array Value) (below : List Frame) (meth : Method) (c : Code) (Q : State → Prop) (kc ks : Nat) (w : Wd) (G : GX) (A : Nat → Prop) (cc : ByteArray) (post : Int32 → St → Prop) : Prop :=
  ∀ (pc : Nat) (ls : Array Slot) (r : Int32) (σ : St) (H : Heap) (locs : List Loc), decode cc pc = .ok (.ireturn, 1) → narrow .byte (.int r) = .int r ∧ post r σ → va_P G.1 classes (w G σ) H → va_D A (w G σ) → va_S A s.heap H locs → W p l e R s m args below meth c H locs kc ks Q (F0 m pc ls [.int r])
abbrev RetC (p : Program) (l : Launch) (e : Env) (R : Room) (s : State) (m : MethodId) (args : Array Value) (below : List Frame) (meth : Method) (c : Code) (Q : State → Prop) (kc ks : Nat) (w : Wd) (G : GX) (A : Nat → Prop) (cc : ByteArray) (post : Int32 → St → Prop) : Prop :=
  ∀ (pc : Nat) (ls : Array Slot) (r : Int32) (σ : St) (H : Heap) (locs : List Loc), decode cc pc = .ok (.ireturn, 1) → narrow .char (.int r) = .int r ∧ post r σ → va_P G.1 classes (w G σ) H → va_D A (w G σ) → va_S A s.heap H locs → W p l e R s m args below meth c H locs kc ks Q (F0 m pc ls [.int r])
abbrev RetL (p : Program) (l : Launch) (e : Env) (R : Room) (s : State) (m : MethodId) (args : Array Value) (below : List Frame) (meth : Method) (c : Code) (Q : State → Prop) (kc ks : Nat) (w : Wd) (G : GX) (A : Nat → Prop) (cc : ByteArray) (post : Int64 → St → Prop) : Prop :=
  ∀ (pc : Nat) (ls : Array Slot) (r : Int64) (σ : St) (H : Heap) (locs : List Loc), decode cc pc = .ok (.lreturn, 1) → post r σ → va_P G.1 classes (w G σ) H → va_D A (w G σ) → va_S A s.heap H locs → W p l e R s m args below meth c H locs kc ks Q (F0 m pc ls [.long r])
abbrev RetQ (p : Program) (l : Launch) (e : Env) (R : Room) (s : State) (m : MethodId) (args : Array Value) (below : List Frame) (meth : Method) (c : Code) (Q : State → Prop) (kc ks : Nat) (w : Wd) (G : GX) (A : Nat → Prop) (cc : ByteArray) (v : Value) (post : St → Prop) : Prop :=
  ∀ (pc : Nat) (ls : Array Slot) (σ : St) (H : Heap) (locs : List Loc), decode cc pc = .ok (.areturn, 1) → post σ → va_P G.1 classes (w G σ) H → va_D A (w G σ) → va_S A s.heap H locs → W p l e R s m args below meth c H locs kc ks Q (F0 m pc ls [v])
abbrev RetV (p : Program) (l : Launch) (e : Env) (R : Room) (s : State) (m : MethodId) (args : Array Value) (below : List Frame) (meth : Method) (c : Code) (Q : State → Prop) (kc ks : Nat) (w : Wd) (G : GX) (A : Nat → Prop) (cc : ByteArray) (post : St → Prop) : Prop :=
  ∀ (pc : Nat) (ls : Array Slot) (σ : St) (H : Heap) (locs : List Loc), decode cc pc = .ok (.return_, 1) → post σ → va_P G.1 classes (w G σ) H → va_D A (w G σ) → va_S A s.heap H locs → W p l e R s m args below meth c H locs kc ks Q (F0 m pc ls [])
theorem xboolc (r : Int32) (h : r = 0 ∨ r = 1) : narrow .boolean (.int r) = .int r := by rcases h with rfl | rfl <;> rfl
