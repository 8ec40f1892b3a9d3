abbrev FN : List Cond := flatC (Jvm.Cond.and given_1 narrow_1)
def tm8 : Nat → Term := fun i => match i with
  | 0 => .string "BottleBefore$HouseReader" 15
  | 1 => .string "BottleBefore$Laws" 16
  | 2 => .string "BottleBefore$HouseReader" 31
  | 3 => .string "BottleBefore$HouseReader" 57
  | 4 => .string "BottleBefore$HouseReader" 59
  | 5 => .string "BottleBefore$WinterReader" 38
  | 6 => .string "BottleBefore" 176
  | _ => .string "BottleBeforeModel" 26
set_option maxRecDepth 100000 in
theorem s8_ex : ∀ i, i < 8 → Cond.exactly (tm8 i) "java/lang/String" ∈ FN := by decide +kernel
set_option maxRecDepth 100000 in
theorem s8_co : ∀ i, i < 8 → Cond.eq (.field (tm8 i) "java/lang/String" "coder" "B") (.int 0) ∈ FN := by decide +kernel
set_option maxRecDepth 100000 in
theorem s8_ar : ∀ i, i < 8 → Cond.arrayOf (.field (tm8 i) "java/lang/String" "value" "[B") .byte ∈ FN := by decide +kernel
set_option maxRecDepth 100000 in
theorem s8_le : ∀ i, i < 8 → Cond.eq (.length (.field (tm8 i) "java/lang/String" "value" "[B")) (.int (Int32.ofNat (slen.getD i 0))) ∈ FN := by decide +kernel
set_option maxRecDepth 100000 in
theorem s8_el : ∀ i, i < 8 → ∀ j, j < slen.getD i 0 → Cond.eq (.elem (.field (tm8 i) "java/lang/String" "value" "[B") (.int (Int32.ofNat j))) (.int ((sbyt.getD i []).getD j 0)) ∈ FN := by decide +kernel
set_option maxRecDepth 100000 in
theorem s8_ne : ∀ i, i < 8 → ∀ j, j < 8 → i ≠ j → Cond.not (Cond.eq (tm8 i) (tm8 j)) ∈ FN ∨ Cond.not (Cond.eq (tm8 j) (tm8 i)) ∈ FN := by decide +kernel
theorem s8_N : ∀ i, i < 8 → slen.getD i 0 < 2 ^ 31 := by decide +kernel
set_option maxRecDepth 100000 in
theorem sa_50 : Cond.arrayOf (.static "BottleBefore$HouseReader" "USUAL" "[I") .int ∈ FN ∧ Cond.eq (.length (.static "BottleBefore$HouseReader" "USUAL" "[I")) (.int (Int32.ofNat 8)) ∈ FN ∧ ∀ j, j < 8 → Cond.eq (.elem (.static "BottleBefore$HouseReader" "USUAL" "[I") (.int (Int32.ofNat j))) (.int (st50.getD j 0)) ∈ FN := by decide +kernel
set_option maxRecDepth 100000 in
theorem sa_51 : Cond.arrayOf (.static "BottleBefore$HouseReader" "MOST" "[I") .int ∈ FN ∧ Cond.eq (.length (.static "BottleBefore$HouseReader" "MOST" "[I")) (.int (Int32.ofNat 8)) ∈ FN ∧ ∀ j, j < 8 → Cond.eq (.elem (.static "BottleBefore$HouseReader" "MOST" "[I") (.int (Int32.ofNat j))) (.int (st51.getD j 0)) ∈ FN := by decide +kernel
set_option maxRecDepth 100000 in
theorem sw_0 : Cond.eq (.static "java/lang/String" "COMPACT_STRINGS" "Z") (.int 1) ∈ FN ∧ Cond.isRef (.static "jdk/internal/util/Preconditions" "SIOOBE_FORMATTER" "Ljava/util/function/BiFunction;") ∈ FN ∧ Cond.isRef (.static Bundle.tN "UNASSIGNED_STACK" Bundle.steD) ∈ FN ∧ Cond.isRef (.static Bundle.tN "SUPPRESSED_SENTINEL" Bundle.listD) ∈ FN := by decide +kernel
theorem yover {A : Array Value} {U : State} (h : (Cond.arrayOver (.array .int)).before A U = true) : ∃ comp c k, U.vm.findClass "[I" = some comp ∧ U.vm.classes[c]? = some k ∧ k.kind = .array comp (.array .int) ∧ U.vm.findClass "[[I" = some c := by
  have h : (Cond.arrayOver (.array .int)).holds A U none U [] = true := h
  simp only [Cond.holds, Cond.value, beq_iff_eq] at h
  cases hc : U.vm.findClass (FieldType.array .int).toString with
  | none => simp [hc] at h
  | some comp =>
    simp only [hc, Option.bind_some, Option.bind_eq_some_iff, Option.map_eq_some_iff] at h
    obtain ⟨c, hi, k, hk, hb⟩ := h
    obtain ⟨hlt, hp, -⟩ := Array.findIdx?_eq_some_iff_getElem.mp hi
    have hkk : U.vm.classes[c] = k := (Array.getElem?_eq_some_iff.mp hk).2
    rw [hkk] at hp
    cases hkind : k.kind with
    | array component ty =>
      rw [hkind] at hb hp
      simp at hb hp
      exact ⟨comp, c, k, hc, hk, by rw [hkind, hp, hb.1], hb.2⟩
    | _ => rw [hkind] at hb; simp at hb
theorem ykn {A : Array Value} {U : State} {ty : FieldType} (h : (Cond.arrayClass ty).before A U = true) : ∃ c, ArrOfT U c ty ∧ U.vm.findClass ("[" ++ ty.toString) = some c := by
  obtain ⟨c, k, comp, h1, h2, h3⟩ := Cond.arrayClass_spec (show (Cond.arrayClass ty).holds A U none U [] = true from h)
  exact ⟨c, fun N z => ⟨(fun k h => by cases h), k, h2, comp, h3⟩, h1⟩
set_option maxRecDepth 100000 in
theorem so_X2_61 : Cond.eq (.string "BottleBefore$Laws" 16) (.string "BottleBefore$LawReader" 61) ∈ FN := by decide +kernel
set_option maxRecDepth 100000 in
theorem so_X12_32 : Cond.eq (.string "BottleBefore$Laws" 16) (.string "BottleBeforeModel" 32) ∈ FN := by decide +kernel
set_option maxRecDepth 100000 in
theorem so_X12_237 : Cond.eq (.string "BottleBefore$HouseReader" 31) (.string "BottleBeforeModel" 237) ∈ FN := by decide +kernel
set_option maxRecDepth 100000 in
theorem so_X12_243 : Cond.eq (.string "BottleBefore$HouseReader" 57) (.string "BottleBeforeModel" 243) ∈ FN := by decide +kernel
set_option maxRecDepth 100000 in
theorem so_X12_245 : Cond.eq (.string "BottleBefore$HouseReader" 59) (.string "BottleBeforeModel" 245) ∈ FN := by decide +kernel
set_option maxRecDepth 100000 in
theorem so_X12_253 : Cond.eq (.string "BottleBefore$WinterReader" 38) (.string "BottleBeforeModel" 253) ∈ FN := by decide +kernel
theorem yAOA {A : Array Value} {U : State} (h : (Cond.arrayOver (.array .int)).before A U = true) : va_AOA .int U := fun A9 => by
  have h : (Cond.arrayOver (.array .int)).holds A U none U [] = true := h
  show (Cond.arrayOver (.array .int)).holds A9 U none U [] = true
  simp only [Cond.holds, Cond.value] at h ⊢
  exact h
set_option maxHeartbeats 8000000 in
set_option maxRecDepth 100000 in
/-- what holds at the law's entry, as the walk wants it -/
theorem start_env {s : State} {args : Array Value} (hts : ∀ w ∈ lw_tbl, w.before args s = true) (hnw : ∀ w ∈ FN, w.before args s = true) : ∃ (G : GX) (cL : ClassId), env G (fun q : Nat => s.heap.size ≤ q) s s.heap ∧ envC s ∧ va_K G.1 classes [(cL, .long)] s := by
  have hA : ∀ a : Nat, a < s.heap.size → ¬ (fun q : Nat => s.heap.size ≤ q) a := fun a h => Nat.not_le.mpr h
  have hgw : ∀ w ∈ GW, w.before args s = true := fun w h => hts w (gw_tbl w h)
  obtain ⟨cX0, iX0, kX0⟩ := u_known (C := RX0) (T := TX0) (N := 6) (n := 6) hgw inX0 (hgw _ wb_X0)
  obtain ⟨cX1, iX1, kX1⟩ := u_known (C := RX1) (T := TX1) (N := 12) (n := 12) hgw inX1 (hgw _ wb_X1)
  obtain ⟨cX2, iX2, kX2⟩ := u_known (C := RX2) (T := TX2) (N := 9) (n := 9) hgw inX2 (hgw _ wb_X2)
  obtain ⟨cX3, iX3, kX3⟩ := u_known (C := RX3) (T := TX3) (N := 5) (n := 5) hgw inX3 (hgw _ wb_X3)
  obtain ⟨cX4, iX4, kX4⟩ := u_known (C := RX4) (T := TX4) (N := 7) (n := 7) hgw inX4 (hgw _ wb_X4)
  obtain ⟨cX6, iX6, kX6⟩ := u_known (C := RX6) (T := TX6) (N := 12) (n := 12) hgw inX6 (hgw _ wb_X6)
  obtain ⟨cX7, iX7, kX7⟩ := u_known (C := RX7) (T := TX7) (N := 6) (n := 6) hgw inX7 (hgw _ wb_X7)
  obtain ⟨cX8, iX8, kX8⟩ := u_known (C := RX8) (T := TX8) (N := 3) (n := 3) hgw inX8 (hgw _ wb_X8)
  obtain ⟨cX9, iX9, kX9⟩ := u_known (C := RX9) (T := TX9) (N := 2) (n := 2) hgw inX9 (hgw _ wb_X9)
  obtain ⟨cX10, iX10, kX10⟩ := u_known (C := RX10) (T := TX10) (N := 4) (n := 4) hgw inX10 (hgw _ wb_X10)
  obtain ⟨cX11, iX11, kX11⟩ := u_known (C := RX11) (T := TX11) (N := 14) (n := 14) hgw inX11 (hgw _ wb_X11)
  obtain ⟨cX12, iX12, kX12⟩ := u_known (C := RX12) (T := TX12) (N := 53) (n := 53) hgw inX12 (hgw _ wb_X12)
  obtain ⟨dC, dI, hKc⟩ : ∃ (dC : Nat → ClassId) (dI : Nat → Nat → Nat), ∀ (k : Nat) (q : vw_C), classes[k]? = some q → u_Kn s q.1 q.2.1 q.2.2 (dC k) (dI k) := by
    refine ⟨fun k => [cX0, cX1, cX2, cX3, cX4, cX6, cX7, cX8, cX9, cX10, cX11, cX12].getD k 0, fun k => [iX0, iX1, iX2, iX3, iX4, iX6, iX7, iX8, iX9, iX10, iX11, iX12].getD k (fun _ => 0), ?_⟩
    intro k q hq
    match k, hq with
    | 0, hq => cases hq; exact kX0
    | 1, hq => cases hq; exact kX1
    | 2, hq => cases hq; exact kX2
    | 3, hq => cases hq; exact kX3
    | 4, hq => cases hq; exact kX4
    | 5, hq => cases hq; exact kX6
    | 6, hq => cases hq; exact kX7
    | 7, hq => cases hq; exact kX8
    | 8, hq => cases hq; exact kX9
    | 9, hq => cases hq; exact kX10
    | 10, hq => cases hq; exact kX11
    | 11, hq => cases hq; exact kX12
    | k + 12, hq => simp [classes] at hq
  obtain ⟨y0, hy0, fy0⟩ := ykn (hgw _ wa_int)
  obtain ⟨y1, hy1, fy1⟩ := ykn (hgw _ wa_byte)
  obtain ⟨cL, hyL, fyL⟩ := ykn (hgw _ wa_long)
  have hov := hts _ (tb_1 _ (List.mem_of_getElem? (i := 154) (a := Cond.arrayOver (.array .int)) (by decide +kernel)))
  obtain ⟨cm, y2, ky2, fcm, hk2, hkd2, fy2⟩ := yover hov
  have ecm : cm = y0 := Option.some.inj (fcm.symm.trans fy0)
  subst ecm
  have hy2 : ArrOfT s y2 (.array .int) := fun N z => ⟨(fun k h => by cases h), ky2, hk2, _, hkd2⟩
  obtain ⟨adK, adV, hS8, hev⟩ := vk_Sof (args := args) (s := s) (N := 8) (tm := tm8) (len := slen) (byt := sbyt) (A := fun q : Nat => s.heap.size ≤ q) s8_N (fun i hi => hnw _ (s8_ex i hi)) (fun i hi => hnw _ (s8_co i hi)) (fun i hi => hnw _ (s8_ar i hi)) (fun i hi => hnw _ (s8_le i hi)) (fun i hi j hj => hnw _ (s8_el i hi j hj)) (fun i j hi hj e => (s8_ne i hi j hj e).imp (fun h => hnw _ h) (fun h => hnw _ h)) hA
  obtain ⟨t50, ev50, hT50⟩ := va_Tof (args := args) (s := s) (tm := .static "BottleBefore$HouseReader" "USUAL" "[I") (ty := .int) (N := 8) (f := fun j => .int (st50.getD j 0)) (A := fun q : Nat => s.heap.size ≤ q) (by decide) (hnw _ sa_50.1) (va_eqt (hnw _ sa_50.2.1)) (fun j hj => va_eqt (hnw _ (sa_50.2.2 j hj))) hA
  obtain ⟨t51, ev51, hT51⟩ := va_Tof (args := args) (s := s) (tm := .static "BottleBefore$HouseReader" "MOST" "[I") (ty := .int) (N := 8) (f := fun j => .int (st51.getD j 0)) (A := fun q : Nat => s.heap.size ≤ q) (by decide) (hnw _ sa_51.1) (va_eqt (hnw _ sa_51.2.1)) (fun j hj => va_eqt (hnw _ (sa_51.2.2 j hj))) hA
  refine ⟨((dC, dI), fun k => if k = 0 then cm else if k = 1 then y1 else y2, fun k => if k = 50 then t50 else t51, adK, adV), cL, ⟨⟨hKc, ?_⟩, ?_⟩, ?_, ⟨hKc, ?_⟩⟩
  · intro k q hq
    match k, hq with
    | 0, hq => cases hq; exact ⟨hy0, fy0⟩
    | 1, hq => cases hq; exact ⟨hy1, fy1⟩
    | 2, hq => cases hq; exact ⟨hy2, fy2⟩
    | k + 3, hq => simp [etys] at hq
  · exact ⟨va_Nw.of (A := args) rfl (hts _ (tb_1 _ (List.mem_of_getElem? (i := 63) (a := Cond.fieldLinkNest RX0 18 "BottleBefore$HouseReader" "drinksTold" "I" "BottleBefore") (by decide +kernel)))),
      va_Nw.of (A := args) rfl (hts _ (tb_1 _ (List.mem_of_getElem? (i := 65) (a := Cond.fieldLinkNest RX0 27 "BottleBefore$HouseReader" "guestsTold" "I" "BottleBefore") (by decide +kernel)))),
      va_Nw.of (A := args) rfl (hts _ (tb_2 _ (List.mem_of_getElem? (i := 188) (a := Cond.declares ⟨RX5, "start", "()V"⟩) (by decide +kernel)))),
      va_Nw.of (A := args) rfl (hts _ (tb_2 _ (List.mem_of_getElem? (i := 212) (a := Cond.declares ⟨RX5, "takes", "(IIZ)Z"⟩) (by decide +kernel)))),
      va_Nw.of (A := args) rfl (hts _ (tb_3 _ (List.mem_of_getElem? (i := 152) (a := Cond.declares ⟨RX5, "closes", "()Z"⟩) (by decide +kernel)))),
      vk_R.of (A := args) (hts _ (tb_1 _ (List.mem_of_getElem? (i := 59) (a := Cond.stringRef RX1 15 "") (by decide +kernel)))) (hev 0 (by decide)),
      vk_R.of (A := args) (hts _ (tb_1 _ (List.mem_of_getElem? (i := 232) (a := Cond.stringRef RX3 16 "qhlmnp") (by decide +kernel)))) (hev 1 (by decide)),
      vk_R.of (A := args) (hts _ (tb_2 _ (List.mem_of_getElem? (i := 193) (a := Cond.stringRef RX1 31 "bwj") (by decide +kernel)))) (hev 2 (by decide)),
      vk_R.of (A := args) (hts _ (tb_2 _ (List.mem_of_getElem? (i := 221) (a := Cond.stringRef RX1 57 "qp") (by decide +kernel)))) (hev 3 (by decide)),
      vk_R.of (A := args) (hts _ (tb_2 _ (List.mem_of_getElem? (i := 222) (a := Cond.stringRef RX1 59 "lmh") (by decide +kernel)))) (hev 4 (by decide)),
      vk_R.of (A := args) (hts _ (tb_3 _ (List.mem_of_getElem? (i := 81) (a := Cond.stringRef RX2 61 "qhlmnp") (by decide +kernel)))) ((by obtain ⟨v9, e1, e2⟩ := Cond.eq_one (show (Cond.eq (.string "BottleBefore$Laws" 16) (.string "BottleBefore$LawReader" 61)).holds args s none s [] = true from hnw _ so_X2_61); have e3 := e1.symm.trans (hev 1 (by decide)); cases e3; exact e2)),
      vk_R.of (A := args) (hts _ (tb_3 _ (List.mem_of_getElem? (i := 143) (a := Cond.stringRef RX10 38 "gmh") (by decide +kernel)))) (hev 5 (by decide)),
      vk_R.of (A := args) (hts _ (tb_6 _ (List.mem_of_getElem? (i := 32) (a := Cond.stringRef RX11 176 "no such guest, or nothing such of it") (by decide +kernel)))) (hev 6 (by decide)),
      vk_R.of (A := args) (hts _ (tb_6 _ (List.mem_of_getElem? (i := 69) (a := Cond.stringRef RX12 26 "y") (by decide +kernel)))) (hev 7 (by decide)),
      vk_R.of (A := args) (hts _ (tb_6 _ (List.mem_of_getElem? (i := 70) (a := Cond.stringRef RX12 32 "qhlmnp") (by decide +kernel)))) ((by obtain ⟨v9, e1, e2⟩ := Cond.eq_one (show (Cond.eq (.string "BottleBefore$Laws" 16) (.string "BottleBeforeModel" 32)).holds args s none s [] = true from hnw _ so_X12_32); have e3 := e1.symm.trans (hev 1 (by decide)); cases e3; exact e2)),
      vk_R.of (A := args) (hts _ (tb_7 _ (List.mem_of_getElem? (i := 41) (a := Cond.stringRef RX12 237 "bwj") (by decide +kernel)))) ((by obtain ⟨v9, e1, e2⟩ := Cond.eq_one (show (Cond.eq (.string "BottleBefore$HouseReader" 31) (.string "BottleBeforeModel" 237)).holds args s none s [] = true from hnw _ so_X12_237); have e3 := e1.symm.trans (hev 2 (by decide)); cases e3; exact e2)),
      vk_R.of (A := args) (hts _ (tb_7 _ (List.mem_of_getElem? (i := 88) (a := Cond.stringRef RX12 243 "qp") (by decide +kernel)))) ((by obtain ⟨v9, e1, e2⟩ := Cond.eq_one (show (Cond.eq (.string "BottleBefore$HouseReader" 57) (.string "BottleBeforeModel" 243)).holds args s none s [] = true from hnw _ so_X12_243); have e3 := e1.symm.trans (hev 3 (by decide)); cases e3; exact e2)),
      vk_R.of (A := args) (hts _ (tb_7 _ (List.mem_of_getElem? (i := 89) (a := Cond.stringRef RX12 245 "lmh") (by decide +kernel)))) ((by obtain ⟨v9, e1, e2⟩ := Cond.eq_one (show (Cond.eq (.string "BottleBefore$HouseReader" 59) (.string "BottleBeforeModel" 245)).holds args s none s [] = true from hnw _ so_X12_245); have e3 := e1.symm.trans (hev 4 (by decide)); cases e3; exact e2)),
      vk_R.of (A := args) (hts _ (tb_7 _ (List.mem_of_getElem? (i := 163) (a := Cond.stringRef RX12 253 "gmh") (by decide +kernel)))) ((by obtain ⟨v9, e1, e2⟩ := Cond.eq_one (show (Cond.eq (.string "BottleBefore$WinterReader" 38) (.string "BottleBeforeModel" 253)).holds args s none s [] = true from hnw _ so_X12_253); have e3 := e1.symm.trans (hev 5 (by decide)); cases e3; exact e2)),
      hS8,
      va_Zof (hts _ (tb_2 _ (List.mem_of_getElem? (i := 200) (a := Cond.laysStatic "BottleBefore$HouseReader" "USUAL" "[I") (by decide +kernel)))) (hts _ (tb_1 _ (List.mem_of_getElem? (i := 4) (a := Cond.initialized "BottleBefore$HouseReader") (by decide +kernel)))) ev50 hA,
      hT50,
      va_Zof (hts _ (tb_2 _ (List.mem_of_getElem? (i := 232) (a := Cond.laysStatic "BottleBefore$HouseReader" "MOST" "[I") (by decide +kernel)))) (hts _ (tb_1 _ (List.mem_of_getElem? (i := 4) (a := Cond.initialized "BottleBefore$HouseReader") (by decide +kernel)))) ev51 hA,
      hT51,
      va_Zof (hts _ (tb_2 _ (List.mem_of_getElem? (i := 2) (a := Cond.laysStatic "java/lang/String" "COMPACT_STRINGS" "Z") (by decide +kernel)))) (hts _ (tb_1 _ (List.mem_of_getElem? (i := 10) (a := Cond.initialized "java/lang/String") (by decide +kernel)))) (va_eqt (hnw _ sw_0.1)) hA,
      va_Zqof (hts _ (tb_3 _ (List.mem_of_getElem? (i := 44) (a := Cond.laysStatic "jdk/internal/util/Preconditions" "SIOOBE_FORMATTER" "Ljava/util/function/BiFunction;") (by decide +kernel)))) (hts _ (tb_1 _ (List.mem_of_getElem? (i := 18) (a := Cond.initialized "jdk/internal/util/Preconditions") (by decide +kernel)))) (hnw _ sw_0.2.1) hA,
      ⟨ky2, hk2, hkd2⟩,
      va_Nw.of (A := args) rfl (hts _ (tb_3 _ (List.mem_of_getElem? (i := 236) (a := Cond.castable "[I" "java/lang/Cloneable") (by decide +kernel)))),
      va_Nw.of (A := args) rfl (hts _ (tb_5 _ (List.mem_of_getElem? (i := 235) (a := Cond.castable "java/util/NoSuchElementException" "java/util/NoSuchElementException") (by decide +kernel)))),
      va_Nw.of (A := args) rfl (hts _ (tb_5 _ (List.mem_of_getElem? (i := 237) (a := Cond.declares (Bundle.initS "java/lang/RuntimeException")) (by decide +kernel)))),
      va_Nw.of (A := args) rfl (hts _ (tb_5 _ (List.mem_of_getElem? (i := 239) (a := Cond.declares (Bundle.initS "java/lang/Exception")) (by decide +kernel)))),
      va_Nw.of (A := args) rfl (hts _ (tb_6 _ (List.mem_of_getElem? (i := 1) (a := Cond.declares (Bundle.initS "java/lang/Throwable")) (by decide +kernel)))),
      vx_Zqof (hts _ (tb_6 _ (List.mem_of_getElem? (i := 20) (a := Cond.laysStatic Bundle.tN "UNASSIGNED_STACK" Bundle.steD) (by decide +kernel)))) (hts _ (tb_1 _ (List.mem_of_getElem? (i := 22) (a := Cond.initialized Bundle.tN) (by decide +kernel)))) (hnw _ sw_0.2.2.1) hA,
      vx_Zqof (hts _ (tb_6 _ (List.mem_of_getElem? (i := 22) (a := Cond.laysStatic Bundle.tN "SUPPRESSED_SENTINEL" Bundle.listD) (by decide +kernel)))) (hts _ (tb_1 _ (List.mem_of_getElem? (i := 22) (a := Cond.initialized Bundle.tN) (by decide +kernel)))) (hnw _ sw_0.2.2.2) hA⟩
  · exact ⟨va_Nw.of (A := args) rfl (hts _ (tb_1 _ (List.mem_of_getElem? (i := 55) (a := Cond.methodLinkNest RX1 3 yX5_init "BottleBefore") (by decide +kernel)))),
      va_Nw.of (A := args) rfl (hts _ (tb_1 _ (List.mem_of_getElem? (i := 105) (a := Cond.methodLinkNest RX2 3 yX5_init "BottleBefore") (by decide +kernel)))),
      va_Nw.of (A := args) rfl (hts _ (tb_1 _ (List.mem_of_getElem? (i := 139) (a := Cond.methodLinkNest RX10 3 yX5_init "BottleBefore") (by decide +kernel)))),
      va_Nw.of (A := args) rfl (hts _ (tb_1 _ (List.mem_of_getElem? (i := 36) (a := Cond.methodLinkNest RX11 9 yX9_init "BottleBefore") (by decide +kernel)))),
      va_Nw.of (A := args) rfl (hts _ (tb_1 _ (List.mem_of_getElem? (i := 52) (a := Cond.methodLinkNest RX11 18 yX1_init "BottleBefore") (by decide +kernel)))),
      va_Nw.of (A := args) rfl (hts _ (tb_1 _ (List.mem_of_getElem? (i := 102) (a := Cond.methodLinkNest RX11 25 yX2_init "BottleBefore") (by decide +kernel)))),
      va_Nw.of (A := args) rfl (hts _ (tb_1 _ (List.mem_of_getElem? (i := 136) (a := Cond.methodLinkNest RX11 32 yX10_init "BottleBefore") (by decide +kernel)))),
      va_Nw.of (A := args) rfl (hts _ (tb_1 _ (List.mem_of_getElem? (i := 157) (a := Cond.methodLinkNest RX11 44 yX4_init "BottleBefore") (by decide +kernel)))),
      va_Nw.of (A := args) rfl (hts _ (tb_1 _ (List.mem_of_getElem? (i := 186) (a := Cond.methodLinkNest RX11 55 yX0_init "BottleBefore") (by decide +kernel)))),
      va_Nw.of (A := args) rfl (hts _ (tb_1 _ (List.mem_of_getElem? (i := 227) (a := Cond.methodLinkNest RX11 58 yX3_init "BottleBefore") (by decide +kernel)))),
      yAOA hov⟩
  · intro k q hq
    match k, hq with
    | 0, hq => cases hq; exact ⟨hyL, fyL⟩
    | k + 1, hq => simp at hq
