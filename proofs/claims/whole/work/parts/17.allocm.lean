theorem xfits {cA : ClassId} {n : Nat} {f : Nat → Int32} {i : Nat} {v : Value} (h : (vp_cell cA (n, .inl f)).slots[i]? = some v) : fits .int v = true := by
  rw [vp_cell_i] at h
  by_cases hi : i < n
  · have h1 : (arrV cA n (fun j => Value.int (f j))).slots[i]? = some (.int (f i)) := arrV_read _ _ hi
    rw [h1] at h
    cases h
    rfl
  · have h1 : (arrV cA n (fun j => Value.int (f j))).slots.size ≤ i := by rw [arrV_size]; omega
    rw [Array.getElem?_eq_none h1] at h
    cases h
theorem hs_J7_copyOf_59c91 : yJ7_copyOf_59c91.cls ≠ "java/lang/invoke/MethodHandle" ∧ yJ7_copyOf_59c91.cls ≠ "java/lang/invoke/VarHandle" ∧ (parseMethodDescriptor yJ7_copyOf_59c91.desc).map (fun d => d.parameters.length) = some 2 := by decide +kernel
/-- Arrays.copyOf of the array 14 (241 ints) -/
def S_copy_14 (post : St → Nat → (Nat → Int32) → Prop) (n : Int32) (z0 : St) : Prop := ¬ n < 0 ∧ n.toNatClampNeg ≤ 241 ∧ ∀ f : Nat → Int32, (∀ j, j < n.toNatClampNeg → f j = gA z0 14 j) → post z0 n.toNatClampNeg f
set_option maxHeartbeats 4000000 in
set_option maxRecDepth 100000 in
theorem c_copy_14 (l : Launch) (G : GX) (z0 : St) (sz : Nat) (n : Int32) (post : St → Nat → (Nat → Int32) → Prop) : MetN 241 l wX yJ7_copyOf_59c91 cJ7_copyOf_59c91 3 (some (.array .int)) { frames := 1, cells := 1, slots := 241, locals := 72 } [.ref (ad G 14), .int n] G z0 sz (S_copy_14 post n z0) post := by
  refine Met.ofW (cc := cJ7_copyOf_59c91) (maxL := 3) (ret := some (.array .int)) (by decide) rfl ?_
  intro p e s m args below meth c s₁ B hml hv
  obtain ⟨rfl, hsz, hP, hD0, hE, hB⟩ := hv
  have S : CallFix p m c cJ7_copyOf_59c91 3 s _ GW RJ7 := ⟨B.exec, B.bytes, hml, findClass_of_methodNamed B.named, fun w h => atoms_spec (ws := Cond.code yJ7_copyOf_59c91 cJ7_copyOf_59c91 3 (some (.array .int)) :: GW) B.pre w (List.mem_cons_of_mem _ h)⟩
  have hlocks := B.notSynchronized
  have hx := S.1
  have hb := S.2.1
  subst hsz
  have hD := hD0.self (sz := s.heap.size)
  generalize hAe : va_A (wX G z0) s.heap.size = A at hD hE ⊢
  have hA : ∀ q : Nat, s.heap.size ≤ q → A q := fun q h => by rw [← hAe]; exact Or.inr h
  have hS : va_S A s.heap s.heap [] := va_S.rf
  have hl := lv_entry ([.ref (ad G 14), .int n]) (n := 3) (Nat.le_of_ble_eq_true rfl)
  rw [lg_entry_eq]
  generalize (lg_sl ([.ref (ad G 14), .int n]) ++ List.replicate (3 - (lg_sl ([.ref (ad G 14), .int n])).length) Slot.unset).toArray = ls at hl ⊢
  have hl : lv_has ls 3 [(0, .ref (ad G 14)), (1, .int n)] := hl
  obtain ⟨h0, hle, hB⟩ := hB
  refine lv_iload_n hx hb dJ7_copyOf_59c91_0 rfl (lv_at hl 1 rfl) ?_
  refine lv_aload_n hx hb dJ7_copyOf_59c91_1 rfl (lv_at hl 0 rfl) ?_
  refine xXn_14 S hE hP dJ7_copyOf_59c91_2 ?_
  refine lv_icmp_ne (tgt := 14) hx hb dJ7_copyOf_59c91_3 (by decide) (fun c1 => ?_) (fun c1 => ?_)
  · refine lv_iload_n hx hb dJ7_copyOf_59c91_14 rfl (lv_at hl 1 rfl) ?_
    refine va_newa (atype := .int) (ty := .int) (a0 := (n.toNatClampNeg, .inl (fun _ => 0))) hx hb (S.2.2.2.2 _ wa_int) rfl hE.1 hP hD hS hA (fun _ => rfl) h0 rfl (by show n.toNatClampNeg * 4 ≤ 536870912; omega) (Nat.le_refl 1) (show 0 + n.toNatClampNeg ≤ 241 by omega) dJ7_copyOf_59c91_15 (fun q cA H hK hP hD hS => ?_)
    have ecA : cA = cy G 0 := Option.some.inj (((hK.2 3 _ rfl).2 : s.vm.findClass "[I" = some cA).symm.trans hE.ints)
    subst ecA
    refine lv_astore_n (lv' := [(2, .ref q), (0, .ref (ad G 14)), (1, .int n)]) hx hb dJ7_copyOf_59c91_17 rfl hl (by decide) rfl (fun ls hl => ?_)
    refine lv_aload_n hx hb dJ7_copyOf_59c91_18 rfl (lv_at hl 1 rfl) ?_
    refine lv_iconst (v := 0) hx hb dJ7_copyOf_59c91_19 (by decide) ?_
    refine lv_aload_n hx hb dJ7_copyOf_59c91_20 rfl (lv_at hl 0 rfl) ?_
    refine lv_iconst (v := 0) hx hb dJ7_copyOf_59c91_21 (by decide) ?_
    refine lv_aload_n hx hb dJ7_copyOf_59c91_22 rfl (lv_at hl 1 rfl) ?_
    refine va_alen hx hb hE.1 hP 14 0 rfl rfl (v := 241) rfl dJ7_copyOf_59c91_23 ?_
    refine lv_iload_n hx hb dJ7_copyOf_59c91_24 rfl (lv_at hl 2 rfl) ?_
    refine va_mmin hx hb (S.2.2.1.trans hl.1.symm) S.2.2.2.1 (S.2.2.2.2 _ lk_J7_304) (S.2.2.2.2 _ wt_J9_min_7cf53) (S.2.2.2.2 _ wn_J9) (S.2.2.2.2 _ wc_J9_min_7cf53) (Nat.le_refl _) (Nat.le_of_ble_eq_true rfl) (Nat.le_refl _) (show 0 + n.toNatClampNeg ≤ 241 by omega) dJ7_copyOf_59c91_25 ?_
    have hnv : n.toInt = n.toNatClampNeg := by
      have h9 : ¬ n.toInt < 0 := fun h => h0 (Int32.lt_iff_toInt_lt.mpr (by simpa using h))
      show n.toInt = ((n.toInt.toNat : Nat) : Int)
      omega
    have e9 : (241 : Int32).toInt = 241 := by decide
    have hmin : (if n < (241 : Int32) then n else (241 : Int32)) = n := by
      by_cases h : n < (241 : Int32)
      · rw [if_pos h]
      · exfalso
        have h1 : ¬ n.toInt < 241 := fun q => h (Int32.lt_iff_toInt_lt.mpr (by rw [e9]; exact q))
        exact c1 (Int32.toInt_inj.mp (by rw [e9]; omega))
    rw [hmin]
    refine va_copyi hx hb (S.2.2.1.trans hl.1.symm) S.2.2.2.1 (S.2.2.2.2 _ lk_J7_150) (S.2.2.2.2 _ wv_J10_arraycopy__Ljava_lang_Object_ILjava_lang_Object_II_V) (S.2.2.2.2 _ wt_J10_arraycopy__Ljava_lang_Object_ILjava_lang_Object_II_V) (S.2.2.2.2 _ wn_J10) hE.1 hP hD hS 14 40 0 0 rfl rfl rfl rfl rfl (by decide) (by decide) h0 (show (0 : Int32).toNatClampNeg + n.toNatClampNeg ≤ 241 by rw [sb_cl0]; omega) (show (0 : Int32).toNatClampNeg + n.toNatClampNeg ≤ n.toNatClampNeg by rw [sb_cl0]; omega) (fun _ _ => rfl) (Nat.le_refl _) (Nat.le_of_ble_eq_true rfl) dJ7_copyOf_59c91_28 (fun H locs hP hD hS => ?_)
    refine lv_aload_n hx hb dJ7_copyOf_59c91_31 rfl (lv_at hl 0 rfl) ?_
    have hw := hB (va_cpy (gA z0 14) (fun _ => 0) (0 : Int32).toNatClampNeg (0 : Int32).toNatClampNeg n.toNatClampNeg) (fun j hj => by
      rw [sb_cl0]
      exact sb_cpy0 hj)
    refine W.widen (k := 1) (n := 241) (Nat.le_refl _) (show 0 + n.toNatClampNeg ≤ 241 by omega) ?_
    exact W.aret hx hb B.returns (Or.inr ⟨_, rfl⟩) (Or.inr ⟨_, rfl⟩) (fun t ht hW => ⟨⟨(z0, n.toNatClampNeg, _), q, rfl, hw, by rw [ht]; exact hP, hD⟩, hS.F ht⟩) hS.2.2 dJ7_copyOf_59c91_32
  · subst c1
    refine lv_aload_n hx hb dJ7_copyOf_59c91_6 rfl (lv_at hl 0 rfl) ?_
    refine va_clone (ad := "[I") hx hb (S.2.2.1.trans hl.1.symm) S.2.2.2.1 (S.2.2.2.2 _ lk_J7_316) (S.2.2.2.2 _ wm__I_java_lang_Object_clone__Ljava_lang_Object_) (S.2.2.2.2 _ wv_java_lang_Object_clone___Ljava_lang_Object_) (S.2.2.2.2 _ wi_java_lang_Object_clone___Ljava_lang_Object_) (S.2.2.2.2 _ we__I__I_clone___Ljava_lang_Object__java_lang_Object_clone___Ljava_lang_Object_) (e_CL hE.2) hE.1 hP hD hS hA 14 0 rfl rfl hE.ints (fun i v h => xfits h) (Nat.le_refl _) (Nat.le_of_ble_eq_true rfl) (Nat.le_refl _) (Nat.le_refl _) dJ7_copyOf_59c91_7 (fun q H hK hP hD hS => ?_)
    refine va_castA hx hb S.2.2.2.1 (S.2.2.2.2 _ lk_J7_317) hP 40 rfl hE.ints dJ7_copyOf_59c91_10 ?_
    have hw := hB (gA z0 14) (fun _ _ => rfl)
    exact W.aret hx hb B.returns (Or.inr ⟨_, rfl⟩) (Or.inr ⟨_, rfl⟩) (fun t ht hW => ⟨⟨(z0, (241 : Int32).toNatClampNeg, _), q, rfl, hw, by rw [ht]; exact hP, hD⟩, hS.F ht⟩) hS.2.2 dJ7_copyOf_59c91_13
/-- Arrays.copyOf of the array 16 (16 ints) -/
def S_copy_16 (post : St → Nat → (Nat → Int32) → Prop) (n : Int32) (z0 : St) : Prop := ¬ n < 0 ∧ n.toNatClampNeg ≤ 16 ∧ ∀ f : Nat → Int32, (∀ j, j < n.toNatClampNeg → f j = gA z0 16 j) → post z0 n.toNatClampNeg f
set_option maxHeartbeats 4000000 in
set_option maxRecDepth 100000 in
theorem c_copy_16 (l : Launch) (G : GX) (z0 : St) (sz : Nat) (n : Int32) (post : St → Nat → (Nat → Int32) → Prop) : MetN 16 l wX yJ7_copyOf_59c91 cJ7_copyOf_59c91 3 (some (.array .int)) { frames := 1, cells := 1, slots := 16, locals := 72 } [.ref (ad G 16), .int n] G z0 sz (S_copy_16 post n z0) post := by
  refine Met.ofW (cc := cJ7_copyOf_59c91) (maxL := 3) (ret := some (.array .int)) (by decide) rfl ?_
  intro p e s m args below meth c s₁ B hml hv
  obtain ⟨rfl, hsz, hP, hD0, hE, hB⟩ := hv
  have S : CallFix p m c cJ7_copyOf_59c91 3 s _ GW RJ7 := ⟨B.exec, B.bytes, hml, findClass_of_methodNamed B.named, fun w h => atoms_spec (ws := Cond.code yJ7_copyOf_59c91 cJ7_copyOf_59c91 3 (some (.array .int)) :: GW) B.pre w (List.mem_cons_of_mem _ h)⟩
  have hlocks := B.notSynchronized
  have hx := S.1
  have hb := S.2.1
  subst hsz
  have hD := hD0.self (sz := s.heap.size)
  generalize hAe : va_A (wX G z0) s.heap.size = A at hD hE ⊢
  have hA : ∀ q : Nat, s.heap.size ≤ q → A q := fun q h => by rw [← hAe]; exact Or.inr h
  have hS : va_S A s.heap s.heap [] := va_S.rf
  have hl := lv_entry ([.ref (ad G 16), .int n]) (n := 3) (Nat.le_of_ble_eq_true rfl)
  rw [lg_entry_eq]
  generalize (lg_sl ([.ref (ad G 16), .int n]) ++ List.replicate (3 - (lg_sl ([.ref (ad G 16), .int n])).length) Slot.unset).toArray = ls at hl ⊢
  have hl : lv_has ls 3 [(0, .ref (ad G 16)), (1, .int n)] := hl
  obtain ⟨h0, hle, hB⟩ := hB
  refine lv_iload_n hx hb dJ7_copyOf_59c91_0 rfl (lv_at hl 1 rfl) ?_
  refine lv_aload_n hx hb dJ7_copyOf_59c91_1 rfl (lv_at hl 0 rfl) ?_
  refine xXn_16 S hE hP dJ7_copyOf_59c91_2 ?_
  refine lv_icmp_ne (tgt := 14) hx hb dJ7_copyOf_59c91_3 (by decide) (fun c1 => ?_) (fun c1 => ?_)
  · refine lv_iload_n hx hb dJ7_copyOf_59c91_14 rfl (lv_at hl 1 rfl) ?_
    refine va_newa (atype := .int) (ty := .int) (a0 := (n.toNatClampNeg, .inl (fun _ => 0))) hx hb (S.2.2.2.2 _ wa_int) rfl hE.1 hP hD hS hA (fun _ => rfl) h0 rfl (by show n.toNatClampNeg * 4 ≤ 536870912; omega) (Nat.le_refl 1) (show 0 + n.toNatClampNeg ≤ 16 by omega) dJ7_copyOf_59c91_15 (fun q cA H hK hP hD hS => ?_)
    have ecA : cA = cy G 0 := Option.some.inj (((hK.2 3 _ rfl).2 : s.vm.findClass "[I" = some cA).symm.trans hE.ints)
    subst ecA
    refine lv_astore_n (lv' := [(2, .ref q), (0, .ref (ad G 16)), (1, .int n)]) hx hb dJ7_copyOf_59c91_17 rfl hl (by decide) rfl (fun ls hl => ?_)
    refine lv_aload_n hx hb dJ7_copyOf_59c91_18 rfl (lv_at hl 1 rfl) ?_
    refine lv_iconst (v := 0) hx hb dJ7_copyOf_59c91_19 (by decide) ?_
    refine lv_aload_n hx hb dJ7_copyOf_59c91_20 rfl (lv_at hl 0 rfl) ?_
    refine lv_iconst (v := 0) hx hb dJ7_copyOf_59c91_21 (by decide) ?_
    refine lv_aload_n hx hb dJ7_copyOf_59c91_22 rfl (lv_at hl 1 rfl) ?_
    refine va_alen hx hb hE.1 hP 16 0 rfl rfl (v := 16) rfl dJ7_copyOf_59c91_23 ?_
    refine lv_iload_n hx hb dJ7_copyOf_59c91_24 rfl (lv_at hl 2 rfl) ?_
    refine va_mmin hx hb (S.2.2.1.trans hl.1.symm) S.2.2.2.1 (S.2.2.2.2 _ lk_J7_304) (S.2.2.2.2 _ wt_J9_min_7cf53) (S.2.2.2.2 _ wn_J9) (S.2.2.2.2 _ wc_J9_min_7cf53) (Nat.le_refl _) (Nat.le_of_ble_eq_true rfl) (Nat.le_refl _) (show 0 + n.toNatClampNeg ≤ 16 by omega) dJ7_copyOf_59c91_25 ?_
    have hnv : n.toInt = n.toNatClampNeg := by
      have h9 : ¬ n.toInt < 0 := fun h => h0 (Int32.lt_iff_toInt_lt.mpr (by simpa using h))
      show n.toInt = ((n.toInt.toNat : Nat) : Int)
      omega
    have e9 : (16 : Int32).toInt = 16 := by decide
    have hmin : (if n < (16 : Int32) then n else (16 : Int32)) = n := by
      by_cases h : n < (16 : Int32)
      · rw [if_pos h]
      · exfalso
        have h1 : ¬ n.toInt < 16 := fun q => h (Int32.lt_iff_toInt_lt.mpr (by rw [e9]; exact q))
        exact c1 (Int32.toInt_inj.mp (by rw [e9]; omega))
    rw [hmin]
    refine va_copyi hx hb (S.2.2.1.trans hl.1.symm) S.2.2.2.1 (S.2.2.2.2 _ lk_J7_150) (S.2.2.2.2 _ wv_J10_arraycopy__Ljava_lang_Object_ILjava_lang_Object_II_V) (S.2.2.2.2 _ wt_J10_arraycopy__Ljava_lang_Object_ILjava_lang_Object_II_V) (S.2.2.2.2 _ wn_J10) hE.1 hP hD hS 16 40 0 0 rfl rfl rfl rfl rfl (by decide) (by decide) h0 (show (0 : Int32).toNatClampNeg + n.toNatClampNeg ≤ 16 by rw [sb_cl0]; omega) (show (0 : Int32).toNatClampNeg + n.toNatClampNeg ≤ n.toNatClampNeg by rw [sb_cl0]; omega) (fun _ _ => rfl) (Nat.le_refl _) (Nat.le_of_ble_eq_true rfl) dJ7_copyOf_59c91_28 (fun H locs hP hD hS => ?_)
    refine lv_aload_n hx hb dJ7_copyOf_59c91_31 rfl (lv_at hl 0 rfl) ?_
    have hw := hB (va_cpy (gA z0 16) (fun _ => 0) (0 : Int32).toNatClampNeg (0 : Int32).toNatClampNeg n.toNatClampNeg) (fun j hj => by
      rw [sb_cl0]
      exact sb_cpy0 hj)
    refine W.widen (k := 1) (n := 16) (Nat.le_refl _) (show 0 + n.toNatClampNeg ≤ 16 by omega) ?_
    exact W.aret hx hb B.returns (Or.inr ⟨_, rfl⟩) (Or.inr ⟨_, rfl⟩) (fun t ht hW => ⟨⟨(z0, n.toNatClampNeg, _), q, rfl, hw, by rw [ht]; exact hP, hD⟩, hS.F ht⟩) hS.2.2 dJ7_copyOf_59c91_32
  · subst c1
    refine lv_aload_n hx hb dJ7_copyOf_59c91_6 rfl (lv_at hl 0 rfl) ?_
    refine va_clone (ad := "[I") hx hb (S.2.2.1.trans hl.1.symm) S.2.2.2.1 (S.2.2.2.2 _ lk_J7_316) (S.2.2.2.2 _ wm__I_java_lang_Object_clone__Ljava_lang_Object_) (S.2.2.2.2 _ wv_java_lang_Object_clone___Ljava_lang_Object_) (S.2.2.2.2 _ wi_java_lang_Object_clone___Ljava_lang_Object_) (S.2.2.2.2 _ we__I__I_clone___Ljava_lang_Object__java_lang_Object_clone___Ljava_lang_Object_) (e_CL hE.2) hE.1 hP hD hS hA 16 0 rfl rfl hE.ints (fun i v h => xfits h) (Nat.le_refl _) (Nat.le_of_ble_eq_true rfl) (Nat.le_refl _) (Nat.le_refl _) dJ7_copyOf_59c91_7 (fun q H hK hP hD hS => ?_)
    refine va_castA hx hb S.2.2.2.1 (S.2.2.2.2 _ lk_J7_317) hP 40 rfl hE.ints dJ7_copyOf_59c91_10 ?_
    have hw := hB (gA z0 16) (fun _ _ => rfl)
    exact W.aret hx hb B.returns (Or.inr ⟨_, rfl⟩) (Or.inr ⟨_, rfl⟩) (fun t ht hW => ⟨⟨(z0, (16 : Int32).toNatClampNeg, _), q, rfl, hw, by rw [ht]; exact hP, hD⟩, hS.F ht⟩) hS.2.2 dJ7_copyOf_59c91_13
def S_LawReader_codeRead (post : St → Nat → (Nat → Int32) → Prop) (z0 : St) : Prop := S_copy_14 post (gI z0 13) z0
set_option maxHeartbeats 4000000 in
set_option maxRecDepth 100000 in
theorem c_LawReader_codeRead (l : Launch) (G : GX) (z0 : St) (sz : Nat) (post : St → Nat → (Nat → Int32) → Prop) : MetN 241 l wX yX2_codeRead cX2_codeRead 1 (some (.array .int)) { frames := 2, cells := 1, slots := 241, locals := 94 } [.ref (ad G 3)] G z0 sz (S_LawReader_codeRead post z0) post := by
  refine Met.ofW (cc := cX2_codeRead) (maxL := 1) (ret := some (.array .int)) (by decide) rfl ?_
  intro p e s m args below meth c s₁ B hml hv
  obtain ⟨rfl, hsz, hP, hD0, hE, hB⟩ := hv
  have S : CallFix p m c cX2_codeRead 1 s _ GW RX2 := ⟨B.exec, B.bytes, hml, findClass_of_methodNamed B.named, fun w h => atoms_spec (ws := Cond.code yX2_codeRead cX2_codeRead 1 (some (.array .int)) :: GW) B.pre w (List.mem_cons_of_mem _ h)⟩
  have hlocks := B.notSynchronized
  have hx := S.1
  have hb := S.2.1
  subst hsz
  have hD := hD0.self (sz := s.heap.size)
  generalize hAe : va_A (wX G z0) s.heap.size = A at hD hE ⊢
  have hA : ∀ q : Nat, s.heap.size ≤ q → A q := fun q h => by rw [← hAe]; exact Or.inr h
  have hS : va_S A s.heap s.heap [] := va_S.rf
  have hl := lv_entry ([.ref (ad G 3)]) (n := 1) (Nat.le_of_ble_eq_true rfl)
  rw [lg_entry_eq]
  generalize (lg_sl ([.ref (ad G 3)]) ++ List.replicate (1 - (lg_sl ([.ref (ad G 3)])).length) Slot.unset).toArray = ls at hl ⊢
  have hl : lv_has ls 1 [(0, .ref (ad G 3))] := hl
  refine lv_aload_n hx hb dX2_codeRead_0 rfl (lv_at hl 0 rfl) ?_
  refine xXg_3_code S hE hP lk_X2_11 dX2_codeRead_1 ?_
  refine lv_aload_n hx hb dX2_codeRead_4 rfl (lv_at hl 0 rfl) ?_
  refine xXg_3_written S hE hP lk_X2_20 dX2_codeRead_5 ?_
  refine xcSn [.ref (ad G 14), .int (gI z0 13)] S hE hA hP hD hS (c_copy_14 l G z0 s.heap.size (gI z0 13) post) hB (gw_c lk_X2_33 (gw_c wt_J7_copyOf_59c91 (gw_c wn_J7 (gw_c wc_J7_copyOf_59c91 (fun _ h9 => h9))))) hs_J7_copyOf_59c91 rfl rfl (Nat.le_of_ble_eq_true rfl) (Nat.le_of_ble_eq_true rfl) ⟨Nat.le_refl _, Nat.le_refl _⟩ rfl hl.1 rfl (Nat.le_of_ble_eq_true rfl) dX2_codeRead_8 (fun q N f z1 H locs hB hP hD hS => ?_)
  exact W.aret hx hb B.returns (Or.inr ⟨_, rfl⟩) (Or.inr ⟨_, rfl⟩) (fun t ht hW => ⟨⟨(z1, N, f), q, rfl, hB, by rw [ht]; exact hP, hD⟩, hS.F ht⟩) hS.2.2 dX2_codeRead_11
def S_WinterReader_stepsRead (post : St → Nat → (Nat → Int32) → Prop) (z0 : St) : Prop := S_copy_16 post (gI z0 20) z0
set_option maxHeartbeats 4000000 in
set_option maxRecDepth 100000 in
theorem c_WinterReader_stepsRead (l : Launch) (G : GX) (z0 : St) (sz : Nat) (post : St → Nat → (Nat → Int32) → Prop) : MetN 16 l wX yX10_stepsRead cX10_stepsRead 1 (some (.array .int)) { frames := 2, cells := 1, slots := 16, locals := 94 } [.ref (ad G 4)] G z0 sz (S_WinterReader_stepsRead post z0) post := by
  refine Met.ofW (cc := cX10_stepsRead) (maxL := 1) (ret := some (.array .int)) (by decide) rfl ?_
  intro p e s m args below meth c s₁ B hml hv
  obtain ⟨rfl, hsz, hP, hD0, hE, hB⟩ := hv
  have S : CallFix p m c cX10_stepsRead 1 s _ GW RX10 := ⟨B.exec, B.bytes, hml, findClass_of_methodNamed B.named, fun w h => atoms_spec (ws := Cond.code yX10_stepsRead cX10_stepsRead 1 (some (.array .int)) :: GW) B.pre w (List.mem_cons_of_mem _ h)⟩
  have hlocks := B.notSynchronized
  have hx := S.1
  have hb := S.2.1
  subst hsz
  have hD := hD0.self (sz := s.heap.size)
  generalize hAe : va_A (wX G z0) s.heap.size = A at hD hE ⊢
  have hA : ∀ q : Nat, s.heap.size ≤ q → A q := fun q h => by rw [← hAe]; exact Or.inr h
  have hS : va_S A s.heap s.heap [] := va_S.rf
  have hl := lv_entry ([.ref (ad G 4)]) (n := 1) (Nat.le_of_ble_eq_true rfl)
  rw [lg_entry_eq]
  generalize (lg_sl ([.ref (ad G 4)]) ++ List.replicate (1 - (lg_sl ([.ref (ad G 4)])).length) Slot.unset).toArray = ls at hl ⊢
  have hl : lv_has ls 1 [(0, .ref (ad G 4))] := hl
  refine lv_aload_n hx hb dX10_stepsRead_0 rfl (lv_at hl 0 rfl) ?_
  refine xXg_4_steps S hE hP lk_X10_11 dX10_stepsRead_1 ?_
  refine lv_aload_n hx hb dX10_stepsRead_4 rfl (lv_at hl 0 rfl) ?_
  refine xXg_4_length S hE hP lk_X10_15 dX10_stepsRead_5 ?_
  refine xcSn [.ref (ad G 16), .int (gI z0 20)] S hE hA hP hD hS (c_copy_16 l G z0 s.heap.size (gI z0 20) post) hB (gw_c lk_X10_22 (gw_c wt_J7_copyOf_59c91 (gw_c wn_J7 (gw_c wc_J7_copyOf_59c91 (fun _ h9 => h9))))) hs_J7_copyOf_59c91 rfl rfl (Nat.le_of_ble_eq_true rfl) (Nat.le_of_ble_eq_true rfl) ⟨Nat.le_refl _, Nat.le_refl _⟩ rfl hl.1 rfl (Nat.le_of_ble_eq_true rfl) dX10_stepsRead_8 (fun q N f z1 H locs hB hP hD hS => ?_)
  exact W.aret hx hb B.returns (Or.inr ⟨_, rfl⟩) (Or.inr ⟨_, rfl⟩) (fun t ht hW => ⟨⟨(z1, N, f), q, rfl, hB, by rw [ht]; exact hP, hD⟩, hS.F ht⟩) hS.2.2 dX10_stepsRead_11
