/-! The law's own method 'guest', and calls beside a rest that stays. -/
theorem ysplit {A : Nat → Prop} {a b : va_W} (h : va_D A (a ++ b)) : va_D A a ∧ va_D A b ∧ ∀ (i j : Nat) (p q : Nat × va_E), a[i]? = some p → b[j]? = some q → p.1 ≠ q.1 := by
  have ha : ∀ (i : Nat) (p : Nat × va_E), a[i]? = some p → i < a.length ∧ (a ++ b)[i]? = some p := fun i p hp => by
    have hi : i < a.length := (List.getElem?_eq_some_iff.mp hp).1
    exact ⟨hi, by rw [List.getElem?_append_left hi]; exact hp⟩
  have hb : ∀ (j : Nat) (q : Nat × va_E), b[j]? = some q → (a ++ b)[a.length + j]? = some q := fun j q hq => by
    rw [List.getElem?_append_right (Nat.le_add_right _ _), Nat.add_sub_cancel_left]; exact hq
  refine ⟨⟨fun i j p q hp hq e => h.1 i j p q (ha i p hp).2 (ha j q hq).2 e, fun k q hq => h.2 k q (ha k q hq).2⟩,
    ⟨fun i j p q hp hq e => by have := h.1 _ _ p q (hb i p hp) (hb j q hq) e; omega, fun k q hq => h.2 _ q (hb k q hq)⟩, fun i j p q hp hq e => ?_⟩
  have h1 := h.1 i (a.length + j) p q (ha i p hp).2 (hb j q hq) e
  have h2 := (ha i p hp).1
  omega
theorem yD2 {A : Nat → Prop} {a b : va_W} (h : va_D A (a ++ b)) : va_D A (b ++ a) := by
  obtain ⟨h1, h2, h3⟩ := ysplit h
  exact va_D.app h2 h1 (fun i j p q hp hq e => h3 j i q p hq hp e.symm)
theorem yD3 {A : Nat → Prop} {a b c : va_W} (h : va_D A (a ++ (b ++ c))) : va_D A (b ++ (a ++ c)) := by
  obtain ⟨h1, h23, hx⟩ := ysplit h
  obtain ⟨h2, h3, hy⟩ := ysplit h23
  have key : ∀ (j : Nat) (q : Nat × va_E), c[j]? = some q → (b ++ c)[b.length + j]? = some q := fun j q hq => by
    rw [List.getElem?_append_right (Nat.le_add_right _ _), Nat.add_sub_cancel_left]; exact hq
  have keyb : ∀ (j : Nat) (q : Nat × va_E), b[j]? = some q → (b ++ c)[j]? = some q := fun j q hq => by
    rw [List.getElem?_append_left (List.getElem?_eq_some_iff.mp hq).1]; exact hq
  refine va_D.app h2 (va_D.app h1 h3 (fun i j p q hp hq => hx i _ p q hp (key j q hq))) (fun i j p q hp hq => ?_)
  by_cases hj : j < a.length
  · rw [List.getElem?_append_left hj] at hq
    exact fun e => hx j i q p hq (keyb i p hp) e.symm
  · rw [List.getElem?_append_right (by omega)] at hq
    exact hy i _ p q hp hq
theorem yfr {D : va_G} {cl : List vw_C} {A : Nat → Prop} {wc wr w1 : va_W} {H H1 : Heap} (hPr : va_P D cl wr H) (hD : va_D A (wc ++ wr)) (hk : ∀ q : Nat, q < H.size → ¬ va_A wc H.size q → H1[q]? = H[q]?) (hF : ∀ q, va_A wc H.size q → A q) (hD1 : va_D (va_A wc H.size) w1) : va_P D cl wr H1 ∧ va_D A (w1 ++ wr) := by
  obtain ⟨-, h2, h3⟩ := ysplit hD
  have hn : ∀ (j : Nat) (q : Nat × va_E), wr[j]? = some q → ¬ va_A wc H.size q.1 := fun j q hq h => by
    rcases h with ⟨k, e, h⟩ | h
    · exact h3 k j (q.1, e) q h hq rfl
    · exact absurd (vx_lt hPr hq) (Nat.not_lt.mpr h)
  refine ⟨hPr.kept (fun k q hq => hk q.1 (vx_lt hPr hq) (hn k q hq)), va_D.app (hD1.weaken (fun _ _ _ h => hF _ h)) h2 (fun i j p q hp hq e => hn j q hq (by rw [← e]; exact hD1.2 i p hp))⟩
theorem yA {A : Nat → Prop} {wc wr : va_W} {s : State} {H : Heap} {locs : List Loc} (hD : va_D A (wc ++ wr)) (hS : va_S A s.heap H locs) (hA : ∀ q, s.heap.size ≤ q → A q) : ∀ q, va_A wc H.size q → A q := fun q h => by
  rcases h with ⟨k, e, h⟩ | h
  · exact (ysplit hD).1.2 k (q, e) h
  · exact hA q (Nat.le_trans hS.1 h)
theorem xt_ofWH {l : Launch} {y : MethodName} {ws ws' : List Cond} {rm : Room} {Pc : Array Value → State → Prop} {Qc : Array Value → State → Outcome → State → Prop} {mc ms : Nat} {free : Addr → Prop} {cc : ByteArray} {maxL : Nat} {ret : Option FieldType} {hh : List (Nat × Nat × Nat × Nat)}
    (hy : plainName y.cls = true) (hw : ws = Cond.codeWith y cc maxL ret hh :: ws')
    (body : ∀ p e s m args below meth c s₁, BodyLoose p l y (headSpec ws rm) cc maxL ret e s m args below meth c s₁ → c.maxLocals = maxL → Pc args s →
      W p l e (headSpec ws rm).room s m args below meth c s.heap [] 0 0 (MQ below Qc args s mc ms free) (entryFrame m args maxL)) : Met l y ws rm Pc Qc mc ms free := by
  refine MetFree.of_bodyS (code := cc) (maxLocals := maxL) (ret := ret) hy ?_ ?_
  · intro args s m h hn
    obtain ⟨m9, meth, c, hn9, h1, h2, h3, h4, -, h5, h6, -⟩ := Cond.codeWith_spec (atoms_spec (ws := ws) h _ (by rw [hw]; exact List.mem_cons_self))
    cases hn.symm.trans hn9
    exact ⟨meth, c, h1, h2, h3, h4, h5, h6⟩
  · intro p e s m args below meth c s₁ B hml hP _
    have hh0 : s₁.heap = s.heap := by rw [B.state]; rfl
    obtain ⟨t, a1, o, b1, b2, b3⟩ := body p e s m args below meth c s₁ B hml hP s₁ hh0 (Stand.of_body B)
    exact ⟨t, o, a1, b1, b2, ⟨b3.1, b3.2⟩⟩
/-- the class's cells, and the law's row of one long -/
abbrev wO (ao : Nat) (cL : ClassId) (f : Nat → Int64) : va_W := [(ao, .inl (cL, 1, .inr (.inl f)))]
abbrev wXO (G : GX) (z : St) (ao : Nat) (cL : ClassId) (f : Nat → Int64) : va_W := wX G z ++ wO ao cL f
def GPre (G : GX) (z : St) (ao : Nat) (cL : ClassId) (f : Nat → Int64) (sz : Nat) (Sp : Prop) (U : State) : Prop := U.heap.size = sz ∧ va_P G.1 classes (wXO G z ao cL f) U.heap ∧ va_D (fun _ => True) (wXO G z ao cL f) ∧ env G (va_A (wXO G z ao cL f) sz) U U.heap ∧ va_K G.1 classes [(cL, .long)] U ∧ Sp
theorem GPre.blind {G : GX} {z : St} {ao : Nat} {cL : ClassId} {f : Nat → Int64} {sz : Nat} {Sp : Prop} (av : List Value) : FrameBlind (va_Pc av (GPre G z ao cL f sz Sp)) := fun a U g mk q => by
  obtain ⟨q0, q1, q2, q3, q4, q5, q6⟩ := q
  exact ⟨q0, q1, q2, q3, env.same rfl q4, va_K.moved (u := U) (U := U.calling g mk a) (Vm.Alike.refl U.vm) q5, q6⟩
theorem hq_X11_guest : yX11_guest.cls = RX11 ∧ yX11_guest.cls ≠ "java/lang/invoke/MethodHandle" ∧ yX11_guest.cls ≠ "java/lang/invoke/VarHandle" ∧ (parseMethodDescriptor yX11_guest.desc).map (fun d => d.parameters.length) = some 2 := by decide +kernel
theorem wc_L_guest : Cond.codeWith yL_guest cL_guest 5 (some .int) [(0, 10, 13, 13)] ∈ GW := gw_mem tb_5 227 (by decide +kernel) (by decide +kernel)
theorem y01 : vp_in (0 : Int32) 1 := show ¬ ((0 : Int32) < 0 ∨ 1 ≤ (0 : Int32).toNatClampNeg) by decide
abbrev gtb : List ExceptionTableEntry := tableOf [(0, 10, 13, 13)]
set_option maxHeartbeats 4000000 in
set_option maxRecDepth 100000 in
theorem c_L_guest (l : Launch) (hlt : l.stackTraces = false) (G : GX) (cL : ClassId) (ao : Nat) (z0 : St) (f0 : Nat → Int64) (sz : Nat) (x1 x2 : Int32) (post : Int32 → St × (Nat → Int64) → Prop) :
    Met l yL_guest (Cond.codeWith yL_guest cL_guest 5 (some .int) [(0, 10, 13, 13)] :: GW) { frames := 7, cells := 1, slots := 6, locals := 104 }
      (va_Pc [.ref (ad G 0), .int x1, .int x2, .ref ao] (GPre G z0 ao cL f0 sz (S_B_guest (fun r z => post 0 (z, vp_updL f0 (0 : Int32).toNatClampNeg r.toInt64)) (fun z => post 1 (z, f0)) x1 x2 z0)))
      (va_Qi post (fun u t => va_P G.1 classes (wXO G u.1 ao cL u.2) t.heap ∧ va_D (va_A (wXO G z0 ao cL f0) sz) (wXO G u.1 ao cL u.2)) (va_A (wXO G z0 ao cL f0) sz)) 1 6 (va_A (wXO G z0 ao cL f0) sz) := by
  refine xt_ofWH (cc := cL_guest) (maxL := 5) (ret := some .int) (by decide) rfl ?_
  intro p e s m args below meth c s₁ B hml hv
  obtain ⟨rfl, hsz, hP, hD0, hE, hK, hB⟩ := hv
  have S : CallFix p m c cL_guest 5 s _ GW RL := ⟨B.exec, B.bytes, hml, findClass_of_methodNamed B.named, fun w h => atoms_spec (ws := Cond.codeWith yL_guest cL_guest 5 (some .int) [(0, 10, 13, 13)] :: GW) B.pre w (List.mem_cons_of_mem _ h)⟩
  have htab : c.exceptionTable.toList = gtb := vx_table (x := yL_guest) B (atoms_spec (ws := Cond.codeWith yL_guest cL_guest 5 (some .int) [(0, 10, 13, 13)] :: GW) B.pre _ List.mem_cons_self)
  have hx := S.1
  have hb := S.2.1
  have hlocks := B.notSynchronized
  subst hsz
  have hD := hD0.self (sz := s.heap.size)
  generalize hAe : va_A (wXO G z0 ao cL f0) s.heap.size = A at hD hE ⊢
  have hA : ∀ q : Nat, s.heap.size ≤ q → A q := fun q h => by rw [← hAe]; exact Or.inr h
  have hS : va_S A s.heap s.heap [] := va_S.rf
  have hl := lv_entry ([.ref (ad G 0), .int x1, .int x2, .ref ao]) (n := 5) (Nat.le_of_ble_eq_true rfl)
  rw [lg_entry_eq]
  generalize (lg_sl ([.ref (ad G 0), .int x1, .int x2, .ref ao]) ++ List.replicate (5 - (lg_sl ([.ref (ad G 0), .int x1, .int x2, .ref ao])).length) Slot.unset).toArray = ls at hl ⊢
  have hl : lv_has ls 5 [(0, .ref (ad G 0)), (1, .int x1), (2, .int x2), (3, .ref ao)] := hl
  have hPX : va_P G.1 classes (wX G z0) s.heap := fun k q hq => hP k q (by rw [List.getElem?_append_left (List.getElem?_eq_some_iff.mp hq).1]; exact hq)
  have hPO : va_P G.1 classes (wO ao cL f0) s.heap := hP.sub (ws' := wO ao cL f0) [40] rfl
  refine lv_aload_n hx hb dL_guest_0 rfl (lv_at hl 3 rfl) ?_
  refine lv_iconst (v := 0) hx hb dL_guest_1 (by decide) ?_
  refine lv_aload_n hx hb dL_guest_2 rfl (lv_at hl 0 rfl) ?_
  refine lv_iload_n hx hb dL_guest_3 rfl (lv_at hl 1 rfl) ?_
  refine lv_iload_n hx hb dL_guest_4 rfl (lv_at hl 2 rfl) ?_
  have hF := yA hD hS hA
  have hDX : va_D A (wX G z0) := (ysplit hD).1
  refine vx_calli (vx_runV (As := [.int x1, .int x2]) (rest := [.int 0, .ref ao]) S (c_B_guest l hlt G z0 s.heap.size x1 x2 _ _) (cwV 2 S.2.2.2.2 (gw_in (gw_c lk_L_7 (gw_c wi_X11_guest (gw_c we_X11_X11_guest_X11_guest (gw_c wn_X11 (gw_c wc_X11_guest (fun _ h9 => h9))))))) rfl rfl rfl hq_X11_guest ⟨Nat.le_of_ble_eq_true rfl, Nat.le_of_ble_eq_true rfl⟩) ⟨WPre.blind _, va_recv hE.1 hPX (ci := 10) (q0 := 0) rfl rfl, fun U hU hW => ⟨rfl, xpre hE hPX hDX hS hA hB hU hW⟩⟩ rfl rfl hl.1 rfl (lv_room (Nat.le_of_ble_eq_true rfl)) dL_guest_5 ⟨Nat.le_of_ble_eq_true rfl, Nat.le_of_ble_eq_true rfl⟩) hS (fun q _ h => hF q h) hF (fun q _ h => hF q h) ?_ ?_
  · intro E ce q9 u t H1 locs1 ht hvm hp hB1 hz1 hk1 hS1 hce hcv hcl
    obtain ⟨rfl, hP1, hD1⟩ := hB1
    rw [ht] at hP1
    obtain ⟨hPO1, hDn⟩ := yfr hPO hD hk1 hF hD1
    refine vx_catch (own := RL) (name := xtN) (E := xtN) (ce := ce) S.2.2.2.1 [] { startPc := 0, endPc := 10, handlerPc := 13, catchType := 13 } [] htab (fun z hz => absurd hz List.not_mem_nil) (by decide) (by decide) (S.2.2.2.2 _ lk_L_13) (va_Nw.use rfl (e_XX hE.2)) hce hcv hcl ?_
    refine lv_astore (lv' := [(4, .ref q9), (0, .ref (ad G 0)), (1, .int x1), (2, .int x2), (3, .ref ao)]) hx hb dL_guest_13 hl (by decide) rfl (fun ls hl => ?_)
    refine lv_iconst (v := 1) hx hb dL_guest_15 (by decide) ?_
    exact W.iret (v := 1) B.exec B.bytes B.returns (fun t ht hW => ⟨⟨1, (u, f0), rfl, hp, by rw [ht]; exact hP1.app hPO1, hDn⟩, hS1.F ht⟩) hS1.2.2 dL_guest_16
  · intro r u t H1 locs1 ht hvm hp hB1 hz1 hk1 hS1
    obtain ⟨hP1, hD1⟩ := hB1
    rw [ht] at hP1
    obtain ⟨hPO1, hDn⟩ := yfr hPO hD hk1 hF hD1
    have hPn := hP1.app hPO1
    refine lv_i2l hx hb dL_guest_8 rfl ?_
    refine va_last hx hb (va_K.moved (Vm.Alike.refl s.vm) hK) hPn hDn hS1 40 0 rfl rfl y01 dL_guest_9 (fun H locs hP hD hS => ?_)
    have hP : va_P G.1 classes (wXO G u ao cL (vp_updL f0 (0 : Int32).toNatClampNeg r.toInt64)) H := hP
    have hD : va_D A (wXO G u ao cL (vp_updL f0 (0 : Int32).toNatClampNeg r.toInt64)) := hD
    refine lv_goto (tgt := 17) hx hb dL_guest_10 (by decide) ?_
    refine lv_iconst (v := 0) hx hb dL_guest_17 (by decide) ?_
    exact W.iret (v := 0) B.exec B.bytes B.returns (fun t ht hW => ⟨⟨0, (u, vp_updL f0 (0 : Int32).toNatClampNeg r.toInt64), rfl, hp, by rw [ht]; exact hP, hD⟩, hS.F ht⟩) hS.2.2 dL_guest_18
