def S_String_length_8abf5_X (post : Int32 → St → Prop) (x0 : Nat) (z0 : St) : Prop :=
  (x0 < 8 ∧ (x0 < 8 ∧ (x0 < 8 ∧ (S_String_coder_7d493_X (fun (r1 : Int32) (z1 : St) => (post ((Int32.ofNat (slen.getD x0 0)) >>> (r1 &&& 31)) z1)) x0 z0))))
set_option maxHeartbeats 4000000 in
set_option maxRecDepth 100000 in
theorem w_String_length_8abf5_X_0 {p : Program} {l : Launch} {e : Env} {R : Room} {s : State} {m : MethodId} {args : Array Value} {below : List Frame} {meth : Method} {c : Code} {Q : State → Prop} {G : GX} {A : Nat → Prop} (S : CallFix p m c cJ0_length_8abf5 1 s args GW RJ0) (hE : env G A s s.heap) (hA : ∀ q, s.heap.size ≤ q → A q) (hRf : 1 ≤ R.frames) (hRl : 20 ≤ R.locals) {post : Int32 → St → Prop} (hret : RetI p l e R s m args below meth c Q 0 0 wX G A cJ0_length_8abf5 post) (x0 : Nat) (z0 : St) (hB : S_String_length_8abf5_X post x0 z0) : Xw p l e R s m args below meth c Q 0 0 wX G A z0 1 [(0, .ref (tx G x0))] 0 [] := by
  intro H locs ls hP hD hS hl
  have hx := S.1
  have hb := S.2.1
  refine lv_aload_n hx hb dJ0_length_8abf5_0 rfl (lv_at hl 0 rfl) ?_
  obtain ⟨hk9, hB⟩ := hB
  refine vk_getf hx hb ((eS hE.2).1 _ hk9).2.2.1 hS S.2.2.2.1 (S.2.2.2.2 _ lk_J0_9) (fun _ h9 => h9) dJ0_length_8abf5_1 ?_
  obtain ⟨hk9, hB⟩ := hB
  refine va_tlen hx hb ((eS hE.2).1 _ hk9).2.2.2 hS rfl dJ0_length_8abf5_4 ?_
  refine lv_aload_n hx hb dJ0_length_8abf5_5 rfl (lv_at hl 0 rfl) ?_
  obtain ⟨hk9, hB⟩ := hB
  have hrv9 := vk_recv (eS hE.2) hk9 hS
  refine xcVi [] S hE hA hP hD hS (c_String_coder_7d493_X l G z0 H.size x0 _) hB (gw_c lk_J0_335 (gw_c wi_J0_coder_7d493 (gw_c we_J0_J0_coder_7d493_J0_coder_7d493 (gw_c wn_J0 (gw_c wc_J0_coder_7d493 (fun _ h9 => h9)))))) hd_J0_coder_7d493 rfl rfl (Nat.le_trans (Nat.le_of_ble_eq_true rfl) hRf) (Nat.le_trans (Nat.le_of_ble_eq_true rfl) hRl) ⟨Nat.zero_le _, Nat.zero_le _⟩ hrv9 rfl hl.1 rfl (Nat.le_of_ble_eq_true rfl) dJ0_length_8abf5_6 (fun r1 z1 H locs hB hP hD hS => ?_)
  refine lv_ishr hx hb dJ0_length_8abf5_9 ?_
  exact hret _ _ _ _ _ _ dJ0_length_8abf5_10 hB hP hD hS
set_option maxHeartbeats 4000000 in
set_option maxRecDepth 100000 in
theorem c_String_length_8abf5_X (l : Launch) (G : GX) (z0 : St) (sz : Nat) (x0 : Nat) (post : Int32 → St → Prop) : MetI l wX yJ0_length_8abf5 cJ0_length_8abf5 1 (some .int) ({ frames := 1, cells := 0, slots := 0, locals := 20 }) [.ref (tx G x0)] G z0 sz (S_String_length_8abf5_X post x0 z0) post := by
  refine Met.ofW (cc := cJ0_length_8abf5) (maxL := 1) (ret := (some .int)) (by decide) rfl ?_
  intro p e s m args below meth c s₁ B hml hv
  obtain ⟨rfl, hsz, hP, hD0, hE, hB⟩ := hv
  have S : CallFix p m c cJ0_length_8abf5 1 s _ GW RJ0 := ⟨B.exec, B.bytes, hml, findClass_of_methodNamed B.named, fun w h => atoms_spec (ws := Cond.code yJ0_length_8abf5 cJ0_length_8abf5 1 (some .int) :: GW) B.pre w (List.mem_cons_of_mem _ h)⟩
  have hlocks := B.notSynchronized
  subst hsz
  have hD := hD0.self (sz := s.heap.size)
  generalize hAe : va_A (wX G z0) s.heap.size = A at hD hE ⊢
  have hA : ∀ q : Nat, s.heap.size ≤ q → A q := fun q h => by rw [← hAe]; exact Or.inr h
  have hS : va_S A s.heap s.heap [] := va_S.rf
  have hl := lv_entry ([.ref (tx G x0)]) (n := 1) (Nat.le_of_ble_eq_true rfl)
  rw [lg_entry_eq]
  generalize (lg_sl ([.ref (tx G x0)]) ++ List.replicate (1 - (lg_sl ([.ref (tx G x0)])).length) Slot.unset).toArray = ls at hl ⊢
  have hl : lv_has ls 1 [(0, .ref (tx G x0))] := hl
  refine w_String_length_8abf5_X_0 S hE hA (Nat.le_refl _) (Nat.le_refl _) ?_ x0 z0 hB _ _ _ hP hD hS hl
  intro pc ls r σ H locs hd hp hP hD hS
  exact W.iret (v := r) B.exec B.bytes B.returns (fun t ht hW => ⟨⟨r, σ, rfl, hp, by rw [ht]; exact hP, hD⟩, hS.F ht⟩) hS.2.2 hd
def B_HouseReader_begin_33 (post : St → Prop) (ih33 : Nat → Int32 → Int32 → Int32 → St → Prop) (x1 : Nat) (x2 : Int32) (x3 : Int32) (x4 : Int32) (z0 : St) : Prop :=
  (x1 < 8 ∧ (S_String_length_8abf5_X (fun (r1 : Int32) (z1 : St) => ((r1 ≤ x4 → (post z1)) ∧ (¬ r1 ≤ x4 → (vp_in (x2 + x4) 8 ∧ (vp_in (x3 + x4) 33 ∧ (∀ z2 : St, z2 = sA z1 13 (x3 + x4).toNatClampNeg (st50.getD (x2 + x4).toNatClampNeg 0) → (∀ v3 : Int32, v3 = x4 + (1 : Int32) → (ih33 x1 x2 x3 v3 z2)))))))) x1 z0))
set_option maxHeartbeats 4000000 in
set_option maxRecDepth 100000 in
theorem w_HouseReader_begin_33 {p : Program} {l : Launch} {e : Env} {R : Room} {s : State} {m : MethodId} {args : Array Value} {below : List Frame} {meth : Method} {c : Code} {Q : State → Prop} {G : GX} {A : Nat → Prop} (S : CallFix p m c cX1_begin 5 s args GW RX1) (hE : env G A s s.heap) (hA : ∀ q, s.heap.size ≤ q → A q) (hRf : 2 ≤ R.frames) (hRl : 40 ≤ R.locals) {post : St → Prop} (hret : RetV p l e R s m args below meth c Q 0 0 wX G A cX1_begin post) {ih33 : Nat → Int32 → Int32 → Int32 → St → Prop} (h33 : ∀ (x1 : Nat) (x2 : Int32) (x3 : Int32) (x4 : Int32) (z0 : St), ih33 x1 x2 x3 x4 z0 → Xw p l e R s m args below meth c Q 0 0 wX G A z0 5 [(0, .ref (ad G 2)), (1, .ref (tx G x1)), (2, .int x2), (3, .int x3), (4, .int x4)] 33 []) (x1 : Nat) (x2 : Int32) (x3 : Int32) (x4 : Int32) (z0 : St) (hB : B_HouseReader_begin_33 post ih33 x1 x2 x3 x4 z0) : Xw p l e R s m args below meth c Q 0 0 wX G A z0 5 [(0, .ref (ad G 2)), (1, .ref (tx G x1)), (2, .int x2), (3, .int x3), (4, .int x4)] 33 [] := by
  intro H locs ls hP hD hS hl
  have hx := S.1
  have hb := S.2.1
  refine lv_iload hx hb dX1_begin_33 (lv_at hl 4 rfl) ?_
  refine lv_aload_n hx hb dX1_begin_35 rfl (lv_at hl 1 rfl) ?_
  obtain ⟨hk9, hB⟩ := hB
  have hrv9 := vk_recv (eS hE.2) hk9 hS
  refine xcVi [] S hE hA hP hD hS (c_String_length_8abf5_X l G z0 H.size x1 _) hB (gw_c lk_X1_70 (gw_c wi_J0_length_8abf5 (gw_c we_J0_J0_length_8abf5_J0_length_8abf5 (gw_c wn_J0 (gw_c wc_J0_length_8abf5 (fun _ h9 => h9)))))) hd_J0_length_8abf5 rfl rfl (Nat.le_trans (Nat.le_of_ble_eq_true rfl) hRf) (Nat.le_trans (Nat.le_of_ble_eq_true rfl) hRl) ⟨Nat.zero_le _, Nat.zero_le _⟩ hrv9 rfl hl.1 rfl (Nat.le_of_ble_eq_true rfl) dX1_begin_36 (fun r1 z1 H locs hB hP hD hS => ?_)
  refine lv_icmp_ge (tgt := 65) hx hb dX1_begin_39 (by decide) (fun c2 => ?_) (fun c2 => ?_)
  · have hB := hB.1 c2
    exact hret _ _ _ _ _ dX1_begin_65 hB hP hD hS
  · have hB := hB.2 c2
    refine lv_aload_n hx hb dX1_begin_42 rfl (lv_at hl 0 rfl) ?_
    refine xXg_2_values S hE hP lk_X1_11 dX1_begin_43 ?_
    refine lv_iload_n hx hb dX1_begin_46 rfl (lv_at hl 3 rfl) ?_
    refine lv_iload hx hb dX1_begin_47 (lv_at hl 4 rfl) ?_
    refine lv_iadd hx hb dX1_begin_49 ?_
    refine va_gets hx hb (ez_X1_USUAL hE.2) hS S.2.2.2.1 (S.2.2.2.2 _ lk_X1_76) (fun _ h9 => h9) dX1_begin_50 ?_
    refine lv_iload_n hx hb dX1_begin_53 rfl (lv_at hl 2 rfl) ?_
    refine lv_iload hx hb dX1_begin_54 (lv_at hl 4 rfl) ?_
    refine lv_iadd hx hb dX1_begin_56 ?_
    obtain ⟨hi, hB⟩ := hB
    refine va_ti hx hb (et_50 hE.2) hS hi rfl dX1_begin_57 ?_
    obtain ⟨hi, hB⟩ := hB
    obtain ⟨z2, ez2⟩ : ∃ z9, z9 = sA z1 13 (x3 + x4).toNatClampNeg (st50.getD (x2 + x4).toNatClampNeg 0) := ⟨_, rfl⟩
    have hB := hB z2 ez2
    refine xXs_13 S hE hP hD hS _ rfl hi dX1_begin_58 (fun H locs hP hD hS => ?_)
    rw [← ez2] at hP hD
    obtain ⟨v3, ev3⟩ : ∃ y9, y9 = x4 + (1 : Int32) := ⟨_, rfl⟩
    have hB := hB v3 ev3
    refine lv_iinc (v := v3) (lv' := [(4, .int v3), (0, .ref (ad G 2)), (1, .ref (tx G x1)), (2, .int x2), (3, .int x3)]) hx hb dX1_begin_59 hl (k := 4) rfl (by rw [ev3]; rfl) (by decide) rfl (fun ls hl => ?_)
    refine lv_goto (tgt := 33) hx hb dX1_begin_62 (by decide) ?_
    exact h33 x1 x2 x3 v3 z2 hB _ _ _ hP hD hS (lv_sub hl [1, 2, 3, 4, 0] rfl)
def L_HouseReader_begin_33 (post : St → Prop) : Nat → Nat → Int32 → Int32 → Int32 → St → Prop
  | 0 => fun _ _ _ _ _ => False
  | n + 1 => B_HouseReader_begin_33 post (L_HouseReader_begin_33 post n)
theorem wl_HouseReader_begin_33 {p : Program} {l : Launch} {e : Env} {R : Room} {s : State} {m : MethodId} {args : Array Value} {below : List Frame} {meth : Method} {c : Code} {Q : State → Prop} {G : GX} {A : Nat → Prop} (S : CallFix p m c cX1_begin 5 s args GW RX1) (hE : env G A s s.heap) (hA : ∀ q, s.heap.size ≤ q → A q) (hRf : 2 ≤ R.frames) (hRl : 40 ≤ R.locals) {post : St → Prop} (hret : RetV p l e R s m args below meth c Q 0 0 wX G A cX1_begin post) : ∀ (n : Nat) (x1 : Nat) (x2 : Int32) (x3 : Int32) (x4 : Int32) (z0 : St), L_HouseReader_begin_33 post n x1 x2 x3 x4 z0 → Xw p l e R s m args below meth c Q 0 0 wX G A z0 5 [(0, .ref (ad G 2)), (1, .ref (tx G x1)), (2, .int x2), (3, .int x3), (4, .int x4)] 33 [] := by
  intro n
  induction n with
  | zero => intro x1 x2 x3 x4 z0 hB; exact absurd hB id
  | succ n ih => exact fun x1 x2 x3 x4 z0 hB => w_HouseReader_begin_33 S hE hA hRf hRl hret ih x1 x2 x3 x4 z0 hB
def S_HouseReader_begin (post : St → Prop) (x1 : Nat) (x2 : Int32) (x3 : Int32) (z0 : St) : Prop :=
  (∀ z1 : St, z1 = sT z0 0 x1 → (∀ z2 : St, z2 = sI z1 7 x2 → (∀ z3 : St, z3 = sI z2 8 x3 → (∀ z4 : St, z4 = sI z3 9 (0 : Int32) → (∀ z5 : St, z5 = sI z4 11 (0 : Int32) → (∀ z6 : St, z6 = sI z5 3 (1 : Int32) → (∃ n1, L_HouseReader_begin_33 post n1 x1 x2 x3 (0 : Int32) z6)))))))
set_option maxHeartbeats 4000000 in
set_option maxRecDepth 100000 in
theorem w_HouseReader_begin_0 {p : Program} {l : Launch} {e : Env} {R : Room} {s : State} {m : MethodId} {args : Array Value} {below : List Frame} {meth : Method} {c : Code} {Q : State → Prop} {G : GX} {A : Nat → Prop} (S : CallFix p m c cX1_begin 5 s args GW RX1) (hE : env G A s s.heap) (hA : ∀ q, s.heap.size ≤ q → A q) (hRf : 2 ≤ R.frames) (hRl : 40 ≤ R.locals) {post : St → Prop} (hret : RetV p l e R s m args below meth c Q 0 0 wX G A cX1_begin post) (x1 : Nat) (x2 : Int32) (x3 : Int32) (z0 : St) (hB : S_HouseReader_begin post x1 x2 x3 z0) : Xw p l e R s m args below meth c Q 0 0 wX G A z0 5 [(0, .ref (ad G 2)), (1, .ref (tx G x1)), (2, .int x2), (3, .int x3)] 0 [] := by
  intro H locs ls hP hD hS hl
  have hx := S.1
  have hb := S.2.1
  refine lv_aload_n hx hb dX1_begin_0 rfl (lv_at hl 0 rfl) ?_
  refine lv_aload_n hx hb dX1_begin_1 rfl (lv_at hl 1 rfl) ?_
  obtain ⟨z1, ez1⟩ : ∃ z9, z9 = sT z0 0 x1 := ⟨_, rfl⟩
  have hB := hB z1 ez1
  refine xXp_2_letters S hE hP hD hS lk_X1_17 dX1_begin_2 (fun H locs hP hD hS => ?_)
  rw [← ez1] at hP hD
  refine lv_aload_n hx hb dX1_begin_5 rfl (lv_at hl 0 rfl) ?_
  refine lv_iload_n hx hb dX1_begin_6 rfl (lv_at hl 2 rfl) ?_
  obtain ⟨z2, ez2⟩ : ∃ z9, z9 = sI z1 7 x2 := ⟨_, rfl⟩
  have hB := hB z2 ez2
  refine xXp_2_firstItem S hE hP hD hS lk_X1_61 dX1_begin_7 (fun H locs hP hD hS => ?_)
  rw [← ez2] at hP hD
  refine lv_aload_n hx hb dX1_begin_10 rfl (lv_at hl 0 rfl) ?_
  refine lv_iload_n hx hb dX1_begin_11 rfl (lv_at hl 3 rfl) ?_
  obtain ⟨z3, ez3⟩ : ∃ z9, z9 = sI z2 8 x3 := ⟨_, rfl⟩
  have hB := hB z3 ez3
  refine xXp_2_firstValue S hE hP hD hS lk_X1_64 dX1_begin_12 (fun H locs hP hD hS => ?_)
  rw [← ez3] at hP hD
  refine lv_aload_n hx hb dX1_begin_15 rfl (lv_at hl 0 rfl) ?_
  refine lv_iconst (v := 0) hx hb dX1_begin_16 (by decide) ?_
  obtain ⟨z4, ez4⟩ : ∃ z9, z9 = sI z3 9 (0 : Int32) := ⟨_, rfl⟩
  have hB := hB z4 ez4
  refine xXp_2_lettersUsed S hE hP hD hS lk_X1_67 dX1_begin_17 (fun H locs hP hD hS => ?_)
  rw [← ez4] at hP hD
  refine lv_aload_n hx hb dX1_begin_20 rfl (lv_at hl 0 rfl) ?_
  refine lv_iconst (v := 0) hx hb dX1_begin_21 (by decide) ?_
  obtain ⟨z5, ez5⟩ : ∃ z9, z9 = sI z4 11 (0 : Int32) := ⟨_, rfl⟩
  have hB := hB z5 ez5
  refine xXp_2_digits S hE hP hD hS lk_X1_47 dX1_begin_22 (fun H locs hP hD hS => ?_)
  rw [← ez5] at hP hD
  refine lv_aload_n hx hb dX1_begin_25 rfl (lv_at hl 0 rfl) ?_
  refine lv_iconst (v := 1) hx hb dX1_begin_26 (by decide) ?_
  obtain ⟨z6, ez6⟩ : ∃ z9, z9 = sI z5 3 (1 : Int32) := ⟨_, rfl⟩
  have hB := hB z6 ez6
  refine xXp_2_awaits S hE hP hD hS lk_X1_37 dX1_begin_27 (fun H locs hP hD hS => ?_)
  rw [← ez6] at hP hD
  refine lv_iconst (v := 0) hx hb dX1_begin_30 (by decide) ?_
  refine lv_istore (lv' := [(4, .int (0 : Int32)), (0, .ref (ad G 2)), (1, .ref (tx G x1)), (2, .int x2), (3, .int x3)]) hx hb dX1_begin_31 hl (by decide) rfl (fun ls hl => ?_)
  obtain ⟨n1, hB⟩ := hB
  exact wl_HouseReader_begin_33 S hE hA hRf hRl hret n1 x1 x2 x3 (0 : Int32) z6 hB _ _ _ hP hD hS (lv_sub hl [1, 2, 3, 4, 0] rfl)
set_option maxHeartbeats 4000000 in
set_option maxRecDepth 100000 in
theorem c_HouseReader_begin (l : Launch) (G : GX) (z0 : St) (sz : Nat) (x1 : Nat) (x2 : Int32) (x3 : Int32) (post : St → Prop) : MetV l wX yX1_begin cX1_begin 5 none ({ frames := 2, cells := 0, slots := 0, locals := 40 }) [.ref (ad G 2), .ref (tx G x1), .int x2, .int x3] G z0 sz (S_HouseReader_begin post x1 x2 x3 z0) post := by
  refine Met.ofW (cc := cX1_begin) (maxL := 5) (ret := none) (by decide) rfl ?_
  intro p e s m args below meth c s₁ B hml hv
  obtain ⟨rfl, hsz, hP, hD0, hE, hB⟩ := hv
  have S : CallFix p m c cX1_begin 5 s _ GW RX1 := ⟨B.exec, B.bytes, hml, findClass_of_methodNamed B.named, fun w h => atoms_spec (ws := Cond.code yX1_begin cX1_begin 5 none :: GW) B.pre w (List.mem_cons_of_mem _ h)⟩
  have hlocks := B.notSynchronized
  subst hsz
  have hD := hD0.self (sz := s.heap.size)
  generalize hAe : va_A (wX G z0) s.heap.size = A at hD hE ⊢
  have hA : ∀ q : Nat, s.heap.size ≤ q → A q := fun q h => by rw [← hAe]; exact Or.inr h
  have hS : va_S A s.heap s.heap [] := va_S.rf
  have hl := lv_entry ([.ref (ad G 2), .ref (tx G x1), .int x2, .int x3]) (n := 5) (Nat.le_of_ble_eq_true rfl)
  rw [lg_entry_eq]
  generalize (lg_sl ([.ref (ad G 2), .ref (tx G x1), .int x2, .int x3]) ++ List.replicate (5 - (lg_sl ([.ref (ad G 2), .ref (tx G x1), .int x2, .int x3])).length) Slot.unset).toArray = ls at hl ⊢
  have hl : lv_has ls 5 [(0, .ref (ad G 2)), (1, .ref (tx G x1)), (2, .int x2), (3, .int x3)] := hl
  refine w_HouseReader_begin_0 S hE hA (Nat.le_refl _) (Nat.le_refl _) ?_ x1 x2 x3 z0 hB _ _ _ hP hD hS hl
  intro pc ls σ H locs hd hp hP hD hS
  exact W.vret B.exec B.bytes B.returns (fun t ht hW => ⟨⟨σ, rfl, hp, by rw [ht]; exact hP, hD⟩, hS.F ht⟩) hS.2.2 hd
def S_HouseReader_start (post : St → Prop) (z0 : St) : Prop :=
  (∀ z1 : St, z1 = sI z0 4 (0 : Int32) → (∀ z2 : St, z2 = sI z1 5 (0 : Int32) → (∀ z3 : St, z3 = sI z2 6 (0 : Int32) → (S_HouseReader_begin (fun (z4 : St) => (∀ z5 : St, z5 = sI z4 3 (0 : Int32) → (post z5))) 2 (0 : Int32) (0 : Int32) z3))))
set_option maxHeartbeats 4000000 in
set_option maxRecDepth 100000 in
theorem w_HouseReader_start_0 {p : Program} {l : Launch} {e : Env} {R : Room} {s : State} {m : MethodId} {args : Array Value} {below : List Frame} {meth : Method} {c : Code} {Q : State → Prop} {G : GX} {A : Nat → Prop} (S : CallFix p m c cX1_start 1 s args GW RX1) (hE : env G A s s.heap) (hA : ∀ q, s.heap.size ≤ q → A q) (hRf : 3 ≤ R.frames) (hRl : 64 ≤ R.locals) {post : St → Prop} (hret : RetV p l e R s m args below meth c Q 0 0 wX G A cX1_start post) (z0 : St) (hB : S_HouseReader_start post z0) : Xw p l e R s m args below meth c Q 0 0 wX G A z0 1 [(0, .ref (ad G 2))] 0 [] := by
  intro H locs ls hP hD hS hl
  have hx := S.1
  have hb := S.2.1
  refine lv_aload_n hx hb dX1_start_0 rfl (lv_at hl 0 rfl) ?_
  refine lv_iconst (v := 0) hx hb dX1_start_1 (by decide) ?_
  obtain ⟨z1, ez1⟩ : ∃ z9, z9 = sI z0 4 (0 : Int32) := ⟨_, rfl⟩
  have hB := hB z1 ez1
  refine xXp_2_rulesTold S hE hP hD hS lk_X1_21 dX1_start_2 (fun H locs hP hD hS => ?_)
  rw [← ez1] at hP hD
  refine lv_aload_n hx hb dX1_start_5 rfl (lv_at hl 0 rfl) ?_
  refine lv_iconst (v := 0) hx hb dX1_start_6 (by decide) ?_
  obtain ⟨z2, ez2⟩ : ∃ z9, z9 = sI z1 5 (0 : Int32) := ⟨_, rfl⟩
  have hB := hB z2 ez2
  refine xXp_2_drinksTold S hE hP hD hS lk_X1_25 dX1_start_7 (fun H locs hP hD hS => ?_)
  rw [← ez2] at hP hD
  refine lv_aload_n hx hb dX1_start_10 rfl (lv_at hl 0 rfl) ?_
  refine lv_iconst (v := 0) hx hb dX1_start_11 (by decide) ?_
  obtain ⟨z3, ez3⟩ : ∃ z9, z9 = sI z2 6 (0 : Int32) := ⟨_, rfl⟩
  have hB := hB z3 ez3
  refine xXp_2_guestsTold S hE hP hD hS lk_X1_28 dX1_start_12 (fun H locs hP hD hS => ?_)
  rw [← ez3] at hP hD
  refine lv_aload_n hx hb dX1_start_15 rfl (lv_at hl 0 rfl) ?_
  refine va_ldcS hx hb S.2.2.2.1 (es_X1_31 hE.2) dX1_start_16 ?_
  refine lv_iconst (v := 0) hx hb dX1_start_18 (by decide) ?_
  refine lv_iconst (v := 0) hx hb dX1_start_19 (by decide) ?_
  refine xcVv [.ref (tx G 2), .int (0 : Int32), .int (0 : Int32)] S hE hA hP hD hS (c_HouseReader_begin l G z3 H.size 2 (0 : Int32) (0 : Int32) _) hB (gw_c lk_X1_33 (gw_c wi_X1_begin (gw_c we_X1_X1_begin_X1_begin (gw_c wn_X1 (gw_c wc_X1_begin (fun _ h9 => h9)))))) hd_X1_begin rfl rfl (Nat.le_trans (Nat.le_of_ble_eq_true rfl) hRf) (Nat.le_trans (Nat.le_of_ble_eq_true rfl) hRl) ⟨Nat.zero_le _, Nat.zero_le _⟩ (va_recv hE.1 hP (ci := 1) (q0 := 2) rfl rfl) rfl hl.1 rfl (Nat.le_of_ble_eq_true rfl) dX1_start_20 (fun z4 H locs hB hP hD hS => ?_)
  refine lv_aload_n hx hb dX1_start_23 rfl (lv_at hl 0 rfl) ?_
  refine lv_iconst (v := 0) hx hb dX1_start_24 (by decide) ?_
  obtain ⟨z5, ez5⟩ : ∃ z9, z9 = sI z4 3 (0 : Int32) := ⟨_, rfl⟩
  have hB := hB z5 ez5
  refine xXp_2_awaits S hE hP hD hS lk_X1_37 dX1_start_25 (fun H locs hP hD hS => ?_)
  rw [← ez5] at hP hD
  exact hret _ _ _ _ _ dX1_start_28 hB hP hD hS
set_option maxHeartbeats 4000000 in
set_option maxRecDepth 100000 in
theorem c_HouseReader_start (l : Launch) (G : GX) (z0 : St) (sz : Nat) (post : St → Prop) : MetV l wX yX1_start cX1_start 1 none ({ frames := 3, cells := 0, slots := 0, locals := 64 }) [.ref (ad G 2)] G z0 sz (S_HouseReader_start post z0) post := by
  refine Met.ofW (cc := cX1_start) (maxL := 1) (ret := none) (by decide) rfl ?_
  intro p e s m args below meth c s₁ B hml hv
  obtain ⟨rfl, hsz, hP, hD0, hE, hB⟩ := hv
  have S : CallFix p m c cX1_start 1 s _ GW RX1 := ⟨B.exec, B.bytes, hml, findClass_of_methodNamed B.named, fun w h => atoms_spec (ws := Cond.code yX1_start cX1_start 1 none :: GW) B.pre w (List.mem_cons_of_mem _ h)⟩
  have hlocks := B.notSynchronized
  subst hsz
  have hD := hD0.self (sz := s.heap.size)
  generalize hAe : va_A (wX G z0) s.heap.size = A at hD hE ⊢
  have hA : ∀ q : Nat, s.heap.size ≤ q → A q := fun q h => by rw [← hAe]; exact Or.inr h
  have hS : va_S A s.heap s.heap [] := va_S.rf
  have hl := lv_entry ([.ref (ad G 2)]) (n := 1) (Nat.le_of_ble_eq_true rfl)
  rw [lg_entry_eq]
  generalize (lg_sl ([.ref (ad G 2)]) ++ List.replicate (1 - (lg_sl ([.ref (ad G 2)])).length) Slot.unset).toArray = ls at hl ⊢
  have hl : lv_has ls 1 [(0, .ref (ad G 2))] := hl
  refine w_HouseReader_start_0 S hE hA (Nat.le_refl _) (Nat.le_refl _) ?_  z0 hB _ _ _ hP hD hS hl
  intro pc ls σ H locs hd hp hP hD hS
  exact W.vret B.exec B.bytes B.returns (fun t ht hW => ⟨⟨σ, rfl, hp, by rw [ht]; exact hP, hD⟩, hS.F ht⟩) hS.2.2 hd
def S_HouseReader_bottleTold (post : Int32 → St → Prop) (z0 : St) : Prop :=
  (post (gA z0 13 0) z0)
set_option maxHeartbeats 4000000 in
set_option maxRecDepth 100000 in
theorem w_HouseReader_bottleTold_0 {p : Program} {l : Launch} {e : Env} {R : Room} {s : State} {m : MethodId} {args : Array Value} {below : List Frame} {meth : Method} {c : Code} {Q : State → Prop} {G : GX} {A : Nat → Prop} (S : CallFix p m c cX1_bottleTold 1 s args GW RX1) (hE : env G A s s.heap) (hA : ∀ q, s.heap.size ≤ q → A q) (hRf : 0 ≤ R.frames) (hRl : 0 ≤ R.locals) {post : Int32 → St → Prop} (hret : RetI p l e R s m args below meth c Q 0 0 wX G A cX1_bottleTold post) (z0 : St) (hB : S_HouseReader_bottleTold post z0) : Xw p l e R s m args below meth c Q 0 0 wX G A z0 1 [(0, .ref (ad G 2))] 0 [] := by
  intro H locs ls hP hD hS hl
  have hx := S.1
  have hb := S.2.1
  refine lv_aload_n hx hb dX1_bottleTold_0 rfl (lv_at hl 0 rfl) ?_
  refine xXg_2_values S hE hP lk_X1_11 dX1_bottleTold_1 ?_
  refine lv_iconst (v := 0) hx hb dX1_bottleTold_4 (by decide) ?_
  refine xXk_13 S hE hP 0 (by decide) (by unfold vp_in; decide) dX1_bottleTold_5 ?_
  exact hret _ _ _ _ _ _ dX1_bottleTold_6 hB hP hD hS
set_option maxHeartbeats 4000000 in
set_option maxRecDepth 100000 in
theorem c_HouseReader_bottleTold (l : Launch) (G : GX) (z0 : St) (sz : Nat) (post : Int32 → St → Prop) : MetI l wX yX1_bottleTold cX1_bottleTold 1 (some .int) ({ frames := 0, cells := 0, slots := 0, locals := 0 }) [.ref (ad G 2)] G z0 sz (S_HouseReader_bottleTold post z0) post := by
  refine Met.ofW (cc := cX1_bottleTold) (maxL := 1) (ret := (some .int)) (by decide) rfl ?_
  intro p e s m args below meth c s₁ B hml hv
  obtain ⟨rfl, hsz, hP, hD0, hE, hB⟩ := hv
  have S : CallFix p m c cX1_bottleTold 1 s _ GW RX1 := ⟨B.exec, B.bytes, hml, findClass_of_methodNamed B.named, fun w h => atoms_spec (ws := Cond.code yX1_bottleTold cX1_bottleTold 1 (some .int) :: GW) B.pre w (List.mem_cons_of_mem _ h)⟩
  have hlocks := B.notSynchronized
  subst hsz
  have hD := hD0.self (sz := s.heap.size)
  generalize hAe : va_A (wX G z0) s.heap.size = A at hD hE ⊢
  have hA : ∀ q : Nat, s.heap.size ≤ q → A q := fun q h => by rw [← hAe]; exact Or.inr h
  have hS : va_S A s.heap s.heap [] := va_S.rf
  have hl := lv_entry ([.ref (ad G 2)]) (n := 1) (Nat.le_of_ble_eq_true rfl)
  rw [lg_entry_eq]
  generalize (lg_sl ([.ref (ad G 2)]) ++ List.replicate (1 - (lg_sl ([.ref (ad G 2)])).length) Slot.unset).toArray = ls at hl ⊢
  have hl : lv_has ls 1 [(0, .ref (ad G 2))] := hl
  refine w_HouseReader_bottleTold_0 S hE hA (Nat.le_refl _) (Nat.le_refl _) ?_  z0 hB _ _ _ hP hD hS hl
  intro pc ls r σ H locs hd hp hP hD hS
  exact W.iret (v := r) B.exec B.bytes B.returns (fun t ht hW => ⟨⟨r, σ, rfl, hp, by rw [ht]; exact hP, hD⟩, hS.F ht⟩) hS.2.2 hd
def S_HouseReader_likeTold (post : Int32 → St → Prop) (x1 : Int32) (z0 : St) : Prop :=
  (vp_in ((15 : Int32) + ((3 : Int32) * x1)) 33 ∧ (post (gA z0 13 ((15 : Int32) + ((3 : Int32) * x1)).toNatClampNeg) z0))
set_option maxHeartbeats 4000000 in
set_option maxRecDepth 100000 in
theorem w_HouseReader_likeTold_0 {p : Program} {l : Launch} {e : Env} {R : Room} {s : State} {m : MethodId} {args : Array Value} {below : List Frame} {meth : Method} {c : Code} {Q : State → Prop} {G : GX} {A : Nat → Prop} (S : CallFix p m c cX1_likeTold 2 s args GW RX1) (hE : env G A s s.heap) (hA : ∀ q, s.heap.size ≤ q → A q) (hRf : 0 ≤ R.frames) (hRl : 0 ≤ R.locals) {post : Int32 → St → Prop} (hret : RetI p l e R s m args below meth c Q 0 0 wX G A cX1_likeTold post) (x1 : Int32) (z0 : St) (hB : S_HouseReader_likeTold post x1 z0) : Xw p l e R s m args below meth c Q 0 0 wX G A z0 2 [(0, .ref (ad G 2)), (1, .int x1)] 0 [] := by
  intro H locs ls hP hD hS hl
  have hx := S.1
  have hb := S.2.1
  refine lv_aload_n hx hb dX1_likeTold_0 rfl (lv_at hl 0 rfl) ?_
  refine xXg_2_values S hE hP lk_X1_11 dX1_likeTold_1 ?_
  refine lv_bipush (v := 15) hx hb dX1_likeTold_4 (by decide) ?_
  refine lv_iconst (v := 3) hx hb dX1_likeTold_6 (by decide) ?_
  refine lv_iload_n hx hb dX1_likeTold_7 rfl (lv_at hl 1 rfl) ?_
  refine lv_imul hx hb dX1_likeTold_8 ?_
  refine lv_iadd hx hb dX1_likeTold_9 ?_
  obtain ⟨hi, hB⟩ := hB
  refine xXl_13 S hE hP hi dX1_likeTold_10 ?_
  exact hret _ _ _ _ _ _ dX1_likeTold_11 hB hP hD hS
set_option maxHeartbeats 4000000 in
set_option maxRecDepth 100000 in
theorem c_HouseReader_likeTold (l : Launch) (G : GX) (z0 : St) (sz : Nat) (x1 : Int32) (post : Int32 → St → Prop) : MetI l wX yX1_likeTold cX1_likeTold 2 (some .int) ({ frames := 0, cells := 0, slots := 0, locals := 0 }) [.ref (ad G 2), .int x1] G z0 sz (S_HouseReader_likeTold post x1 z0) post := by
  refine Met.ofW (cc := cX1_likeTold) (maxL := 2) (ret := (some .int)) (by decide) rfl ?_
  intro p e s m args below meth c s₁ B hml hv
  obtain ⟨rfl, hsz, hP, hD0, hE, hB⟩ := hv
  have S : CallFix p m c cX1_likeTold 2 s _ GW RX1 := ⟨B.exec, B.bytes, hml, findClass_of_methodNamed B.named, fun w h => atoms_spec (ws := Cond.code yX1_likeTold cX1_likeTold 2 (some .int) :: GW) B.pre w (List.mem_cons_of_mem _ h)⟩
  have hlocks := B.notSynchronized
  subst hsz
  have hD := hD0.self (sz := s.heap.size)
  generalize hAe : va_A (wX G z0) s.heap.size = A at hD hE ⊢
  have hA : ∀ q : Nat, s.heap.size ≤ q → A q := fun q h => by rw [← hAe]; exact Or.inr h
  have hS : va_S A s.heap s.heap [] := va_S.rf
  have hl := lv_entry ([.ref (ad G 2), .int x1]) (n := 2) (Nat.le_of_ble_eq_true rfl)
  rw [lg_entry_eq]
  generalize (lg_sl ([.ref (ad G 2), .int x1]) ++ List.replicate (2 - (lg_sl ([.ref (ad G 2), .int x1])).length) Slot.unset).toArray = ls at hl ⊢
  have hl : lv_has ls 2 [(0, .ref (ad G 2)), (1, .int x1)] := hl
  refine w_HouseReader_likeTold_0 S hE hA (Nat.le_refl _) (Nat.le_refl _) ?_ x1 z0 hB _ _ _ hP hD hS hl
  intro pc ls r σ H locs hd hp hP hD hS
  exact W.iret (v := r) B.exec B.bytes B.returns (fun t ht hW => ⟨⟨r, σ, rfl, hp, by rw [ht]; exact hP, hD⟩, hS.F ht⟩) hS.2.2 hd
def B_HouseReader_closes_39 (post : Int32 → St → Prop) (ih39 : Int32 → St → Prop) (x1 : Int32) (z0 : St) : Prop :=
  (((gI z0 6) ≤ x1 → (post (1 : Int32) z0)) ∧ (¬ (gI z0 6) ≤ x1 → (S_HouseReader_likeTold (fun (r2 : Int32) (z1 : St) => ((r2 < (gI z1 5) → (∀ v4 : Int32, v4 = x1 + (1 : Int32) → (ih39 v4 z1))) ∧ (¬ r2 < (gI z1 5) → (post (0 : Int32) z1)))) x1 z0)))
set_option maxHeartbeats 4000000 in
set_option maxRecDepth 100000 in
theorem w_HouseReader_closes_39 {p : Program} {l : Launch} {e : Env} {R : Room} {s : State} {m : MethodId} {args : Array Value} {below : List Frame} {meth : Method} {c : Code} {Q : State → Prop} {G : GX} {A : Nat → Prop} (S : CallFix p m c cX1_closes 2 s args GW RX1) (hE : env G A s s.heap) (hA : ∀ q, s.heap.size ≤ q → A q) (hRf : 1 ≤ R.frames) (hRl : 21 ≤ R.locals) {post : Int32 → St → Prop} (hret : RetZ p l e R s m args below meth c Q 0 0 wX G A cX1_closes post) {ih39 : Int32 → St → Prop} (h39 : ∀ (x1 : Int32) (z0 : St), ih39 x1 z0 → Xw p l e R s m args below meth c Q 0 0 wX G A z0 2 [(0, .ref (ad G 2)), (1, .int x1)] 39 []) (x1 : Int32) (z0 : St) (hB : B_HouseReader_closes_39 post ih39 x1 z0) : Xw p l e R s m args below meth c Q 0 0 wX G A z0 2 [(0, .ref (ad G 2)), (1, .int x1)] 39 [] := by
  intro H locs ls hP hD hS hl
  have hx := S.1
  have hb := S.2.1
  refine lv_iload_n hx hb dX1_closes_39 rfl (lv_at hl 1 rfl) ?_
  refine lv_aload_n hx hb dX1_closes_40 rfl (lv_at hl 0 rfl) ?_
  refine xXg_2_guestsTold S hE hP lk_X1_28 dX1_closes_41 ?_
  refine lv_icmp_ge (tgt := 67) hx hb dX1_closes_44 (by decide) (fun c1 => ?_) (fun c1 => ?_)
  · have hB := hB.1 c1
    refine lv_iconst (v := 1) hx hb dX1_closes_67 (by decide) ?_
    exact hret _ _ _ _ _ _ dX1_closes_68 ⟨by decide, hB⟩ hP hD hS
  · have hB := hB.2 c1
    refine lv_aload_n hx hb dX1_closes_47 rfl (lv_at hl 0 rfl) ?_
    refine lv_iload_n hx hb dX1_closes_48 rfl (lv_at hl 1 rfl) ?_
    refine xcVi [.int x1] S hE hA hP hD hS (c_HouseReader_likeTold l G z0 H.size x1 _) hB (gw_c lk_X1_95 (gw_c wi_X1_likeTold (gw_c we_X1_X1_likeTold_X1_likeTold (gw_c wn_X1 (gw_c wc_X1_likeTold (fun _ h9 => h9)))))) hd_X1_likeTold rfl rfl (Nat.le_trans (Nat.le_of_ble_eq_true rfl) hRf) (Nat.le_trans (Nat.le_of_ble_eq_true rfl) hRl) ⟨Nat.zero_le _, Nat.zero_le _⟩ (va_recv hE.1 hP (ci := 1) (q0 := 2) rfl rfl) rfl hl.1 rfl (Nat.le_of_ble_eq_true rfl) dX1_closes_49 (fun r2 z1 H locs hB hP hD hS => ?_)
    refine lv_aload_n hx hb dX1_closes_52 rfl (lv_at hl 0 rfl) ?_
    refine xXg_2_drinksTold S hE hP lk_X1_25 dX1_closes_53 ?_
    refine lv_icmp_lt (tgt := 61) hx hb dX1_closes_56 (by decide) (fun c3 => ?_) (fun c3 => ?_)
    · have hB := hB.1 c3
      obtain ⟨v4, ev4⟩ : ∃ y9, y9 = x1 + (1 : Int32) := ⟨_, rfl⟩
      have hB := hB v4 ev4
      refine lv_iinc (v := v4) (lv' := [(1, .int v4), (0, .ref (ad G 2))]) hx hb dX1_closes_61 hl (k := 1) rfl (by rw [ev4]; rfl) (by decide) rfl (fun ls hl => ?_)
      refine lv_goto (tgt := 39) hx hb dX1_closes_64 (by decide) ?_
      exact h39 v4 z1 hB _ _ _ hP hD hS (lv_sub hl [1, 0] rfl)
    · have hB := hB.2 c3
      refine lv_iconst (v := 0) hx hb dX1_closes_59 (by decide) ?_
      exact hret _ _ _ _ _ _ dX1_closes_60 ⟨by decide, hB⟩ hP hD hS
def L_HouseReader_closes_39 (post : Int32 → St → Prop) : Nat → Int32 → St → Prop
  | 0 => fun _ _ => False
  | n + 1 => B_HouseReader_closes_39 post (L_HouseReader_closes_39 post n)
theorem wl_HouseReader_closes_39 {p : Program} {l : Launch} {e : Env} {R : Room} {s : State} {m : MethodId} {args : Array Value} {below : List Frame} {meth : Method} {c : Code} {Q : State → Prop} {G : GX} {A : Nat → Prop} (S : CallFix p m c cX1_closes 2 s args GW RX1) (hE : env G A s s.heap) (hA : ∀ q, s.heap.size ≤ q → A q) (hRf : 1 ≤ R.frames) (hRl : 21 ≤ R.locals) {post : Int32 → St → Prop} (hret : RetZ p l e R s m args below meth c Q 0 0 wX G A cX1_closes post) : ∀ (n : Nat) (x1 : Int32) (z0 : St), L_HouseReader_closes_39 post n x1 z0 → Xw p l e R s m args below meth c Q 0 0 wX G A z0 2 [(0, .ref (ad G 2)), (1, .int x1)] 39 [] := by
  intro n
  induction n with
  | zero => intro x1 z0 hB; exact absurd hB id
  | succ n ih => exact fun x1 z0 hB => w_HouseReader_closes_39 S hE hA hRf hRl hret ih x1 z0 hB
def S_HouseReader_closes (post : Int32 → St → Prop) (z0 : St) : Prop :=
  (((gI z0 3) = (1 : Int32) → (((gI z0 5) < (2 : Int32) → (post (0 : Int32) z0)) ∧ (¬ (gI z0 5) < (2 : Int32) → (((gI z0 6) < (1 : Int32) → (post (0 : Int32) z0)) ∧ (¬ (gI z0 6) < (1 : Int32) → (S_HouseReader_bottleTold (fun (r4 : Int32) (z1 : St) => ((r4 < (gI z1 5) → (∃ n6, L_HouseReader_closes_39 post n6 (0 : Int32) z1)) ∧ (¬ r4 < (gI z1 5) → (post (0 : Int32) z1)))) z0)))))) ∧ (¬ (gI z0 3) = (1 : Int32) → (post (0 : Int32) z0)))
set_option maxHeartbeats 4000000 in
set_option maxRecDepth 100000 in
theorem w_HouseReader_closes_0 {p : Program} {l : Launch} {e : Env} {R : Room} {s : State} {m : MethodId} {args : Array Value} {below : List Frame} {meth : Method} {c : Code} {Q : State → Prop} {G : GX} {A : Nat → Prop} (S : CallFix p m c cX1_closes 2 s args GW RX1) (hE : env G A s s.heap) (hA : ∀ q, s.heap.size ≤ q → A q) (hRf : 1 ≤ R.frames) (hRl : 21 ≤ R.locals) {post : Int32 → St → Prop} (hret : RetZ p l e R s m args below meth c Q 0 0 wX G A cX1_closes post) (z0 : St) (hB : S_HouseReader_closes post z0) : Xw p l e R s m args below meth c Q 0 0 wX G A z0 2 [(0, .ref (ad G 2))] 0 [] := by
  intro H locs ls hP hD hS hl
  have hx := S.1
  have hb := S.2.1
  refine lv_aload_n hx hb dX1_closes_0 rfl (lv_at hl 0 rfl) ?_
  refine xXg_2_awaits S hE hP lk_X1_37 dX1_closes_1 ?_
  refine lv_iconst (v := 1) hx hb dX1_closes_4 (by decide) ?_
  refine lv_icmp_ne (tgt := 35) hx hb dX1_closes_5 (by decide) (fun c1 => ?_) (fun c1 => ?_)
  · have hB := hB.2 c1
    refine lv_iconst (v := 0) hx hb dX1_closes_35 (by decide) ?_
    exact hret _ _ _ _ _ _ dX1_closes_36 ⟨by decide, hB⟩ hP hD hS
  · have hB := hB.1 c1
    refine lv_aload_n hx hb dX1_closes_8 rfl (lv_at hl 0 rfl) ?_
    refine xXg_2_drinksTold S hE hP lk_X1_25 dX1_closes_9 ?_
    refine lv_iconst (v := 2) hx hb dX1_closes_12 (by decide) ?_
    refine lv_icmp_lt (tgt := 35) hx hb dX1_closes_13 (by decide) (fun c2 => ?_) (fun c2 => ?_)
    · have hB := hB.1 c2
      refine lv_iconst (v := 0) hx hb dX1_closes_35 (by decide) ?_
      exact hret _ _ _ _ _ _ dX1_closes_36 ⟨by decide, hB⟩ hP hD hS
    · have hB := hB.2 c2
      refine lv_aload_n hx hb dX1_closes_16 rfl (lv_at hl 0 rfl) ?_
      refine xXg_2_guestsTold S hE hP lk_X1_28 dX1_closes_17 ?_
      refine lv_iconst (v := 1) hx hb dX1_closes_20 (by decide) ?_
      refine lv_icmp_lt (tgt := 35) hx hb dX1_closes_21 (by decide) (fun c3 => ?_) (fun c3 => ?_)
      · have hB := hB.1 c3
        refine lv_iconst (v := 0) hx hb dX1_closes_35 (by decide) ?_
        exact hret _ _ _ _ _ _ dX1_closes_36 ⟨by decide, hB⟩ hP hD hS
      · have hB := hB.2 c3
        refine lv_aload_n hx hb dX1_closes_24 rfl (lv_at hl 0 rfl) ?_
        refine xcVi [] S hE hA hP hD hS (c_HouseReader_bottleTold l G z0 H.size _) hB (gw_c lk_X1_92 (gw_c wi_X1_bottleTold (gw_c we_X1_X1_bottleTold_X1_bottleTold (gw_c wn_X1 (gw_c wc_X1_bottleTold (fun _ h9 => h9)))))) hd_X1_bottleTold rfl rfl (Nat.le_trans (Nat.le_of_ble_eq_true rfl) hRf) (Nat.le_trans (Nat.le_of_ble_eq_true rfl) hRl) ⟨Nat.zero_le _, Nat.zero_le _⟩ (va_recv hE.1 hP (ci := 1) (q0 := 2) rfl rfl) rfl hl.1 rfl (Nat.le_of_ble_eq_true rfl) dX1_closes_25 (fun r4 z1 H locs hB hP hD hS => ?_)
        refine lv_aload_n hx hb dX1_closes_28 rfl (lv_at hl 0 rfl) ?_
        refine xXg_2_drinksTold S hE hP lk_X1_25 dX1_closes_29 ?_
        refine lv_icmp_lt (tgt := 37) hx hb dX1_closes_32 (by decide) (fun c5 => ?_) (fun c5 => ?_)
        · have hB := hB.1 c5
          refine lv_iconst (v := 0) hx hb dX1_closes_37 (by decide) ?_
          refine lv_istore_n (lv' := [(1, .int (0 : Int32)), (0, .ref (ad G 2))]) hx hb dX1_closes_38 rfl hl (by decide) rfl (fun ls hl => ?_)
          obtain ⟨n6, hB⟩ := hB
          exact wl_HouseReader_closes_39 S hE hA hRf hRl hret n6 (0 : Int32) z1 hB _ _ _ hP hD hS (lv_sub hl [1, 0] rfl)
        · have hB := hB.2 c5
          refine lv_iconst (v := 0) hx hb dX1_closes_35 (by decide) ?_
          exact hret _ _ _ _ _ _ dX1_closes_36 ⟨by decide, hB⟩ hP hD hS
set_option maxHeartbeats 4000000 in
set_option maxRecDepth 100000 in
theorem c_HouseReader_closes (l : Launch) (G : GX) (z0 : St) (sz : Nat) (post : Int32 → St → Prop) : MetI l wX yX1_closes cX1_closes 2 (some .boolean) ({ frames := 1, cells := 0, slots := 0, locals := 21 }) [.ref (ad G 2)] G z0 sz (S_HouseReader_closes post z0) post := by
  refine Met.ofW (cc := cX1_closes) (maxL := 2) (ret := (some .boolean)) (by decide) rfl ?_
  intro p e s m args below meth c s₁ B hml hv
  obtain ⟨rfl, hsz, hP, hD0, hE, hB⟩ := hv
  have S : CallFix p m c cX1_closes 2 s _ GW RX1 := ⟨B.exec, B.bytes, hml, findClass_of_methodNamed B.named, fun w h => atoms_spec (ws := Cond.code yX1_closes cX1_closes 2 (some .boolean) :: GW) B.pre w (List.mem_cons_of_mem _ h)⟩
  have hlocks := B.notSynchronized
  subst hsz
  have hD := hD0.self (sz := s.heap.size)
  generalize hAe : va_A (wX G z0) s.heap.size = A at hD hE ⊢
  have hA : ∀ q : Nat, s.heap.size ≤ q → A q := fun q h => by rw [← hAe]; exact Or.inr h
  have hS : va_S A s.heap s.heap [] := va_S.rf
  have hl := lv_entry ([.ref (ad G 2)]) (n := 2) (Nat.le_of_ble_eq_true rfl)
  rw [lg_entry_eq]
  generalize (lg_sl ([.ref (ad G 2)]) ++ List.replicate (2 - (lg_sl ([.ref (ad G 2)])).length) Slot.unset).toArray = ls at hl ⊢
  have hl : lv_has ls 2 [(0, .ref (ad G 2))] := hl
  refine w_HouseReader_closes_0 S hE hA (Nat.le_refl _) (Nat.le_refl _) ?_  z0 hB _ _ _ hP hD hS hl
  intro pc ls r σ H locs hd hp hP hD hS
  exact W.zret (v := r) B.exec B.bytes B.returns (xboolc r hp.1) (fun t ht hW => ⟨⟨r, σ, rfl, hp.2, by rw [ht]; exact hP, hD⟩, hS.F ht⟩) hS.2.2 hd
def S_Tape_signAt (post : Int32 → St → Prop) (x1 : Int32) (z0 : St) : Prop :=
  ((x1 < 0 → (post (-1 : Int32) z0)) ∧ (¬ x1 < 0 → (((gI z0 2) ≤ x1 → (post (-1 : Int32) z0)) ∧ (¬ (gI z0 2) ≤ x1 → (((240 : Int32) ≤ x1 → (post (-1 : Int32) z0)) ∧ (¬ (240 : Int32) ≤ x1 → (vp_in x1 240 ∧ (post (gA z0 12 x1.toNatClampNeg) z0))))))))
set_option maxHeartbeats 4000000 in
set_option maxRecDepth 100000 in
theorem w_Tape_signAt_0 {p : Program} {l : Launch} {e : Env} {R : Room} {s : State} {m : MethodId} {args : Array Value} {below : List Frame} {meth : Method} {c : Code} {Q : State → Prop} {G : GX} {A : Nat → Prop} (S : CallFix p m c cX9_signAt 2 s args GW RX9) (hE : env G A s s.heap) (hA : ∀ q, s.heap.size ≤ q → A q) (hRf : 0 ≤ R.frames) (hRl : 0 ≤ R.locals) {post : Int32 → St → Prop} (hret : RetI p l e R s m args below meth c Q 0 0 wX G A cX9_signAt post) (x1 : Int32) (z0 : St) (hB : S_Tape_signAt post x1 z0) : Xw p l e R s m args below meth c Q 0 0 wX G A z0 2 [(0, .ref (ad G 1)), (1, .int x1)] 0 [] := by
  intro H locs ls hP hD hS hl
  have hx := S.1
  have hb := S.2.1
  refine lv_iload_n hx hb dX9_signAt_0 rfl (lv_at hl 1 rfl) ?_
  refine lv_if_lt (tgt := 28) hx hb dX9_signAt_1 (by decide) (fun c1 => ?_) (fun c1 => ?_)
  · have hB := hB.1 c1
    refine lv_iconst (v := -1) hx hb dX9_signAt_28 (by decide) ?_
    exact hret _ _ _ _ _ _ dX9_signAt_29 hB hP hD hS
  · have hB := hB.2 c1
    refine lv_iload_n hx hb dX9_signAt_4 rfl (lv_at hl 1 rfl) ?_
    refine lv_aload_n hx hb dX9_signAt_5 rfl (lv_at hl 0 rfl) ?_
    refine xXg_1_length S hE hP lk_X9_15 dX9_signAt_6 ?_
    refine lv_icmp_ge (tgt := 28) hx hb dX9_signAt_9 (by decide) (fun c2 => ?_) (fun c2 => ?_)
    · have hB := hB.1 c2
      refine lv_iconst (v := -1) hx hb dX9_signAt_28 (by decide) ?_
      exact hret _ _ _ _ _ _ dX9_signAt_29 hB hP hD hS
    · have hB := hB.2 c2
      refine lv_iload_n hx hb dX9_signAt_12 rfl (lv_at hl 1 rfl) ?_
      refine lv_sipush (v := 240) hx hb dX9_signAt_13 (by decide) ?_
      refine lv_icmp_ge (tgt := 28) hx hb dX9_signAt_16 (by decide) (fun c3 => ?_) (fun c3 => ?_)
      · have hB := hB.1 c3
        refine lv_iconst (v := -1) hx hb dX9_signAt_28 (by decide) ?_
        exact hret _ _ _ _ _ _ dX9_signAt_29 hB hP hD hS
      · have hB := hB.2 c3
        refine lv_aload_n hx hb dX9_signAt_19 rfl (lv_at hl 0 rfl) ?_
        refine xXg_1_bytes S hE hP lk_X9_11 dX9_signAt_20 ?_
        refine lv_iload_n hx hb dX9_signAt_23 rfl (lv_at hl 1 rfl) ?_
        obtain ⟨hi, hB⟩ := hB
        refine xXl_12 S hE hP hi dX9_signAt_24 ?_
        refine lv_goto (tgt := 29) hx hb dX9_signAt_25 (by decide) ?_
        exact hret _ _ _ _ _ _ dX9_signAt_29 hB hP hD hS
set_option maxHeartbeats 4000000 in
set_option maxRecDepth 100000 in
theorem c_Tape_signAt (l : Launch) (G : GX) (z0 : St) (sz : Nat) (x1 : Int32) (post : Int32 → St → Prop) : MetI l wX yX9_signAt cX9_signAt 2 (some .int) ({ frames := 0, cells := 0, slots := 0, locals := 0 }) [.ref (ad G 1), .int x1] G z0 sz (S_Tape_signAt post x1 z0) post := by
  refine Met.ofW (cc := cX9_signAt) (maxL := 2) (ret := (some .int)) (by decide) rfl ?_
  intro p e s m args below meth c s₁ B hml hv
  obtain ⟨rfl, hsz, hP, hD0, hE, hB⟩ := hv
  have S : CallFix p m c cX9_signAt 2 s _ GW RX9 := ⟨B.exec, B.bytes, hml, findClass_of_methodNamed B.named, fun w h => atoms_spec (ws := Cond.code yX9_signAt cX9_signAt 2 (some .int) :: GW) B.pre w (List.mem_cons_of_mem _ h)⟩
  have hlocks := B.notSynchronized
  subst hsz
  have hD := hD0.self (sz := s.heap.size)
  generalize hAe : va_A (wX G z0) s.heap.size = A at hD hE ⊢
  have hA : ∀ q : Nat, s.heap.size ≤ q → A q := fun q h => by rw [← hAe]; exact Or.inr h
  have hS : va_S A s.heap s.heap [] := va_S.rf
  have hl := lv_entry ([.ref (ad G 1), .int x1]) (n := 2) (Nat.le_of_ble_eq_true rfl)
  rw [lg_entry_eq]
  generalize (lg_sl ([.ref (ad G 1), .int x1]) ++ List.replicate (2 - (lg_sl ([.ref (ad G 1), .int x1])).length) Slot.unset).toArray = ls at hl ⊢
  have hl : lv_has ls 2 [(0, .ref (ad G 1)), (1, .int x1)] := hl
  refine w_Tape_signAt_0 S hE hA (Nat.le_refl _) (Nat.le_refl _) ?_ x1 z0 hB _ _ _ hP hD hS hl
  intro pc ls r σ H locs hd hp hP hD hS
  exact W.iret (v := r) B.exec B.bytes B.returns (fun t ht hW => ⟨⟨r, σ, rfl, hp, by rw [ht]; exact hP, hD⟩, hS.F ht⟩) hS.2.2 hd
def S_Reader_isDigit (post : Int32 → St → Prop) (x0 : Int32) (z0 : St) : Prop :=
  ((x0 < (48 : Int32) → (post (0 : Int32) z0)) ∧ (¬ x0 < (48 : Int32) → (((57 : Int32) < x0 → (post (0 : Int32) z0)) ∧ (¬ (57 : Int32) < x0 → (post (1 : Int32) z0)))))
set_option maxHeartbeats 4000000 in
set_option maxRecDepth 100000 in
theorem w_Reader_isDigit_0 {p : Program} {l : Launch} {e : Env} {R : Room} {s : State} {m : MethodId} {args : Array Value} {below : List Frame} {meth : Method} {c : Code} {Q : State → Prop} {G : GX} {A : Nat → Prop} (S : CallFix p m c cX5_isDigit 1 s args GW RX5) (hE : env G A s s.heap) (hA : ∀ q, s.heap.size ≤ q → A q) (hRf : 0 ≤ R.frames) (hRl : 0 ≤ R.locals) {post : Int32 → St → Prop} (hret : RetZ p l e R s m args below meth c Q 0 0 wX G A cX5_isDigit post) (x0 : Int32) (z0 : St) (hB : S_Reader_isDigit post x0 z0) : Xw p l e R s m args below meth c Q 0 0 wX G A z0 1 [(0, .int x0)] 0 [] := by
  intro H locs ls hP hD hS hl
  have hx := S.1
  have hb := S.2.1
  refine lv_iload_n hx hb dX5_isDigit_0 rfl (lv_at hl 0 rfl) ?_
  refine lv_bipush (v := 48) hx hb dX5_isDigit_1 (by decide) ?_
  refine lv_icmp_lt (tgt := 16) hx hb dX5_isDigit_3 (by decide) (fun c1 => ?_) (fun c1 => ?_)
  · have hB := hB.1 c1
    refine lv_iconst (v := 0) hx hb dX5_isDigit_16 (by decide) ?_
    exact hret _ _ _ _ _ _ dX5_isDigit_17 ⟨by decide, hB⟩ hP hD hS
  · have hB := hB.2 c1
    refine lv_iload_n hx hb dX5_isDigit_6 rfl (lv_at hl 0 rfl) ?_
    refine lv_bipush (v := 57) hx hb dX5_isDigit_7 (by decide) ?_
    refine lv_icmp_gt (tgt := 16) hx hb dX5_isDigit_9 (by decide) (fun c2 => ?_) (fun c2 => ?_)
    · have hB := hB.1 c2
      refine lv_iconst (v := 0) hx hb dX5_isDigit_16 (by decide) ?_
      exact hret _ _ _ _ _ _ dX5_isDigit_17 ⟨by decide, hB⟩ hP hD hS
    · have hB := hB.2 c2
      refine lv_iconst (v := 1) hx hb dX5_isDigit_12 (by decide) ?_
      refine lv_goto (tgt := 17) hx hb dX5_isDigit_13 (by decide) ?_
      exact hret _ _ _ _ _ _ dX5_isDigit_17 ⟨by decide, hB⟩ hP hD hS
set_option maxHeartbeats 4000000 in
set_option maxRecDepth 100000 in
theorem c_Reader_isDigit (l : Launch) (G : GX) (z0 : St) (sz : Nat) (x0 : Int32) (post : Int32 → St → Prop) : MetI l wX yX5_isDigit cX5_isDigit 1 (some .boolean) ({ frames := 0, cells := 0, slots := 0, locals := 0 }) [.int x0] G z0 sz (S_Reader_isDigit post x0 z0) post := by
  refine Met.ofW (cc := cX5_isDigit) (maxL := 1) (ret := (some .boolean)) (by decide) rfl ?_
  intro p e s m args below meth c s₁ B hml hv
  obtain ⟨rfl, hsz, hP, hD0, hE, hB⟩ := hv
  have S : CallFix p m c cX5_isDigit 1 s _ GW RX5 := ⟨B.exec, B.bytes, hml, findClass_of_methodNamed B.named, fun w h => atoms_spec (ws := Cond.code yX5_isDigit cX5_isDigit 1 (some .boolean) :: GW) B.pre w (List.mem_cons_of_mem _ h)⟩
  have hlocks := B.notSynchronized
  subst hsz
  have hD := hD0.self (sz := s.heap.size)
  generalize hAe : va_A (wX G z0) s.heap.size = A at hD hE ⊢
  have hA : ∀ q : Nat, s.heap.size ≤ q → A q := fun q h => by rw [← hAe]; exact Or.inr h
  have hS : va_S A s.heap s.heap [] := va_S.rf
  have hl := lv_entry ([.int x0]) (n := 1) (Nat.le_of_ble_eq_true rfl)
  rw [lg_entry_eq]
  generalize (lg_sl ([.int x0]) ++ List.replicate (1 - (lg_sl ([.int x0])).length) Slot.unset).toArray = ls at hl ⊢
  have hl : lv_has ls 1 [(0, .int x0)] := hl
  refine w_Reader_isDigit_0 S hE hA (Nat.le_refl _) (Nat.le_refl _) ?_ x0 z0 hB _ _ _ hP hD hS hl
  intro pc ls r σ H locs hd hp hP hD hS
  exact W.zret (v := r) B.exec B.bytes B.returns (xboolc r hp.1) (fun t ht hW => ⟨⟨r, σ, rfl, hp.2, by rw [ht]; exact hP, hD⟩, hS.F ht⟩) hS.2.2 hd
def S_String_isLatin1_aae02_X (post : Int32 → St → Prop) (x0 : Nat) (z0 : St) : Prop :=
  (((1 : Int32) = 0 → (post (0 : Int32) z0)) ∧ (¬ (1 : Int32) = 0 → (x0 < 8 ∧ (((0 : Int32) = 0 → (post (1 : Int32) z0)) ∧ (¬ (0 : Int32) = 0 → (post (0 : Int32) z0))))))
set_option maxHeartbeats 4000000 in
set_option maxRecDepth 100000 in
theorem w_String_isLatin1_aae02_X_0 {p : Program} {l : Launch} {e : Env} {R : Room} {s : State} {m : MethodId} {args : Array Value} {below : List Frame} {meth : Method} {c : Code} {Q : State → Prop} {G : GX} {A : Nat → Prop} (S : CallFix p m c cJ0_isLatin1_aae02 1 s args GW RJ0) (hE : env G A s s.heap) (hA : ∀ q, s.heap.size ≤ q → A q) (hRf : 0 ≤ R.frames) (hRl : 0 ≤ R.locals) {post : Int32 → St → Prop} (hret : RetZ p l e R s m args below meth c Q 0 0 wX G A cJ0_isLatin1_aae02 post) (x0 : Nat) (z0 : St) (hB : S_String_isLatin1_aae02_X post x0 z0) : Xw p l e R s m args below meth c Q 0 0 wX G A z0 1 [(0, .ref (tx G x0))] 0 [] := by
  intro H locs ls hP hD hS hl
  have hx := S.1
  have hb := S.2.1
  refine va_gets hx hb (ez_J0_COMPACT_STRINGS hE.2) hS S.2.2.2.1 (S.2.2.2.2 _ lk_J0_38) (fun _ h9 => h9) dJ0_isLatin1_aae02_0 ?_
  refine lv_if_eq (tgt := 17) hx hb dJ0_isLatin1_aae02_3 (by decide) (fun c1 => ?_) (fun c1 => ?_)
  · have hB := hB.1 c1
    refine lv_iconst (v := 0) hx hb dJ0_isLatin1_aae02_17 (by decide) ?_
    exact hret _ _ _ _ _ _ dJ0_isLatin1_aae02_18 ⟨by decide, hB⟩ hP hD hS
  · have hB := hB.2 c1
    refine lv_aload_n hx hb dJ0_isLatin1_aae02_6 rfl (lv_at hl 0 rfl) ?_
    obtain ⟨hk9, hB⟩ := hB
    refine vk_getf hx hb ((eS hE.2).1 _ hk9).2.1 hS S.2.2.2.1 (S.2.2.2.2 _ lk_J0_15) (fun _ h9 => h9) dJ0_isLatin1_aae02_7 ?_
    refine lv_if_ne (tgt := 17) hx hb dJ0_isLatin1_aae02_10 (by decide) (fun c2 => ?_) (fun c2 => ?_)
    · have hB := hB.2 c2
      refine lv_iconst (v := 0) hx hb dJ0_isLatin1_aae02_17 (by decide) ?_
      exact hret _ _ _ _ _ _ dJ0_isLatin1_aae02_18 ⟨by decide, hB⟩ hP hD hS
    · have hB := hB.1 c2
      refine lv_iconst (v := 1) hx hb dJ0_isLatin1_aae02_13 (by decide) ?_
      refine lv_goto (tgt := 18) hx hb dJ0_isLatin1_aae02_14 (by decide) ?_
      exact hret _ _ _ _ _ _ dJ0_isLatin1_aae02_18 ⟨by decide, hB⟩ hP hD hS
set_option maxHeartbeats 4000000 in
set_option maxRecDepth 100000 in
theorem c_String_isLatin1_aae02_X (l : Launch) (G : GX) (z0 : St) (sz : Nat) (x0 : Nat) (post : Int32 → St → Prop) : MetI l wX yJ0_isLatin1_aae02 cJ0_isLatin1_aae02 1 (some .boolean) ({ frames := 0, cells := 0, slots := 0, locals := 0 }) [.ref (tx G x0)] G z0 sz (S_String_isLatin1_aae02_X post x0 z0) post := by
  refine Met.ofW (cc := cJ0_isLatin1_aae02) (maxL := 1) (ret := (some .boolean)) (by decide) rfl ?_
  intro p e s m args below meth c s₁ B hml hv
  obtain ⟨rfl, hsz, hP, hD0, hE, hB⟩ := hv
  have S : CallFix p m c cJ0_isLatin1_aae02 1 s _ GW RJ0 := ⟨B.exec, B.bytes, hml, findClass_of_methodNamed B.named, fun w h => atoms_spec (ws := Cond.code yJ0_isLatin1_aae02 cJ0_isLatin1_aae02 1 (some .boolean) :: GW) B.pre w (List.mem_cons_of_mem _ h)⟩
  have hlocks := B.notSynchronized
  subst hsz
  have hD := hD0.self (sz := s.heap.size)
  generalize hAe : va_A (wX G z0) s.heap.size = A at hD hE ⊢
  have hA : ∀ q : Nat, s.heap.size ≤ q → A q := fun q h => by rw [← hAe]; exact Or.inr h
  have hS : va_S A s.heap s.heap [] := va_S.rf
  have hl := lv_entry ([.ref (tx G x0)]) (n := 1) (Nat.le_of_ble_eq_true rfl)
  rw [lg_entry_eq]
  generalize (lg_sl ([.ref (tx G x0)]) ++ List.replicate (1 - (lg_sl ([.ref (tx G x0)])).length) Slot.unset).toArray = ls at hl ⊢
  have hl : lv_has ls 1 [(0, .ref (tx G x0))] := hl
  refine w_String_isLatin1_aae02_X_0 S hE hA (Nat.le_refl _) (Nat.le_refl _) ?_ x0 z0 hB _ _ _ hP hD hS hl
  intro pc ls r σ H locs hd hp hP hD hS
  exact W.zret (v := r) B.exec B.bytes B.returns (xboolc r hp.1) (fun t ht hW => ⟨⟨r, σ, rfl, hp.2, by rw [ht]; exact hP, hD⟩, hS.F ht⟩) hS.2.2 hd
def S_StringLatin1_canEncode_9a6ad_X (post : Int32 → St → Prop) (x0 : Int32) (z0 : St) : Prop :=
  ((x0 < 0 → (post (0 : Int32) z0)) ∧ (¬ x0 < 0 → (((255 : Int32) < x0 → (post (0 : Int32) z0)) ∧ (¬ (255 : Int32) < x0 → (post (1 : Int32) z0)))))
set_option maxHeartbeats 4000000 in
set_option maxRecDepth 100000 in
theorem w_StringLatin1_canEncode_9a6ad_X_0 {p : Program} {l : Launch} {e : Env} {R : Room} {s : State} {m : MethodId} {args : Array Value} {below : List Frame} {meth : Method} {c : Code} {Q : State → Prop} {G : GX} {A : Nat → Prop} (S : CallFix p m c cJ1_canEncode_9a6ad 1 s args GW RJ1) (hE : env G A s s.heap) (hA : ∀ q, s.heap.size ≤ q → A q) (hRf : 0 ≤ R.frames) (hRl : 0 ≤ R.locals) {post : Int32 → St → Prop} (hret : RetZ p l e R s m args below meth c Q 0 0 wX G A cJ1_canEncode_9a6ad post) (x0 : Int32) (z0 : St) (hB : S_StringLatin1_canEncode_9a6ad_X post x0 z0) : Xw p l e R s m args below meth c Q 0 0 wX G A z0 1 [(0, .int x0)] 0 [] := by
  intro H locs ls hP hD hS hl
  have hx := S.1
  have hb := S.2.1
  refine lv_iload_n hx hb dJ1_canEncode_9a6ad_0 rfl (lv_at hl 0 rfl) ?_
  refine lv_if_lt (tgt := 15) hx hb dJ1_canEncode_9a6ad_1 (by decide) (fun c1 => ?_) (fun c1 => ?_)
  · have hB := hB.1 c1
    refine lv_iconst (v := 0) hx hb dJ1_canEncode_9a6ad_15 (by decide) ?_
    exact hret _ _ _ _ _ _ dJ1_canEncode_9a6ad_16 ⟨by decide, hB⟩ hP hD hS
  · have hB := hB.2 c1
    refine lv_iload_n hx hb dJ1_canEncode_9a6ad_4 rfl (lv_at hl 0 rfl) ?_
    refine lv_sipush (v := 255) hx hb dJ1_canEncode_9a6ad_5 (by decide) ?_
    refine lv_icmp_gt (tgt := 15) hx hb dJ1_canEncode_9a6ad_8 (by decide) (fun c2 => ?_) (fun c2 => ?_)
    · have hB := hB.1 c2
      refine lv_iconst (v := 0) hx hb dJ1_canEncode_9a6ad_15 (by decide) ?_
      exact hret _ _ _ _ _ _ dJ1_canEncode_9a6ad_16 ⟨by decide, hB⟩ hP hD hS
    · have hB := hB.2 c2
      refine lv_iconst (v := 1) hx hb dJ1_canEncode_9a6ad_11 (by decide) ?_
      refine lv_goto (tgt := 16) hx hb dJ1_canEncode_9a6ad_12 (by decide) ?_
      exact hret _ _ _ _ _ _ dJ1_canEncode_9a6ad_16 ⟨by decide, hB⟩ hP hD hS
set_option maxHeartbeats 4000000 in
set_option maxRecDepth 100000 in
theorem c_StringLatin1_canEncode_9a6ad_X (l : Launch) (G : GX) (z0 : St) (sz : Nat) (x0 : Int32) (post : Int32 → St → Prop) : MetI l wX yJ1_canEncode_9a6ad cJ1_canEncode_9a6ad 1 (some .boolean) ({ frames := 0, cells := 0, slots := 0, locals := 0 }) [.int x0] G z0 sz (S_StringLatin1_canEncode_9a6ad_X post x0 z0) post := by
  refine Met.ofW (cc := cJ1_canEncode_9a6ad) (maxL := 1) (ret := (some .boolean)) (by decide) rfl ?_
  intro p e s m args below meth c s₁ B hml hv
  obtain ⟨rfl, hsz, hP, hD0, hE, hB⟩ := hv
  have S : CallFix p m c cJ1_canEncode_9a6ad 1 s _ GW RJ1 := ⟨B.exec, B.bytes, hml, findClass_of_methodNamed B.named, fun w h => atoms_spec (ws := Cond.code yJ1_canEncode_9a6ad cJ1_canEncode_9a6ad 1 (some .boolean) :: GW) B.pre w (List.mem_cons_of_mem _ h)⟩
  have hlocks := B.notSynchronized
  subst hsz
  have hD := hD0.self (sz := s.heap.size)
  generalize hAe : va_A (wX G z0) s.heap.size = A at hD hE ⊢
  have hA : ∀ q : Nat, s.heap.size ≤ q → A q := fun q h => by rw [← hAe]; exact Or.inr h
  have hS : va_S A s.heap s.heap [] := va_S.rf
  have hl := lv_entry ([.int x0]) (n := 1) (Nat.le_of_ble_eq_true rfl)
  rw [lg_entry_eq]
  generalize (lg_sl ([.int x0]) ++ List.replicate (1 - (lg_sl ([.int x0])).length) Slot.unset).toArray = ls at hl ⊢
  have hl : lv_has ls 1 [(0, .int x0)] := hl
  refine w_StringLatin1_canEncode_9a6ad_X_0 S hE hA (Nat.le_refl _) (Nat.le_refl _) ?_ x0 z0 hB _ _ _ hP hD hS hl
  intro pc ls r σ H locs hd hp hP hD hS
  exact W.zret (v := r) B.exec B.bytes B.returns (xboolc r hp.1) (fun t ht hW => ⟨⟨r, σ, rfl, hp.2, by rw [ht]; exact hP, hD⟩, hS.F ht⟩) hS.2.2 hd
def B_StringLatin1_indexOfChar_4cfef_X_7 (post : Int32 → St → Prop) (ih7 : Nat → Int32 → Int32 → Int32 → St → Prop) (x0 : Nat) (x3 : Int32) (x4 : Int32) (x5 : Int32) (z0 : St) : Prop :=
  ((x3 ≤ x5 → (post (-1 : Int32) z0)) ∧ (¬ x3 ≤ x5 → (x0 < 8 ∧ vp_in x5 (slen.getD x0 0) ∧ ((((sbyt.getD x0 []).getD x5.toNatClampNeg 0) = x4 → (post x5 z0)) ∧ (¬ ((sbyt.getD x0 []).getD x5.toNatClampNeg 0) = x4 → (∀ v3 : Int32, v3 = x5 + (1 : Int32) → (ih7 x0 x3 x4 v3 z0)))))))
set_option maxHeartbeats 4000000 in
set_option maxRecDepth 100000 in
theorem w_StringLatin1_indexOfChar_4cfef_X_7 {p : Program} {l : Launch} {e : Env} {R : Room} {s : State} {m : MethodId} {args : Array Value} {below : List Frame} {meth : Method} {c : Code} {Q : State → Prop} {G : GX} {A : Nat → Prop} (S : CallFix p m c cJ1_indexOfChar_4cfef 6 s args GW RJ1) (hE : env G A s s.heap) (hA : ∀ q, s.heap.size ≤ q → A q) (hRf : 0 ≤ R.frames) (hRl : 0 ≤ R.locals) {post : Int32 → St → Prop} (hret : RetI p l e R s m args below meth c Q 0 0 wX G A cJ1_indexOfChar_4cfef post) {ih7 : Nat → Int32 → Int32 → Int32 → St → Prop} (h7 : ∀ (x0 : Nat) (x3 : Int32) (x4 : Int32) (x5 : Int32) (z0 : St), ih7 x0 x3 x4 x5 z0 → Xw p l e R s m args below meth c Q 0 0 wX G A z0 6 [(0, .ref (tv G x0)), (3, .int x3), (4, .int x4), (5, .int x5)] 7 []) (x0 : Nat) (x3 : Int32) (x4 : Int32) (x5 : Int32) (z0 : St) (hB : B_StringLatin1_indexOfChar_4cfef_X_7 post ih7 x0 x3 x4 x5 z0) : Xw p l e R s m args below meth c Q 0 0 wX G A z0 6 [(0, .ref (tv G x0)), (3, .int x3), (4, .int x4), (5, .int x5)] 7 [] := by
  intro H locs ls hP hD hS hl
  have hx := S.1
  have hb := S.2.1
  refine lv_iload hx hb dJ1_indexOfChar_4cfef_7 (lv_at hl 3 rfl) ?_
  refine lv_iload_n hx hb dJ1_indexOfChar_4cfef_9 rfl (lv_at hl 1 rfl) ?_
  refine lv_icmp_ge (tgt := 31) hx hb dJ1_indexOfChar_4cfef_10 (by decide) (fun c1 => ?_) (fun c1 => ?_)
  · have hB := hB.1 c1
    refine lv_iconst (v := -1) hx hb dJ1_indexOfChar_4cfef_31 (by decide) ?_
    exact hret _ _ _ _ _ _ dJ1_indexOfChar_4cfef_32 hB hP hD hS
  · have hB := hB.2 c1
    refine lv_aload_n hx hb dJ1_indexOfChar_4cfef_13 rfl (lv_at hl 0 rfl) ?_
    refine lv_iload hx hb dJ1_indexOfChar_4cfef_14 (lv_at hl 3 rfl) ?_
    obtain ⟨hk9, hi, hB⟩ := hB
    refine va_tb hx hb ((eS hE.2).1 _ hk9).2.2.2 hS hi rfl dJ1_indexOfChar_4cfef_16 ?_
    refine lv_iload hx hb dJ1_indexOfChar_4cfef_17 (lv_at hl 2 rfl) ?_
    refine lv_icmp_ne (tgt := 25) hx hb dJ1_indexOfChar_4cfef_19 (by decide) (fun c2 => ?_) (fun c2 => ?_)
    · have hB := hB.2 c2
      obtain ⟨v3, ev3⟩ : ∃ y9, y9 = x5 + (1 : Int32) := ⟨_, rfl⟩
      have hB := hB v3 ev3
      refine lv_iinc (v := v3) (lv' := [(5, .int v3), (0, .ref (tv G x0)), (3, .int x3), (4, .int x4)]) hx hb dJ1_indexOfChar_4cfef_25 hl (k := 3) rfl (by rw [ev3]; rfl) (by decide) rfl (fun ls hl => ?_)
      refine lv_goto (tgt := 7) hx hb dJ1_indexOfChar_4cfef_28 (by decide) ?_
      exact h7 x0 x3 x4 v3 z0 hB _ _ _ hP hD hS (lv_sub hl [1, 2, 3, 0] rfl)
    · have hB := hB.1 c2
      refine lv_iload hx hb dJ1_indexOfChar_4cfef_22 (lv_at hl 3 rfl) ?_
      exact hret _ _ _ _ _ _ dJ1_indexOfChar_4cfef_24 hB hP hD hS
def L_StringLatin1_indexOfChar_4cfef_X_7 (post : Int32 → St → Prop) : Nat → Nat → Int32 → Int32 → Int32 → St → Prop
  | 0 => fun _ _ _ _ _ => False
  | n + 1 => B_StringLatin1_indexOfChar_4cfef_X_7 post (L_StringLatin1_indexOfChar_4cfef_X_7 post n)
theorem wl_StringLatin1_indexOfChar_4cfef_X_7 {p : Program} {l : Launch} {e : Env} {R : Room} {s : State} {m : MethodId} {args : Array Value} {below : List Frame} {meth : Method} {c : Code} {Q : State → Prop} {G : GX} {A : Nat → Prop} (S : CallFix p m c cJ1_indexOfChar_4cfef 6 s args GW RJ1) (hE : env G A s s.heap) (hA : ∀ q, s.heap.size ≤ q → A q) (hRf : 0 ≤ R.frames) (hRl : 0 ≤ R.locals) {post : Int32 → St → Prop} (hret : RetI p l e R s m args below meth c Q 0 0 wX G A cJ1_indexOfChar_4cfef post) : ∀ (n : Nat) (x0 : Nat) (x3 : Int32) (x4 : Int32) (x5 : Int32) (z0 : St), L_StringLatin1_indexOfChar_4cfef_X_7 post n x0 x3 x4 x5 z0 → Xw p l e R s m args below meth c Q 0 0 wX G A z0 6 [(0, .ref (tv G x0)), (3, .int x3), (4, .int x4), (5, .int x5)] 7 [] := by
  intro n
  induction n with
  | zero => intro x0 x3 x4 x5 z0 hB; exact absurd hB id
  | succ n ih => exact fun x0 x3 x4 x5 z0 hB => w_StringLatin1_indexOfChar_4cfef_X_7 S hE hA hRf hRl hret ih x0 x3 x4 x5 z0 hB
def S_StringLatin1_indexOfChar_4cfef_X (post : Int32 → St → Prop) (x0 : Nat) (x1 : Int32) (x2 : Int32) (x3 : Int32) (z0 : St) : Prop :=
  (∀ v1 : Int32, v1 = (x1).toInt8.toInt32 → (∃ n2, L_StringLatin1_indexOfChar_4cfef_X_7 post n2 x0 x3 v1 x2 z0))
set_option maxHeartbeats 4000000 in
set_option maxRecDepth 100000 in
theorem w_StringLatin1_indexOfChar_4cfef_X_0 {p : Program} {l : Launch} {e : Env} {R : Room} {s : State} {m : MethodId} {args : Array Value} {below : List Frame} {meth : Method} {c : Code} {Q : State → Prop} {G : GX} {A : Nat → Prop} (S : CallFix p m c cJ1_indexOfChar_4cfef 6 s args GW RJ1) (hE : env G A s s.heap) (hA : ∀ q, s.heap.size ≤ q → A q) (hRf : 0 ≤ R.frames) (hRl : 0 ≤ R.locals) {post : Int32 → St → Prop} (hret : RetI p l e R s m args below meth c Q 0 0 wX G A cJ1_indexOfChar_4cfef post) (x0 : Nat) (x1 : Int32) (x2 : Int32) (x3 : Int32) (z0 : St) (hB : S_StringLatin1_indexOfChar_4cfef_X post x0 x1 x2 x3 z0) : Xw p l e R s m args below meth c Q 0 0 wX G A z0 6 [(0, .ref (tv G x0)), (1, .int x1), (2, .int x2), (3, .int x3)] 0 [] := by
  intro H locs ls hP hD hS hl
  have hx := S.1
  have hb := S.2.1
  refine lv_iload_n hx hb dJ1_indexOfChar_4cfef_0 rfl (lv_at hl 1 rfl) ?_
  refine lv_i2b hx hb dJ1_indexOfChar_4cfef_1 rfl ?_
  refine lv_topi (fun v1 ev1 => ?_)
  have hB := hB v1 ev1
  refine lv_istore (lv' := [(4, .int v1), (0, .ref (tv G x0)), (1, .int x1), (2, .int x2), (3, .int x3)]) hx hb dJ1_indexOfChar_4cfef_2 hl (by decide) rfl (fun ls hl => ?_)
  refine lv_iload_n hx hb dJ1_indexOfChar_4cfef_4 rfl (lv_at hl 3 rfl) ?_
  refine lv_istore (lv' := [(5, .int x2), (4, .int v1), (0, .ref (tv G x0)), (1, .int x1), (2, .int x2), (3, .int x3)]) hx hb dJ1_indexOfChar_4cfef_5 hl (by decide) rfl (fun ls hl => ?_)
  obtain ⟨n2, hB⟩ := hB
  exact wl_StringLatin1_indexOfChar_4cfef_X_7 S hE hA hRf hRl hret n2 x0 x3 v1 x2 z0 hB _ _ _ hP hD hS (lv_sub hl [2, 5, 1, 0] rfl)
set_option maxHeartbeats 4000000 in
set_option maxRecDepth 100000 in
theorem c_StringLatin1_indexOfChar_4cfef_X (l : Launch) (G : GX) (z0 : St) (sz : Nat) (x0 : Nat) (x1 : Int32) (x2 : Int32) (x3 : Int32) (post : Int32 → St → Prop) : MetI l wX yJ1_indexOfChar_4cfef cJ1_indexOfChar_4cfef 6 (some .int) ({ frames := 0, cells := 0, slots := 0, locals := 0 }) [.ref (tv G x0), .int x1, .int x2, .int x3] G z0 sz (S_StringLatin1_indexOfChar_4cfef_X post x0 x1 x2 x3 z0) post := by
  refine Met.ofW (cc := cJ1_indexOfChar_4cfef) (maxL := 6) (ret := (some .int)) (by decide) rfl ?_
  intro p e s m args below meth c s₁ B hml hv
  obtain ⟨rfl, hsz, hP, hD0, hE, hB⟩ := hv
  have S : CallFix p m c cJ1_indexOfChar_4cfef 6 s _ GW RJ1 := ⟨B.exec, B.bytes, hml, findClass_of_methodNamed B.named, fun w h => atoms_spec (ws := Cond.code yJ1_indexOfChar_4cfef cJ1_indexOfChar_4cfef 6 (some .int) :: GW) B.pre w (List.mem_cons_of_mem _ h)⟩
  have hlocks := B.notSynchronized
  subst hsz
  have hD := hD0.self (sz := s.heap.size)
  generalize hAe : va_A (wX G z0) s.heap.size = A at hD hE ⊢
  have hA : ∀ q : Nat, s.heap.size ≤ q → A q := fun q h => by rw [← hAe]; exact Or.inr h
  have hS : va_S A s.heap s.heap [] := va_S.rf
  have hl := lv_entry ([.ref (tv G x0), .int x1, .int x2, .int x3]) (n := 6) (Nat.le_of_ble_eq_true rfl)
  rw [lg_entry_eq]
  generalize (lg_sl ([.ref (tv G x0), .int x1, .int x2, .int x3]) ++ List.replicate (6 - (lg_sl ([.ref (tv G x0), .int x1, .int x2, .int x3])).length) Slot.unset).toArray = ls at hl ⊢
  have hl : lv_has ls 6 [(0, .ref (tv G x0)), (1, .int x1), (2, .int x2), (3, .int x3)] := hl
  refine w_StringLatin1_indexOfChar_4cfef_X_0 S hE hA (Nat.le_refl _) (Nat.le_refl _) ?_ x0 x1 x2 x3 z0 hB _ _ _ hP hD hS hl
  intro pc ls r σ H locs hd hp hP hD hS
  exact W.iret (v := r) B.exec B.bytes B.returns (fun t ht hW => ⟨⟨r, σ, rfl, hp, by rw [ht]; exact hP, hD⟩, hS.F ht⟩) hS.2.2 hd
def S_StringLatin1_indexOf_4cfef_X (post : Int32 → St → Prop) (x0 : Nat) (x1 : Int32) (x2 : Int32) (x3 : Int32) (z0 : St) : Prop :=
  (S_StringLatin1_canEncode_9a6ad_X (fun (r1 : Int32) (z1 : St) => ((r1 = 0 → (post (-1 : Int32) z1)) ∧ (¬ r1 = 0 → (S_Math_max_7cf53_X (fun (r3 : Int32) (z2 : St) => (x0 < 8 ∧ (S_Math_min_7cf53_X (fun (r4 : Int32) (z3 : St) => ((r3 < r4 → (S_StringLatin1_indexOfChar_4cfef_X (fun (r6 : Int32) (z4 : St) => (post r6 z4)) x0 x1 r3 r4 z3)) ∧ (¬ r3 < r4 → (post (-1 : Int32) z3)))) x3 (Int32.ofNat (slen.getD x0 0)) z2))) x2 (0 : Int32) z1)))) x1 z0)
set_option maxHeartbeats 4000000 in
set_option maxRecDepth 100000 in
theorem w_StringLatin1_indexOf_4cfef_X_0 {p : Program} {l : Launch} {e : Env} {R : Room} {s : State} {m : MethodId} {args : Array Value} {below : List Frame} {meth : Method} {c : Code} {Q : State → Prop} {G : GX} {A : Nat → Prop} (S : CallFix p m c cJ1_indexOf_4cfef 4 s args GW RJ1) (hE : env G A s s.heap) (hA : ∀ q, s.heap.size ≤ q → A q) (hRf : 1 ≤ R.frames) (hRl : 25 ≤ R.locals) {post : Int32 → St → Prop} (hret : RetI p l e R s m args below meth c Q 0 0 wX G A cJ1_indexOf_4cfef post) (x0 : Nat) (x1 : Int32) (x2 : Int32) (x3 : Int32) (z0 : St) (hB : S_StringLatin1_indexOf_4cfef_X post x0 x1 x2 x3 z0) : Xw p l e R s m args below meth c Q 0 0 wX G A z0 4 [(0, .ref (tv G x0)), (1, .int x1), (2, .int x2), (3, .int x3)] 0 [] := by
  intro H locs ls hP hD hS hl
  have hx := S.1
  have hb := S.2.1
  refine lv_iload_n hx hb dJ1_indexOf_4cfef_0 rfl (lv_at hl 1 rfl) ?_
  refine xcSi [.int x1] S hE hA hP hD hS (c_StringLatin1_canEncode_9a6ad_X l G z0 H.size x1 _) hB (gw_c lk_J1_88 (gw_c wt_J1_canEncode_9a6ad (gw_c wn_J1 (gw_c wc_J1_canEncode_9a6ad (fun _ h9 => h9))))) hs_J1_canEncode_9a6ad rfl rfl (Nat.le_trans (Nat.le_of_ble_eq_true rfl) hRf) (Nat.le_trans (Nat.le_of_ble_eq_true rfl) hRl) ⟨Nat.zero_le _, Nat.zero_le _⟩ rfl hl.1 rfl (Nat.le_of_ble_eq_true rfl) dJ1_indexOf_4cfef_1 (fun r1 z1 H locs hB hP hD hS => ?_)
  refine lv_if_ne (tgt := 9) hx hb dJ1_indexOf_4cfef_4 (by decide) (fun c2 => ?_) (fun c2 => ?_)
  · have hB := hB.2 c2
    refine lv_iload_n hx hb dJ1_indexOf_4cfef_9 rfl (lv_at hl 2 rfl) ?_
    refine lv_iconst (v := 0) hx hb dJ1_indexOf_4cfef_10 (by decide) ?_
    refine xcSi [.int x2, .int (0 : Int32)] S hE hA hP hD hS (c_Math_max_7cf53_X l G z1 H.size x2 (0 : Int32) _) hB (gw_c lk_J1_92 (gw_c wt_J9_max_7cf53 (gw_c wn_J9 (gw_c wc_J9_max_7cf53 (fun _ h9 => h9))))) hs_J9_max_7cf53 rfl rfl (Nat.le_trans (Nat.le_of_ble_eq_true rfl) hRf) (Nat.le_trans (Nat.le_of_ble_eq_true rfl) hRl) ⟨Nat.zero_le _, Nat.zero_le _⟩ rfl hl.1 rfl (Nat.le_of_ble_eq_true rfl) dJ1_indexOf_4cfef_11 (fun r3 z2 H locs hB hP hD hS => ?_)
    refine lv_istore_n (lv' := [(2, .int r3), (0, .ref (tv G x0)), (1, .int x1), (3, .int x3)]) hx hb dJ1_indexOf_4cfef_14 rfl hl (by decide) rfl (fun ls hl => ?_)
    refine lv_iload_n hx hb dJ1_indexOf_4cfef_15 rfl (lv_at hl 3 rfl) ?_
    refine lv_aload_n hx hb dJ1_indexOf_4cfef_16 rfl (lv_at hl 1 rfl) ?_
    obtain ⟨hk9, hB⟩ := hB
    refine va_tlen hx hb ((eS hE.2).1 _ hk9).2.2.2 hS rfl dJ1_indexOf_4cfef_17 ?_
    refine xcSi [.int x3, .int (Int32.ofNat (slen.getD x0 0))] S hE hA hP hD hS (c_Math_min_7cf53_X l G z2 H.size x3 (Int32.ofNat (slen.getD x0 0)) _) hB (gw_c lk_J1_38 (gw_c wt_J9_min_7cf53 (gw_c wn_J9 (gw_c wc_J9_min_7cf53 (fun _ h9 => h9))))) hs_J9_min_7cf53 rfl rfl (Nat.le_trans (Nat.le_of_ble_eq_true rfl) hRf) (Nat.le_trans (Nat.le_of_ble_eq_true rfl) hRl) ⟨Nat.zero_le _, Nat.zero_le _⟩ rfl hl.1 rfl (Nat.le_of_ble_eq_true rfl) dJ1_indexOf_4cfef_18 (fun r4 z3 H locs hB hP hD hS => ?_)
    refine lv_istore_n (lv' := [(3, .int r4), (2, .int r3), (0, .ref (tv G x0)), (1, .int x1)]) hx hb dJ1_indexOf_4cfef_21 rfl hl (by decide) rfl (fun ls hl => ?_)
    refine lv_iload_n hx hb dJ1_indexOf_4cfef_22 rfl (lv_at hl 1 rfl) ?_
    refine lv_iload_n hx hb dJ1_indexOf_4cfef_23 rfl (lv_at hl 0 rfl) ?_
    refine lv_icmp_lt (tgt := 29) hx hb dJ1_indexOf_4cfef_24 (by decide) (fun c5 => ?_) (fun c5 => ?_)
    · have hB := hB.1 c5
      refine lv_aload_n hx hb dJ1_indexOf_4cfef_29 rfl (lv_at hl 2 rfl) ?_
      refine lv_iload_n hx hb dJ1_indexOf_4cfef_30 rfl (lv_at hl 3 rfl) ?_
      refine lv_iload_n hx hb dJ1_indexOf_4cfef_31 rfl (lv_at hl 1 rfl) ?_
      refine lv_iload_n hx hb dJ1_indexOf_4cfef_32 rfl (lv_at hl 0 rfl) ?_
      refine xcSi [.ref (tv G x0), .int x1, .int r3, .int r4] S hE hA hP hD hS (c_StringLatin1_indexOfChar_4cfef_X l G z3 H.size x0 x1 r3 r4 _) hB (gw_c lk_J1_95 (gw_c wt_J1_indexOfChar_4cfef (gw_c wn_J1 (gw_c wc_J1_indexOfChar_4cfef (fun _ h9 => h9))))) hs_J1_indexOfChar_4cfef rfl rfl (Nat.le_trans (Nat.le_of_ble_eq_true rfl) hRf) (Nat.le_trans (Nat.le_of_ble_eq_true rfl) hRl) ⟨Nat.zero_le _, Nat.zero_le _⟩ rfl hl.1 rfl (Nat.le_of_ble_eq_true rfl) dJ1_indexOf_4cfef_33 (fun r6 z4 H locs hB hP hD hS => ?_)
      exact hret _ _ _ _ _ _ dJ1_indexOf_4cfef_36 hB hP hD hS
    · have hB := hB.2 c5
      refine lv_iconst (v := -1) hx hb dJ1_indexOf_4cfef_27 (by decide) ?_
      exact hret _ _ _ _ _ _ dJ1_indexOf_4cfef_28 hB hP hD hS
  · have hB := hB.1 c2
    refine lv_iconst (v := -1) hx hb dJ1_indexOf_4cfef_7 (by decide) ?_
    exact hret _ _ _ _ _ _ dJ1_indexOf_4cfef_8 hB hP hD hS
set_option maxHeartbeats 4000000 in
set_option maxRecDepth 100000 in
theorem c_StringLatin1_indexOf_4cfef_X (l : Launch) (G : GX) (z0 : St) (sz : Nat) (x0 : Nat) (x1 : Int32) (x2 : Int32) (x3 : Int32) (post : Int32 → St → Prop) : MetI l wX yJ1_indexOf_4cfef cJ1_indexOf_4cfef 4 (some .int) ({ frames := 1, cells := 0, slots := 0, locals := 25 }) [.ref (tv G x0), .int x1, .int x2, .int x3] G z0 sz (S_StringLatin1_indexOf_4cfef_X post x0 x1 x2 x3 z0) post := by
  refine Met.ofW (cc := cJ1_indexOf_4cfef) (maxL := 4) (ret := (some .int)) (by decide) rfl ?_
  intro p e s m args below meth c s₁ B hml hv
  obtain ⟨rfl, hsz, hP, hD0, hE, hB⟩ := hv
  have S : CallFix p m c cJ1_indexOf_4cfef 4 s _ GW RJ1 := ⟨B.exec, B.bytes, hml, findClass_of_methodNamed B.named, fun w h => atoms_spec (ws := Cond.code yJ1_indexOf_4cfef cJ1_indexOf_4cfef 4 (some .int) :: GW) B.pre w (List.mem_cons_of_mem _ h)⟩
  have hlocks := B.notSynchronized
  subst hsz
  have hD := hD0.self (sz := s.heap.size)
  generalize hAe : va_A (wX G z0) s.heap.size = A at hD hE ⊢
  have hA : ∀ q : Nat, s.heap.size ≤ q → A q := fun q h => by rw [← hAe]; exact Or.inr h
  have hS : va_S A s.heap s.heap [] := va_S.rf
  have hl := lv_entry ([.ref (tv G x0), .int x1, .int x2, .int x3]) (n := 4) (Nat.le_of_ble_eq_true rfl)
  rw [lg_entry_eq]
  generalize (lg_sl ([.ref (tv G x0), .int x1, .int x2, .int x3]) ++ List.replicate (4 - (lg_sl ([.ref (tv G x0), .int x1, .int x2, .int x3])).length) Slot.unset).toArray = ls at hl ⊢
  have hl : lv_has ls 4 [(0, .ref (tv G x0)), (1, .int x1), (2, .int x2), (3, .int x3)] := hl
  refine w_StringLatin1_indexOf_4cfef_X_0 S hE hA (Nat.le_refl _) (Nat.le_refl _) ?_ x0 x1 x2 x3 z0 hB _ _ _ hP hD hS hl
  intro pc ls r σ H locs hd hp hP hD hS
  exact W.iret (v := r) B.exec B.bytes B.returns (fun t ht hW => ⟨⟨r, σ, rfl, hp, by rw [ht]; exact hP, hD⟩, hS.F ht⟩) hS.2.2 hd
def S_String_indexOf_7cf53_X (post : Int32 → St → Prop) (x0 : Nat) (x1 : Int32) (x2 : Int32) (z0 : St) : Prop :=
  (x0 < 8 ∧ (S_String_isLatin1_aae02_X (fun (r1 : Int32) (z1 : St) => ((r1 = 0 → (x0 < 8 ∧ (x0 < 8 ∧ (S_String_length_8abf5_X (fun (r3 : Int32) (z2 : St) => False) x0 z1)))) ∧ (¬ r1 = 0 → (x0 < 8 ∧ (x0 < 8 ∧ (S_String_length_8abf5_X (fun (r4 : Int32) (z3 : St) => (S_StringLatin1_indexOf_4cfef_X (fun (r5 : Int32) (z4 : St) => (post r5 z4)) x0 x1 x2 r4 z3)) x0 z1)))))) x0 z0))
set_option maxHeartbeats 4000000 in
set_option maxRecDepth 100000 in
theorem w_String_indexOf_7cf53_X_0 {p : Program} {l : Launch} {e : Env} {R : Room} {s : State} {m : MethodId} {args : Array Value} {below : List Frame} {meth : Method} {c : Code} {Q : State → Prop} {G : GX} {A : Nat → Prop} (S : CallFix p m c cJ0_indexOf_7cf53 3 s args GW RJ0) (hE : env G A s s.heap) (hA : ∀ q, s.heap.size ≤ q → A q) (hRf : 2 ≤ R.frames) (hRl : 48 ≤ R.locals) {post : Int32 → St → Prop} (hret : RetI p l e R s m args below meth c Q 0 0 wX G A cJ0_indexOf_7cf53 post) (x0 : Nat) (x1 : Int32) (x2 : Int32) (z0 : St) (hB : S_String_indexOf_7cf53_X post x0 x1 x2 z0) : Xw p l e R s m args below meth c Q 0 0 wX G A z0 3 [(0, .ref (tx G x0)), (1, .int x1), (2, .int x2)] 0 [] := by
  intro H locs ls hP hD hS hl
  have hx := S.1
  have hb := S.2.1
  refine lv_aload_n hx hb dJ0_indexOf_7cf53_0 rfl (lv_at hl 0 rfl) ?_
  obtain ⟨hk9, hB⟩ := hB
  have hrv9 := vk_recv (eS hE.2) hk9 hS
  refine xcVi [] S hE hA hP hD hS (c_String_isLatin1_aae02_X l G z0 H.size x0 _) hB (gw_c lk_J0_492 (gw_c wi_J0_isLatin1_aae02 (gw_c we_J0_J0_isLatin1_aae02_J0_isLatin1_aae02 (gw_c wn_J0 (gw_c wc_J0_isLatin1_aae02 (fun _ h9 => h9)))))) hd_J0_isLatin1_aae02 rfl rfl (Nat.le_trans (Nat.le_of_ble_eq_true rfl) hRf) (Nat.le_trans (Nat.le_of_ble_eq_true rfl) hRl) ⟨Nat.zero_le _, Nat.zero_le _⟩ hrv9 rfl hl.1 rfl (Nat.le_of_ble_eq_true rfl) dJ0_indexOf_7cf53_1 (fun r1 z1 H locs hB hP hD hS => ?_)
  refine lv_if_eq (tgt := 23) hx hb dJ0_indexOf_7cf53_4 (by decide) (fun c2 => ?_) (fun c2 => ?_)
  · have hB := hB.1 c2
    refine lv_aload_n hx hb dJ0_indexOf_7cf53_23 rfl (lv_at hl 0 rfl) ?_
    obtain ⟨hk9, hB⟩ := hB
    refine vk_getf hx hb ((eS hE.2).1 _ hk9).2.2.1 hS S.2.2.2.1 (S.2.2.2.2 _ lk_J0_9) (fun _ h9 => h9) dJ0_indexOf_7cf53_24 ?_
    refine lv_iload_n hx hb dJ0_indexOf_7cf53_27 rfl (lv_at hl 1 rfl) ?_
    refine lv_iload_n hx hb dJ0_indexOf_7cf53_28 rfl (lv_at hl 2 rfl) ?_
    refine lv_aload_n hx hb dJ0_indexOf_7cf53_29 rfl (lv_at hl 0 rfl) ?_
    obtain ⟨hk9, hB⟩ := hB
    have hrv9 := vk_recv (eS hE.2) hk9 hS
    refine xcVi [] S hE hA hP hD hS (c_String_length_8abf5_X l G z1 H.size x0 _) hB (gw_c lk_J0_505 (gw_c wi_J0_length_8abf5 (gw_c we_J0_J0_length_8abf5_J0_length_8abf5 (gw_c wn_J0 (gw_c wc_J0_length_8abf5 (fun _ h9 => h9)))))) hd_J0_length_8abf5 rfl rfl (Nat.le_trans (Nat.le_of_ble_eq_true rfl) hRf) (Nat.le_trans (Nat.le_of_ble_eq_true rfl) hRl) ⟨Nat.zero_le _, Nat.zero_le _⟩ hrv9 rfl hl.1 rfl (Nat.le_of_ble_eq_true rfl) dJ0_indexOf_7cf53_30 (fun r3 z2 H locs hB hP hD hS => ?_)
    exact hB.elim
  · have hB := hB.2 c2
    refine lv_aload_n hx hb dJ0_indexOf_7cf53_7 rfl (lv_at hl 0 rfl) ?_
    obtain ⟨hk9, hB⟩ := hB
    refine vk_getf hx hb ((eS hE.2).1 _ hk9).2.2.1 hS S.2.2.2.1 (S.2.2.2.2 _ lk_J0_9) (fun _ h9 => h9) dJ0_indexOf_7cf53_8 ?_
    refine lv_iload_n hx hb dJ0_indexOf_7cf53_11 rfl (lv_at hl 1 rfl) ?_
    refine lv_iload_n hx hb dJ0_indexOf_7cf53_12 rfl (lv_at hl 2 rfl) ?_
    refine lv_aload_n hx hb dJ0_indexOf_7cf53_13 rfl (lv_at hl 0 rfl) ?_
    obtain ⟨hk9, hB⟩ := hB
    have hrv9 := vk_recv (eS hE.2) hk9 hS
    refine xcVi [] S hE hA hP hD hS (c_String_length_8abf5_X l G z1 H.size x0 _) hB (gw_c lk_J0_505 (gw_c wi_J0_length_8abf5 (gw_c we_J0_J0_length_8abf5_J0_length_8abf5 (gw_c wn_J0 (gw_c wc_J0_length_8abf5 (fun _ h9 => h9)))))) hd_J0_length_8abf5 rfl rfl (Nat.le_trans (Nat.le_of_ble_eq_true rfl) hRf) (Nat.le_trans (Nat.le_of_ble_eq_true rfl) hRl) ⟨Nat.zero_le _, Nat.zero_le _⟩ hrv9 rfl hl.1 rfl (Nat.le_of_ble_eq_true rfl) dJ0_indexOf_7cf53_14 (fun r4 z3 H locs hB hP hD hS => ?_)
    refine xcSi [.ref (tv G x0), .int x1, .int x2, .int r4] S hE hA hP hD hS (c_StringLatin1_indexOf_4cfef_X l G z3 H.size x0 x1 x2 r4 _) hB (gw_c lk_J0_637 (gw_c wt_J1_indexOf_4cfef (gw_c wn_J1 (gw_c wc_J1_indexOf_4cfef (fun _ h9 => h9))))) hs_J1_indexOf_4cfef rfl rfl (Nat.le_trans (Nat.le_of_ble_eq_true rfl) hRf) (Nat.le_trans (Nat.le_of_ble_eq_true rfl) hRl) ⟨Nat.zero_le _, Nat.zero_le _⟩ rfl hl.1 rfl (Nat.le_of_ble_eq_true rfl) dJ0_indexOf_7cf53_17 (fun r5 z4 H locs hB hP hD hS => ?_)
    refine lv_goto (tgt := 36) hx hb dJ0_indexOf_7cf53_20 (by decide) ?_
    exact hret _ _ _ _ _ _ dJ0_indexOf_7cf53_36 hB hP hD hS
set_option maxHeartbeats 4000000 in
set_option maxRecDepth 100000 in
theorem c_String_indexOf_7cf53_X (l : Launch) (G : GX) (z0 : St) (sz : Nat) (x0 : Nat) (x1 : Int32) (x2 : Int32) (post : Int32 → St → Prop) : MetI l wX yJ0_indexOf_7cf53 cJ0_indexOf_7cf53 3 (some .int) ({ frames := 2, cells := 0, slots := 0, locals := 48 }) [.ref (tx G x0), .int x1, .int x2] G z0 sz (S_String_indexOf_7cf53_X post x0 x1 x2 z0) post := by
  refine Met.ofW (cc := cJ0_indexOf_7cf53) (maxL := 3) (ret := (some .int)) (by decide) rfl ?_
  intro p e s m args below meth c s₁ B hml hv
  obtain ⟨rfl, hsz, hP, hD0, hE, hB⟩ := hv
  have S : CallFix p m c cJ0_indexOf_7cf53 3 s _ GW RJ0 := ⟨B.exec, B.bytes, hml, findClass_of_methodNamed B.named, fun w h => atoms_spec (ws := Cond.code yJ0_indexOf_7cf53 cJ0_indexOf_7cf53 3 (some .int) :: GW) B.pre w (List.mem_cons_of_mem _ h)⟩
  have hlocks := B.notSynchronized
  subst hsz
  have hD := hD0.self (sz := s.heap.size)
  generalize hAe : va_A (wX G z0) s.heap.size = A at hD hE ⊢
  have hA : ∀ q : Nat, s.heap.size ≤ q → A q := fun q h => by rw [← hAe]; exact Or.inr h
  have hS : va_S A s.heap s.heap [] := va_S.rf
  have hl := lv_entry ([.ref (tx G x0), .int x1, .int x2]) (n := 3) (Nat.le_of_ble_eq_true rfl)
  rw [lg_entry_eq]
  generalize (lg_sl ([.ref (tx G x0), .int x1, .int x2]) ++ List.replicate (3 - (lg_sl ([.ref (tx G x0), .int x1, .int x2])).length) Slot.unset).toArray = ls at hl ⊢
  have hl : lv_has ls 3 [(0, .ref (tx G x0)), (1, .int x1), (2, .int x2)] := hl
  refine w_String_indexOf_7cf53_X_0 S hE hA (Nat.le_refl _) (Nat.le_refl _) ?_ x0 x1 x2 z0 hB _ _ _ hP hD hS hl
  intro pc ls r σ H locs hd hp hP hD hS
  exact W.iret (v := r) B.exec B.bytes B.returns (fun t ht hW => ⟨⟨r, σ, rfl, hp, by rw [ht]; exact hP, hD⟩, hS.F ht⟩) hS.2.2 hd
def S_String_indexOf_0f7a4_X (post : Int32 → St → Prop) (x0 : Nat) (x1 : Int32) (z0 : St) : Prop :=
  (x0 < 8 ∧ (S_String_indexOf_7cf53_X (fun (r1 : Int32) (z1 : St) => (post r1 z1)) x0 x1 (0 : Int32) z0))
set_option maxHeartbeats 4000000 in
set_option maxRecDepth 100000 in
theorem w_String_indexOf_0f7a4_X_0 {p : Program} {l : Launch} {e : Env} {R : Room} {s : State} {m : MethodId} {args : Array Value} {below : List Frame} {meth : Method} {c : Code} {Q : State → Prop} {G : GX} {A : Nat → Prop} (S : CallFix p m c cJ0_indexOf_0f7a4 2 s args GW RJ0) (hE : env G A s s.heap) (hA : ∀ q, s.heap.size ≤ q → A q) (hRf : 3 ≤ R.frames) (hRl : 70 ≤ R.locals) {post : Int32 → St → Prop} (hret : RetI p l e R s m args below meth c Q 0 0 wX G A cJ0_indexOf_0f7a4 post) (x0 : Nat) (x1 : Int32) (z0 : St) (hB : S_String_indexOf_0f7a4_X post x0 x1 z0) : Xw p l e R s m args below meth c Q 0 0 wX G A z0 2 [(0, .ref (tx G x0)), (1, .int x1)] 0 [] := by
  intro H locs ls hP hD hS hl
  have hx := S.1
  have hb := S.2.1
  refine lv_aload_n hx hb dJ0_indexOf_0f7a4_0 rfl (lv_at hl 0 rfl) ?_
  refine lv_iload_n hx hb dJ0_indexOf_0f7a4_1 rfl (lv_at hl 1 rfl) ?_
  refine lv_iconst (v := 0) hx hb dJ0_indexOf_0f7a4_2 (by decide) ?_
  obtain ⟨hk9, hB⟩ := hB
  have hrv9 := vk_recv (eS hE.2) hk9 hS
  refine xcVi [.int x1, .int (0 : Int32)] S hE hA hP hD hS (c_String_indexOf_7cf53_X l G z0 H.size x0 x1 (0 : Int32) _) hB (gw_c lk_J0_633 (gw_c wi_J0_indexOf_7cf53 (gw_c we_J0_J0_indexOf_7cf53_J0_indexOf_7cf53 (gw_c wn_J0 (gw_c wc_J0_indexOf_7cf53 (fun _ h9 => h9)))))) hd_J0_indexOf_7cf53 rfl rfl (Nat.le_trans (Nat.le_of_ble_eq_true rfl) hRf) (Nat.le_trans (Nat.le_of_ble_eq_true rfl) hRl) ⟨Nat.zero_le _, Nat.zero_le _⟩ hrv9 rfl hl.1 rfl (Nat.le_of_ble_eq_true rfl) dJ0_indexOf_0f7a4_3 (fun r1 z1 H locs hB hP hD hS => ?_)
  exact hret _ _ _ _ _ _ dJ0_indexOf_0f7a4_6 hB hP hD hS
set_option maxHeartbeats 4000000 in
set_option maxRecDepth 100000 in
theorem c_String_indexOf_0f7a4_X (l : Launch) (G : GX) (z0 : St) (sz : Nat) (x0 : Nat) (x1 : Int32) (post : Int32 → St → Prop) : MetI l wX yJ0_indexOf_0f7a4 cJ0_indexOf_0f7a4 2 (some .int) ({ frames := 3, cells := 0, slots := 0, locals := 70 }) [.ref (tx G x0), .int x1] G z0 sz (S_String_indexOf_0f7a4_X post x0 x1 z0) post := by
  refine Met.ofW (cc := cJ0_indexOf_0f7a4) (maxL := 2) (ret := (some .int)) (by decide) rfl ?_
  intro p e s m args below meth c s₁ B hml hv
  obtain ⟨rfl, hsz, hP, hD0, hE, hB⟩ := hv
  have S : CallFix p m c cJ0_indexOf_0f7a4 2 s _ GW RJ0 := ⟨B.exec, B.bytes, hml, findClass_of_methodNamed B.named, fun w h => atoms_spec (ws := Cond.code yJ0_indexOf_0f7a4 cJ0_indexOf_0f7a4 2 (some .int) :: GW) B.pre w (List.mem_cons_of_mem _ h)⟩
  have hlocks := B.notSynchronized
  subst hsz
  have hD := hD0.self (sz := s.heap.size)
  generalize hAe : va_A (wX G z0) s.heap.size = A at hD hE ⊢
  have hA : ∀ q : Nat, s.heap.size ≤ q → A q := fun q h => by rw [← hAe]; exact Or.inr h
  have hS : va_S A s.heap s.heap [] := va_S.rf
  have hl := lv_entry ([.ref (tx G x0), .int x1]) (n := 2) (Nat.le_of_ble_eq_true rfl)
  rw [lg_entry_eq]
  generalize (lg_sl ([.ref (tx G x0), .int x1]) ++ List.replicate (2 - (lg_sl ([.ref (tx G x0), .int x1])).length) Slot.unset).toArray = ls at hl ⊢
  have hl : lv_has ls 2 [(0, .ref (tx G x0)), (1, .int x1)] := hl
  refine w_String_indexOf_0f7a4_X_0 S hE hA (Nat.le_refl _) (Nat.le_refl _) ?_ x0 x1 z0 hB _ _ _ hP hD hS hl
  intro pc ls r σ H locs hd hp hP hD hS
  exact W.iret (v := r) B.exec B.bytes B.returns (fun t ht hW => ⟨⟨r, σ, rfl, hp, by rw [ht]; exact hP, hD⟩, hS.F ht⟩) hS.2.2 hd
def S_HouseReader_takesLetter (post : Int32 → St → Prop) (x1 : Int32) (z0 : St) : Prop :=
  ((gT z0 0) < 8 ∧ (S_String_indexOf_0f7a4_X (fun (r1 : Int32) (z1 : St) => (∀ z2 : St, z2 = sI z1 10 r1 → (((gI z2 10) < 0 → (post (0 : Int32) z2)) ∧ (¬ (gI z2 10) < 0 → (((((gI z2 9) >>> ((gI z2 10) &&& 31)) &&& (1 : Int32)) = (1 : Int32) → (post (0 : Int32) z2)) ∧ (¬ (((gI z2 9) >>> ((gI z2 10) &&& 31)) &&& (1 : Int32)) = (1 : Int32) → (∀ z3 : St, z3 = sI z2 9 ((gI z2 9) ||| ((1 : Int32) <<< ((gI z2 10) &&& 31))) → (∀ z4 : St, z4 = sI z3 11 (0 : Int32) → (∀ z5 : St, z5 = sI z4 12 (0 : Int32) → (∀ z6 : St, z6 = sI z5 3 (2 : Int32) → (post (1 : Int32) z6))))))))))) (gT z0 0) (((x1).toUInt32 % 65536).toInt32) z0))
set_option maxHeartbeats 4000000 in
set_option maxRecDepth 100000 in
theorem w_HouseReader_takesLetter_0 {p : Program} {l : Launch} {e : Env} {R : Room} {s : State} {m : MethodId} {args : Array Value} {below : List Frame} {meth : Method} {c : Code} {Q : State → Prop} {G : GX} {A : Nat → Prop} (S : CallFix p m c cX1_takesLetter 2 s args GW RX1) (hE : env G A s s.heap) (hA : ∀ q, s.heap.size ≤ q → A q) (hRf : 4 ≤ R.frames) (hRl : 91 ≤ R.locals) {post : Int32 → St → Prop} (hret : RetZ p l e R s m args below meth c Q 0 0 wX G A cX1_takesLetter post) (x1 : Int32) (z0 : St) (hB : S_HouseReader_takesLetter post x1 z0) : Xw p l e R s m args below meth c Q 0 0 wX G A z0 2 [(0, .ref (ad G 2)), (1, .int x1)] 0 [] := by
  intro H locs ls hP hD hS hl
  have hx := S.1
  have hb := S.2.1
  refine lv_aload_n hx hb dX1_takesLetter_0 rfl (lv_at hl 0 rfl) ?_
  refine lv_aload_n hx hb dX1_takesLetter_1 rfl (lv_at hl 0 rfl) ?_
  refine xXg_2_letters S hE hP lk_X1_17 dX1_takesLetter_2 ?_
  refine lv_iload_n hx hb dX1_takesLetter_5 rfl (lv_at hl 1 rfl) ?_
  refine lv_i2c hx hb dX1_takesLetter_6 rfl ?_
  obtain ⟨hk9, hB⟩ := hB
  have hrv9 := vk_recv (eS hE.2) hk9 hS
  refine xcVi [.int (((x1).toUInt32 % 65536).toInt32)] S hE hA hP hD hS (c_String_indexOf_0f7a4_X l G z0 H.size (gT z0 0) (((x1).toUInt32 % 65536).toInt32) _) hB (gw_c lk_X1_79 (gw_c wi_J0_indexOf_0f7a4 (gw_c we_J0_J0_indexOf_0f7a4_J0_indexOf_0f7a4 (gw_c wn_J0 (gw_c wc_J0_indexOf_0f7a4 (fun _ h9 => h9)))))) hd_J0_indexOf_0f7a4 rfl rfl (Nat.le_trans (Nat.le_of_ble_eq_true rfl) hRf) (Nat.le_trans (Nat.le_of_ble_eq_true rfl) hRl) ⟨Nat.zero_le _, Nat.zero_le _⟩ hrv9 rfl hl.1 rfl (Nat.le_of_ble_eq_true rfl) dX1_takesLetter_7 (fun r1 z1 H locs hB hP hD hS => ?_)
  obtain ⟨z2, ez2⟩ : ∃ z9, z9 = sI z1 10 r1 := ⟨_, rfl⟩
  have hB := hB z2 ez2
  refine xXp_2_letter S hE hP hD hS lk_X1_83 dX1_takesLetter_10 (fun H locs hP hD hS => ?_)
  rw [← ez2] at hP hD
  refine lv_aload_n hx hb dX1_takesLetter_13 rfl (lv_at hl 0 rfl) ?_
  refine xXg_2_letter S hE hP lk_X1_83 dX1_takesLetter_14 ?_
  refine lv_if_lt (tgt := 35) hx hb dX1_takesLetter_17 (by decide) (fun c2 => ?_) (fun c2 => ?_)
  · have hB := hB.1 c2
    refine lv_iconst (v := 0) hx hb dX1_takesLetter_35 (by decide) ?_
    exact hret _ _ _ _ _ _ dX1_takesLetter_36 ⟨by decide, hB⟩ hP hD hS
  · have hB := hB.2 c2
    refine lv_aload_n hx hb dX1_takesLetter_20 rfl (lv_at hl 0 rfl) ?_
    refine xXg_2_lettersUsed S hE hP lk_X1_67 dX1_takesLetter_21 ?_
    refine lv_aload_n hx hb dX1_takesLetter_24 rfl (lv_at hl 0 rfl) ?_
    refine xXg_2_letter S hE hP lk_X1_83 dX1_takesLetter_25 ?_
    refine lv_ishr hx hb dX1_takesLetter_28 ?_
    refine lv_iconst (v := 1) hx hb dX1_takesLetter_29 (by decide) ?_
    refine lv_iand hx hb dX1_takesLetter_30 ?_
    refine lv_iconst (v := 1) hx hb dX1_takesLetter_31 (by decide) ?_
    refine lv_icmp_ne (tgt := 37) hx hb dX1_takesLetter_32 (by decide) (fun c3 => ?_) (fun c3 => ?_)
    · have hB := hB.2 c3
      refine lv_aload_n hx hb dX1_takesLetter_37 rfl (lv_at hl 0 rfl) ?_
      refine lv_dup hx hb dX1_takesLetter_38 rfl ?_
      refine xXg_2_lettersUsed S hE hP lk_X1_67 dX1_takesLetter_39 ?_
      refine lv_iconst (v := 1) hx hb dX1_takesLetter_42 (by decide) ?_
      refine lv_aload_n hx hb dX1_takesLetter_43 rfl (lv_at hl 0 rfl) ?_
      refine xXg_2_letter S hE hP lk_X1_83 dX1_takesLetter_44 ?_
      refine lv_ishl hx hb dX1_takesLetter_47 ?_
      refine lv_ior hx hb dX1_takesLetter_48 ?_
      obtain ⟨z3, ez3⟩ : ∃ z9, z9 = sI z2 9 ((gI z2 9) ||| ((1 : Int32) <<< ((gI z2 10) &&& 31))) := ⟨_, rfl⟩
      have hB := hB z3 ez3
      refine xXp_2_lettersUsed S hE hP hD hS lk_X1_67 dX1_takesLetter_49 (fun H locs hP hD hS => ?_)
      rw [← ez3] at hP hD
      refine lv_aload_n hx hb dX1_takesLetter_52 rfl (lv_at hl 0 rfl) ?_
      refine lv_iconst (v := 0) hx hb dX1_takesLetter_53 (by decide) ?_
      obtain ⟨z4, ez4⟩ : ∃ z9, z9 = sI z3 11 (0 : Int32) := ⟨_, rfl⟩
      have hB := hB z4 ez4
      refine xXp_2_digits S hE hP hD hS lk_X1_47 dX1_takesLetter_54 (fun H locs hP hD hS => ?_)
      rw [← ez4] at hP hD
      refine lv_aload_n hx hb dX1_takesLetter_57 rfl (lv_at hl 0 rfl) ?_
      refine lv_iconst (v := 0) hx hb dX1_takesLetter_58 (by decide) ?_
      obtain ⟨z5, ez5⟩ : ∃ z9, z9 = sI z4 12 (0 : Int32) := ⟨_, rfl⟩
      have hB := hB z5 ez5
      refine xXp_2_number S hE hP hD hS lk_X1_86 dX1_takesLetter_59 (fun H locs hP hD hS => ?_)
      rw [← ez5] at hP hD
      refine lv_aload_n hx hb dX1_takesLetter_62 rfl (lv_at hl 0 rfl) ?_
      refine lv_iconst (v := 2) hx hb dX1_takesLetter_63 (by decide) ?_
      obtain ⟨z6, ez6⟩ : ∃ z9, z9 = sI z5 3 (2 : Int32) := ⟨_, rfl⟩
      have hB := hB z6 ez6
      refine xXp_2_awaits S hE hP hD hS lk_X1_37 dX1_takesLetter_64 (fun H locs hP hD hS => ?_)
      rw [← ez6] at hP hD
      refine lv_iconst (v := 1) hx hb dX1_takesLetter_67 (by decide) ?_
      exact hret _ _ _ _ _ _ dX1_takesLetter_68 ⟨by decide, hB⟩ hP hD hS
    · have hB := hB.1 c3
      refine lv_iconst (v := 0) hx hb dX1_takesLetter_35 (by decide) ?_
      exact hret _ _ _ _ _ _ dX1_takesLetter_36 ⟨by decide, hB⟩ hP hD hS
set_option maxHeartbeats 4000000 in
set_option maxRecDepth 100000 in
theorem c_HouseReader_takesLetter (l : Launch) (G : GX) (z0 : St) (sz : Nat) (x1 : Int32) (post : Int32 → St → Prop) : MetI l wX yX1_takesLetter cX1_takesLetter 2 (some .boolean) ({ frames := 4, cells := 0, slots := 0, locals := 91 }) [.ref (ad G 2), .int x1] G z0 sz (S_HouseReader_takesLetter post x1 z0) post := by
  refine Met.ofW (cc := cX1_takesLetter) (maxL := 2) (ret := (some .boolean)) (by decide) rfl ?_
  intro p e s m args below meth c s₁ B hml hv
  obtain ⟨rfl, hsz, hP, hD0, hE, hB⟩ := hv
  have S : CallFix p m c cX1_takesLetter 2 s _ GW RX1 := ⟨B.exec, B.bytes, hml, findClass_of_methodNamed B.named, fun w h => atoms_spec (ws := Cond.code yX1_takesLetter cX1_takesLetter 2 (some .boolean) :: GW) B.pre w (List.mem_cons_of_mem _ h)⟩
  have hlocks := B.notSynchronized
  subst hsz
  have hD := hD0.self (sz := s.heap.size)
  generalize hAe : va_A (wX G z0) s.heap.size = A at hD hE ⊢
  have hA : ∀ q : Nat, s.heap.size ≤ q → A q := fun q h => by rw [← hAe]; exact Or.inr h
  have hS : va_S A s.heap s.heap [] := va_S.rf
  have hl := lv_entry ([.ref (ad G 2), .int x1]) (n := 2) (Nat.le_of_ble_eq_true rfl)
  rw [lg_entry_eq]
  generalize (lg_sl ([.ref (ad G 2), .int x1]) ++ List.replicate (2 - (lg_sl ([.ref (ad G 2), .int x1])).length) Slot.unset).toArray = ls at hl ⊢
  have hl : lv_has ls 2 [(0, .ref (ad G 2)), (1, .int x1)] := hl
  refine w_HouseReader_takesLetter_0 S hE hA (Nat.le_refl _) (Nat.le_refl _) ?_ x1 z0 hB _ _ _ hP hD hS hl
  intro pc ls r σ H locs hd hp hP hD hS
  exact W.zret (v := r) B.exec B.bytes B.returns (xboolc r hp.1) (fun t ht hW => ⟨⟨r, σ, rfl, hp.2, by rw [ht]; exact hP, hD⟩, hS.F ht⟩) hS.2.2 hd
def S_HouseReader_takesDigit (post : Int32 → St → Prop) (x1 : Int32) (x2 : Int32) (z0 : St) : Prop :=
  (∀ z1 : St, z1 = sI z0 12 ((((gI z0 12) * (10 : Int32)) + x1) - (48 : Int32)) → (∀ z2 : St, z2 = sI z1 11 ((gI z1 11) + (1 : Int32)) → (∀ z3 : St, z3 = sI z2 3 (1 : Int32) → (S_Reader_isDigit (fun (r1 : Int32) (z4 : St) => ((r1 = 0 → (vp_in ((gI z4 8) + (gI z4 10)) 33 ∧ (∀ z5 : St, z5 = sA z4 13 ((gI z4 8) + (gI z4 10)).toNatClampNeg (gI z4 12) → (vp_in ((gI z5 7) + (gI z5 10)) 8 ∧ (((st51.getD ((gI z5 7) + (gI z5 10)).toNatClampNeg 0) < (gI z5 12) → (post (0 : Int32) z5)) ∧ (¬ (st51.getD ((gI z5 7) + (gI z5 10)).toNatClampNeg 0) < (gI z5 12) → (post (1 : Int32) z5))))))) ∧ (¬ r1 = 0 → (post (1 : Int32) z4)))) x2 z3))))
set_option maxHeartbeats 4000000 in
set_option maxRecDepth 100000 in
theorem w_HouseReader_takesDigit_0 {p : Program} {l : Launch} {e : Env} {R : Room} {s : State} {m : MethodId} {args : Array Value} {below : List Frame} {meth : Method} {c : Code} {Q : State → Prop} {G : GX} {A : Nat → Prop} (S : CallFix p m c cX1_takesDigit 3 s args GW RX1) (hE : env G A s s.heap) (hA : ∀ q, s.heap.size ≤ q → A q) (hRf : 1 ≤ R.frames) (hRl : 20 ≤ R.locals) {post : Int32 → St → Prop} (hret : RetZ p l e R s m args below meth c Q 0 0 wX G A cX1_takesDigit post) (x1 : Int32) (x2 : Int32) (z0 : St) (hB : S_HouseReader_takesDigit post x1 x2 z0) : Xw p l e R s m args below meth c Q 0 0 wX G A z0 3 [(0, .ref (ad G 2)), (1, .int x1), (2, .int x2)] 0 [] := by
  intro H locs ls hP hD hS hl
  have hx := S.1
  have hb := S.2.1
  refine lv_aload_n hx hb dX1_takesDigit_0 rfl (lv_at hl 0 rfl) ?_
  refine lv_aload_n hx hb dX1_takesDigit_1 rfl (lv_at hl 0 rfl) ?_
  refine xXg_2_number S hE hP lk_X1_86 dX1_takesDigit_2 ?_
  refine lv_bipush (v := 10) hx hb dX1_takesDigit_5 (by decide) ?_
  refine lv_imul hx hb dX1_takesDigit_7 ?_
  refine lv_iload_n hx hb dX1_takesDigit_8 rfl (lv_at hl 1 rfl) ?_
  refine lv_iadd hx hb dX1_takesDigit_9 ?_
  refine lv_bipush (v := 48) hx hb dX1_takesDigit_10 (by decide) ?_
  refine lv_isub hx hb dX1_takesDigit_12 ?_
  obtain ⟨z1, ez1⟩ : ∃ z9, z9 = sI z0 12 ((((gI z0 12) * (10 : Int32)) + x1) - (48 : Int32)) := ⟨_, rfl⟩
  have hB := hB z1 ez1
  refine xXp_2_number S hE hP hD hS lk_X1_86 dX1_takesDigit_13 (fun H locs hP hD hS => ?_)
  rw [← ez1] at hP hD
  refine lv_aload_n hx hb dX1_takesDigit_16 rfl (lv_at hl 0 rfl) ?_
  refine lv_dup hx hb dX1_takesDigit_17 rfl ?_
  refine xXg_2_digits S hE hP lk_X1_47 dX1_takesDigit_18 ?_
  refine lv_iconst (v := 1) hx hb dX1_takesDigit_21 (by decide) ?_
  refine lv_iadd hx hb dX1_takesDigit_22 ?_
  obtain ⟨z2, ez2⟩ : ∃ z9, z9 = sI z1 11 ((gI z1 11) + (1 : Int32)) := ⟨_, rfl⟩
  have hB := hB z2 ez2
  refine xXp_2_digits S hE hP hD hS lk_X1_47 dX1_takesDigit_23 (fun H locs hP hD hS => ?_)
  rw [← ez2] at hP hD
  refine lv_aload_n hx hb dX1_takesDigit_26 rfl (lv_at hl 0 rfl) ?_
  refine lv_iconst (v := 1) hx hb dX1_takesDigit_27 (by decide) ?_
  obtain ⟨z3, ez3⟩ : ∃ z9, z9 = sI z2 3 (1 : Int32) := ⟨_, rfl⟩
  have hB := hB z3 ez3
  refine xXp_2_awaits S hE hP hD hS lk_X1_37 dX1_takesDigit_28 (fun H locs hP hD hS => ?_)
  rw [← ez3] at hP hD
  refine lv_iload_n hx hb dX1_takesDigit_31 rfl (lv_at hl 2 rfl) ?_
  refine xcTi (x := ⟨RX1, "isDigit", "(I)Z"⟩) (owner := RX5) [.int x2] S hE hA hP hD hS (c_Reader_isDigit l G z3 H.size x2 _) hB (gw_c lk_X1_44 (gw_c wm_X1_X5_isDigit_I_Z (gw_c wt_X5_isDigit (gw_c wn_X5 (gw_c wc_X5_isDigit (fun _ h9 => h9)))))) rfl hs_X5_isDigit rfl rfl (Nat.le_trans (Nat.le_of_ble_eq_true rfl) hRf) (Nat.le_trans (Nat.le_of_ble_eq_true rfl) hRl) ⟨Nat.zero_le _, Nat.zero_le _⟩ rfl hl.1 rfl (Nat.le_of_ble_eq_true rfl) dX1_takesDigit_32 (fun r1 z4 H locs hB hP hD hS => ?_)
  refine lv_if_eq (tgt := 40) hx hb dX1_takesDigit_35 (by decide) (fun c2 => ?_) (fun c2 => ?_)
  · have hB := hB.1 c2
    refine lv_aload_n hx hb dX1_takesDigit_40 rfl (lv_at hl 0 rfl) ?_
    refine xXg_2_values S hE hP lk_X1_11 dX1_takesDigit_41 ?_
    refine lv_aload_n hx hb dX1_takesDigit_44 rfl (lv_at hl 0 rfl) ?_
    refine xXg_2_firstValue S hE hP lk_X1_64 dX1_takesDigit_45 ?_
    refine lv_aload_n hx hb dX1_takesDigit_48 rfl (lv_at hl 0 rfl) ?_
    refine xXg_2_letter S hE hP lk_X1_83 dX1_takesDigit_49 ?_
    refine lv_iadd hx hb dX1_takesDigit_52 ?_
    refine lv_aload_n hx hb dX1_takesDigit_53 rfl (lv_at hl 0 rfl) ?_
    refine xXg_2_number S hE hP lk_X1_86 dX1_takesDigit_54 ?_
    obtain ⟨hi, hB⟩ := hB
    obtain ⟨z5, ez5⟩ : ∃ z9, z9 = sA z4 13 ((gI z4 8) + (gI z4 10)).toNatClampNeg (gI z4 12) := ⟨_, rfl⟩
    have hB := hB z5 ez5
    refine xXs_13 S hE hP hD hS _ rfl hi dX1_takesDigit_57 (fun H locs hP hD hS => ?_)
    rw [← ez5] at hP hD
    refine lv_aload_n hx hb dX1_takesDigit_58 rfl (lv_at hl 0 rfl) ?_
    refine xXg_2_number S hE hP lk_X1_86 dX1_takesDigit_59 ?_
    refine va_gets hx hb (ez_X1_MOST hE.2) hS S.2.2.2.1 (S.2.2.2.2 _ lk_X1_89) (fun _ h9 => h9) dX1_takesDigit_62 ?_
    refine lv_aload_n hx hb dX1_takesDigit_65 rfl (lv_at hl 0 rfl) ?_
    refine xXg_2_firstItem S hE hP lk_X1_61 dX1_takesDigit_66 ?_
    refine lv_aload_n hx hb dX1_takesDigit_69 rfl (lv_at hl 0 rfl) ?_
    refine xXg_2_letter S hE hP lk_X1_83 dX1_takesDigit_70 ?_
    refine lv_iadd hx hb dX1_takesDigit_73 ?_
    obtain ⟨hi, hB⟩ := hB
    refine va_ti hx hb (et_51 hE.2) hS hi rfl dX1_takesDigit_74 ?_
    refine lv_icmp_gt (tgt := 82) hx hb dX1_takesDigit_75 (by decide) (fun c3 => ?_) (fun c3 => ?_)
    · have hB := hB.1 c3
      refine lv_iconst (v := 0) hx hb dX1_takesDigit_82 (by decide) ?_
      exact hret _ _ _ _ _ _ dX1_takesDigit_83 ⟨by decide, hB⟩ hP hD hS
    · have hB := hB.2 c3
      refine lv_iconst (v := 1) hx hb dX1_takesDigit_78 (by decide) ?_
      refine lv_goto (tgt := 83) hx hb dX1_takesDigit_79 (by decide) ?_
      exact hret _ _ _ _ _ _ dX1_takesDigit_83 ⟨by decide, hB⟩ hP hD hS
  · have hB := hB.2 c2
    refine lv_iconst (v := 1) hx hb dX1_takesDigit_38 (by decide) ?_
    exact hret _ _ _ _ _ _ dX1_takesDigit_39 ⟨by decide, hB⟩ hP hD hS
set_option maxHeartbeats 4000000 in
set_option maxRecDepth 100000 in
theorem c_HouseReader_takesDigit (l : Launch) (G : GX) (z0 : St) (sz : Nat) (x1 : Int32) (x2 : Int32) (post : Int32 → St → Prop) : MetI l wX yX1_takesDigit cX1_takesDigit 3 (some .boolean) ({ frames := 1, cells := 0, slots := 0, locals := 20 }) [.ref (ad G 2), .int x1, .int x2] G z0 sz (S_HouseReader_takesDigit post x1 x2 z0) post := by
  refine Met.ofW (cc := cX1_takesDigit) (maxL := 3) (ret := (some .boolean)) (by decide) rfl ?_
  intro p e s m args below meth c s₁ B hml hv
  obtain ⟨rfl, hsz, hP, hD0, hE, hB⟩ := hv
  have S : CallFix p m c cX1_takesDigit 3 s _ GW RX1 := ⟨B.exec, B.bytes, hml, findClass_of_methodNamed B.named, fun w h => atoms_spec (ws := Cond.code yX1_takesDigit cX1_takesDigit 3 (some .boolean) :: GW) B.pre w (List.mem_cons_of_mem _ h)⟩
  have hlocks := B.notSynchronized
  subst hsz
  have hD := hD0.self (sz := s.heap.size)
  generalize hAe : va_A (wX G z0) s.heap.size = A at hD hE ⊢
  have hA : ∀ q : Nat, s.heap.size ≤ q → A q := fun q h => by rw [← hAe]; exact Or.inr h
  have hS : va_S A s.heap s.heap [] := va_S.rf
  have hl := lv_entry ([.ref (ad G 2), .int x1, .int x2]) (n := 3) (Nat.le_of_ble_eq_true rfl)
  rw [lg_entry_eq]
  generalize (lg_sl ([.ref (ad G 2), .int x1, .int x2]) ++ List.replicate (3 - (lg_sl ([.ref (ad G 2), .int x1, .int x2])).length) Slot.unset).toArray = ls at hl ⊢
  have hl : lv_has ls 3 [(0, .ref (ad G 2)), (1, .int x1), (2, .int x2)] := hl
  refine w_HouseReader_takesDigit_0 S hE hA (Nat.le_refl _) (Nat.le_refl _) ?_ x1 x2 z0 hB _ _ _ hP hD hS hl
  intro pc ls r σ H locs hd hp hP hD hS
  exact W.zret (v := r) B.exec B.bytes B.returns (xboolc r hp.1) (fun t ht hW => ⟨⟨r, σ, rfl, hp.2, by rw [ht]; exact hP, hD⟩, hS.F ht⟩) hS.2.2 hd
def B_HouseReader_takesClause_76 (post : Int32 → St → Prop) (x1 : Int32) (z0 : St) : Prop :=
  ((x1 = (103 : Int32) → (((6 : Int32) ≤ (gI z0 6) → (post (0 : Int32) z0)) ∧ (¬ (6 : Int32) ≤ (gI z0 6) → (S_HouseReader_begin (fun (z1 : St) => (∀ z2 : St, z2 = sI z1 6 ((gI z1 6) + (1 : Int32)) → (post (1 : Int32) z2))) 4 (5 : Int32) ((15 : Int32) + ((3 : Int32) * (gI z0 6))) z0)))) ∧ (¬ x1 = (103 : Int32) → (post (0 : Int32) z0)))
set_option maxHeartbeats 4000000 in
set_option maxRecDepth 100000 in
theorem w_HouseReader_takesClause_76 {p : Program} {l : Launch} {e : Env} {R : Room} {s : State} {m : MethodId} {args : Array Value} {below : List Frame} {meth : Method} {c : Code} {Q : State → Prop} {G : GX} {A : Nat → Prop} (S : CallFix p m c cX1_takesClause 2 s args GW RX1) (hE : env G A s s.heap) (hA : ∀ q, s.heap.size ≤ q → A q) (hRf : 3 ≤ R.frames) (hRl : 64 ≤ R.locals) {post : Int32 → St → Prop} (hret : RetZ p l e R s m args below meth c Q 0 0 wX G A cX1_takesClause post) (x1 : Int32) (z0 : St) (hB : B_HouseReader_takesClause_76 post x1 z0) : Xw p l e R s m args below meth c Q 0 0 wX G A z0 2 [(0, .ref (ad G 2)), (1, .int x1)] 76 [] := by
  intro H locs ls hP hD hS hl
  have hx := S.1
  have hb := S.2.1
  refine lv_iload_n hx hb dX1_takesClause_76 rfl (lv_at hl 1 rfl) ?_
  refine lv_bipush (v := 103) hx hb dX1_takesClause_77 (by decide) ?_
  refine lv_icmp_ne (tgt := 119) hx hb dX1_takesClause_79 (by decide) (fun c1 => ?_) (fun c1 => ?_)
  · have hB := hB.2 c1
    refine lv_iconst (v := 0) hx hb dX1_takesClause_119 (by decide) ?_
    exact hret _ _ _ _ _ _ dX1_takesClause_120 ⟨by decide, hB⟩ hP hD hS
  · have hB := hB.1 c1
    refine lv_aload_n hx hb dX1_takesClause_82 rfl (lv_at hl 0 rfl) ?_
    refine xXg_2_guestsTold S hE hP lk_X1_28 dX1_takesClause_83 ?_
    refine lv_bipush (v := 6) hx hb dX1_takesClause_86 (by decide) ?_
    refine lv_icmp_ge (tgt := 119) hx hb dX1_takesClause_88 (by decide) (fun c2 => ?_) (fun c2 => ?_)
    · have hB := hB.1 c2
      refine lv_iconst (v := 0) hx hb dX1_takesClause_119 (by decide) ?_
      exact hret _ _ _ _ _ _ dX1_takesClause_120 ⟨by decide, hB⟩ hP hD hS
    · have hB := hB.2 c2
      refine lv_aload_n hx hb dX1_takesClause_91 rfl (lv_at hl 0 rfl) ?_
      refine va_ldcS hx hb S.2.2.2.1 (es_X1_59 hE.2) dX1_takesClause_92 ?_
      refine lv_iconst (v := 5) hx hb dX1_takesClause_94 (by decide) ?_
      refine lv_bipush (v := 15) hx hb dX1_takesClause_95 (by decide) ?_
      refine lv_iconst (v := 3) hx hb dX1_takesClause_97 (by decide) ?_
      refine lv_aload_n hx hb dX1_takesClause_98 rfl (lv_at hl 0 rfl) ?_
      refine xXg_2_guestsTold S hE hP lk_X1_28 dX1_takesClause_99 ?_
      refine lv_imul hx hb dX1_takesClause_102 ?_
      refine lv_iadd hx hb dX1_takesClause_103 ?_
      refine xcVv [.ref (tx G 4), .int (5 : Int32), .int ((15 : Int32) + ((3 : Int32) * (gI z0 6)))] S hE hA hP hD hS (c_HouseReader_begin l G z0 H.size 4 (5 : Int32) ((15 : Int32) + ((3 : Int32) * (gI z0 6))) _) hB (gw_c lk_X1_33 (gw_c wi_X1_begin (gw_c we_X1_X1_begin_X1_begin (gw_c wn_X1 (gw_c wc_X1_begin (fun _ h9 => h9)))))) hd_X1_begin rfl rfl (Nat.le_trans (Nat.le_of_ble_eq_true rfl) hRf) (Nat.le_trans (Nat.le_of_ble_eq_true rfl) hRl) ⟨Nat.zero_le _, Nat.zero_le _⟩ (va_recv hE.1 hP (ci := 1) (q0 := 2) rfl rfl) rfl hl.1 rfl (Nat.le_of_ble_eq_true rfl) dX1_takesClause_104 (fun z1 H locs hB hP hD hS => ?_)
      refine lv_aload_n hx hb dX1_takesClause_107 rfl (lv_at hl 0 rfl) ?_
      refine lv_dup hx hb dX1_takesClause_108 rfl ?_
      refine xXg_2_guestsTold S hE hP lk_X1_28 dX1_takesClause_109 ?_
      refine lv_iconst (v := 1) hx hb dX1_takesClause_112 (by decide) ?_
      refine lv_iadd hx hb dX1_takesClause_113 ?_
      obtain ⟨z2, ez2⟩ : ∃ z9, z9 = sI z1 6 ((gI z1 6) + (1 : Int32)) := ⟨_, rfl⟩
      have hB := hB z2 ez2
      refine xXp_2_guestsTold S hE hP hD hS lk_X1_28 dX1_takesClause_114 (fun H locs hP hD hS => ?_)
      rw [← ez2] at hP hD
      refine lv_iconst (v := 1) hx hb dX1_takesClause_117 (by decide) ?_
      exact hret _ _ _ _ _ _ dX1_takesClause_118 ⟨by decide, hB⟩ hP hD hS
def B_HouseReader_takesClause_34 (post : Int32 → St → Prop) (x1 : Int32) (z0 : St) : Prop :=
  ((x1 = (100 : Int32) → (((6 : Int32) ≤ (gI z0 5) → (B_HouseReader_takesClause_76 post x1 z0)) ∧ (¬ (6 : Int32) ≤ (gI z0 5) → (S_HouseReader_begin (fun (z1 : St) => (∀ z2 : St, z2 = sI z1 5 ((gI z1 5) + (1 : Int32)) → (post (1 : Int32) z2))) 3 (3 : Int32) ((3 : Int32) + ((2 : Int32) * (gI z0 5))) z0)))) ∧ (¬ x1 = (100 : Int32) → (B_HouseReader_takesClause_76 post x1 z0)))
set_option maxHeartbeats 4000000 in
set_option maxRecDepth 100000 in
theorem w_HouseReader_takesClause_34 {p : Program} {l : Launch} {e : Env} {R : Room} {s : State} {m : MethodId} {args : Array Value} {below : List Frame} {meth : Method} {c : Code} {Q : State → Prop} {G : GX} {A : Nat → Prop} (S : CallFix p m c cX1_takesClause 2 s args GW RX1) (hE : env G A s s.heap) (hA : ∀ q, s.heap.size ≤ q → A q) (hRf : 3 ≤ R.frames) (hRl : 64 ≤ R.locals) {post : Int32 → St → Prop} (hret : RetZ p l e R s m args below meth c Q 0 0 wX G A cX1_takesClause post) (x1 : Int32) (z0 : St) (hB : B_HouseReader_takesClause_34 post x1 z0) : Xw p l e R s m args below meth c Q 0 0 wX G A z0 2 [(0, .ref (ad G 2)), (1, .int x1)] 34 [] := by
  intro H locs ls hP hD hS hl
  have hx := S.1
  have hb := S.2.1
  refine lv_iload_n hx hb dX1_takesClause_34 rfl (lv_at hl 1 rfl) ?_
  refine lv_bipush (v := 100) hx hb dX1_takesClause_35 (by decide) ?_
  refine lv_icmp_ne (tgt := 76) hx hb dX1_takesClause_37 (by decide) (fun c1 => ?_) (fun c1 => ?_)
  · have hB := hB.2 c1
    exact w_HouseReader_takesClause_76 S hE hA hRf hRl hret x1 z0 hB _ _ _ hP hD hS (lv_sub hl [0, 1] rfl)
  · have hB := hB.1 c1
    refine lv_aload_n hx hb dX1_takesClause_40 rfl (lv_at hl 0 rfl) ?_
    refine xXg_2_drinksTold S hE hP lk_X1_25 dX1_takesClause_41 ?_
    refine lv_bipush (v := 6) hx hb dX1_takesClause_44 (by decide) ?_
    refine lv_icmp_ge (tgt := 76) hx hb dX1_takesClause_46 (by decide) (fun c2 => ?_) (fun c2 => ?_)
    · have hB := hB.1 c2
      exact w_HouseReader_takesClause_76 S hE hA hRf hRl hret x1 z0 hB _ _ _ hP hD hS (lv_sub hl [0, 1] rfl)
    · have hB := hB.2 c2
      refine lv_aload_n hx hb dX1_takesClause_49 rfl (lv_at hl 0 rfl) ?_
      refine va_ldcS hx hb S.2.2.2.1 (es_X1_57 hE.2) dX1_takesClause_50 ?_
      refine lv_iconst (v := 3) hx hb dX1_takesClause_52 (by decide) ?_
      refine lv_iconst (v := 3) hx hb dX1_takesClause_53 (by decide) ?_
      refine lv_iconst (v := 2) hx hb dX1_takesClause_54 (by decide) ?_
      refine lv_aload_n hx hb dX1_takesClause_55 rfl (lv_at hl 0 rfl) ?_
      refine xXg_2_drinksTold S hE hP lk_X1_25 dX1_takesClause_56 ?_
      refine lv_imul hx hb dX1_takesClause_59 ?_
      refine lv_iadd hx hb dX1_takesClause_60 ?_
      refine xcVv [.ref (tx G 3), .int (3 : Int32), .int ((3 : Int32) + ((2 : Int32) * (gI z0 5)))] S hE hA hP hD hS (c_HouseReader_begin l G z0 H.size 3 (3 : Int32) ((3 : Int32) + ((2 : Int32) * (gI z0 5))) _) hB (gw_c lk_X1_33 (gw_c wi_X1_begin (gw_c we_X1_X1_begin_X1_begin (gw_c wn_X1 (gw_c wc_X1_begin (fun _ h9 => h9)))))) hd_X1_begin rfl rfl (Nat.le_trans (Nat.le_of_ble_eq_true rfl) hRf) (Nat.le_trans (Nat.le_of_ble_eq_true rfl) hRl) ⟨Nat.zero_le _, Nat.zero_le _⟩ (va_recv hE.1 hP (ci := 1) (q0 := 2) rfl rfl) rfl hl.1 rfl (Nat.le_of_ble_eq_true rfl) dX1_takesClause_61 (fun z1 H locs hB hP hD hS => ?_)
      refine lv_aload_n hx hb dX1_takesClause_64 rfl (lv_at hl 0 rfl) ?_
      refine lv_dup hx hb dX1_takesClause_65 rfl ?_
      refine xXg_2_drinksTold S hE hP lk_X1_25 dX1_takesClause_66 ?_
      refine lv_iconst (v := 1) hx hb dX1_takesClause_69 (by decide) ?_
      refine lv_iadd hx hb dX1_takesClause_70 ?_
      obtain ⟨z2, ez2⟩ : ∃ z9, z9 = sI z1 5 ((gI z1 5) + (1 : Int32)) := ⟨_, rfl⟩
      have hB := hB z2 ez2
      refine xXp_2_drinksTold S hE hP hD hS lk_X1_25 dX1_takesClause_71 (fun H locs hP hD hS => ?_)
      rw [← ez2] at hP hD
      refine lv_iconst (v := 1) hx hb dX1_takesClause_74 (by decide) ?_
      exact hret _ _ _ _ _ _ dX1_takesClause_75 ⟨by decide, hB⟩ hP hD hS
def S_HouseReader_takesClause (post : Int32 → St → Prop) (x1 : Int32) (z0 : St) : Prop :=
  ((x1 = (115 : Int32) → (((1 : Int32) ≤ (gI z0 4) → (B_HouseReader_takesClause_34 post x1 z0)) ∧ (¬ (1 : Int32) ≤ (gI z0 4) → (S_HouseReader_begin (fun (z1 : St) => (∀ z2 : St, z2 = sI z1 4 ((gI z1 4) + (1 : Int32)) → (post (1 : Int32) z2))) 2 (0 : Int32) (0 : Int32) z0)))) ∧ (¬ x1 = (115 : Int32) → (B_HouseReader_takesClause_34 post x1 z0)))
set_option maxHeartbeats 4000000 in
set_option maxRecDepth 100000 in
theorem w_HouseReader_takesClause_0 {p : Program} {l : Launch} {e : Env} {R : Room} {s : State} {m : MethodId} {args : Array Value} {below : List Frame} {meth : Method} {c : Code} {Q : State → Prop} {G : GX} {A : Nat → Prop} (S : CallFix p m c cX1_takesClause 2 s args GW RX1) (hE : env G A s s.heap) (hA : ∀ q, s.heap.size ≤ q → A q) (hRf : 3 ≤ R.frames) (hRl : 64 ≤ R.locals) {post : Int32 → St → Prop} (hret : RetZ p l e R s m args below meth c Q 0 0 wX G A cX1_takesClause post) (x1 : Int32) (z0 : St) (hB : S_HouseReader_takesClause post x1 z0) : Xw p l e R s m args below meth c Q 0 0 wX G A z0 2 [(0, .ref (ad G 2)), (1, .int x1)] 0 [] := by
  intro H locs ls hP hD hS hl
  have hx := S.1
  have hb := S.2.1
  refine lv_iload_n hx hb dX1_takesClause_0 rfl (lv_at hl 1 rfl) ?_
  refine lv_bipush (v := 115) hx hb dX1_takesClause_1 (by decide) ?_
  refine lv_icmp_ne (tgt := 34) hx hb dX1_takesClause_3 (by decide) (fun c1 => ?_) (fun c1 => ?_)
  · have hB := hB.2 c1
    exact w_HouseReader_takesClause_34 S hE hA hRf hRl hret x1 z0 hB _ _ _ hP hD hS (lv_sub hl [0, 1] rfl)
  · have hB := hB.1 c1
    refine lv_aload_n hx hb dX1_takesClause_6 rfl (lv_at hl 0 rfl) ?_
    refine xXg_2_rulesTold S hE hP lk_X1_21 dX1_takesClause_7 ?_
    refine lv_iconst (v := 1) hx hb dX1_takesClause_10 (by decide) ?_
    refine lv_icmp_ge (tgt := 34) hx hb dX1_takesClause_11 (by decide) (fun c2 => ?_) (fun c2 => ?_)
    · have hB := hB.1 c2
      exact w_HouseReader_takesClause_34 S hE hA hRf hRl hret x1 z0 hB _ _ _ hP hD hS (lv_sub hl [0, 1] rfl)
    · have hB := hB.2 c2
      refine lv_aload_n hx hb dX1_takesClause_14 rfl (lv_at hl 0 rfl) ?_
      refine va_ldcS hx hb S.2.2.2.1 (es_X1_31 hE.2) dX1_takesClause_15 ?_
      refine lv_iconst (v := 0) hx hb dX1_takesClause_17 (by decide) ?_
      refine lv_iconst (v := 0) hx hb dX1_takesClause_18 (by decide) ?_
      refine xcVv [.ref (tx G 2), .int (0 : Int32), .int (0 : Int32)] S hE hA hP hD hS (c_HouseReader_begin l G z0 H.size 2 (0 : Int32) (0 : Int32) _) hB (gw_c lk_X1_33 (gw_c wi_X1_begin (gw_c we_X1_X1_begin_X1_begin (gw_c wn_X1 (gw_c wc_X1_begin (fun _ h9 => h9)))))) hd_X1_begin rfl rfl (Nat.le_trans (Nat.le_of_ble_eq_true rfl) hRf) (Nat.le_trans (Nat.le_of_ble_eq_true rfl) hRl) ⟨Nat.zero_le _, Nat.zero_le _⟩ (va_recv hE.1 hP (ci := 1) (q0 := 2) rfl rfl) rfl hl.1 rfl (Nat.le_of_ble_eq_true rfl) dX1_takesClause_19 (fun z1 H locs hB hP hD hS => ?_)
      refine lv_aload_n hx hb dX1_takesClause_22 rfl (lv_at hl 0 rfl) ?_
      refine lv_dup hx hb dX1_takesClause_23 rfl ?_
      refine xXg_2_rulesTold S hE hP lk_X1_21 dX1_takesClause_24 ?_
      refine lv_iconst (v := 1) hx hb dX1_takesClause_27 (by decide) ?_
      refine lv_iadd hx hb dX1_takesClause_28 ?_
      obtain ⟨z2, ez2⟩ : ∃ z9, z9 = sI z1 4 ((gI z1 4) + (1 : Int32)) := ⟨_, rfl⟩
      have hB := hB z2 ez2
      refine xXp_2_rulesTold S hE hP hD hS lk_X1_21 dX1_takesClause_29 (fun H locs hP hD hS => ?_)
      rw [← ez2] at hP hD
      refine lv_iconst (v := 1) hx hb dX1_takesClause_32 (by decide) ?_
      exact hret _ _ _ _ _ _ dX1_takesClause_33 ⟨by decide, hB⟩ hP hD hS
set_option maxHeartbeats 4000000 in
set_option maxRecDepth 100000 in
theorem c_HouseReader_takesClause (l : Launch) (G : GX) (z0 : St) (sz : Nat) (x1 : Int32) (post : Int32 → St → Prop) : MetI l wX yX1_takesClause cX1_takesClause 2 (some .boolean) ({ frames := 3, cells := 0, slots := 0, locals := 64 }) [.ref (ad G 2), .int x1] G z0 sz (S_HouseReader_takesClause post x1 z0) post := by
  refine Met.ofW (cc := cX1_takesClause) (maxL := 2) (ret := (some .boolean)) (by decide) rfl ?_
  intro p e s m args below meth c s₁ B hml hv
  obtain ⟨rfl, hsz, hP, hD0, hE, hB⟩ := hv
  have S : CallFix p m c cX1_takesClause 2 s _ GW RX1 := ⟨B.exec, B.bytes, hml, findClass_of_methodNamed B.named, fun w h => atoms_spec (ws := Cond.code yX1_takesClause cX1_takesClause 2 (some .boolean) :: GW) B.pre w (List.mem_cons_of_mem _ h)⟩
  have hlocks := B.notSynchronized
  subst hsz
  have hD := hD0.self (sz := s.heap.size)
  generalize hAe : va_A (wX G z0) s.heap.size = A at hD hE ⊢
  have hA : ∀ q : Nat, s.heap.size ≤ q → A q := fun q h => by rw [← hAe]; exact Or.inr h
  have hS : va_S A s.heap s.heap [] := va_S.rf
  have hl := lv_entry ([.ref (ad G 2), .int x1]) (n := 2) (Nat.le_of_ble_eq_true rfl)
  rw [lg_entry_eq]
  generalize (lg_sl ([.ref (ad G 2), .int x1]) ++ List.replicate (2 - (lg_sl ([.ref (ad G 2), .int x1])).length) Slot.unset).toArray = ls at hl ⊢
  have hl : lv_has ls 2 [(0, .ref (ad G 2)), (1, .int x1)] := hl
  refine w_HouseReader_takesClause_0 S hE hA (Nat.le_refl _) (Nat.le_refl _) ?_ x1 z0 hB _ _ _ hP hD hS hl
  intro pc ls r σ H locs hd hp hP hD hS
  exact W.zret (v := r) B.exec B.bytes B.returns (xboolc r hp.1) (fun t ht hW => ⟨⟨r, σ, rfl, hp.2, by rw [ht]; exact hP, hD⟩, hS.F ht⟩) hS.2.2 hd
def B_HouseReader_takes_45 (post : Int32 → St → Prop) (x1 : Int32) (x2 : Int32) (s0 : Int32) (z0 : St) : Prop :=
  ((s0 = 0 → (post (0 : Int32) z0)) ∧ (¬ s0 = 0 → (S_HouseReader_takesDigit (fun (r2 : Int32) (z1 : St) => ((r2 = 0 → (post (0 : Int32) z1)) ∧ (¬ r2 = 0 → (post (1 : Int32) z1)))) x1 x2 z0)))
set_option maxHeartbeats 4000000 in
set_option maxRecDepth 100000 in
theorem w_HouseReader_takes_45 {p : Program} {l : Launch} {e : Env} {R : Room} {s : State} {m : MethodId} {args : Array Value} {below : List Frame} {meth : Method} {c : Code} {Q : State → Prop} {G : GX} {A : Nat → Prop} (S : CallFix p m c cX1_takes 5 s args GW RX1) (hE : env G A s s.heap) (hA : ∀ q, s.heap.size ≤ q → A q) (hRf : 5 ≤ R.frames) (hRl : 112 ≤ R.locals) {post : Int32 → St → Prop} (hret : RetZ p l e R s m args below meth c Q 0 0 wX G A cX1_takes post) (x1 : Int32) (x2 : Int32) (s0 : Int32) (z0 : St) (hB : B_HouseReader_takes_45 post x1 x2 s0 z0) : Xw p l e R s m args below meth c Q 0 0 wX G A z0 5 [(0, .ref (ad G 2)), (1, .int x1), (2, .int x2)] 45 [.int s0] := by
  intro H locs ls hP hD hS hl
  have hx := S.1
  have hb := S.2.1
  refine lv_istore (lv' := [(4, .int s0), (0, .ref (ad G 2)), (1, .int x1), (2, .int x2)]) hx hb dX1_takes_45 hl (by decide) rfl (fun ls hl => ?_)
  refine lv_iload hx hb dX1_takes_47 (lv_at hl 0 rfl) ?_
  refine lv_if_eq (tgt := 65) hx hb dX1_takes_49 (by decide) (fun c1 => ?_) (fun c1 => ?_)
  · have hB := hB.1 c1
    refine lv_iconst (v := 0) hx hb dX1_takes_65 (by decide) ?_
    exact hret _ _ _ _ _ _ dX1_takes_66 ⟨by decide, hB⟩ hP hD hS
  · have hB := hB.2 c1
    refine lv_aload_n hx hb dX1_takes_52 rfl (lv_at hl 1 rfl) ?_
    refine lv_iload_n hx hb dX1_takes_53 rfl (lv_at hl 2 rfl) ?_
    refine lv_iload_n hx hb dX1_takes_54 rfl (lv_at hl 3 rfl) ?_
    refine xcVi [.int x1, .int x2] S hE hA hP hD hS (c_HouseReader_takesDigit l G z0 H.size x1 x2 _) hB (gw_c lk_X1_50 (gw_c wi_X1_takesDigit (gw_c we_X1_X1_takesDigit_X1_takesDigit (gw_c wn_X1 (gw_c wc_X1_takesDigit (fun _ h9 => h9)))))) hd_X1_takesDigit rfl rfl (Nat.le_trans (Nat.le_of_ble_eq_true rfl) hRf) (Nat.le_trans (Nat.le_of_ble_eq_true rfl) hRl) ⟨Nat.zero_le _, Nat.zero_le _⟩ (va_recv hE.1 hP (ci := 1) (q0 := 2) rfl rfl) rfl hl.1 rfl (Nat.le_of_ble_eq_true rfl) dX1_takes_55 (fun r2 z1 H locs hB hP hD hS => ?_)
    refine lv_if_eq (tgt := 65) hx hb dX1_takes_58 (by decide) (fun c3 => ?_) (fun c3 => ?_)
    · have hB := hB.1 c3
      refine lv_iconst (v := 0) hx hb dX1_takes_65 (by decide) ?_
      exact hret _ _ _ _ _ _ dX1_takes_66 ⟨by decide, hB⟩ hP hD hS
    · have hB := hB.2 c3
      refine lv_iconst (v := 1) hx hb dX1_takes_61 (by decide) ?_
      refine lv_goto (tgt := 66) hx hb dX1_takes_62 (by decide) ?_
      exact hret _ _ _ _ _ _ dX1_takes_66 ⟨by decide, hB⟩ hP hD hS
def B_HouseReader_takes_40 (post : Int32 → St → Prop) (x1 : Int32) (x2 : Int32) (z0 : St) : Prop :=
  (B_HouseReader_takes_45 post x1 x2 (1 : Int32) z0)
set_option maxHeartbeats 4000000 in
set_option maxRecDepth 100000 in
theorem w_HouseReader_takes_40 {p : Program} {l : Launch} {e : Env} {R : Room} {s : State} {m : MethodId} {args : Array Value} {below : List Frame} {meth : Method} {c : Code} {Q : State → Prop} {G : GX} {A : Nat → Prop} (S : CallFix p m c cX1_takes 5 s args GW RX1) (hE : env G A s s.heap) (hA : ∀ q, s.heap.size ≤ q → A q) (hRf : 5 ≤ R.frames) (hRl : 112 ≤ R.locals) {post : Int32 → St → Prop} (hret : RetZ p l e R s m args below meth c Q 0 0 wX G A cX1_takes post) (x1 : Int32) (x2 : Int32) (z0 : St) (hB : B_HouseReader_takes_40 post x1 x2 z0) : Xw p l e R s m args below meth c Q 0 0 wX G A z0 5 [(0, .ref (ad G 2)), (1, .int x1), (2, .int x2)] 40 [] := by
  intro H locs ls hP hD hS hl
  have hx := S.1
  have hb := S.2.1
  refine lv_iconst (v := 1) hx hb dX1_takes_40 (by decide) ?_
  refine lv_goto (tgt := 45) hx hb dX1_takes_41 (by decide) ?_
  exact w_HouseReader_takes_45 S hE hA hRf hRl hret x1 x2 (1 : Int32) z0 hB _ _ _ hP hD hS (lv_sub hl [0, 1, 2] rfl)
def B_HouseReader_takes_44 (post : Int32 → St → Prop) (x1 : Int32) (x2 : Int32) (z0 : St) : Prop :=
  (B_HouseReader_takes_45 post x1 x2 (0 : Int32) z0)
set_option maxHeartbeats 4000000 in
set_option maxRecDepth 100000 in
theorem w_HouseReader_takes_44 {p : Program} {l : Launch} {e : Env} {R : Room} {s : State} {m : MethodId} {args : Array Value} {below : List Frame} {meth : Method} {c : Code} {Q : State → Prop} {G : GX} {A : Nat → Prop} (S : CallFix p m c cX1_takes 5 s args GW RX1) (hE : env G A s s.heap) (hA : ∀ q, s.heap.size ≤ q → A q) (hRf : 5 ≤ R.frames) (hRl : 112 ≤ R.locals) {post : Int32 → St → Prop} (hret : RetZ p l e R s m args below meth c Q 0 0 wX G A cX1_takes post) (x1 : Int32) (x2 : Int32) (z0 : St) (hB : B_HouseReader_takes_44 post x1 x2 z0) : Xw p l e R s m args below meth c Q 0 0 wX G A z0 5 [(0, .ref (ad G 2)), (1, .int x1), (2, .int x2)] 44 [] := by
  intro H locs ls hP hD hS hl
  have hx := S.1
  have hb := S.2.1
  refine lv_iconst (v := 0) hx hb dX1_takes_44 (by decide) ?_
  exact w_HouseReader_takes_45 S hE hA hRf hRl hret x1 x2 (0 : Int32) z0 hB _ _ _ hP hD hS (lv_sub hl [0, 1, 2] rfl)
def S_HouseReader_takes (post : Int32 → St → Prop) (x1 : Int32) (x2 : Int32) (x3 : Int32) (z0 : St) : Prop :=
  (((gI z0 3) = 0 → (S_HouseReader_takesClause (fun (r10 : Int32) (z4 : St) => ((r10 = 0 ∨ r10 = 1) ∧ post r10 z4)) x1 z0)) ∧ (¬ (gI z0 3) = 0 → (S_Reader_isDigit (fun (r2 : Int32) (z1 : St) => ((r2 = 0 → (((gI z1 3) = (2 : Int32) → (post (0 : Int32) z1)) ∧ (¬ (gI z1 3) = (2 : Int32) → ((x1 = (59 : Int32) → (∀ z3 : St, z3 = sI z1 3 (0 : Int32) → (post (1 : Int32) z3))) ∧ (¬ x1 = (59 : Int32) → (S_HouseReader_takesLetter (fun (r6 : Int32) (z2 : St) => ((r6 = 0 ∨ r6 = 1) ∧ post r6 z2)) x1 z1)))))) ∧ (¬ r2 = 0 → (((gI z1 3) = (2 : Int32) → (B_HouseReader_takes_40 post x1 x2 z1)) ∧ (¬ (gI z1 3) = (2 : Int32) → ((x3 = 0 → (B_HouseReader_takes_44 post x1 x2 z1)) ∧ (¬ x3 = 0 → (((gI z1 11) = (1 : Int32) → (B_HouseReader_takes_40 post x1 x2 z1)) ∧ (¬ (gI z1 11) = (1 : Int32) → (B_HouseReader_takes_44 post x1 x2 z1)))))))))) x1 z0)))
set_option maxHeartbeats 4000000 in
set_option maxRecDepth 100000 in
theorem w_HouseReader_takes_0 {p : Program} {l : Launch} {e : Env} {R : Room} {s : State} {m : MethodId} {args : Array Value} {below : List Frame} {meth : Method} {c : Code} {Q : State → Prop} {G : GX} {A : Nat → Prop} (S : CallFix p m c cX1_takes 5 s args GW RX1) (hE : env G A s s.heap) (hA : ∀ q, s.heap.size ≤ q → A q) (hRf : 5 ≤ R.frames) (hRl : 112 ≤ R.locals) {post : Int32 → St → Prop} (hret : RetZ p l e R s m args below meth c Q 0 0 wX G A cX1_takes post) (x1 : Int32) (x2 : Int32) (x3 : Int32) (z0 : St) (hB : S_HouseReader_takes post x1 x2 x3 z0) : Xw p l e R s m args below meth c Q 0 0 wX G A z0 5 [(0, .ref (ad G 2)), (1, .int x1), (2, .int x2), (3, .int x3)] 0 [] := by
  intro H locs ls hP hD hS hl
  have hx := S.1
  have hb := S.2.1
  refine lv_aload_n hx hb dX1_takes_0 rfl (lv_at hl 0 rfl) ?_
  refine xXg_2_awaits S hE hP lk_X1_37 dX1_takes_1 ?_
  refine lv_if_ne (tgt := 13) hx hb dX1_takes_4 (by decide) (fun c1 => ?_) (fun c1 => ?_)
  · have hB := hB.2 c1
    refine lv_iload_n hx hb dX1_takes_13 rfl (lv_at hl 1 rfl) ?_
    refine xcTi (x := ⟨RX1, "isDigit", "(I)Z"⟩) (owner := RX5) [.int x1] S hE hA hP hD hS (c_Reader_isDigit l G z0 H.size x1 _) hB (gw_c lk_X1_44 (gw_c wm_X1_X5_isDigit_I_Z (gw_c wt_X5_isDigit (gw_c wn_X5 (gw_c wc_X5_isDigit (fun _ h9 => h9)))))) rfl hs_X5_isDigit rfl rfl (Nat.le_trans (Nat.le_of_ble_eq_true rfl) hRf) (Nat.le_trans (Nat.le_of_ble_eq_true rfl) hRl) ⟨Nat.zero_le _, Nat.zero_le _⟩ rfl hl.1 rfl (Nat.le_of_ble_eq_true rfl) dX1_takes_14 (fun r2 z1 H locs hB hP hD hS => ?_)
    refine lv_if_eq (tgt := 67) hx hb dX1_takes_17 (by decide) (fun c3 => ?_) (fun c3 => ?_)
    · have hB := hB.1 c3
      refine lv_aload_n hx hb dX1_takes_67 rfl (lv_at hl 0 rfl) ?_
      refine xXg_2_awaits S hE hP lk_X1_37 dX1_takes_68 ?_
      refine lv_iconst (v := 2) hx hb dX1_takes_71 (by decide) ?_
      refine lv_icmp_ne (tgt := 77) hx hb dX1_takes_72 (by decide) (fun c4 => ?_) (fun c4 => ?_)
      · have hB := hB.2 c4
        refine lv_iload_n hx hb dX1_takes_77 rfl (lv_at hl 1 rfl) ?_
        refine lv_bipush (v := 59) hx hb dX1_takes_78 (by decide) ?_
        refine lv_icmp_ne (tgt := 90) hx hb dX1_takes_80 (by decide) (fun c5 => ?_) (fun c5 => ?_)
        · have hB := hB.2 c5
          refine lv_aload_n hx hb dX1_takes_90 rfl (lv_at hl 0 rfl) ?_
          refine lv_iload_n hx hb dX1_takes_91 rfl (lv_at hl 1 rfl) ?_
          refine xcVi [.int x1] S hE hA hP hD hS (c_HouseReader_takesLetter l G z1 H.size x1 _) hB (gw_c lk_X1_54 (gw_c wi_X1_takesLetter (gw_c we_X1_X1_takesLetter_X1_takesLetter (gw_c wn_X1 (gw_c wc_X1_takesLetter (fun _ h9 => h9)))))) hd_X1_takesLetter rfl rfl (Nat.le_trans (Nat.le_of_ble_eq_true rfl) hRf) (Nat.le_trans (Nat.le_of_ble_eq_true rfl) hRl) ⟨Nat.zero_le _, Nat.zero_le _⟩ (va_recv hE.1 hP (ci := 1) (q0 := 2) rfl rfl) rfl hl.1 rfl (Nat.le_of_ble_eq_true rfl) dX1_takes_92 (fun r6 z2 H locs hB hP hD hS => ?_)
          exact hret _ _ _ _ _ _ dX1_takes_95 hB hP hD hS
        · have hB := hB.1 c5
          refine lv_aload_n hx hb dX1_takes_83 rfl (lv_at hl 0 rfl) ?_
          refine lv_iconst (v := 0) hx hb dX1_takes_84 (by decide) ?_
          obtain ⟨z3, ez3⟩ : ∃ z9, z9 = sI z1 3 (0 : Int32) := ⟨_, rfl⟩
          have hB := hB z3 ez3
          refine xXp_2_awaits S hE hP hD hS lk_X1_37 dX1_takes_85 (fun H locs hP hD hS => ?_)
          rw [← ez3] at hP hD
          refine lv_iconst (v := 1) hx hb dX1_takes_88 (by decide) ?_
          exact hret _ _ _ _ _ _ dX1_takes_89 ⟨by decide, hB⟩ hP hD hS
      · have hB := hB.1 c4
        refine lv_iconst (v := 0) hx hb dX1_takes_75 (by decide) ?_
        exact hret _ _ _ _ _ _ dX1_takes_76 ⟨by decide, hB⟩ hP hD hS
    · have hB := hB.2 c3
      refine lv_aload_n hx hb dX1_takes_20 rfl (lv_at hl 0 rfl) ?_
      refine xXg_2_awaits S hE hP lk_X1_37 dX1_takes_21 ?_
      refine lv_iconst (v := 2) hx hb dX1_takes_24 (by decide) ?_
      refine lv_icmp_eq (tgt := 40) hx hb dX1_takes_25 (by decide) (fun c7 => ?_) (fun c7 => ?_)
      · have hB := hB.1 c7
        exact w_HouseReader_takes_40 S hE hA hRf hRl hret x1 x2 z1 hB _ _ _ hP hD hS (lv_sub hl [0, 1, 2] rfl)
      · have hB := hB.2 c7
        refine lv_iload_n hx hb dX1_takes_28 rfl (lv_at hl 3 rfl) ?_
        refine lv_if_eq (tgt := 44) hx hb dX1_takes_29 (by decide) (fun c8 => ?_) (fun c8 => ?_)
        · have hB := hB.1 c8
          exact w_HouseReader_takes_44 S hE hA hRf hRl hret x1 x2 z1 hB _ _ _ hP hD hS (lv_sub hl [0, 1, 2] rfl)
        · have hB := hB.2 c8
          refine lv_aload_n hx hb dX1_takes_32 rfl (lv_at hl 0 rfl) ?_
          refine xXg_2_digits S hE hP lk_X1_47 dX1_takes_33 ?_
          refine lv_iconst (v := 1) hx hb dX1_takes_36 (by decide) ?_
          refine lv_icmp_ne (tgt := 44) hx hb dX1_takes_37 (by decide) (fun c9 => ?_) (fun c9 => ?_)
          · have hB := hB.2 c9
            exact w_HouseReader_takes_44 S hE hA hRf hRl hret x1 x2 z1 hB _ _ _ hP hD hS (lv_sub hl [0, 1, 2] rfl)
          · have hB := hB.1 c9
            exact w_HouseReader_takes_40 S hE hA hRf hRl hret x1 x2 z1 hB _ _ _ hP hD hS (lv_sub hl [0, 1, 2] rfl)
  · have hB := hB.1 c1
    refine lv_aload_n hx hb dX1_takes_7 rfl (lv_at hl 0 rfl) ?_
    refine lv_iload_n hx hb dX1_takes_8 rfl (lv_at hl 1 rfl) ?_
    refine xcVi [.int x1] S hE hA hP hD hS (c_HouseReader_takesClause l G z0 H.size x1 _) hB (gw_c lk_X1_40 (gw_c wi_X1_takesClause (gw_c we_X1_X1_takesClause_X1_takesClause (gw_c wn_X1 (gw_c wc_X1_takesClause (fun _ h9 => h9)))))) hd_X1_takesClause rfl rfl (Nat.le_trans (Nat.le_of_ble_eq_true rfl) hRf) (Nat.le_trans (Nat.le_of_ble_eq_true rfl) hRl) ⟨Nat.zero_le _, Nat.zero_le _⟩ (va_recv hE.1 hP (ci := 1) (q0 := 2) rfl rfl) rfl hl.1 rfl (Nat.le_of_ble_eq_true rfl) dX1_takes_9 (fun r10 z4 H locs hB hP hD hS => ?_)
    exact hret _ _ _ _ _ _ dX1_takes_12 hB hP hD hS
set_option maxHeartbeats 4000000 in
set_option maxRecDepth 100000 in
theorem c_HouseReader_takes (l : Launch) (G : GX) (z0 : St) (sz : Nat) (x1 : Int32) (x2 : Int32) (x3 : Int32) (post : Int32 → St → Prop) : MetI l wX yX1_takes cX1_takes 5 (some .boolean) ({ frames := 5, cells := 0, slots := 0, locals := 112 }) [.ref (ad G 2), .int x1, .int x2, .int x3] G z0 sz (S_HouseReader_takes post x1 x2 x3 z0) post := by
  refine Met.ofW (cc := cX1_takes) (maxL := 5) (ret := (some .boolean)) (by decide) rfl ?_
  intro p e s m args below meth c s₁ B hml hv
  obtain ⟨rfl, hsz, hP, hD0, hE, hB⟩ := hv
  have S : CallFix p m c cX1_takes 5 s _ GW RX1 := ⟨B.exec, B.bytes, hml, findClass_of_methodNamed B.named, fun w h => atoms_spec (ws := Cond.code yX1_takes cX1_takes 5 (some .boolean) :: GW) B.pre w (List.mem_cons_of_mem _ h)⟩
  have hlocks := B.notSynchronized
  subst hsz
  have hD := hD0.self (sz := s.heap.size)
  generalize hAe : va_A (wX G z0) s.heap.size = A at hD hE ⊢
  have hA : ∀ q : Nat, s.heap.size ≤ q → A q := fun q h => by rw [← hAe]; exact Or.inr h
  have hS : va_S A s.heap s.heap [] := va_S.rf
  have hl := lv_entry ([.ref (ad G 2), .int x1, .int x2, .int x3]) (n := 5) (Nat.le_of_ble_eq_true rfl)
  rw [lg_entry_eq]
  generalize (lg_sl ([.ref (ad G 2), .int x1, .int x2, .int x3]) ++ List.replicate (5 - (lg_sl ([.ref (ad G 2), .int x1, .int x2, .int x3])).length) Slot.unset).toArray = ls at hl ⊢
  have hl : lv_has ls 5 [(0, .ref (ad G 2)), (1, .int x1), (2, .int x2), (3, .int x3)] := hl
  refine w_HouseReader_takes_0 S hE hA (Nat.le_refl _) (Nat.le_refl _) ?_ x1 x2 x3 z0 hB _ _ _ hP hD hS hl
  intro pc ls r σ H locs hd hp hP hD hS
  exact W.zret (v := r) B.exec B.bytes B.returns (xboolc r hp.1) (fun t ht hW => ⟨⟨r, σ, rfl, hp.2, by rw [ht]; exact hP, hD⟩, hS.F ht⟩) hS.2.2 hd
def B_Reader_faultOf_2_r1_61 (post : Int32 → St → Prop) (ih8 : Int32 → Int32 → St → Prop) (x3 : Int32) (s0 : Int32) (z0 : St) : Prop :=
  (∀ v1 : Int32, v1 = x3 + (1 : Int32) → (ih8 s0 v1 z0))
set_option maxHeartbeats 4000000 in
set_option maxRecDepth 100000 in
theorem w_Reader_faultOf_2_r1_61 {p : Program} {l : Launch} {e : Env} {R : Room} {s : State} {m : MethodId} {args : Array Value} {below : List Frame} {meth : Method} {c : Code} {Q : State → Prop} {G : GX} {A : Nat → Prop} (S : CallFix p m c cX5_faultOf 5 s args GW RX5) (hE : env G A s s.heap) (hA : ∀ q, s.heap.size ≤ q → A q) (hRf : 6 ≤ R.frames) (hRl : 136 ≤ R.locals) {post : Int32 → St → Prop} (hret : RetI p l e R s m args below meth c Q 0 0 wX G A cX5_faultOf post) {ih8 : Int32 → Int32 → St → Prop} (h8 : ∀ (x2 : Int32) (x3 : Int32) (z0 : St), ih8 x2 x3 z0 → Xw p l e R s m args below meth c Q 0 0 wX G A z0 5 [(0, .ref (ad G 2)), (1, .ref (ad G 1)), (2, .int x2), (3, .int x3)] 8 []) (x3 : Int32) (s0 : Int32) (z0 : St) (hB : B_Reader_faultOf_2_r1_61 post ih8 x3 s0 z0) : Xw p l e R s m args below meth c Q 0 0 wX G A z0 5 [(0, .ref (ad G 2)), (1, .ref (ad G 1)), (3, .int x3)] 61 [.int s0] := by
  intro H locs ls hP hD hS hl
  have hx := S.1
  have hb := S.2.1
  refine lv_istore_n (lv' := [(2, .int s0), (0, .ref (ad G 2)), (1, .ref (ad G 1)), (3, .int x3)]) hx hb dX5_faultOf_61 rfl hl (by decide) rfl (fun ls hl => ?_)
  obtain ⟨v1, ev1⟩ : ∃ y9, y9 = x3 + (1 : Int32) := ⟨_, rfl⟩
  have hB := hB v1 ev1
  refine lv_iinc (v := v1) (lv' := [(3, .int v1), (2, .int s0), (0, .ref (ad G 2)), (1, .ref (ad G 1))]) hx hb dX5_faultOf_62 hl (k := 3) rfl (by rw [ev1]; rfl) (by decide) rfl (fun ls hl => ?_)
  refine lv_goto (tgt := 8) hx hb dX5_faultOf_65 (by decide) ?_
  exact h8 s0 v1 z0 hB _ _ _ hP hD hS (lv_sub hl [2, 3, 1, 0] rfl)
def B_Reader_faultOf_2_r1_49 (post : Int32 → St → Prop) (ih8 : Int32 → Int32 → St → Prop) (x3 : Int32) (x4 : Int32) (z0 : St) : Prop :=
  ((x4 = (32 : Int32) → (B_Reader_faultOf_2_r1_61 post ih8 x3 (0 : Int32) z0)) ∧ (¬ x4 = (32 : Int32) → (B_Reader_faultOf_2_r1_61 post ih8 x3 (1 : Int32) z0)))
set_option maxHeartbeats 4000000 in
set_option maxRecDepth 100000 in
theorem w_Reader_faultOf_2_r1_49 {p : Program} {l : Launch} {e : Env} {R : Room} {s : State} {m : MethodId} {args : Array Value} {below : List Frame} {meth : Method} {c : Code} {Q : State → Prop} {G : GX} {A : Nat → Prop} (S : CallFix p m c cX5_faultOf 5 s args GW RX5) (hE : env G A s s.heap) (hA : ∀ q, s.heap.size ≤ q → A q) (hRf : 6 ≤ R.frames) (hRl : 136 ≤ R.locals) {post : Int32 → St → Prop} (hret : RetI p l e R s m args below meth c Q 0 0 wX G A cX5_faultOf post) {ih8 : Int32 → Int32 → St → Prop} (h8 : ∀ (x2 : Int32) (x3 : Int32) (z0 : St), ih8 x2 x3 z0 → Xw p l e R s m args below meth c Q 0 0 wX G A z0 5 [(0, .ref (ad G 2)), (1, .ref (ad G 1)), (2, .int x2), (3, .int x3)] 8 []) (x3 : Int32) (x4 : Int32) (z0 : St) (hB : B_Reader_faultOf_2_r1_49 post ih8 x3 x4 z0) : Xw p l e R s m args below meth c Q 0 0 wX G A z0 5 [(0, .ref (ad G 2)), (1, .ref (ad G 1)), (3, .int x3), (4, .int x4)] 49 [] := by
  intro H locs ls hP hD hS hl
  have hx := S.1
  have hb := S.2.1
  refine lv_iload hx hb dX5_faultOf_49 (lv_at hl 3 rfl) ?_
  refine lv_bipush (v := 32) hx hb dX5_faultOf_51 (by decide) ?_
  refine lv_icmp_eq (tgt := 60) hx hb dX5_faultOf_53 (by decide) (fun c1 => ?_) (fun c1 => ?_)
  · have hB := hB.1 c1
    refine lv_iconst (v := 0) hx hb dX5_faultOf_60 (by decide) ?_
    exact w_Reader_faultOf_2_r1_61 S hE hA hRf hRl hret h8 x3 (0 : Int32) z0 hB _ _ _ hP hD hS (lv_sub hl [0, 1, 2] rfl)
  · have hB := hB.2 c1
    refine lv_iconst (v := 1) hx hb dX5_faultOf_56 (by decide) ?_
    refine lv_goto (tgt := 61) hx hb dX5_faultOf_57 (by decide) ?_
    exact w_Reader_faultOf_2_r1_61 S hE hA hRf hRl hret h8 x3 (1 : Int32) z0 hB _ _ _ hP hD hS (lv_sub hl [0, 1, 2] rfl)
def B_Reader_faultOf_2_r1_8 (post : Int32 → St → Prop) (ih8 : Int32 → Int32 → St → Prop) (x2 : Int32) (x3 : Int32) (z0 : St) : Prop :=
  (((gI z0 2) ≤ x3 → (S_HouseReader_closes (fun (r2 : Int32) (z1 : St) => ((r2 = 0 → (post (gI z1 2) z1)) ∧ (¬ r2 = 0 → (post (-1 : Int32) z1)))) z0)) ∧ (¬ (gI z0 2) ≤ x3 → (S_Tape_signAt (fun (r4 : Int32) (z2 : St) => ((r4 = (32 : Int32) → (B_Reader_faultOf_2_r1_49 post ih8 x3 r4 z2)) ∧ (¬ r4 = (32 : Int32) → (S_Tape_signAt (fun (r6 : Int32) (z3 : St) => (S_HouseReader_takes (fun (r7 : Int32) (z4 : St) => ((r7 = 0 → (post x3 z4)) ∧ (¬ r7 = 0 → (B_Reader_faultOf_2_r1_49 post ih8 x3 r4 z4)))) r4 r6 x2 z3)) (x3 + (1 : Int32)) z2)))) x3 z0)))
set_option maxHeartbeats 4000000 in
set_option maxRecDepth 100000 in
theorem w_Reader_faultOf_2_r1_8 {p : Program} {l : Launch} {e : Env} {R : Room} {s : State} {m : MethodId} {args : Array Value} {below : List Frame} {meth : Method} {c : Code} {Q : State → Prop} {G : GX} {A : Nat → Prop} (S : CallFix p m c cX5_faultOf 5 s args GW RX5) (hE : env G A s s.heap) (hA : ∀ q, s.heap.size ≤ q → A q) (hRf : 6 ≤ R.frames) (hRl : 136 ≤ R.locals) {post : Int32 → St → Prop} (hret : RetI p l e R s m args below meth c Q 0 0 wX G A cX5_faultOf post) {ih8 : Int32 → Int32 → St → Prop} (h8 : ∀ (x2 : Int32) (x3 : Int32) (z0 : St), ih8 x2 x3 z0 → Xw p l e R s m args below meth c Q 0 0 wX G A z0 5 [(0, .ref (ad G 2)), (1, .ref (ad G 1)), (2, .int x2), (3, .int x3)] 8 []) (x2 : Int32) (x3 : Int32) (z0 : St) (hB : B_Reader_faultOf_2_r1_8 post ih8 x2 x3 z0) : Xw p l e R s m args below meth c Q 0 0 wX G A z0 5 [(0, .ref (ad G 2)), (1, .ref (ad G 1)), (2, .int x2), (3, .int x3)] 8 [] := by
  intro H locs ls hP hD hS hl
  have hx := S.1
  have hb := S.2.1
  refine lv_iload_n hx hb dX5_faultOf_8 rfl (lv_at hl 3 rfl) ?_
  refine lv_aload_n hx hb dX5_faultOf_9 rfl (lv_at hl 1 rfl) ?_
  refine xXg_1_length S hE hP lk_X5_14 dX5_faultOf_10 ?_
  refine lv_icmp_ge (tgt := 68) hx hb dX5_faultOf_13 (by decide) (fun c1 => ?_) (fun c1 => ?_)
  · have hB := hB.1 c1
    refine lv_aload_n hx hb dX5_faultOf_68 rfl (lv_at hl 0 rfl) ?_
    refine xcAi (x := ⟨RX5, "closes", "()Z"⟩) (owner := RX5) (C := RX1) [] S hE hA hP hD hS (c_HouseReader_closes l G z0 H.size _) hB (gw_c lk_X5_28 (gw_c wm_X5_X5_closes__Z (gw_c we_X1_X5_closes___Z_X1_closes (gw_c wi_X1_closes (gw_c wn_X1 (gw_c wc_X1_closes (fun _ h9 => h9))))))) (ed_closes hE.2) hu_X5_closes___Z rfl rfl (Nat.le_trans (Nat.le_of_ble_eq_true rfl) hRf) (Nat.le_trans (Nat.le_of_ble_eq_true rfl) hRl) ⟨Nat.zero_le _, Nat.zero_le _⟩ (va_recv hE.1 hP (ci := 1) (q0 := 2) rfl rfl) rfl hl.1 rfl (Nat.le_of_ble_eq_true rfl) dX5_faultOf_69 (fun r2 z1 H locs hB hP hD hS => ?_)
    refine lv_if_eq (tgt := 79) hx hb dX5_faultOf_72 (by decide) (fun c3 => ?_) (fun c3 => ?_)
    · have hB := hB.1 c3
      refine lv_aload_n hx hb dX5_faultOf_79 rfl (lv_at hl 1 rfl) ?_
      refine xXg_1_length S hE hP lk_X5_14 dX5_faultOf_80 ?_
      exact hret _ _ _ _ _ _ dX5_faultOf_83 hB hP hD hS
    · have hB := hB.2 c3
      refine lv_iconst (v := -1) hx hb dX5_faultOf_75 (by decide) ?_
      refine lv_goto (tgt := 83) hx hb dX5_faultOf_76 (by decide) ?_
      exact hret _ _ _ _ _ _ dX5_faultOf_83 hB hP hD hS
  · have hB := hB.2 c1
    refine lv_aload_n hx hb dX5_faultOf_16 rfl (lv_at hl 1 rfl) ?_
    refine lv_iload_n hx hb dX5_faultOf_17 rfl (lv_at hl 3 rfl) ?_
    refine xcVi [.int x3] S hE hA hP hD hS (c_Tape_signAt l G z0 H.size x3 _) hB (gw_c lk_X5_20 (gw_c wi_X9_signAt (gw_c we_X9_X9_signAt_X9_signAt (gw_c wn_X9 (gw_c wc_X9_signAt (fun _ h9 => h9)))))) hd_X9_signAt rfl rfl (Nat.le_trans (Nat.le_of_ble_eq_true rfl) hRf) (Nat.le_trans (Nat.le_of_ble_eq_true rfl) hRl) ⟨Nat.zero_le _, Nat.zero_le _⟩ (va_recv hE.1 hP (ci := 8) (q0 := 1) rfl rfl) rfl hl.1 rfl (Nat.le_of_ble_eq_true rfl) dX5_faultOf_18 (fun r4 z2 H locs hB hP hD hS => ?_)
    refine lv_istore (lv' := [(4, .int r4), (0, .ref (ad G 2)), (1, .ref (ad G 1)), (2, .int x2), (3, .int x3)]) hx hb dX5_faultOf_21 hl (by decide) rfl (fun ls hl => ?_)
    refine lv_iload hx hb dX5_faultOf_23 (lv_at hl 0 rfl) ?_
    refine lv_bipush (v := 32) hx hb dX5_faultOf_25 (by decide) ?_
    refine lv_icmp_eq (tgt := 49) hx hb dX5_faultOf_27 (by decide) (fun c5 => ?_) (fun c5 => ?_)
    · have hB := hB.1 c5
      exact w_Reader_faultOf_2_r1_49 S hE hA hRf hRl hret h8 x3 r4 z2 hB _ _ _ hP hD hS (lv_sub hl [1, 2, 4, 0] rfl)
    · have hB := hB.2 c5
      refine lv_aload_n hx hb dX5_faultOf_30 rfl (lv_at hl 1 rfl) ?_
      refine lv_iload hx hb dX5_faultOf_31 (lv_at hl 0 rfl) ?_
      refine lv_aload_n hx hb dX5_faultOf_33 rfl (lv_at hl 2 rfl) ?_
      refine lv_iload_n hx hb dX5_faultOf_34 rfl (lv_at hl 4 rfl) ?_
      refine lv_iconst (v := 1) hx hb dX5_faultOf_35 (by decide) ?_
      refine lv_iadd hx hb dX5_faultOf_36 ?_
      refine xcVi [.int (x3 + (1 : Int32))] S hE hA hP hD hS (c_Tape_signAt l G z2 H.size (x3 + (1 : Int32)) _) hB (gw_c lk_X5_20 (gw_c wi_X9_signAt (gw_c we_X9_X9_signAt_X9_signAt (gw_c wn_X9 (gw_c wc_X9_signAt (fun _ h9 => h9)))))) hd_X9_signAt rfl rfl (Nat.le_trans (Nat.le_of_ble_eq_true rfl) hRf) (Nat.le_trans (Nat.le_of_ble_eq_true rfl) hRl) ⟨Nat.zero_le _, Nat.zero_le _⟩ (va_recv hE.1 hP (ci := 8) (q0 := 1) rfl rfl) rfl hl.1 rfl (Nat.le_of_ble_eq_true rfl) dX5_faultOf_37 (fun r6 z3 H locs hB hP hD hS => ?_)
      refine lv_iload_n hx hb dX5_faultOf_40 rfl (lv_at hl 3 rfl) ?_
      refine xcAi (x := ⟨RX5, "takes", "(IIZ)Z"⟩) (owner := RX5) (C := RX1) [.int r4, .int r6, .int x2] S hE hA hP hD hS (c_HouseReader_takes l G z3 H.size r4 r6 x2 _) hB (gw_c lk_X5_24 (gw_c wm_X5_X5_takes_IIZ_Z (gw_c we_X1_X5_takes__IIZ_Z_X1_takes (gw_c wi_X1_takes (gw_c wn_X1 (gw_c wc_X1_takes (fun _ h9 => h9))))))) (ed_takes hE.2) hu_X5_takes__IIZ_Z rfl rfl (Nat.le_trans (Nat.le_of_ble_eq_true rfl) hRf) (Nat.le_trans (Nat.le_of_ble_eq_true rfl) hRl) ⟨Nat.zero_le _, Nat.zero_le _⟩ (va_recv hE.1 hP (ci := 1) (q0 := 2) rfl rfl) rfl hl.1 rfl (Nat.le_of_ble_eq_true rfl) dX5_faultOf_41 (fun r7 z4 H locs hB hP hD hS => ?_)
      refine lv_if_ne (tgt := 49) hx hb dX5_faultOf_44 (by decide) (fun c8 => ?_) (fun c8 => ?_)
      · have hB := hB.2 c8
        exact w_Reader_faultOf_2_r1_49 S hE hA hRf hRl hret h8 x3 r4 z4 hB _ _ _ hP hD hS (lv_sub hl [1, 2, 4, 0] rfl)
      · have hB := hB.1 c8
        refine lv_iload_n hx hb dX5_faultOf_47 rfl (lv_at hl 4 rfl) ?_
        exact hret _ _ _ _ _ _ dX5_faultOf_48 hB hP hD hS
def L_Reader_faultOf_2_r1_8 (post : Int32 → St → Prop) : Nat → Int32 → Int32 → St → Prop
  | 0 => fun _ _ _ => False
  | n + 1 => B_Reader_faultOf_2_r1_8 post (L_Reader_faultOf_2_r1_8 post n)
theorem wl_Reader_faultOf_2_r1_8 {p : Program} {l : Launch} {e : Env} {R : Room} {s : State} {m : MethodId} {args : Array Value} {below : List Frame} {meth : Method} {c : Code} {Q : State → Prop} {G : GX} {A : Nat → Prop} (S : CallFix p m c cX5_faultOf 5 s args GW RX5) (hE : env G A s s.heap) (hA : ∀ q, s.heap.size ≤ q → A q) (hRf : 6 ≤ R.frames) (hRl : 136 ≤ R.locals) {post : Int32 → St → Prop} (hret : RetI p l e R s m args below meth c Q 0 0 wX G A cX5_faultOf post) : ∀ (n : Nat) (x2 : Int32) (x3 : Int32) (z0 : St), L_Reader_faultOf_2_r1_8 post n x2 x3 z0 → Xw p l e R s m args below meth c Q 0 0 wX G A z0 5 [(0, .ref (ad G 2)), (1, .ref (ad G 1)), (2, .int x2), (3, .int x3)] 8 [] := by
  intro n
  induction n with
  | zero => intro x2 x3 z0 hB; exact absurd hB id
  | succ n ih => exact fun x2 x3 z0 hB => w_Reader_faultOf_2_r1_8 S hE hA hRf hRl hret ih x2 x3 z0 hB
def S_Reader_faultOf_2_r1 (post : Int32 → St → Prop) (z0 : St) : Prop :=
  (S_HouseReader_start (fun (z1 : St) => (∃ n1, L_Reader_faultOf_2_r1_8 post n1 (0 : Int32) (0 : Int32) z1)) z0)
set_option maxHeartbeats 4000000 in
set_option maxRecDepth 100000 in
theorem w_Reader_faultOf_2_r1_0 {p : Program} {l : Launch} {e : Env} {R : Room} {s : State} {m : MethodId} {args : Array Value} {below : List Frame} {meth : Method} {c : Code} {Q : State → Prop} {G : GX} {A : Nat → Prop} (S : CallFix p m c cX5_faultOf 5 s args GW RX5) (hE : env G A s s.heap) (hA : ∀ q, s.heap.size ≤ q → A q) (hRf : 6 ≤ R.frames) (hRl : 136 ≤ R.locals) {post : Int32 → St → Prop} (hret : RetI p l e R s m args below meth c Q 0 0 wX G A cX5_faultOf post) (z0 : St) (hB : S_Reader_faultOf_2_r1 post z0) : Xw p l e R s m args below meth c Q 0 0 wX G A z0 5 [(0, .ref (ad G 2)), (1, .ref (ad G 1))] 0 [] := by
  intro H locs ls hP hD hS hl
  have hx := S.1
  have hb := S.2.1
  refine lv_aload_n hx hb dX5_faultOf_0 rfl (lv_at hl 0 rfl) ?_
  refine xcAv (x := ⟨RX5, "start", "()V"⟩) (owner := RX5) (C := RX1) [] S hE hA hP hD hS (c_HouseReader_start l G z0 H.size _) hB (gw_c lk_X5_9 (gw_c wm_X5_X5_start__V (gw_c we_X1_X5_start___V_X1_start (gw_c wi_X1_start (gw_c wn_X1 (gw_c wc_X1_start (fun _ h9 => h9))))))) (ed_start hE.2) hu_X5_start___V rfl rfl (Nat.le_trans (Nat.le_of_ble_eq_true rfl) hRf) (Nat.le_trans (Nat.le_of_ble_eq_true rfl) hRl) ⟨Nat.zero_le _, Nat.zero_le _⟩ (va_recv hE.1 hP (ci := 1) (q0 := 2) rfl rfl) rfl hl.1 rfl (Nat.le_of_ble_eq_true rfl) dX5_faultOf_1 (fun z1 H locs hB hP hD hS => ?_)
  refine lv_iconst (v := 0) hx hb dX5_faultOf_4 (by decide) ?_
  refine lv_istore_n (lv' := [(2, .int (0 : Int32)), (0, .ref (ad G 2)), (1, .ref (ad G 1))]) hx hb dX5_faultOf_5 rfl hl (by decide) rfl (fun ls hl => ?_)
  refine lv_iconst (v := 0) hx hb dX5_faultOf_6 (by decide) ?_
  refine lv_istore_n (lv' := [(3, .int (0 : Int32)), (2, .int (0 : Int32)), (0, .ref (ad G 2)), (1, .ref (ad G 1))]) hx hb dX5_faultOf_7 rfl hl (by decide) rfl (fun ls hl => ?_)
  obtain ⟨n1, hB⟩ := hB
  exact wl_Reader_faultOf_2_r1_8 S hE hA hRf hRl hret n1 (0 : Int32) (0 : Int32) z1 hB _ _ _ hP hD hS (lv_sub hl [2, 3, 1, 0] rfl)
set_option maxHeartbeats 4000000 in
set_option maxRecDepth 100000 in
theorem c_Reader_faultOf_2_r1 (l : Launch) (G : GX) (z0 : St) (sz : Nat) (post : Int32 → St → Prop) : MetI l wX yX5_faultOf cX5_faultOf 5 (some .int) ({ frames := 6, cells := 0, slots := 0, locals := 136 }) [.ref (ad G 2), .ref (ad G 1)] G z0 sz (S_Reader_faultOf_2_r1 post z0) post := by
  refine Met.ofW (cc := cX5_faultOf) (maxL := 5) (ret := (some .int)) (by decide) rfl ?_
  intro p e s m args below meth c s₁ B hml hv
  obtain ⟨rfl, hsz, hP, hD0, hE, hB⟩ := hv
  have S : CallFix p m c cX5_faultOf 5 s _ GW RX5 := ⟨B.exec, B.bytes, hml, findClass_of_methodNamed B.named, fun w h => atoms_spec (ws := Cond.code yX5_faultOf cX5_faultOf 5 (some .int) :: GW) B.pre w (List.mem_cons_of_mem _ h)⟩
  have hlocks := B.notSynchronized
  subst hsz
  have hD := hD0.self (sz := s.heap.size)
  generalize hAe : va_A (wX G z0) s.heap.size = A at hD hE ⊢
  have hA : ∀ q : Nat, s.heap.size ≤ q → A q := fun q h => by rw [← hAe]; exact Or.inr h
  have hS : va_S A s.heap s.heap [] := va_S.rf
  have hl := lv_entry ([.ref (ad G 2), .ref (ad G 1)]) (n := 5) (Nat.le_of_ble_eq_true rfl)
  rw [lg_entry_eq]
  generalize (lg_sl ([.ref (ad G 2), .ref (ad G 1)]) ++ List.replicate (5 - (lg_sl ([.ref (ad G 2), .ref (ad G 1)])).length) Slot.unset).toArray = ls at hl ⊢
  have hl : lv_has ls 5 [(0, .ref (ad G 2)), (1, .ref (ad G 1))] := hl
  refine w_Reader_faultOf_2_r1_0 S hE hA (Nat.le_refl _) (Nat.le_refl _) ?_  z0 hB _ _ _ hP hD hS hl
  intro pc ls r σ H locs hd hp hP hD hS
  exact W.iret (v := r) B.exec B.bytes B.returns (fun t ht hW => ⟨⟨r, σ, rfl, hp, by rw [ht]; exact hP, hD⟩, hS.F ht⟩) hS.2.2 hd
def S_B_fault_v0 (post : Int32 → St → Prop) (x1 : Int32) (z0 : St) : Prop :=
  (S_B_readerOf_v0 (fun (z1 : St) => (S_Reader_faultOf_2_r1 (fun (r1 : Int32) (z2 : St) => (post r1 z2)) z1)) x1 z0)
set_option maxHeartbeats 4000000 in
set_option maxRecDepth 100000 in
theorem w_B_fault_v0_0 {p : Program} {l : Launch} {e : Env} {R : Room} {s : State} {m : MethodId} {args : Array Value} {below : List Frame} {meth : Method} {c : Code} {Q : State → Prop} {G : GX} {A : Nat → Prop} (S : CallFix p m c cX11_fault 3 s args GW RX11) (hE : env G A s s.heap) (hA : ∀ q, s.heap.size ≤ q → A q) (hRf : 7 ≤ R.frames) (hRl : 160 ≤ R.locals) {post : Int32 → St → Prop} (hret : RetI p l e R s m args below meth c Q 0 0 wX G A cX11_fault post) (x1 : Int32) (z0 : St) (hB : S_B_fault_v0 post x1 z0) : Xw p l e R s m args below meth c Q 0 0 wX G A z0 3 [(0, .ref (ad G 0)), (1, .int x1)] 0 [] := by
  intro H locs ls hP hD hS hl
  have hx := S.1
  have hb := S.2.1
  refine lv_aload_n hx hb dX11_fault_0 rfl (lv_at hl 0 rfl) ?_
  refine lv_iload_n hx hb dX11_fault_1 rfl (lv_at hl 1 rfl) ?_
  refine xcVq [.int x1] S hE hA hP hD hS (c_B_readerOf_v0 l G z0 H.size x1 _) hB (gw_c lk_X11_108 (gw_c wi_X11_readerOf (gw_c we_X11_X11_readerOf_X11_readerOf (gw_c wn_X11 (gw_c wc_X11_readerOf (fun _ h9 => h9)))))) hd_X11_readerOf rfl rfl (Nat.le_trans (Nat.le_of_ble_eq_true rfl) hRf) (Nat.le_trans (Nat.le_of_ble_eq_true rfl) hRl) ⟨Nat.zero_le _, Nat.zero_le _⟩ (va_recv hE.1 hP (ci := 10) (q0 := 0) rfl rfl) rfl hl.1 rfl (Nat.le_of_ble_eq_true rfl) dX11_fault_2 rfl (fun z1 H locs hB hP hD hS => ?_)
  refine lv_astore_n (lv' := [(2, .ref (ad G 2)), (0, .ref (ad G 0)), (1, .int x1)]) hx hb dX11_fault_5 rfl hl (by decide) rfl (fun ls hl => ?_)
  refine lv_aload_n hx hb dX11_fault_6 rfl (lv_at hl 0 rfl) ?_
  refine lv_ifnonnull (tgt := 15) hx hb dX11_fault_7 (by decide) ?_
  refine lv_aload_n hx hb dX11_fault_15 rfl (lv_at hl 0 rfl) ?_
  refine lv_aload_n hx hb dX11_fault_16 rfl (lv_at hl 1 rfl) ?_
  refine xXg_0_tape S hE hP lk_X11_10 dX11_fault_17 ?_
  refine xcUi (x := yX5_faultOf) (owner := RX5) (C := RX1) [.ref (ad G 1)] S hE hA hP hD hS (c_Reader_faultOf_2_r1 l G z1 H.size _) hB (gw_c lk_X11_112 (gw_c wm_X5_X5_faultOf_LBottleBefore_Tape__I (gw_c we_X1_X5_faultOf_X5_faultOf (gw_c wi_X5_faultOf (gw_c wn_X5 (gw_c wc_X5_faultOf (fun _ h9 => h9))))))) rfl hu_X5_faultOf rfl rfl (Nat.le_trans (Nat.le_of_ble_eq_true rfl) hRf) (Nat.le_trans (Nat.le_of_ble_eq_true rfl) hRl) ⟨Nat.zero_le _, Nat.zero_le _⟩ (va_recv hE.1 hP (ci := 1) (q0 := 2) rfl rfl) rfl hl.1 rfl (Nat.le_of_ble_eq_true rfl) dX11_fault_20 (fun r1 z2 H locs hB hP hD hS => ?_)
  exact hret _ _ _ _ _ _ dX11_fault_23 hB hP hD hS
set_option maxHeartbeats 4000000 in
set_option maxRecDepth 100000 in
theorem c_B_fault_v0 (l : Launch) (G : GX) (z0 : St) (sz : Nat) (x1 : Int32) (post : Int32 → St → Prop) : MetI l wX yX11_fault cX11_fault 3 (some .int) ({ frames := 7, cells := 0, slots := 0, locals := 160 }) [.ref (ad G 0), .int x1] G z0 sz (S_B_fault_v0 post x1 z0) post := by
  refine Met.ofW (cc := cX11_fault) (maxL := 3) (ret := (some .int)) (by decide) rfl ?_
  intro p e s m args below meth c s₁ B hml hv
  obtain ⟨rfl, hsz, hP, hD0, hE, hB⟩ := hv
  have S : CallFix p m c cX11_fault 3 s _ GW RX11 := ⟨B.exec, B.bytes, hml, findClass_of_methodNamed B.named, fun w h => atoms_spec (ws := Cond.code yX11_fault cX11_fault 3 (some .int) :: GW) B.pre w (List.mem_cons_of_mem _ h)⟩
  have hlocks := B.notSynchronized
  subst hsz
  have hD := hD0.self (sz := s.heap.size)
  generalize hAe : va_A (wX G z0) s.heap.size = A at hD hE ⊢
  have hA : ∀ q : Nat, s.heap.size ≤ q → A q := fun q h => by rw [← hAe]; exact Or.inr h
  have hS : va_S A s.heap s.heap [] := va_S.rf
  have hl := lv_entry ([.ref (ad G 0), .int x1]) (n := 3) (Nat.le_of_ble_eq_true rfl)
  rw [lg_entry_eq]
  generalize (lg_sl ([.ref (ad G 0), .int x1]) ++ List.replicate (3 - (lg_sl ([.ref (ad G 0), .int x1])).length) Slot.unset).toArray = ls at hl ⊢
  have hl : lv_has ls 3 [(0, .ref (ad G 0)), (1, .int x1)] := hl
  refine w_B_fault_v0_0 S hE hA (Nat.le_refl _) (Nat.le_refl _) ?_ x1 z0 hB _ _ _ hP hD hS hl
  intro pc ls r σ H locs hd hp hP hD hS
  exact W.iret (v := r) B.exec B.bytes B.returns (fun t ht hW => ⟨⟨r, σ, rfl, hp, by rw [ht]; exact hP, hD⟩, hS.F ht⟩) hS.2.2 hd
def S_B_readerOf_v1 (post : St → Prop) (x1 : Int32) (z0 : St) : Prop :=
  (¬ x1 = 0 ∧ (x1 = (1 : Int32) ∧ (post z0)))
set_option maxHeartbeats 4000000 in
set_option maxRecDepth 100000 in
theorem w_B_readerOf_v1_0 {p : Program} {l : Launch} {e : Env} {R : Room} {s : State} {m : MethodId} {args : Array Value} {below : List Frame} {meth : Method} {c : Code} {Q : State → Prop} {G : GX} {A : Nat → Prop} (S : CallFix p m c cX11_readerOf 2 s args GW RX11) (hE : env G A s s.heap) (hA : ∀ q, s.heap.size ≤ q → A q) (hRf : 0 ≤ R.frames) (hRl : 0 ≤ R.locals) {post : St → Prop} (hret : RetQ p l e R s m args below meth c Q 0 0 wX G A cX11_readerOf (.ref (ad G 3)) post) (x1 : Int32) (z0 : St) (hB : S_B_readerOf_v1 post x1 z0) : Xw p l e R s m args below meth c Q 0 0 wX G A z0 2 [(0, .ref (ad G 0)), (1, .int x1)] 0 [] := by
  intro H locs ls hP hD hS hl
  have hx := S.1
  have hb := S.2.1
  refine lv_iload_n hx hb dX11_readerOf_0 rfl (lv_at hl 1 rfl) ?_
  obtain ⟨hc9, hB⟩ := hB
  refine lv_if_ne (tgt := 9) hx hb dX11_readerOf_1 (by decide) (fun _ => ?_) (fun h9 => absurd h9 hc9)
  refine lv_iload_n hx hb dX11_readerOf_9 rfl (lv_at hl 1 rfl) ?_
  refine lv_iconst (v := 1) hx hb dX11_readerOf_10 (by decide) ?_
  obtain ⟨hc9, hB⟩ := hB
  refine lv_icmp_ne (tgt := 19) hx hb dX11_readerOf_11 (by decide) (fun h9 => absurd hc9 h9) (fun _ => ?_)
  refine lv_aload_n hx hb dX11_readerOf_14 rfl (lv_at hl 0 rfl) ?_
  refine xXg_0_lawReader S hE hP lk_X11_26 dX11_readerOf_15 ?_
  exact hret _ _ _ _ _ dX11_readerOf_18 hB hP hD hS
set_option maxHeartbeats 4000000 in
set_option maxRecDepth 100000 in
theorem c_B_readerOf_v1 (l : Launch) (G : GX) (z0 : St) (sz : Nat) (x1 : Int32) (post : St → Prop) : MetQ l wX yX11_readerOf cX11_readerOf 2 (some (.object "BottleBefore$Reader")) ({ frames := 0, cells := 0, slots := 0, locals := 0 }) [.ref (ad G 0), .int x1] G z0 sz (S_B_readerOf_v1 post x1 z0) (some (ad G 3)) post := by
  refine Met.ofW (cc := cX11_readerOf) (maxL := 2) (ret := (some (.object "BottleBefore$Reader"))) (by decide) rfl ?_
  intro p e s m args below meth c s₁ B hml hv
  obtain ⟨rfl, hsz, hP, hD0, hE, hB⟩ := hv
  have S : CallFix p m c cX11_readerOf 2 s _ GW RX11 := ⟨B.exec, B.bytes, hml, findClass_of_methodNamed B.named, fun w h => atoms_spec (ws := Cond.code yX11_readerOf cX11_readerOf 2 (some (.object "BottleBefore$Reader")) :: GW) B.pre w (List.mem_cons_of_mem _ h)⟩
  have hlocks := B.notSynchronized
  subst hsz
  have hD := hD0.self (sz := s.heap.size)
  generalize hAe : va_A (wX G z0) s.heap.size = A at hD hE ⊢
  have hA : ∀ q : Nat, s.heap.size ≤ q → A q := fun q h => by rw [← hAe]; exact Or.inr h
  have hS : va_S A s.heap s.heap [] := va_S.rf
  have hl := lv_entry ([.ref (ad G 0), .int x1]) (n := 2) (Nat.le_of_ble_eq_true rfl)
  rw [lg_entry_eq]
  generalize (lg_sl ([.ref (ad G 0), .int x1]) ++ List.replicate (2 - (lg_sl ([.ref (ad G 0), .int x1])).length) Slot.unset).toArray = ls at hl ⊢
  have hl : lv_has ls 2 [(0, .ref (ad G 0)), (1, .int x1)] := hl
  refine w_B_readerOf_v1_0 S hE hA (Nat.le_refl _) (Nat.le_refl _) ?_ x1 z0 hB _ _ _ hP hD hS hl
  intro pc ls σ H locs hd hp hP hD hS
  exact W.aret B.exec B.bytes B.returns (Or.inl ⟨_, rfl⟩) (Or.inr ⟨_, rfl⟩) (fun t ht hW => ⟨⟨some _, σ, rfl, ⟨rfl, hp⟩, by rw [ht]; exact hP, hD⟩, hS.F ht⟩) hS.2.2 hd
def S_LawReader_start (post : St → Prop) (z0 : St) : Prop :=
  (∀ z1 : St, z1 = sI z0 13 (0 : Int32) → (∀ z2 : St, z2 = sI z1 14 (0 : Int32) → (∀ z3 : St, z3 = sI z2 15 (0 : Int32) → (∀ z4 : St, z4 = sI z3 16 (0 : Int32) → (post z4)))))
set_option maxHeartbeats 4000000 in
set_option maxRecDepth 100000 in
theorem w_LawReader_start_0 {p : Program} {l : Launch} {e : Env} {R : Room} {s : State} {m : MethodId} {args : Array Value} {below : List Frame} {meth : Method} {c : Code} {Q : State → Prop} {G : GX} {A : Nat → Prop} (S : CallFix p m c cX2_start 1 s args GW RX2) (hE : env G A s s.heap) (hA : ∀ q, s.heap.size ≤ q → A q) (hRf : 0 ≤ R.frames) (hRl : 0 ≤ R.locals) {post : St → Prop} (hret : RetV p l e R s m args below meth c Q 0 0 wX G A cX2_start post) (z0 : St) (hB : S_LawReader_start post z0) : Xw p l e R s m args below meth c Q 0 0 wX G A z0 1 [(0, .ref (ad G 3))] 0 [] := by
  intro H locs ls hP hD hS hl
  have hx := S.1
  have hb := S.2.1
  refine lv_aload_n hx hb dX2_start_0 rfl (lv_at hl 0 rfl) ?_
  refine lv_iconst (v := 0) hx hb dX2_start_1 (by decide) ?_
  obtain ⟨z1, ez1⟩ : ∃ z9, z9 = sI z0 13 (0 : Int32) := ⟨_, rfl⟩
  have hB := hB z1 ez1
  refine xXp_3_written S hE hP hD hS lk_X2_20 dX2_start_2 (fun H locs hP hD hS => ?_)
  rw [← ez1] at hP hD
  refine lv_aload_n hx hb dX2_start_5 rfl (lv_at hl 0 rfl) ?_
  refine lv_iconst (v := 0) hx hb dX2_start_6 (by decide) ?_
  obtain ⟨z2, ez2⟩ : ∃ z9, z9 = sI z1 14 (0 : Int32) := ⟨_, rfl⟩
  have hB := hB z2 ez2
  refine xXp_3_waits S hE hP hD hS lk_X2_24 dX2_start_7 (fun H locs hP hD hS => ?_)
  rw [← ez2] at hP hD
  refine lv_aload_n hx hb dX2_start_10 rfl (lv_at hl 0 rfl) ?_
  refine lv_iconst (v := 0) hx hb dX2_start_11 (by decide) ?_
  obtain ⟨z3, ez3⟩ : ∃ z9, z9 = sI z2 15 (0 : Int32) := ⟨_, rfl⟩
  have hB := hB z3 ez3
  refine xXp_3_within S hE hP hD hS lk_X2_27 dX2_start_12 (fun H locs hP hD hS => ?_)
  rw [← ez3] at hP hD
  refine lv_aload_n hx hb dX2_start_15 rfl (lv_at hl 0 rfl) ?_
  refine lv_iconst (v := 0) hx hb dX2_start_16 (by decide) ?_
  obtain ⟨z4, ez4⟩ : ∃ z9, z9 = sI z3 16 (0 : Int32) := ⟨_, rfl⟩
  have hB := hB z4 ez4
  refine xXp_3_awaits S hE hP hD hS lk_X2_30 dX2_start_17 (fun H locs hP hD hS => ?_)
  rw [← ez4] at hP hD
  exact hret _ _ _ _ _ dX2_start_20 hB hP hD hS
set_option maxHeartbeats 4000000 in
set_option maxRecDepth 100000 in
theorem c_LawReader_start (l : Launch) (G : GX) (z0 : St) (sz : Nat) (post : St → Prop) : MetV l wX yX2_start cX2_start 1 none ({ frames := 0, cells := 0, slots := 0, locals := 0 }) [.ref (ad G 3)] G z0 sz (S_LawReader_start post z0) post := by
  refine Met.ofW (cc := cX2_start) (maxL := 1) (ret := none) (by decide) rfl ?_
  intro p e s m args below meth c s₁ B hml hv
  obtain ⟨rfl, hsz, hP, hD0, hE, hB⟩ := hv
  have S : CallFix p m c cX2_start 1 s _ GW RX2 := ⟨B.exec, B.bytes, hml, findClass_of_methodNamed B.named, fun w h => atoms_spec (ws := Cond.code yX2_start cX2_start 1 none :: GW) B.pre w (List.mem_cons_of_mem _ h)⟩
  have hlocks := B.notSynchronized
  subst hsz
  have hD := hD0.self (sz := s.heap.size)
  generalize hAe : va_A (wX G z0) s.heap.size = A at hD hE ⊢
  have hA : ∀ q : Nat, s.heap.size ≤ q → A q := fun q h => by rw [← hAe]; exact Or.inr h
  have hS : va_S A s.heap s.heap [] := va_S.rf
  have hl := lv_entry ([.ref (ad G 3)]) (n := 1) (Nat.le_of_ble_eq_true rfl)
  rw [lg_entry_eq]
  generalize (lg_sl ([.ref (ad G 3)]) ++ List.replicate (1 - (lg_sl ([.ref (ad G 3)])).length) Slot.unset).toArray = ls at hl ⊢
  have hl : lv_has ls 1 [(0, .ref (ad G 3))] := hl
  refine w_LawReader_start_0 S hE hA (Nat.le_refl _) (Nat.le_refl _) ?_  z0 hB _ _ _ hP hD hS hl
  intro pc ls σ H locs hd hp hP hD hS
  exact W.vret B.exec B.bytes B.returns (fun t ht hW => ⟨⟨σ, rfl, hp, by rw [ht]; exact hP, hD⟩, hS.F ht⟩) hS.2.2 hd
def B_LawReader_enclosing_33 (post : Int32 → St → Prop) (x1 : Int32) (z0 : St) : Prop :=
  (vp_in x1 64 ∧ (post (gA z0 15 x1.toNatClampNeg) z0))
set_option maxHeartbeats 4000000 in
set_option maxRecDepth 100000 in
theorem w_LawReader_enclosing_33 {p : Program} {l : Launch} {e : Env} {R : Room} {s : State} {m : MethodId} {args : Array Value} {below : List Frame} {meth : Method} {c : Code} {Q : State → Prop} {G : GX} {A : Nat → Prop} (S : CallFix p m c cX2_enclosing 2 s args GW RX2) (hE : env G A s s.heap) (hA : ∀ q, s.heap.size ≤ q → A q) (hRf : 0 ≤ R.frames) (hRl : 0 ≤ R.locals) {post : Int32 → St → Prop} (hret : RetI p l e R s m args below meth c Q 0 0 wX G A cX2_enclosing post) (x1 : Int32) (z0 : St) (hB : B_LawReader_enclosing_33 post x1 z0) : Xw p l e R s m args below meth c Q 0 0 wX G A z0 2 [(0, .ref (ad G 3)), (1, .int x1)] 33 [] := by
  intro H locs ls hP hD hS hl
  have hx := S.1
  have hb := S.2.1
  refine lv_aload_n hx hb dX2_enclosing_33 rfl (lv_at hl 0 rfl) ?_
  refine xXg_3_waiting S hE hP lk_X2_17 dX2_enclosing_34 ?_
  refine lv_iload_n hx hb dX2_enclosing_37 rfl (lv_at hl 1 rfl) ?_
  obtain ⟨hi, hB⟩ := hB
  refine xXl_15 S hE hP hi dX2_enclosing_38 ?_
  exact hret _ _ _ _ _ _ dX2_enclosing_39 hB hP hD hS
def B_LawReader_enclosing_7 (post : Int32 → St → Prop) (ih7 : Int32 → St → Prop) (x1 : Int32) (z0 : St) : Prop :=
  ((x1 < 0 → (post (-1 : Int32) z0)) ∧ (¬ x1 < 0 → (vp_in x1 64 ∧ (((gA z0 15 x1.toNatClampNeg) = (40 : Int32) → (B_LawReader_enclosing_33 post x1 z0)) ∧ (¬ (gA z0 15 x1.toNatClampNeg) = (40 : Int32) → (vp_in x1 64 ∧ (((gA z0 15 x1.toNatClampNeg) = (91 : Int32) → (B_LawReader_enclosing_33 post x1 z0)) ∧ (¬ (gA z0 15 x1.toNatClampNeg) = (91 : Int32) → (∀ v4 : Int32, v4 = x1 + (-1 : Int32) → (ih7 v4 z0))))))))))
set_option maxHeartbeats 4000000 in
set_option maxRecDepth 100000 in
theorem w_LawReader_enclosing_7 {p : Program} {l : Launch} {e : Env} {R : Room} {s : State} {m : MethodId} {args : Array Value} {below : List Frame} {meth : Method} {c : Code} {Q : State → Prop} {G : GX} {A : Nat → Prop} (S : CallFix p m c cX2_enclosing 2 s args GW RX2) (hE : env G A s s.heap) (hA : ∀ q, s.heap.size ≤ q → A q) (hRf : 0 ≤ R.frames) (hRl : 0 ≤ R.locals) {post : Int32 → St → Prop} (hret : RetI p l e R s m args below meth c Q 0 0 wX G A cX2_enclosing post) {ih7 : Int32 → St → Prop} (h7 : ∀ (x1 : Int32) (z0 : St), ih7 x1 z0 → Xw p l e R s m args below meth c Q 0 0 wX G A z0 2 [(0, .ref (ad G 3)), (1, .int x1)] 7 []) (x1 : Int32) (z0 : St) (hB : B_LawReader_enclosing_7 post ih7 x1 z0) : Xw p l e R s m args below meth c Q 0 0 wX G A z0 2 [(0, .ref (ad G 3)), (1, .int x1)] 7 [] := by
  intro H locs ls hP hD hS hl
  have hx := S.1
  have hb := S.2.1
  refine lv_iload_n hx hb dX2_enclosing_7 rfl (lv_at hl 1 rfl) ?_
  refine lv_if_lt (tgt := 46) hx hb dX2_enclosing_8 (by decide) (fun c1 => ?_) (fun c1 => ?_)
  · have hB := hB.1 c1
    refine lv_iconst (v := -1) hx hb dX2_enclosing_46 (by decide) ?_
    exact hret _ _ _ _ _ _ dX2_enclosing_47 hB hP hD hS
  · have hB := hB.2 c1
    refine lv_aload_n hx hb dX2_enclosing_11 rfl (lv_at hl 0 rfl) ?_
    refine xXg_3_waiting S hE hP lk_X2_17 dX2_enclosing_12 ?_
    refine lv_iload_n hx hb dX2_enclosing_15 rfl (lv_at hl 1 rfl) ?_
    obtain ⟨hi, hB⟩ := hB
    refine xXl_15 S hE hP hi dX2_enclosing_16 ?_
    refine lv_bipush (v := 40) hx hb dX2_enclosing_17 (by decide) ?_
    refine lv_icmp_eq (tgt := 33) hx hb dX2_enclosing_19 (by decide) (fun c2 => ?_) (fun c2 => ?_)
    · have hB := hB.1 c2
      exact w_LawReader_enclosing_33 S hE hA hRf hRl hret x1 z0 hB _ _ _ hP hD hS (lv_sub hl [0, 1] rfl)
    · have hB := hB.2 c2
      refine lv_aload_n hx hb dX2_enclosing_22 rfl (lv_at hl 0 rfl) ?_
      refine xXg_3_waiting S hE hP lk_X2_17 dX2_enclosing_23 ?_
      refine lv_iload_n hx hb dX2_enclosing_26 rfl (lv_at hl 1 rfl) ?_
      obtain ⟨hi, hB⟩ := hB
      refine xXl_15 S hE hP hi dX2_enclosing_27 ?_
      refine lv_bipush (v := 91) hx hb dX2_enclosing_28 (by decide) ?_
      refine lv_icmp_ne (tgt := 40) hx hb dX2_enclosing_30 (by decide) (fun c3 => ?_) (fun c3 => ?_)
      · have hB := hB.2 c3
        obtain ⟨v4, ev4⟩ : ∃ y9, y9 = x1 + (-1 : Int32) := ⟨_, rfl⟩
        have hB := hB v4 ev4
        refine lv_iinc (v := v4) (lv' := [(1, .int v4), (0, .ref (ad G 3))]) hx hb dX2_enclosing_40 hl (k := 1) rfl (by rw [ev4]; rfl) (by decide) rfl (fun ls hl => ?_)
        refine lv_goto (tgt := 7) hx hb dX2_enclosing_43 (by decide) ?_
        exact h7 v4 z0 hB _ _ _ hP hD hS (lv_sub hl [1, 0] rfl)
      · have hB := hB.1 c3
        exact w_LawReader_enclosing_33 S hE hA hRf hRl hret x1 z0 hB _ _ _ hP hD hS (lv_sub hl [0, 1] rfl)
def L_LawReader_enclosing_7 (post : Int32 → St → Prop) : Nat → Int32 → St → Prop
  | 0 => fun _ _ => False
  | n + 1 => B_LawReader_enclosing_7 post (L_LawReader_enclosing_7 post n)
theorem wl_LawReader_enclosing_7 {p : Program} {l : Launch} {e : Env} {R : Room} {s : State} {m : MethodId} {args : Array Value} {below : List Frame} {meth : Method} {c : Code} {Q : State → Prop} {G : GX} {A : Nat → Prop} (S : CallFix p m c cX2_enclosing 2 s args GW RX2) (hE : env G A s s.heap) (hA : ∀ q, s.heap.size ≤ q → A q) (hRf : 0 ≤ R.frames) (hRl : 0 ≤ R.locals) {post : Int32 → St → Prop} (hret : RetI p l e R s m args below meth c Q 0 0 wX G A cX2_enclosing post) : ∀ (n : Nat) (x1 : Int32) (z0 : St), L_LawReader_enclosing_7 post n x1 z0 → Xw p l e R s m args below meth c Q 0 0 wX G A z0 2 [(0, .ref (ad G 3)), (1, .int x1)] 7 [] := by
  intro n
  induction n with
  | zero => intro x1 z0 hB; exact absurd hB id
  | succ n ih => exact fun x1 z0 hB => w_LawReader_enclosing_7 S hE hA hRf hRl hret ih x1 z0 hB
def S_LawReader_enclosing (post : Int32 → St → Prop) (z0 : St) : Prop :=
  (∀ v1 : Int32, v1 = ((gI z0 14) - (1 : Int32)) → (∃ n2, L_LawReader_enclosing_7 post n2 v1 z0))
set_option maxHeartbeats 4000000 in
set_option maxRecDepth 100000 in
theorem w_LawReader_enclosing_0 {p : Program} {l : Launch} {e : Env} {R : Room} {s : State} {m : MethodId} {args : Array Value} {below : List Frame} {meth : Method} {c : Code} {Q : State → Prop} {G : GX} {A : Nat → Prop} (S : CallFix p m c cX2_enclosing 2 s args GW RX2) (hE : env G A s s.heap) (hA : ∀ q, s.heap.size ≤ q → A q) (hRf : 0 ≤ R.frames) (hRl : 0 ≤ R.locals) {post : Int32 → St → Prop} (hret : RetI p l e R s m args below meth c Q 0 0 wX G A cX2_enclosing post) (z0 : St) (hB : S_LawReader_enclosing post z0) : Xw p l e R s m args below meth c Q 0 0 wX G A z0 2 [(0, .ref (ad G 3))] 0 [] := by
  intro H locs ls hP hD hS hl
  have hx := S.1
  have hb := S.2.1
  refine lv_aload_n hx hb dX2_enclosing_0 rfl (lv_at hl 0 rfl) ?_
  refine xXg_3_waits S hE hP lk_X2_24 dX2_enclosing_1 ?_
  refine lv_iconst (v := 1) hx hb dX2_enclosing_4 (by decide) ?_
  refine lv_isub hx hb dX2_enclosing_5 ?_
  refine lv_topi (fun v1 ev1 => ?_)
  have hB := hB v1 ev1
  refine lv_istore_n (lv' := [(1, .int v1), (0, .ref (ad G 3))]) hx hb dX2_enclosing_6 rfl hl (by decide) rfl (fun ls hl => ?_)
  obtain ⟨n2, hB⟩ := hB
  exact wl_LawReader_enclosing_7 S hE hA hRf hRl hret n2 v1 z0 hB _ _ _ hP hD hS (lv_sub hl [1, 0] rfl)
set_option maxHeartbeats 4000000 in
set_option maxRecDepth 100000 in
theorem c_LawReader_enclosing (l : Launch) (G : GX) (z0 : St) (sz : Nat) (post : Int32 → St → Prop) : MetI l wX yX2_enclosing cX2_enclosing 2 (some .int) ({ frames := 0, cells := 0, slots := 0, locals := 0 }) [.ref (ad G 3)] G z0 sz (S_LawReader_enclosing post z0) post := by
  refine Met.ofW (cc := cX2_enclosing) (maxL := 2) (ret := (some .int)) (by decide) rfl ?_
  intro p e s m args below meth c s₁ B hml hv
  obtain ⟨rfl, hsz, hP, hD0, hE, hB⟩ := hv
  have S : CallFix p m c cX2_enclosing 2 s _ GW RX2 := ⟨B.exec, B.bytes, hml, findClass_of_methodNamed B.named, fun w h => atoms_spec (ws := Cond.code yX2_enclosing cX2_enclosing 2 (some .int) :: GW) B.pre w (List.mem_cons_of_mem _ h)⟩
  have hlocks := B.notSynchronized
  subst hsz
  have hD := hD0.self (sz := s.heap.size)
  generalize hAe : va_A (wX G z0) s.heap.size = A at hD hE ⊢
  have hA : ∀ q : Nat, s.heap.size ≤ q → A q := fun q h => by rw [← hAe]; exact Or.inr h
  have hS : va_S A s.heap s.heap [] := va_S.rf
  have hl := lv_entry ([.ref (ad G 3)]) (n := 2) (Nat.le_of_ble_eq_true rfl)
  rw [lg_entry_eq]
  generalize (lg_sl ([.ref (ad G 3)]) ++ List.replicate (2 - (lg_sl ([.ref (ad G 3)])).length) Slot.unset).toArray = ls at hl ⊢
  have hl : lv_has ls 2 [(0, .ref (ad G 3))] := hl
  refine w_LawReader_enclosing_0 S hE hA (Nat.le_refl _) (Nat.le_refl _) ?_  z0 hB _ _ _ hP hD hS hl
  intro pc ls r σ H locs hd hp hP hD hS
  exact W.iret (v := r) B.exec B.bytes B.returns (fun t ht hW => ⟨⟨r, σ, rfl, hp, by rw [ht]; exact hP, hD⟩, hS.F ht⟩) hS.2.2 hd
def S_LawReader_rank (post : Int32 → St → Prop) (x0 : Int32) (z0 : St) : Prop :=
  ((x0 = (33 : Int32) → (post (3 : Int32) z0)) ∧ (¬ x0 = (33 : Int32) → ((x0 = (38 : Int32) → (post (2 : Int32) z0)) ∧ (¬ x0 = (38 : Int32) → ((x0 = (42 : Int32) → (post (6 : Int32) z0)) ∧ (¬ x0 = (42 : Int32) → ((x0 = (43 : Int32) → (post (5 : Int32) z0)) ∧ (¬ x0 = (43 : Int32) → ((x0 = (45 : Int32) → (post (5 : Int32) z0)) ∧ (¬ x0 = (45 : Int32) → ((x0 = (47 : Int32) → (post (6 : Int32) z0)) ∧ (¬ x0 = (47 : Int32) → ((x0 = (60 : Int32) → (post (4 : Int32) z0)) ∧ (¬ x0 = (60 : Int32) → ((x0 = (61 : Int32) → (post (4 : Int32) z0)) ∧ (¬ x0 = (61 : Int32) → ((x0 = (62 : Int32) → (post (4 : Int32) z0)) ∧ (¬ x0 = (62 : Int32) → ((x0 = (124 : Int32) → (post (1 : Int32) z0)) ∧ (¬ x0 = (124 : Int32) → (post (0 : Int32) z0)))))))))))))))))))))
set_option maxHeartbeats 4000000 in
set_option maxRecDepth 100000 in
theorem w_LawReader_rank_0 {p : Program} {l : Launch} {e : Env} {R : Room} {s : State} {m : MethodId} {args : Array Value} {below : List Frame} {meth : Method} {c : Code} {Q : State → Prop} {G : GX} {A : Nat → Prop} (S : CallFix p m c cX2_rank 1 s args GW RX2) (hE : env G A s s.heap) (hA : ∀ q, s.heap.size ≤ q → A q) (hRf : 0 ≤ R.frames) (hRl : 0 ≤ R.locals) {post : Int32 → St → Prop} (hret : RetI p l e R s m args below meth c Q 0 0 wX G A cX2_rank post) (x0 : Int32) (z0 : St) (hB : S_LawReader_rank post x0 z0) : Xw p l e R s m args below meth c Q 0 0 wX G A z0 1 [(0, .int x0)] 0 [] := by
  intro H locs ls hP hD hS hl
  have hx := S.1
  have hb := S.2.1
  refine lv_iload_n hx hb dX2_rank_0 rfl (lv_at hl 0 rfl) ?_
  -- switch
  by_cases q33 : x0 = (33 : Int32)
  · have hB := hB.1 q33
    refine lv_lookup (tgt := 99) (off := 98) hx hb dX2_rank_1 (by decide) (by rw [q33]; decide) (by decide) ?_
    refine lv_iconst (v := 3) hx hb dX2_rank_99 (by decide) ?_
    exact hret _ _ _ _ _ _ dX2_rank_100 hB hP hD hS
  have hB := hB.2 q33
  by_cases q38 : x0 = (38 : Int32)
  · have hB := hB.1 q38
    refine lv_lookup (tgt := 101) (off := 100) hx hb dX2_rank_1 (by decide) (by rw [q38]; decide) (by decide) ?_
    refine lv_iconst (v := 2) hx hb dX2_rank_101 (by decide) ?_
    exact hret _ _ _ _ _ _ dX2_rank_102 hB hP hD hS
  have hB := hB.2 q38
  by_cases q42 : x0 = (42 : Int32)
  · have hB := hB.1 q42
    refine lv_lookup (tgt := 92) (off := 91) hx hb dX2_rank_1 (by decide) (by rw [q42]; decide) (by decide) ?_
    refine lv_bipush (v := 6) hx hb dX2_rank_92 (by decide) ?_
    exact hret _ _ _ _ _ _ dX2_rank_94 hB hP hD hS
  have hB := hB.2 q42
  by_cases q43 : x0 = (43 : Int32)
  · have hB := hB.1 q43
    refine lv_lookup (tgt := 95) (off := 94) hx hb dX2_rank_1 (by decide) (by rw [q43]; decide) (by decide) ?_
    refine lv_iconst (v := 5) hx hb dX2_rank_95 (by decide) ?_
    exact hret _ _ _ _ _ _ dX2_rank_96 hB hP hD hS
  have hB := hB.2 q43
  by_cases q45 : x0 = (45 : Int32)
  · have hB := hB.1 q45
    refine lv_lookup (tgt := 95) (off := 94) hx hb dX2_rank_1 (by decide) (by rw [q45]; decide) (by decide) ?_
    refine lv_iconst (v := 5) hx hb dX2_rank_95 (by decide) ?_
    exact hret _ _ _ _ _ _ dX2_rank_96 hB hP hD hS
  have hB := hB.2 q45
  by_cases q47 : x0 = (47 : Int32)
  · have hB := hB.1 q47
    refine lv_lookup (tgt := 92) (off := 91) hx hb dX2_rank_1 (by decide) (by rw [q47]; decide) (by decide) ?_
    refine lv_bipush (v := 6) hx hb dX2_rank_92 (by decide) ?_
    exact hret _ _ _ _ _ _ dX2_rank_94 hB hP hD hS
  have hB := hB.2 q47
  by_cases q60 : x0 = (60 : Int32)
  · have hB := hB.1 q60
    refine lv_lookup (tgt := 97) (off := 96) hx hb dX2_rank_1 (by decide) (by rw [q60]; decide) (by decide) ?_
    refine lv_iconst (v := 4) hx hb dX2_rank_97 (by decide) ?_
    exact hret _ _ _ _ _ _ dX2_rank_98 hB hP hD hS
  have hB := hB.2 q60
  by_cases q61 : x0 = (61 : Int32)
  · have hB := hB.1 q61
    refine lv_lookup (tgt := 97) (off := 96) hx hb dX2_rank_1 (by decide) (by rw [q61]; decide) (by decide) ?_
    refine lv_iconst (v := 4) hx hb dX2_rank_97 (by decide) ?_
    exact hret _ _ _ _ _ _ dX2_rank_98 hB hP hD hS
  have hB := hB.2 q61
  by_cases q62 : x0 = (62 : Int32)
  · have hB := hB.1 q62
    refine lv_lookup (tgt := 97) (off := 96) hx hb dX2_rank_1 (by decide) (by rw [q62]; decide) (by decide) ?_
    refine lv_iconst (v := 4) hx hb dX2_rank_97 (by decide) ?_
    exact hret _ _ _ _ _ _ dX2_rank_98 hB hP hD hS
  have hB := hB.2 q62
  by_cases q124 : x0 = (124 : Int32)
  · have hB := hB.1 q124
    refine lv_lookup (tgt := 103) (off := 102) hx hb dX2_rank_1 (by decide) (by rw [q124]; decide) (by decide) ?_
    refine lv_iconst (v := 1) hx hb dX2_rank_103 (by decide) ?_
    exact hret _ _ _ _ _ _ dX2_rank_104 hB hP hD hS
  have hB := hB.2 q124
  have t33 := lv_neT q33 (show ((33 : Int32)).toInt = 33 by decide)
  have t38 := lv_neT q38 (show ((38 : Int32)).toInt = 38 by decide)
  have t42 := lv_neT q42 (show ((42 : Int32)).toInt = 42 by decide)
  have t43 := lv_neT q43 (show ((43 : Int32)).toInt = 43 by decide)
  have t45 := lv_neT q45 (show ((45 : Int32)).toInt = 45 by decide)
  have t47 := lv_neT q47 (show ((47 : Int32)).toInt = 47 by decide)
  have t60 := lv_neT q60 (show ((60 : Int32)).toInt = 60 by decide)
  have t61 := lv_neT q61 (show ((61 : Int32)).toInt = 61 by decide)
  have t62 := lv_neT q62 (show ((62 : Int32)).toInt = 62 by decide)
  have t124 := lv_neT q124 (show ((124 : Int32)).toInt = 124 by decide)
  refine lv_lookup (tgt := 105) (off := 104) hx hb dX2_rank_1 (by decide) (by simp only [Op.lookupswitch.offset, if_neg (Ne.symm t33), if_neg (Ne.symm t38), if_neg (Ne.symm t42), if_neg (Ne.symm t43), if_neg (Ne.symm t45), if_neg (Ne.symm t47), if_neg (Ne.symm t60), if_neg (Ne.symm t61), if_neg (Ne.symm t62), if_neg (Ne.symm t124)]) (by decide) ?_
  refine lv_iconst (v := 0) hx hb dX2_rank_105 (by decide) ?_
  exact hret _ _ _ _ _ _ dX2_rank_106 hB hP hD hS
set_option maxHeartbeats 4000000 in
set_option maxRecDepth 100000 in
theorem c_LawReader_rank (l : Launch) (G : GX) (z0 : St) (sz : Nat) (x0 : Int32) (post : Int32 → St → Prop) : MetI l wX yX2_rank cX2_rank 1 (some .int) ({ frames := 0, cells := 0, slots := 0, locals := 0 }) [.int x0] G z0 sz (S_LawReader_rank post x0 z0) post := by
  refine Met.ofW (cc := cX2_rank) (maxL := 1) (ret := (some .int)) (by decide) rfl ?_
  intro p e s m args below meth c s₁ B hml hv
  obtain ⟨rfl, hsz, hP, hD0, hE, hB⟩ := hv
  have S : CallFix p m c cX2_rank 1 s _ GW RX2 := ⟨B.exec, B.bytes, hml, findClass_of_methodNamed B.named, fun w h => atoms_spec (ws := Cond.code yX2_rank cX2_rank 1 (some .int) :: GW) B.pre w (List.mem_cons_of_mem _ h)⟩
  have hlocks := B.notSynchronized
  subst hsz
  have hD := hD0.self (sz := s.heap.size)
  generalize hAe : va_A (wX G z0) s.heap.size = A at hD hE ⊢
  have hA : ∀ q : Nat, s.heap.size ≤ q → A q := fun q h => by rw [← hAe]; exact Or.inr h
  have hS : va_S A s.heap s.heap [] := va_S.rf
  have hl := lv_entry ([.int x0]) (n := 1) (Nat.le_of_ble_eq_true rfl)
  rw [lg_entry_eq]
  generalize (lg_sl ([.int x0]) ++ List.replicate (1 - (lg_sl ([.int x0])).length) Slot.unset).toArray = ls at hl ⊢
  have hl : lv_has ls 1 [(0, .int x0)] := hl
  refine w_LawReader_rank_0 S hE hA (Nat.le_refl _) (Nat.le_refl _) ?_ x0 z0 hB _ _ _ hP hD hS hl
  intro pc ls r σ H locs hd hp hP hD hS
  exact W.iret (v := r) B.exec B.bytes B.returns (fun t ht hW => ⟨⟨r, σ, rfl, hp, by rw [ht]; exact hP, hD⟩, hS.F ht⟩) hS.2.2 hd
def S_LawReader_write (post : St → Prop) (x1 : Int32) (z0 : St) : Prop :=
  (((241 : Int32) ≤ (gI z0 13) → (post z0)) ∧ (¬ (241 : Int32) ≤ (gI z0 13) → (vp_in (gI z0 13) 241 ∧ (∀ z1 : St, z1 = sA z0 14 (gI z0 13).toNatClampNeg x1 → (∀ z2 : St, z2 = sI z1 13 ((gI z1 13) + (1 : Int32)) → (post z2))))))
set_option maxHeartbeats 4000000 in
set_option maxRecDepth 100000 in
theorem w_LawReader_write_0 {p : Program} {l : Launch} {e : Env} {R : Room} {s : State} {m : MethodId} {args : Array Value} {below : List Frame} {meth : Method} {c : Code} {Q : State → Prop} {G : GX} {A : Nat → Prop} (S : CallFix p m c cX2_write 2 s args GW RX2) (hE : env G A s s.heap) (hA : ∀ q, s.heap.size ≤ q → A q) (hRf : 0 ≤ R.frames) (hRl : 0 ≤ R.locals) {post : St → Prop} (hret : RetV p l e R s m args below meth c Q 0 0 wX G A cX2_write post) (x1 : Int32) (z0 : St) (hB : S_LawReader_write post x1 z0) : Xw p l e R s m args below meth c Q 0 0 wX G A z0 2 [(0, .ref (ad G 3)), (1, .int x1)] 0 [] := by
  intro H locs ls hP hD hS hl
  have hx := S.1
  have hb := S.2.1
  refine lv_aload_n hx hb dX2_write_0 rfl (lv_at hl 0 rfl) ?_
  refine xXg_3_written S hE hP lk_X2_20 dX2_write_1 ?_
  refine lv_aload_n hx hb dX2_write_4 rfl (lv_at hl 0 rfl) ?_
  refine xXg_3_code S hE hP lk_X2_11 dX2_write_5 ?_
  refine xXn_14 S hE hP dX2_write_8 ?_
  refine lv_icmp_ge (tgt := 32) hx hb dX2_write_9 (by decide) (fun c1 => ?_) (fun c1 => ?_)
  · have hB := hB.1 c1
    exact hret _ _ _ _ _ dX2_write_32 hB hP hD hS
  · have hB := hB.2 c1
    refine lv_aload_n hx hb dX2_write_12 rfl (lv_at hl 0 rfl) ?_
    refine xXg_3_code S hE hP lk_X2_11 dX2_write_13 ?_
    refine lv_aload_n hx hb dX2_write_16 rfl (lv_at hl 0 rfl) ?_
    refine xXg_3_written S hE hP lk_X2_20 dX2_write_17 ?_
    refine lv_iload_n hx hb dX2_write_20 rfl (lv_at hl 1 rfl) ?_
    obtain ⟨hi, hB⟩ := hB
    obtain ⟨z1, ez1⟩ : ∃ z9, z9 = sA z0 14 (gI z0 13).toNatClampNeg x1 := ⟨_, rfl⟩
    have hB := hB z1 ez1
    refine xXs_14 S hE hP hD hS _ rfl hi dX2_write_21 (fun H locs hP hD hS => ?_)
    rw [← ez1] at hP hD
    refine lv_aload_n hx hb dX2_write_22 rfl (lv_at hl 0 rfl) ?_
    refine lv_dup hx hb dX2_write_23 rfl ?_
    refine xXg_3_written S hE hP lk_X2_20 dX2_write_24 ?_
    refine lv_iconst (v := 1) hx hb dX2_write_27 (by decide) ?_
    refine lv_iadd hx hb dX2_write_28 ?_
    obtain ⟨z2, ez2⟩ : ∃ z9, z9 = sI z1 13 ((gI z1 13) + (1 : Int32)) := ⟨_, rfl⟩
    have hB := hB z2 ez2
    refine xXp_3_written S hE hP hD hS lk_X2_20 dX2_write_29 (fun H locs hP hD hS => ?_)
    rw [← ez2] at hP hD
    exact hret _ _ _ _ _ dX2_write_32 hB hP hD hS
set_option maxHeartbeats 4000000 in
set_option maxRecDepth 100000 in
theorem c_LawReader_write (l : Launch) (G : GX) (z0 : St) (sz : Nat) (x1 : Int32) (post : St → Prop) : MetV l wX yX2_write cX2_write 2 none ({ frames := 0, cells := 0, slots := 0, locals := 0 }) [.ref (ad G 3), .int x1] G z0 sz (S_LawReader_write post x1 z0) post := by
  refine Met.ofW (cc := cX2_write) (maxL := 2) (ret := none) (by decide) rfl ?_
  intro p e s m args below meth c s₁ B hml hv
  obtain ⟨rfl, hsz, hP, hD0, hE, hB⟩ := hv
  have S : CallFix p m c cX2_write 2 s _ GW RX2 := ⟨B.exec, B.bytes, hml, findClass_of_methodNamed B.named, fun w h => atoms_spec (ws := Cond.code yX2_write cX2_write 2 none :: GW) B.pre w (List.mem_cons_of_mem _ h)⟩
  have hlocks := B.notSynchronized
  subst hsz
  have hD := hD0.self (sz := s.heap.size)
  generalize hAe : va_A (wX G z0) s.heap.size = A at hD hE ⊢
  have hA : ∀ q : Nat, s.heap.size ≤ q → A q := fun q h => by rw [← hAe]; exact Or.inr h
  have hS : va_S A s.heap s.heap [] := va_S.rf
  have hl := lv_entry ([.ref (ad G 3), .int x1]) (n := 2) (Nat.le_of_ble_eq_true rfl)
  rw [lg_entry_eq]
  generalize (lg_sl ([.ref (ad G 3), .int x1]) ++ List.replicate (2 - (lg_sl ([.ref (ad G 3), .int x1])).length) Slot.unset).toArray = ls at hl ⊢
  have hl : lv_has ls 2 [(0, .ref (ad G 3)), (1, .int x1)] := hl
  refine w_LawReader_write_0 S hE hA (Nat.le_refl _) (Nat.le_refl _) ?_ x1 z0 hB _ _ _ hP hD hS hl
  intro pc ls σ H locs hd hp hP hD hS
  exact W.vret B.exec B.bytes B.returns (fun t ht hW => ⟨⟨σ, rfl, hp, by rw [ht]; exact hP, hD⟩, hS.F ht⟩) hS.2.2 hd
def B_LawReader_writeWaiting_59 (post : St → Prop) (ih0 : Int32 → St → Prop) (x1 : Int32) (z0 : St) : Prop :=
  (vp_in (gI z0 14) 64 ∧ (S_LawReader_write (fun (z1 : St) => (ih0 x1 z1)) (-(gA z0 15 (gI z0 14).toNatClampNeg)) z0))
set_option maxHeartbeats 4000000 in
set_option maxRecDepth 100000 in
theorem w_LawReader_writeWaiting_59 {p : Program} {l : Launch} {e : Env} {R : Room} {s : State} {m : MethodId} {args : Array Value} {below : List Frame} {meth : Method} {c : Code} {Q : State → Prop} {G : GX} {A : Nat → Prop} (S : CallFix p m c cX2_writeWaiting 2 s args GW RX2) (hE : env G A s s.heap) (hA : ∀ q, s.heap.size ≤ q → A q) (hRf : 1 ≤ R.frames) (hRl : 21 ≤ R.locals) {post : St → Prop} (hret : RetV p l e R s m args below meth c Q 0 0 wX G A cX2_writeWaiting post) {ih0 : Int32 → St → Prop} (h0 : ∀ (x1 : Int32) (z0 : St), ih0 x1 z0 → Xw p l e R s m args below meth c Q 0 0 wX G A z0 2 [(0, .ref (ad G 3)), (1, .int x1)] 0 []) (x1 : Int32) (z0 : St) (hB : B_LawReader_writeWaiting_59 post ih0 x1 z0) : Xw p l e R s m args below meth c Q 0 0 wX G A z0 2 [(0, .ref (ad G 3)), (1, .int x1)] 59 [] := by
  intro H locs ls hP hD hS hl
  have hx := S.1
  have hb := S.2.1
  refine lv_aload_n hx hb dX2_writeWaiting_59 rfl (lv_at hl 0 rfl) ?_
  refine lv_aload_n hx hb dX2_writeWaiting_60 rfl (lv_at hl 0 rfl) ?_
  refine xXg_3_waiting S hE hP lk_X2_17 dX2_writeWaiting_61 ?_
  refine lv_aload_n hx hb dX2_writeWaiting_64 rfl (lv_at hl 0 rfl) ?_
  refine xXg_3_waits S hE hP lk_X2_24 dX2_writeWaiting_65 ?_
  obtain ⟨hi, hB⟩ := hB
  refine xXl_15 S hE hP hi dX2_writeWaiting_68 ?_
  refine lv_ineg hx hb dX2_writeWaiting_69 ?_
  refine xcVv [.int (-(gA z0 15 (gI z0 14).toNatClampNeg))] S hE hA hP hD hS (c_LawReader_write l G z0 H.size (-(gA z0 15 (gI z0 14).toNatClampNeg)) _) hB (gw_c lk_X2_72 (gw_c wi_X2_write (gw_c we_X2_X2_write_X2_write (gw_c wn_X2 (gw_c wc_X2_write (fun _ h9 => h9)))))) hd_X2_write rfl rfl (Nat.le_trans (Nat.le_of_ble_eq_true rfl) hRf) (Nat.le_trans (Nat.le_of_ble_eq_true rfl) hRl) ⟨Nat.zero_le _, Nat.zero_le _⟩ (va_recv hE.1 hP (ci := 2) (q0 := 3) rfl rfl) rfl hl.1 rfl (Nat.le_of_ble_eq_true rfl) dX2_writeWaiting_70 (fun z1 H locs hB hP hD hS => ?_)
  refine lv_goto (tgt := 0) hx hb dX2_writeWaiting_73 (by decide) ?_
  exact h0 x1 z1 hB _ _ _ hP hD hS (lv_sub hl [0, 1] rfl)
def B_LawReader_writeWaiting_0 (post : St → Prop) (ih0 : Int32 → St → Prop) (x1 : Int32) (z0 : St) : Prop :=
  (((gI z0 14) ≤ 0 → (post z0)) ∧ (¬ (gI z0 14) ≤ 0 → (vp_in ((gI z0 14) - (1 : Int32)) 64 ∧ (S_LawReader_rank (fun (r2 : Int32) (z1 : St) => ((r2 < x1 → (post z1)) ∧ (¬ r2 < x1 → (∀ z2 : St, z2 = sI z1 14 ((gI z1 14) - (1 : Int32)) → (vp_in (gI z2 14) 64 ∧ (((gA z2 15 (gI z2 14).toNatClampNeg) = (33 : Int32) → (∀ z3 : St, z3 = sI z2 15 ((gI z2 15) - (1 : Int32)) → (B_LawReader_writeWaiting_59 post ih0 x1 z3))) ∧ (¬ (gA z2 15 (gI z2 14).toNatClampNeg) = (33 : Int32) → (B_LawReader_writeWaiting_59 post ih0 x1 z2)))))))) (gA z0 15 ((gI z0 14) - (1 : Int32)).toNatClampNeg) z0))))
set_option maxHeartbeats 4000000 in
set_option maxRecDepth 100000 in
theorem w_LawReader_writeWaiting_0 {p : Program} {l : Launch} {e : Env} {R : Room} {s : State} {m : MethodId} {args : Array Value} {below : List Frame} {meth : Method} {c : Code} {Q : State → Prop} {G : GX} {A : Nat → Prop} (S : CallFix p m c cX2_writeWaiting 2 s args GW RX2) (hE : env G A s s.heap) (hA : ∀ q, s.heap.size ≤ q → A q) (hRf : 1 ≤ R.frames) (hRl : 21 ≤ R.locals) {post : St → Prop} (hret : RetV p l e R s m args below meth c Q 0 0 wX G A cX2_writeWaiting post) {ih0 : Int32 → St → Prop} (h0 : ∀ (x1 : Int32) (z0 : St), ih0 x1 z0 → Xw p l e R s m args below meth c Q 0 0 wX G A z0 2 [(0, .ref (ad G 3)), (1, .int x1)] 0 []) (x1 : Int32) (z0 : St) (hB : B_LawReader_writeWaiting_0 post ih0 x1 z0) : Xw p l e R s m args below meth c Q 0 0 wX G A z0 2 [(0, .ref (ad G 3)), (1, .int x1)] 0 [] := by
  intro H locs ls hP hD hS hl
  have hx := S.1
  have hb := S.2.1
  refine lv_aload_n hx hb dX2_writeWaiting_0 rfl (lv_at hl 0 rfl) ?_
  refine xXg_3_waits S hE hP lk_X2_24 dX2_writeWaiting_1 ?_
  refine lv_if_le (tgt := 76) hx hb dX2_writeWaiting_4 (by decide) (fun c1 => ?_) (fun c1 => ?_)
  · have hB := hB.1 c1
    exact hret _ _ _ _ _ dX2_writeWaiting_76 hB hP hD hS
  · have hB := hB.2 c1
    refine lv_aload_n hx hb dX2_writeWaiting_7 rfl (lv_at hl 0 rfl) ?_
    refine xXg_3_waiting S hE hP lk_X2_17 dX2_writeWaiting_8 ?_
    refine lv_aload_n hx hb dX2_writeWaiting_11 rfl (lv_at hl 0 rfl) ?_
    refine xXg_3_waits S hE hP lk_X2_24 dX2_writeWaiting_12 ?_
    refine lv_iconst (v := 1) hx hb dX2_writeWaiting_15 (by decide) ?_
    refine lv_isub hx hb dX2_writeWaiting_16 ?_
    obtain ⟨hi, hB⟩ := hB
    refine xXl_15 S hE hP hi dX2_writeWaiting_17 ?_
    refine xcSi [.int (gA z0 15 ((gI z0 14) - (1 : Int32)).toNatClampNeg)] S hE hA hP hD hS (c_LawReader_rank l G z0 H.size (gA z0 15 ((gI z0 14) - (1 : Int32)).toNatClampNeg) _) hB (gw_c lk_X2_103 (gw_c wt_X2_rank (gw_c wn_X2 (gw_c wc_X2_rank (fun _ h9 => h9))))) hs_X2_rank rfl rfl (Nat.le_trans (Nat.le_of_ble_eq_true rfl) hRf) (Nat.le_trans (Nat.le_of_ble_eq_true rfl) hRl) ⟨Nat.zero_le _, Nat.zero_le _⟩ rfl hl.1 rfl (Nat.le_of_ble_eq_true rfl) dX2_writeWaiting_18 (fun r2 z1 H locs hB hP hD hS => ?_)
    refine lv_iload_n hx hb dX2_writeWaiting_21 rfl (lv_at hl 1 rfl) ?_
    refine lv_icmp_lt (tgt := 76) hx hb dX2_writeWaiting_22 (by decide) (fun c3 => ?_) (fun c3 => ?_)
    · have hB := hB.1 c3
      exact hret _ _ _ _ _ dX2_writeWaiting_76 hB hP hD hS
    · have hB := hB.2 c3
      refine lv_aload_n hx hb dX2_writeWaiting_25 rfl (lv_at hl 0 rfl) ?_
      refine lv_dup hx hb dX2_writeWaiting_26 rfl ?_
      refine xXg_3_waits S hE hP lk_X2_24 dX2_writeWaiting_27 ?_
      refine lv_iconst (v := 1) hx hb dX2_writeWaiting_30 (by decide) ?_
      refine lv_isub hx hb dX2_writeWaiting_31 ?_
      obtain ⟨z2, ez2⟩ : ∃ z9, z9 = sI z1 14 ((gI z1 14) - (1 : Int32)) := ⟨_, rfl⟩
      have hB := hB z2 ez2
      refine xXp_3_waits S hE hP hD hS lk_X2_24 dX2_writeWaiting_32 (fun H locs hP hD hS => ?_)
      rw [← ez2] at hP hD
      refine lv_aload_n hx hb dX2_writeWaiting_35 rfl (lv_at hl 0 rfl) ?_
      refine xXg_3_waiting S hE hP lk_X2_17 dX2_writeWaiting_36 ?_
      refine lv_aload_n hx hb dX2_writeWaiting_39 rfl (lv_at hl 0 rfl) ?_
      refine xXg_3_waits S hE hP lk_X2_24 dX2_writeWaiting_40 ?_
      obtain ⟨hi, hB⟩ := hB
      refine xXl_15 S hE hP hi dX2_writeWaiting_43 ?_
      refine lv_bipush (v := 33) hx hb dX2_writeWaiting_44 (by decide) ?_
      refine lv_icmp_ne (tgt := 59) hx hb dX2_writeWaiting_46 (by decide) (fun c4 => ?_) (fun c4 => ?_)
      · have hB := hB.2 c4
        exact w_LawReader_writeWaiting_59 S hE hA hRf hRl hret h0 x1 z2 hB _ _ _ hP hD hS (lv_sub hl [0, 1] rfl)
      · have hB := hB.1 c4
        refine lv_aload_n hx hb dX2_writeWaiting_49 rfl (lv_at hl 0 rfl) ?_
        refine lv_dup hx hb dX2_writeWaiting_50 rfl ?_
        refine xXg_3_within S hE hP lk_X2_27 dX2_writeWaiting_51 ?_
        refine lv_iconst (v := 1) hx hb dX2_writeWaiting_54 (by decide) ?_
        refine lv_isub hx hb dX2_writeWaiting_55 ?_
        obtain ⟨z3, ez3⟩ : ∃ z9, z9 = sI z2 15 ((gI z2 15) - (1 : Int32)) := ⟨_, rfl⟩
        have hB := hB z3 ez3
        refine xXp_3_within S hE hP hD hS lk_X2_27 dX2_writeWaiting_56 (fun H locs hP hD hS => ?_)
        rw [← ez3] at hP hD
        exact w_LawReader_writeWaiting_59 S hE hA hRf hRl hret h0 x1 z3 hB _ _ _ hP hD hS (lv_sub hl [0, 1] rfl)
def L_LawReader_writeWaiting_0 (post : St → Prop) : Nat → Int32 → St → Prop
  | 0 => fun _ _ => False
  | n + 1 => B_LawReader_writeWaiting_0 post (L_LawReader_writeWaiting_0 post n)
theorem wl_LawReader_writeWaiting_0 {p : Program} {l : Launch} {e : Env} {R : Room} {s : State} {m : MethodId} {args : Array Value} {below : List Frame} {meth : Method} {c : Code} {Q : State → Prop} {G : GX} {A : Nat → Prop} (S : CallFix p m c cX2_writeWaiting 2 s args GW RX2) (hE : env G A s s.heap) (hA : ∀ q, s.heap.size ≤ q → A q) (hRf : 1 ≤ R.frames) (hRl : 21 ≤ R.locals) {post : St → Prop} (hret : RetV p l e R s m args below meth c Q 0 0 wX G A cX2_writeWaiting post) : ∀ (n : Nat) (x1 : Int32) (z0 : St), L_LawReader_writeWaiting_0 post n x1 z0 → Xw p l e R s m args below meth c Q 0 0 wX G A z0 2 [(0, .ref (ad G 3)), (1, .int x1)] 0 [] := by
  intro n
  induction n with
  | zero => intro x1 z0 hB; exact absurd hB id
  | succ n ih => exact fun x1 z0 hB => w_LawReader_writeWaiting_0 S hE hA hRf hRl hret ih x1 z0 hB
def S_LawReader_writeWaiting (post : St → Prop) (x1 : Int32) (z0 : St) : Prop := ∃ n, L_LawReader_writeWaiting_0 post n x1 z0
set_option maxHeartbeats 4000000 in
set_option maxRecDepth 100000 in
theorem c_LawReader_writeWaiting (l : Launch) (G : GX) (z0 : St) (sz : Nat) (x1 : Int32) (post : St → Prop) : MetV l wX yX2_writeWaiting cX2_writeWaiting 2 none ({ frames := 1, cells := 0, slots := 0, locals := 21 }) [.ref (ad G 3), .int x1] G z0 sz (S_LawReader_writeWaiting post x1 z0) post := by
  refine Met.ofW (cc := cX2_writeWaiting) (maxL := 2) (ret := none) (by decide) rfl ?_
  intro p e s m args below meth c s₁ B hml hv
  obtain ⟨rfl, hsz, hP, hD0, hE, hB⟩ := hv
  have S : CallFix p m c cX2_writeWaiting 2 s _ GW RX2 := ⟨B.exec, B.bytes, hml, findClass_of_methodNamed B.named, fun w h => atoms_spec (ws := Cond.code yX2_writeWaiting cX2_writeWaiting 2 none :: GW) B.pre w (List.mem_cons_of_mem _ h)⟩
  have hlocks := B.notSynchronized
  subst hsz
  have hD := hD0.self (sz := s.heap.size)
  generalize hAe : va_A (wX G z0) s.heap.size = A at hD hE ⊢
  have hA : ∀ q : Nat, s.heap.size ≤ q → A q := fun q h => by rw [← hAe]; exact Or.inr h
  have hS : va_S A s.heap s.heap [] := va_S.rf
  have hl := lv_entry ([.ref (ad G 3), .int x1]) (n := 2) (Nat.le_of_ble_eq_true rfl)
  rw [lg_entry_eq]
  generalize (lg_sl ([.ref (ad G 3), .int x1]) ++ List.replicate (2 - (lg_sl ([.ref (ad G 3), .int x1])).length) Slot.unset).toArray = ls at hl ⊢
  have hl : lv_has ls 2 [(0, .ref (ad G 3)), (1, .int x1)] := hl
  obtain ⟨n0, hB⟩ := hB
  refine wl_LawReader_writeWaiting_0 S hE hA (Nat.le_refl _) (Nat.le_refl _) ?_ n0 x1 z0 hB _ _ _ hP hD hS (lv_sub hl [0, 1] rfl)
  intro pc ls σ H locs hd hp hP hD hS
  exact W.vret B.exec B.bytes B.returns (fun t ht hW => ⟨⟨σ, rfl, hp, by rw [ht]; exact hP, hD⟩, hS.F ht⟩) hS.2.2 hd
def S_LawReader_endsSum (post : Int32 → St → Prop) (z0 : St) : Prop :=
  (S_LawReader_writeWaiting (fun (z1 : St) => (S_LawReader_write (fun (z2 : St) => (∀ z3 : St, z3 = sI z2 16 (0 : Int32) → (post (1 : Int32) z3))) (-59 : Int32) z1)) (1 : Int32) z0)
set_option maxHeartbeats 4000000 in
set_option maxRecDepth 100000 in
theorem w_LawReader_endsSum_0 {p : Program} {l : Launch} {e : Env} {R : Room} {s : State} {m : MethodId} {args : Array Value} {below : List Frame} {meth : Method} {c : Code} {Q : State → Prop} {G : GX} {A : Nat → Prop} (S : CallFix p m c cX2_endsSum 1 s args GW RX2) (hE : env G A s s.heap) (hA : ∀ q, s.heap.size ≤ q → A q) (hRf : 2 ≤ R.frames) (hRl : 42 ≤ R.locals) {post : Int32 → St → Prop} (hret : RetZ p l e R s m args below meth c Q 0 0 wX G A cX2_endsSum post) (z0 : St) (hB : S_LawReader_endsSum post z0) : Xw p l e R s m args below meth c Q 0 0 wX G A z0 1 [(0, .ref (ad G 3))] 0 [] := by
  intro H locs ls hP hD hS hl
  have hx := S.1
  have hb := S.2.1
  refine lv_aload_n hx hb dX2_endsSum_0 rfl (lv_at hl 0 rfl) ?_
  refine lv_iconst (v := 1) hx hb dX2_endsSum_1 (by decide) ?_
  refine xcVv [.int (1 : Int32)] S hE hA hP hD hS (c_LawReader_writeWaiting l G z0 H.size (1 : Int32) _) hB (gw_c lk_X2_106 (gw_c wi_X2_writeWaiting (gw_c we_X2_X2_writeWaiting_X2_writeWaiting (gw_c wn_X2 (gw_c wc_X2_writeWaiting (fun _ h9 => h9)))))) hd_X2_writeWaiting rfl rfl (Nat.le_trans (Nat.le_of_ble_eq_true rfl) hRf) (Nat.le_trans (Nat.le_of_ble_eq_true rfl) hRl) ⟨Nat.zero_le _, Nat.zero_le _⟩ (va_recv hE.1 hP (ci := 2) (q0 := 3) rfl rfl) rfl hl.1 rfl (Nat.le_of_ble_eq_true rfl) dX2_endsSum_2 (fun z1 H locs hB hP hD hS => ?_)
  refine lv_aload_n hx hb dX2_endsSum_5 rfl (lv_at hl 0 rfl) ?_
  refine lv_bipush (v := -59) hx hb dX2_endsSum_6 (by decide) ?_
  refine xcVv [.int (-59 : Int32)] S hE hA hP hD hS (c_LawReader_write l G z1 H.size (-59 : Int32) _) hB (gw_c lk_X2_72 (gw_c wi_X2_write (gw_c we_X2_X2_write_X2_write (gw_c wn_X2 (gw_c wc_X2_write (fun _ h9 => h9)))))) hd_X2_write rfl rfl (Nat.le_trans (Nat.le_of_ble_eq_true rfl) hRf) (Nat.le_trans (Nat.le_of_ble_eq_true rfl) hRl) ⟨Nat.zero_le _, Nat.zero_le _⟩ (va_recv hE.1 hP (ci := 2) (q0 := 3) rfl rfl) rfl hl.1 rfl (Nat.le_of_ble_eq_true rfl) dX2_endsSum_8 (fun z2 H locs hB hP hD hS => ?_)
  refine lv_aload_n hx hb dX2_endsSum_11 rfl (lv_at hl 0 rfl) ?_
  refine lv_iconst (v := 0) hx hb dX2_endsSum_12 (by decide) ?_
  obtain ⟨z3, ez3⟩ : ∃ z9, z9 = sI z2 16 (0 : Int32) := ⟨_, rfl⟩
  have hB := hB z3 ez3
  refine xXp_3_awaits S hE hP hD hS lk_X2_30 dX2_endsSum_13 (fun H locs hP hD hS => ?_)
  rw [← ez3] at hP hD
  refine lv_iconst (v := 1) hx hb dX2_endsSum_16 (by decide) ?_
  exact hret _ _ _ _ _ _ dX2_endsSum_17 ⟨by decide, hB⟩ hP hD hS
set_option maxHeartbeats 4000000 in
set_option maxRecDepth 100000 in
theorem c_LawReader_endsSum (l : Launch) (G : GX) (z0 : St) (sz : Nat) (post : Int32 → St → Prop) : MetI l wX yX2_endsSum cX2_endsSum 1 (some .boolean) ({ frames := 2, cells := 0, slots := 0, locals := 42 }) [.ref (ad G 3)] G z0 sz (S_LawReader_endsSum post z0) post := by
  refine Met.ofW (cc := cX2_endsSum) (maxL := 1) (ret := (some .boolean)) (by decide) rfl ?_
  intro p e s m args below meth c s₁ B hml hv
  obtain ⟨rfl, hsz, hP, hD0, hE, hB⟩ := hv
  have S : CallFix p m c cX2_endsSum 1 s _ GW RX2 := ⟨B.exec, B.bytes, hml, findClass_of_methodNamed B.named, fun w h => atoms_spec (ws := Cond.code yX2_endsSum cX2_endsSum 1 (some .boolean) :: GW) B.pre w (List.mem_cons_of_mem _ h)⟩
  have hlocks := B.notSynchronized
  subst hsz
  have hD := hD0.self (sz := s.heap.size)
  generalize hAe : va_A (wX G z0) s.heap.size = A at hD hE ⊢
  have hA : ∀ q : Nat, s.heap.size ≤ q → A q := fun q h => by rw [← hAe]; exact Or.inr h
  have hS : va_S A s.heap s.heap [] := va_S.rf
  have hl := lv_entry ([.ref (ad G 3)]) (n := 1) (Nat.le_of_ble_eq_true rfl)
  rw [lg_entry_eq]
  generalize (lg_sl ([.ref (ad G 3)]) ++ List.replicate (1 - (lg_sl ([.ref (ad G 3)])).length) Slot.unset).toArray = ls at hl ⊢
  have hl : lv_has ls 1 [(0, .ref (ad G 3))] := hl
  refine w_LawReader_endsSum_0 S hE hA (Nat.le_refl _) (Nat.le_refl _) ?_  z0 hB _ _ _ hP hD hS hl
  intro pc ls r σ H locs hd hp hP hD hS
  exact W.zret (v := r) B.exec B.bytes B.returns (xboolc r hp.1) (fun t ht hW => ⟨⟨r, σ, rfl, hp.2, by rw [ht]; exact hP, hD⟩, hS.F ht⟩) hS.2.2 hd
def S_LawReader_closes (post : Int32 → St → Prop) (z0 : St) : Prop :=
  (((gI z0 16) = (4 : Int32) → (((gI z0 17) = (1 : Int32) → (post (0 : Int32) z0)) ∧ (¬ (gI z0 17) = (1 : Int32) → (S_LawReader_enclosing (fun (r3 : Int32) (z1 : St) => ((r3 = (-1 : Int32) → (S_LawReader_endsSum (fun (r5 : Int32) (z2 : St) => ((r5 = 0 → (post (0 : Int32) z2)) ∧ (¬ r5 = 0 → (post (1 : Int32) z2)))) z1)) ∧ (¬ r3 = (-1 : Int32) → (post (0 : Int32) z1)))) z0)))) ∧ (¬ (gI z0 16) = (4 : Int32) → (post (0 : Int32) z0)))
set_option maxHeartbeats 4000000 in
set_option maxRecDepth 100000 in
theorem w_LawReader_closes_0 {p : Program} {l : Launch} {e : Env} {R : Room} {s : State} {m : MethodId} {args : Array Value} {below : List Frame} {meth : Method} {c : Code} {Q : State → Prop} {G : GX} {A : Nat → Prop} (S : CallFix p m c cX2_closes 1 s args GW RX2) (hE : env G A s s.heap) (hA : ∀ q, s.heap.size ≤ q → A q) (hRf : 3 ≤ R.frames) (hRl : 62 ≤ R.locals) {post : Int32 → St → Prop} (hret : RetZ p l e R s m args below meth c Q 0 0 wX G A cX2_closes post) (z0 : St) (hB : S_LawReader_closes post z0) : Xw p l e R s m args below meth c Q 0 0 wX G A z0 1 [(0, .ref (ad G 3))] 0 [] := by
  intro H locs ls hP hD hS hl
  have hx := S.1
  have hb := S.2.1
  refine lv_aload_n hx hb dX2_closes_0 rfl (lv_at hl 0 rfl) ?_
  refine xXg_3_awaits S hE hP lk_X2_30 dX2_closes_1 ?_
  refine lv_iconst (v := 4) hx hb dX2_closes_4 (by decide) ?_
  refine lv_icmp_ne (tgt := 35) hx hb dX2_closes_5 (by decide) (fun c1 => ?_) (fun c1 => ?_)
  · have hB := hB.2 c1
    refine lv_iconst (v := 0) hx hb dX2_closes_35 (by decide) ?_
    exact hret _ _ _ _ _ _ dX2_closes_36 ⟨by decide, hB⟩ hP hD hS
  · have hB := hB.1 c1
    refine lv_aload_n hx hb dX2_closes_8 rfl (lv_at hl 0 rfl) ?_
    refine xXg_3_stage S hE hP lk_X2_39 dX2_closes_9 ?_
    refine lv_iconst (v := 1) hx hb dX2_closes_12 (by decide) ?_
    refine lv_icmp_eq (tgt := 35) hx hb dX2_closes_13 (by decide) (fun c2 => ?_) (fun c2 => ?_)
    · have hB := hB.1 c2
      refine lv_iconst (v := 0) hx hb dX2_closes_35 (by decide) ?_
      exact hret _ _ _ _ _ _ dX2_closes_36 ⟨by decide, hB⟩ hP hD hS
    · have hB := hB.2 c2
      refine lv_aload_n hx hb dX2_closes_16 rfl (lv_at hl 0 rfl) ?_
      refine xcVi [] S hE hA hP hD hS (c_LawReader_enclosing l G z0 H.size _) hB (gw_c lk_X2_79 (gw_c wi_X2_enclosing (gw_c we_X2_X2_enclosing_X2_enclosing (gw_c wn_X2 (gw_c wc_X2_enclosing (fun _ h9 => h9)))))) hd_X2_enclosing rfl rfl (Nat.le_trans (Nat.le_of_ble_eq_true rfl) hRf) (Nat.le_trans (Nat.le_of_ble_eq_true rfl) hRl) ⟨Nat.zero_le _, Nat.zero_le _⟩ (va_recv hE.1 hP (ci := 2) (q0 := 3) rfl rfl) rfl hl.1 rfl (Nat.le_of_ble_eq_true rfl) dX2_closes_17 (fun r3 z1 H locs hB hP hD hS => ?_)
      refine lv_iconst (v := -1) hx hb dX2_closes_20 (by decide) ?_
      refine lv_icmp_ne (tgt := 35) hx hb dX2_closes_21 (by decide) (fun c4 => ?_) (fun c4 => ?_)
      · have hB := hB.2 c4
        refine lv_iconst (v := 0) hx hb dX2_closes_35 (by decide) ?_
        exact hret _ _ _ _ _ _ dX2_closes_36 ⟨by decide, hB⟩ hP hD hS
      · have hB := hB.1 c4
        refine lv_aload_n hx hb dX2_closes_24 rfl (lv_at hl 0 rfl) ?_
        refine xcVi [] S hE hA hP hD hS (c_LawReader_endsSum l G z1 H.size _) hB (gw_c lk_X2_100 (gw_c wi_X2_endsSum (gw_c we_X2_X2_endsSum_X2_endsSum (gw_c wn_X2 (gw_c wc_X2_endsSum (fun _ h9 => h9)))))) hd_X2_endsSum rfl rfl (Nat.le_trans (Nat.le_of_ble_eq_true rfl) hRf) (Nat.le_trans (Nat.le_of_ble_eq_true rfl) hRl) ⟨Nat.zero_le _, Nat.zero_le _⟩ (va_recv hE.1 hP (ci := 2) (q0 := 3) rfl rfl) rfl hl.1 rfl (Nat.le_of_ble_eq_true rfl) dX2_closes_25 (fun r5 z2 H locs hB hP hD hS => ?_)
        refine lv_if_eq (tgt := 35) hx hb dX2_closes_28 (by decide) (fun c6 => ?_) (fun c6 => ?_)
        · have hB := hB.1 c6
          refine lv_iconst (v := 0) hx hb dX2_closes_35 (by decide) ?_
          exact hret _ _ _ _ _ _ dX2_closes_36 ⟨by decide, hB⟩ hP hD hS
        · have hB := hB.2 c6
          refine lv_iconst (v := 1) hx hb dX2_closes_31 (by decide) ?_
          refine lv_goto (tgt := 36) hx hb dX2_closes_32 (by decide) ?_
          exact hret _ _ _ _ _ _ dX2_closes_36 ⟨by decide, hB⟩ hP hD hS
set_option maxHeartbeats 4000000 in
set_option maxRecDepth 100000 in
theorem c_LawReader_closes (l : Launch) (G : GX) (z0 : St) (sz : Nat) (post : Int32 → St → Prop) : MetI l wX yX2_closes cX2_closes 1 (some .boolean) ({ frames := 3, cells := 0, slots := 0, locals := 62 }) [.ref (ad G 3)] G z0 sz (S_LawReader_closes post z0) post := by
  refine Met.ofW (cc := cX2_closes) (maxL := 1) (ret := (some .boolean)) (by decide) rfl ?_
  intro p e s m args below meth c s₁ B hml hv
  obtain ⟨rfl, hsz, hP, hD0, hE, hB⟩ := hv
  have S : CallFix p m c cX2_closes 1 s _ GW RX2 := ⟨B.exec, B.bytes, hml, findClass_of_methodNamed B.named, fun w h => atoms_spec (ws := Cond.code yX2_closes cX2_closes 1 (some .boolean) :: GW) B.pre w (List.mem_cons_of_mem _ h)⟩
  have hlocks := B.notSynchronized
  subst hsz
  have hD := hD0.self (sz := s.heap.size)
  generalize hAe : va_A (wX G z0) s.heap.size = A at hD hE ⊢
  have hA : ∀ q : Nat, s.heap.size ≤ q → A q := fun q h => by rw [← hAe]; exact Or.inr h
  have hS : va_S A s.heap s.heap [] := va_S.rf
  have hl := lv_entry ([.ref (ad G 3)]) (n := 1) (Nat.le_of_ble_eq_true rfl)
  rw [lg_entry_eq]
  generalize (lg_sl ([.ref (ad G 3)]) ++ List.replicate (1 - (lg_sl ([.ref (ad G 3)])).length) Slot.unset).toArray = ls at hl ⊢
  have hl : lv_has ls 1 [(0, .ref (ad G 3))] := hl
  refine w_LawReader_closes_0 S hE hA (Nat.le_refl _) (Nat.le_refl _) ?_  z0 hB _ _ _ hP hD hS hl
  intro pc ls r σ H locs hd hp hP hD hS
  exact W.zret (v := r) B.exec B.bytes B.returns (xboolc r hp.1) (fun t ht hW => ⟨⟨r, σ, rfl, hp.2, by rw [ht]; exact hP, hD⟩, hS.F ht⟩) hS.2.2 hd
def S_LawReader_await (post : St → Prop) (x1 : Int32) (z0 : St) : Prop :=
  (((64 : Int32) ≤ (gI z0 14) → (post z0)) ∧ (¬ (64 : Int32) ≤ (gI z0 14) → (vp_in (gI z0 14) 64 ∧ (∀ z1 : St, z1 = sA z0 15 (gI z0 14).toNatClampNeg x1 → (∀ z2 : St, z2 = sI z1 14 ((gI z1 14) + (1 : Int32)) → (post z2))))))
set_option maxHeartbeats 4000000 in
set_option maxRecDepth 100000 in
theorem w_LawReader_await_0 {p : Program} {l : Launch} {e : Env} {R : Room} {s : State} {m : MethodId} {args : Array Value} {below : List Frame} {meth : Method} {c : Code} {Q : State → Prop} {G : GX} {A : Nat → Prop} (S : CallFix p m c cX2_await 2 s args GW RX2) (hE : env G A s s.heap) (hA : ∀ q, s.heap.size ≤ q → A q) (hRf : 0 ≤ R.frames) (hRl : 0 ≤ R.locals) {post : St → Prop} (hret : RetV p l e R s m args below meth c Q 0 0 wX G A cX2_await post) (x1 : Int32) (z0 : St) (hB : S_LawReader_await post x1 z0) : Xw p l e R s m args below meth c Q 0 0 wX G A z0 2 [(0, .ref (ad G 3)), (1, .int x1)] 0 [] := by
  intro H locs ls hP hD hS hl
  have hx := S.1
  have hb := S.2.1
  refine lv_aload_n hx hb dX2_await_0 rfl (lv_at hl 0 rfl) ?_
  refine xXg_3_waits S hE hP lk_X2_24 dX2_await_1 ?_
  refine lv_aload_n hx hb dX2_await_4 rfl (lv_at hl 0 rfl) ?_
  refine xXg_3_waiting S hE hP lk_X2_17 dX2_await_5 ?_
  refine xXn_15 S hE hP dX2_await_8 ?_
  refine lv_icmp_ge (tgt := 32) hx hb dX2_await_9 (by decide) (fun c1 => ?_) (fun c1 => ?_)
  · have hB := hB.1 c1
    exact hret _ _ _ _ _ dX2_await_32 hB hP hD hS
  · have hB := hB.2 c1
    refine lv_aload_n hx hb dX2_await_12 rfl (lv_at hl 0 rfl) ?_
    refine xXg_3_waiting S hE hP lk_X2_17 dX2_await_13 ?_
    refine lv_aload_n hx hb dX2_await_16 rfl (lv_at hl 0 rfl) ?_
    refine xXg_3_waits S hE hP lk_X2_24 dX2_await_17 ?_
    refine lv_iload_n hx hb dX2_await_20 rfl (lv_at hl 1 rfl) ?_
    obtain ⟨hi, hB⟩ := hB
    obtain ⟨z1, ez1⟩ : ∃ z9, z9 = sA z0 15 (gI z0 14).toNatClampNeg x1 := ⟨_, rfl⟩
    have hB := hB z1 ez1
    refine xXs_15 S hE hP hD hS _ rfl hi dX2_await_21 (fun H locs hP hD hS => ?_)
    rw [← ez1] at hP hD
    refine lv_aload_n hx hb dX2_await_22 rfl (lv_at hl 0 rfl) ?_
    refine lv_dup hx hb dX2_await_23 rfl ?_
    refine xXg_3_waits S hE hP lk_X2_24 dX2_await_24 ?_
    refine lv_iconst (v := 1) hx hb dX2_await_27 (by decide) ?_
    refine lv_iadd hx hb dX2_await_28 ?_
    obtain ⟨z2, ez2⟩ : ∃ z9, z9 = sI z1 14 ((gI z1 14) + (1 : Int32)) := ⟨_, rfl⟩
    have hB := hB z2 ez2
    refine xXp_3_waits S hE hP hD hS lk_X2_24 dX2_await_29 (fun H locs hP hD hS => ?_)
    rw [← ez2] at hP hD
    exact hret _ _ _ _ _ dX2_await_32 hB hP hD hS
set_option maxHeartbeats 4000000 in
set_option maxRecDepth 100000 in
theorem c_LawReader_await (l : Launch) (G : GX) (z0 : St) (sz : Nat) (x1 : Int32) (post : St → Prop) : MetV l wX yX2_await cX2_await 2 none ({ frames := 0, cells := 0, slots := 0, locals := 0 }) [.ref (ad G 3), .int x1] G z0 sz (S_LawReader_await post x1 z0) post := by
  refine Met.ofW (cc := cX2_await) (maxL := 2) (ret := none) (by decide) rfl ?_
  intro p e s m args below meth c s₁ B hml hv
  obtain ⟨rfl, hsz, hP, hD0, hE, hB⟩ := hv
  have S : CallFix p m c cX2_await 2 s _ GW RX2 := ⟨B.exec, B.bytes, hml, findClass_of_methodNamed B.named, fun w h => atoms_spec (ws := Cond.code yX2_await cX2_await 2 none :: GW) B.pre w (List.mem_cons_of_mem _ h)⟩
  have hlocks := B.notSynchronized
  subst hsz
  have hD := hD0.self (sz := s.heap.size)
  generalize hAe : va_A (wX G z0) s.heap.size = A at hD hE ⊢
  have hA : ∀ q : Nat, s.heap.size ≤ q → A q := fun q h => by rw [← hAe]; exact Or.inr h
  have hS : va_S A s.heap s.heap [] := va_S.rf
  have hl := lv_entry ([.ref (ad G 3), .int x1]) (n := 2) (Nat.le_of_ble_eq_true rfl)
  rw [lg_entry_eq]
  generalize (lg_sl ([.ref (ad G 3), .int x1]) ++ List.replicate (2 - (lg_sl ([.ref (ad G 3), .int x1])).length) Slot.unset).toArray = ls at hl ⊢
  have hl : lv_has ls 2 [(0, .ref (ad G 3)), (1, .int x1)] := hl
  refine w_LawReader_await_0 S hE hA (Nat.le_refl _) (Nat.le_refl _) ?_ x1 z0 hB _ _ _ hP hD hS hl
  intro pc ls σ H locs hd hp hP hD hS
  exact W.vret B.exec B.bytes B.returns (fun t ht hW => ⟨⟨σ, rfl, hp, by rw [ht]; exact hP, hD⟩, hS.F ht⟩) hS.2.2 hd
def B_LawReader_takesStart_47 (post : Int32 → St → Prop) (s0 : Int32) (z0 : St) : Prop :=
  (S_LawReader_write (fun (z1 : St) => (∀ z2 : St, z2 = sI z1 16 (4 : Int32) → (post (1 : Int32) z2))) s0 z0)
set_option maxHeartbeats 4000000 in
set_option maxRecDepth 100000 in
theorem w_LawReader_takesStart_47 {p : Program} {l : Launch} {e : Env} {R : Room} {s : State} {m : MethodId} {args : Array Value} {below : List Frame} {meth : Method} {c : Code} {Q : State → Prop} {G : GX} {A : Nat → Prop} (S : CallFix p m c cX2_takesStart 4 s args GW RX2) (hE : env G A s s.heap) (hA : ∀ q, s.heap.size ≤ q → A q) (hRf : 4 ≤ R.frames) (hRl : 91 ≤ R.locals) {post : Int32 → St → Prop} (hret : RetZ p l e R s m args below meth c Q 0 0 wX G A cX2_takesStart post) (s0 : Int32) (z0 : St) (hB : B_LawReader_takesStart_47 post s0 z0) : Xw p l e R s m args below meth c Q 0 0 wX G A z0 4 [(0, .ref (ad G 3))] 47 [.int s0, .ref (ad G 3)] := by
  intro H locs ls hP hD hS hl
  have hx := S.1
  have hb := S.2.1
  refine xcVv [.int s0] S hE hA hP hD hS (c_LawReader_write l G z0 H.size s0 _) hB (gw_c lk_X2_72 (gw_c wi_X2_write (gw_c we_X2_X2_write_X2_write (gw_c wn_X2 (gw_c wc_X2_write (fun _ h9 => h9)))))) hd_X2_write rfl rfl (Nat.le_trans (Nat.le_of_ble_eq_true rfl) hRf) (Nat.le_trans (Nat.le_of_ble_eq_true rfl) hRl) ⟨Nat.zero_le _, Nat.zero_le _⟩ (va_recv hE.1 hP (ci := 2) (q0 := 3) rfl rfl) rfl hl.1 rfl (Nat.le_of_ble_eq_true rfl) dX2_takesStart_47 (fun z1 H locs hB hP hD hS => ?_)
  refine lv_aload_n hx hb dX2_takesStart_50 rfl (lv_at hl 0 rfl) ?_
  refine lv_iconst (v := 4) hx hb dX2_takesStart_51 (by decide) ?_
  obtain ⟨z2, ez2⟩ : ∃ z9, z9 = sI z1 16 (4 : Int32) := ⟨_, rfl⟩
  have hB := hB z2 ez2
  refine xXp_3_awaits S hE hP hD hS lk_X2_30 dX2_takesStart_52 (fun H locs hP hD hS => ?_)
  rw [← ez2] at hP hD
  refine lv_iconst (v := 1) hx hb dX2_takesStart_55 (by decide) ?_
  exact hret _ _ _ _ _ _ dX2_takesStart_56 ⟨by decide, hB⟩ hP hD hS
def B_LawReader_takesStart_29 (post : Int32 → St → Prop) (x1 : Int32) (x2 : Int32) (s0 : Int32) (z0 : St) : Prop :=
  (∀ z1 : St, z1 = sI z0 19 s0 → ((x2 < 0 → (B_LawReader_takesStart_47 post (x1 - (48 : Int32)) z1)) ∧ (¬ x2 < 0 → (B_LawReader_takesStart_47 post ((-1 : Int32) - x2) z1))))
set_option maxHeartbeats 4000000 in
set_option maxRecDepth 100000 in
theorem w_LawReader_takesStart_29 {p : Program} {l : Launch} {e : Env} {R : Room} {s : State} {m : MethodId} {args : Array Value} {below : List Frame} {meth : Method} {c : Code} {Q : State → Prop} {G : GX} {A : Nat → Prop} (S : CallFix p m c cX2_takesStart 4 s args GW RX2) (hE : env G A s s.heap) (hA : ∀ q, s.heap.size ≤ q → A q) (hRf : 4 ≤ R.frames) (hRl : 91 ≤ R.locals) {post : Int32 → St → Prop} (hret : RetZ p l e R s m args below meth c Q 0 0 wX G A cX2_takesStart post) (x1 : Int32) (x2 : Int32) (s0 : Int32) (z0 : St) (hB : B_LawReader_takesStart_29 post x1 x2 s0 z0) : Xw p l e R s m args below meth c Q 0 0 wX G A z0 4 [(0, .ref (ad G 3)), (1, .int x1), (2, .int x2)] 29 [.int s0, .ref (ad G 3)] := by
  intro H locs ls hP hD hS hl
  have hx := S.1
  have hb := S.2.1
  obtain ⟨z1, ez1⟩ : ∃ z9, z9 = sI z0 19 s0 := ⟨_, rfl⟩
  have hB := hB z1 ez1
  refine xXp_3_digits S hE hP hD hS lk_X2_69 dX2_takesStart_29 (fun H locs hP hD hS => ?_)
  rw [← ez1] at hP hD
  refine lv_aload_n hx hb dX2_takesStart_32 rfl (lv_at hl 0 rfl) ?_
  refine lv_iload_n hx hb dX2_takesStart_33 rfl (lv_at hl 2 rfl) ?_
  refine lv_if_lt (tgt := 43) hx hb dX2_takesStart_34 (by decide) (fun c1 => ?_) (fun c1 => ?_)
  · have hB := hB.1 c1
    refine lv_iload_n hx hb dX2_takesStart_43 rfl (lv_at hl 1 rfl) ?_
    refine lv_bipush (v := 48) hx hb dX2_takesStart_44 (by decide) ?_
    refine lv_isub hx hb dX2_takesStart_46 ?_
    exact w_LawReader_takesStart_47 S hE hA hRf hRl hret (x1 - (48 : Int32)) z1 hB _ _ _ hP hD hS (lv_sub hl [0] rfl)
  · have hB := hB.2 c1
    refine lv_iconst (v := -1) hx hb dX2_takesStart_37 (by decide) ?_
    refine lv_iload_n hx hb dX2_takesStart_38 rfl (lv_at hl 2 rfl) ?_
    refine lv_isub hx hb dX2_takesStart_39 ?_
    refine lv_goto (tgt := 47) hx hb dX2_takesStart_40 (by decide) ?_
    exact w_LawReader_takesStart_47 S hE hA hRf hRl hret ((-1 : Int32) - x2) z1 hB _ _ _ hP hD hS (lv_sub hl [0] rfl)
def B_LawReader_takesStart_19 (post : Int32 → St → Prop) (x1 : Int32) (x2 : Int32) (z0 : St) : Prop :=
  ((x2 < 0 → (B_LawReader_takesStart_29 post x1 x2 (1 : Int32) z0)) ∧ (¬ x2 < 0 → (B_LawReader_takesStart_29 post x1 x2 (0 : Int32) z0)))
set_option maxHeartbeats 4000000 in
set_option maxRecDepth 100000 in
theorem w_LawReader_takesStart_19 {p : Program} {l : Launch} {e : Env} {R : Room} {s : State} {m : MethodId} {args : Array Value} {below : List Frame} {meth : Method} {c : Code} {Q : State → Prop} {G : GX} {A : Nat → Prop} (S : CallFix p m c cX2_takesStart 4 s args GW RX2) (hE : env G A s s.heap) (hA : ∀ q, s.heap.size ≤ q → A q) (hRf : 4 ≤ R.frames) (hRl : 91 ≤ R.locals) {post : Int32 → St → Prop} (hret : RetZ p l e R s m args below meth c Q 0 0 wX G A cX2_takesStart post) (x1 : Int32) (x2 : Int32) (z0 : St) (hB : B_LawReader_takesStart_19 post x1 x2 z0) : Xw p l e R s m args below meth c Q 0 0 wX G A z0 4 [(0, .ref (ad G 3)), (1, .int x1), (2, .int x2)] 19 [] := by
  intro H locs ls hP hD hS hl
  have hx := S.1
  have hb := S.2.1
  refine lv_aload_n hx hb dX2_takesStart_19 rfl (lv_at hl 0 rfl) ?_
  refine lv_iload_n hx hb dX2_takesStart_20 rfl (lv_at hl 2 rfl) ?_
  refine lv_if_lt (tgt := 28) hx hb dX2_takesStart_21 (by decide) (fun c1 => ?_) (fun c1 => ?_)
  · have hB := hB.1 c1
    refine lv_iconst (v := 1) hx hb dX2_takesStart_28 (by decide) ?_
    exact w_LawReader_takesStart_29 S hE hA hRf hRl hret x1 x2 (1 : Int32) z0 hB _ _ _ hP hD hS (lv_sub hl [0, 1, 2] rfl)
  · have hB := hB.2 c1
    refine lv_iconst (v := 0) hx hb dX2_takesStart_24 (by decide) ?_
    refine lv_goto (tgt := 29) hx hb dX2_takesStart_25 (by decide) ?_
    exact w_LawReader_takesStart_29 S hE hA hRf hRl hret x1 x2 (0 : Int32) z0 hB _ _ _ hP hD hS (lv_sub hl [0, 1, 2] rfl)
def B_LawReader_takesStart_123 (post : Int32 → St → Prop) (x1 : Int32) (s0 : Int32) (z0 : St) : Prop :=
  (∀ z1 : St, z1 = sI z0 16 s0 → (∀ z2 : St, z2 = sI z1 15 ((gI z1 15) + (1 : Int32)) → (S_LawReader_await (fun (z3 : St) => (post (1 : Int32) z3)) x1 z2)))
set_option maxHeartbeats 4000000 in
set_option maxRecDepth 100000 in
theorem w_LawReader_takesStart_123 {p : Program} {l : Launch} {e : Env} {R : Room} {s : State} {m : MethodId} {args : Array Value} {below : List Frame} {meth : Method} {c : Code} {Q : State → Prop} {G : GX} {A : Nat → Prop} (S : CallFix p m c cX2_takesStart 4 s args GW RX2) (hE : env G A s s.heap) (hA : ∀ q, s.heap.size ≤ q → A q) (hRf : 4 ≤ R.frames) (hRl : 91 ≤ R.locals) {post : Int32 → St → Prop} (hret : RetZ p l e R s m args below meth c Q 0 0 wX G A cX2_takesStart post) (x1 : Int32) (s0 : Int32) (z0 : St) (hB : B_LawReader_takesStart_123 post x1 s0 z0) : Xw p l e R s m args below meth c Q 0 0 wX G A z0 4 [(0, .ref (ad G 3)), (1, .int x1)] 123 [.int s0, .ref (ad G 3)] := by
  intro H locs ls hP hD hS hl
  have hx := S.1
  have hb := S.2.1
  obtain ⟨z1, ez1⟩ : ∃ z9, z9 = sI z0 16 s0 := ⟨_, rfl⟩
  have hB := hB z1 ez1
  refine xXp_3_awaits S hE hP hD hS lk_X2_30 dX2_takesStart_123 (fun H locs hP hD hS => ?_)
  rw [← ez1] at hP hD
  refine lv_aload_n hx hb dX2_takesStart_126 rfl (lv_at hl 0 rfl) ?_
  refine lv_dup hx hb dX2_takesStart_127 rfl ?_
  refine xXg_3_within S hE hP lk_X2_27 dX2_takesStart_128 ?_
  refine lv_iconst (v := 1) hx hb dX2_takesStart_131 (by decide) ?_
  refine lv_iadd hx hb dX2_takesStart_132 ?_
  obtain ⟨z2, ez2⟩ : ∃ z9, z9 = sI z1 15 ((gI z1 15) + (1 : Int32)) := ⟨_, rfl⟩
  have hB := hB z2 ez2
  refine xXp_3_within S hE hP hD hS lk_X2_27 dX2_takesStart_133 (fun H locs hP hD hS => ?_)
  rw [← ez2] at hP hD
  refine lv_aload_n hx hb dX2_takesStart_136 rfl (lv_at hl 0 rfl) ?_
  refine lv_iload_n hx hb dX2_takesStart_137 rfl (lv_at hl 1 rfl) ?_
  refine xcVv [.int x1] S hE hA hP hD hS (c_LawReader_await l G z2 H.size x1 _) hB (gw_c lk_X2_76 (gw_c wi_X2_await (gw_c we_X2_X2_await_X2_await (gw_c wn_X2 (gw_c wc_X2_await (fun _ h9 => h9)))))) hd_X2_await rfl rfl (Nat.le_trans (Nat.le_of_ble_eq_true rfl) hRf) (Nat.le_trans (Nat.le_of_ble_eq_true rfl) hRl) ⟨Nat.zero_le _, Nat.zero_le _⟩ (va_recv hE.1 hP (ci := 2) (q0 := 3) rfl rfl) rfl hl.1 rfl (Nat.le_of_ble_eq_true rfl) dX2_takesStart_138 (fun z3 H locs hB hP hD hS => ?_)
  refine lv_iconst (v := 1) hx hb dX2_takesStart_141 (by decide) ?_
  exact hret _ _ _ _ _ _ dX2_takesStart_142 ⟨by decide, hB⟩ hP hD hS
def B_LawReader_takesStart_113 (post : Int32 → St → Prop) (x1 : Int32) (x3 : Int32) (z0 : St) : Prop :=
  ((x3 = 0 → (B_LawReader_takesStart_123 post x1 (3 : Int32) z0)) ∧ (¬ x3 = 0 → (B_LawReader_takesStart_123 post x1 (2 : Int32) z0)))
set_option maxHeartbeats 4000000 in
set_option maxRecDepth 100000 in
theorem w_LawReader_takesStart_113 {p : Program} {l : Launch} {e : Env} {R : Room} {s : State} {m : MethodId} {args : Array Value} {below : List Frame} {meth : Method} {c : Code} {Q : State → Prop} {G : GX} {A : Nat → Prop} (S : CallFix p m c cX2_takesStart 4 s args GW RX2) (hE : env G A s s.heap) (hA : ∀ q, s.heap.size ≤ q → A q) (hRf : 4 ≤ R.frames) (hRl : 91 ≤ R.locals) {post : Int32 → St → Prop} (hret : RetZ p l e R s m args below meth c Q 0 0 wX G A cX2_takesStart post) (x1 : Int32) (x3 : Int32) (z0 : St) (hB : B_LawReader_takesStart_113 post x1 x3 z0) : Xw p l e R s m args below meth c Q 0 0 wX G A z0 4 [(0, .ref (ad G 3)), (1, .int x1), (3, .int x3)] 113 [] := by
  intro H locs ls hP hD hS hl
  have hx := S.1
  have hb := S.2.1
  refine lv_aload_n hx hb dX2_takesStart_113 rfl (lv_at hl 0 rfl) ?_
  refine lv_iload_n hx hb dX2_takesStart_114 rfl (lv_at hl 2 rfl) ?_
  refine lv_if_eq (tgt := 122) hx hb dX2_takesStart_115 (by decide) (fun c1 => ?_) (fun c1 => ?_)
  · have hB := hB.1 c1
    refine lv_iconst (v := 3) hx hb dX2_takesStart_122 (by decide) ?_
    exact w_LawReader_takesStart_123 S hE hA hRf hRl hret x1 (3 : Int32) z0 hB _ _ _ hP hD hS (lv_sub hl [0, 1] rfl)
  · have hB := hB.2 c1
    refine lv_iconst (v := 2) hx hb dX2_takesStart_118 (by decide) ?_
    refine lv_goto (tgt := 123) hx hb dX2_takesStart_119 (by decide) ?_
    exact w_LawReader_takesStart_123 S hE hA hRf hRl hret x1 (2 : Int32) z0 hB _ _ _ hP hD hS (lv_sub hl [0, 1] rfl)
def B_LawReader_takesStart_93 (post : Int32 → St → Prop) (x1 : Int32) (x3 : Int32) (z0 : St) : Prop :=
  (((gI z0 15) < (6 : Int32) → ((x3 = 0 → (B_LawReader_takesStart_113 post x1 x3 z0)) ∧ (¬ x3 = 0 → (∀ z1 : St, z1 = sI z0 17 (1 : Int32) → (B_LawReader_takesStart_113 post x1 x3 z1))))) ∧ (¬ (gI z0 15) < (6 : Int32) → (post (0 : Int32) z0)))
set_option maxHeartbeats 4000000 in
set_option maxRecDepth 100000 in
theorem w_LawReader_takesStart_93 {p : Program} {l : Launch} {e : Env} {R : Room} {s : State} {m : MethodId} {args : Array Value} {below : List Frame} {meth : Method} {c : Code} {Q : State → Prop} {G : GX} {A : Nat → Prop} (S : CallFix p m c cX2_takesStart 4 s args GW RX2) (hE : env G A s s.heap) (hA : ∀ q, s.heap.size ≤ q → A q) (hRf : 4 ≤ R.frames) (hRl : 91 ≤ R.locals) {post : Int32 → St → Prop} (hret : RetZ p l e R s m args below meth c Q 0 0 wX G A cX2_takesStart post) (x1 : Int32) (x3 : Int32) (z0 : St) (hB : B_LawReader_takesStart_93 post x1 x3 z0) : Xw p l e R s m args below meth c Q 0 0 wX G A z0 4 [(0, .ref (ad G 3)), (1, .int x1), (3, .int x3)] 93 [] := by
  intro H locs ls hP hD hS hl
  have hx := S.1
  have hb := S.2.1
  refine lv_aload_n hx hb dX2_takesStart_93 rfl (lv_at hl 0 rfl) ?_
  refine xXg_3_within S hE hP lk_X2_27 dX2_takesStart_94 ?_
  refine lv_bipush (v := 6) hx hb dX2_takesStart_97 (by decide) ?_
  refine lv_icmp_lt (tgt := 104) hx hb dX2_takesStart_99 (by decide) (fun c1 => ?_) (fun c1 => ?_)
  · have hB := hB.1 c1
    refine lv_iload_n hx hb dX2_takesStart_104 rfl (lv_at hl 2 rfl) ?_
    refine lv_if_eq (tgt := 113) hx hb dX2_takesStart_105 (by decide) (fun c2 => ?_) (fun c2 => ?_)
    · have hB := hB.1 c2
      exact w_LawReader_takesStart_113 S hE hA hRf hRl hret x1 x3 z0 hB _ _ _ hP hD hS (lv_sub hl [0, 1, 2] rfl)
    · have hB := hB.2 c2
      refine lv_aload_n hx hb dX2_takesStart_108 rfl (lv_at hl 0 rfl) ?_
      refine lv_iconst (v := 1) hx hb dX2_takesStart_109 (by decide) ?_
      obtain ⟨z1, ez1⟩ : ∃ z9, z9 = sI z0 17 (1 : Int32) := ⟨_, rfl⟩
      have hB := hB z1 ez1
      refine xXp_3_stage S hE hP hD hS lk_X2_39 dX2_takesStart_110 (fun H locs hP hD hS => ?_)
      rw [← ez1] at hP hD
      exact w_LawReader_takesStart_113 S hE hA hRf hRl hret x1 x3 z1 hB _ _ _ hP hD hS (lv_sub hl [0, 1, 2] rfl)
  · have hB := hB.2 c1
    refine lv_iconst (v := 0) hx hb dX2_takesStart_102 (by decide) ?_
    exact hret _ _ _ _ _ _ dX2_takesStart_103 ⟨by decide, hB⟩ hP hD hS
def B_LawReader_takesStart_82 (post : Int32 → St → Prop) (x1 : Int32) (s0 : Int32) (z0 : St) : Prop :=
  ((s0 = 0 → ((x1 = (91 : Int32) → (B_LawReader_takesStart_93 post x1 s0 z0)) ∧ (¬ x1 = (91 : Int32) → (post (0 : Int32) z0)))) ∧ (¬ s0 = 0 → (B_LawReader_takesStart_93 post x1 s0 z0)))
set_option maxHeartbeats 4000000 in
set_option maxRecDepth 100000 in
theorem w_LawReader_takesStart_82 {p : Program} {l : Launch} {e : Env} {R : Room} {s : State} {m : MethodId} {args : Array Value} {below : List Frame} {meth : Method} {c : Code} {Q : State → Prop} {G : GX} {A : Nat → Prop} (S : CallFix p m c cX2_takesStart 4 s args GW RX2) (hE : env G A s s.heap) (hA : ∀ q, s.heap.size ≤ q → A q) (hRf : 4 ≤ R.frames) (hRl : 91 ≤ R.locals) {post : Int32 → St → Prop} (hret : RetZ p l e R s m args below meth c Q 0 0 wX G A cX2_takesStart post) (x1 : Int32) (s0 : Int32) (z0 : St) (hB : B_LawReader_takesStart_82 post x1 s0 z0) : Xw p l e R s m args below meth c Q 0 0 wX G A z0 4 [(0, .ref (ad G 3)), (1, .int x1)] 82 [.int s0] := by
  intro H locs ls hP hD hS hl
  have hx := S.1
  have hb := S.2.1
  refine lv_istore_n (lv' := [(3, .int s0), (0, .ref (ad G 3)), (1, .int x1)]) hx hb dX2_takesStart_82 rfl hl (by decide) rfl (fun ls hl => ?_)
  refine lv_iload_n hx hb dX2_takesStart_83 rfl (lv_at hl 0 rfl) ?_
  refine lv_if_ne (tgt := 93) hx hb dX2_takesStart_84 (by decide) (fun c1 => ?_) (fun c1 => ?_)
  · have hB := hB.2 c1
    exact w_LawReader_takesStart_93 S hE hA hRf hRl hret x1 s0 z0 hB _ _ _ hP hD hS (lv_sub hl [1, 2, 0] rfl)
  · have hB := hB.1 c1
    refine lv_iload_n hx hb dX2_takesStart_87 rfl (lv_at hl 2 rfl) ?_
    refine lv_bipush (v := 91) hx hb dX2_takesStart_88 (by decide) ?_
    refine lv_icmp_ne (tgt := 102) hx hb dX2_takesStart_90 (by decide) (fun c2 => ?_) (fun c2 => ?_)
    · have hB := hB.2 c2
      refine lv_iconst (v := 0) hx hb dX2_takesStart_102 (by decide) ?_
      exact hret _ _ _ _ _ _ dX2_takesStart_103 ⟨by decide, hB⟩ hP hD hS
    · have hB := hB.1 c2
      exact w_LawReader_takesStart_93 S hE hA hRf hRl hret x1 s0 z0 hB _ _ _ hP hD hS (lv_sub hl [1, 2, 0] rfl)
def B_LawReader_takesStart_81 (post : Int32 → St → Prop) (x1 : Int32) (z0 : St) : Prop :=
  (B_LawReader_takesStart_82 post x1 (0 : Int32) z0)
set_option maxHeartbeats 4000000 in
set_option maxRecDepth 100000 in
theorem w_LawReader_takesStart_81 {p : Program} {l : Launch} {e : Env} {R : Room} {s : State} {m : MethodId} {args : Array Value} {below : List Frame} {meth : Method} {c : Code} {Q : State → Prop} {G : GX} {A : Nat → Prop} (S : CallFix p m c cX2_takesStart 4 s args GW RX2) (hE : env G A s s.heap) (hA : ∀ q, s.heap.size ≤ q → A q) (hRf : 4 ≤ R.frames) (hRl : 91 ≤ R.locals) {post : Int32 → St → Prop} (hret : RetZ p l e R s m args below meth c Q 0 0 wX G A cX2_takesStart post) (x1 : Int32) (z0 : St) (hB : B_LawReader_takesStart_81 post x1 z0) : Xw p l e R s m args below meth c Q 0 0 wX G A z0 4 [(0, .ref (ad G 3)), (1, .int x1)] 81 [] := by
  intro H locs ls hP hD hS hl
  have hx := S.1
  have hb := S.2.1
  refine lv_iconst (v := 0) hx hb dX2_takesStart_81 (by decide) ?_
  exact w_LawReader_takesStart_82 S hE hA hRf hRl hret x1 (0 : Int32) z0 hB _ _ _ hP hD hS (lv_sub hl [0, 1] rfl)
def B_LawReader_takesStart_77 (post : Int32 → St → Prop) (x1 : Int32) (z0 : St) : Prop :=
  (B_LawReader_takesStart_82 post x1 (1 : Int32) z0)
set_option maxHeartbeats 4000000 in
set_option maxRecDepth 100000 in
theorem w_LawReader_takesStart_77 {p : Program} {l : Launch} {e : Env} {R : Room} {s : State} {m : MethodId} {args : Array Value} {below : List Frame} {meth : Method} {c : Code} {Q : State → Prop} {G : GX} {A : Nat → Prop} (S : CallFix p m c cX2_takesStart 4 s args GW RX2) (hE : env G A s s.heap) (hA : ∀ q, s.heap.size ≤ q → A q) (hRf : 4 ≤ R.frames) (hRl : 91 ≤ R.locals) {post : Int32 → St → Prop} (hret : RetZ p l e R s m args below meth c Q 0 0 wX G A cX2_takesStart post) (x1 : Int32) (z0 : St) (hB : B_LawReader_takesStart_77 post x1 z0) : Xw p l e R s m args below meth c Q 0 0 wX G A z0 4 [(0, .ref (ad G 3)), (1, .int x1)] 77 [] := by
  intro H locs ls hP hD hS hl
  have hx := S.1
  have hb := S.2.1
  refine lv_iconst (v := 1) hx hb dX2_takesStart_77 (by decide) ?_
  refine lv_goto (tgt := 82) hx hb dX2_takesStart_78 (by decide) ?_
  exact w_LawReader_takesStart_82 S hE hA hRf hRl hret x1 (1 : Int32) z0 hB _ _ _ hP hD hS (lv_sub hl [0, 1] rfl)
def S_LawReader_takesStart (post : Int32 → St → Prop) (x1 : Int32) (z0 : St) : Prop :=
  (1 < 8 ∧ (S_String_indexOf_0f7a4_X (fun (r1 : Int32) (z1 : St) => ((0 ≤ r1 → (B_LawReader_takesStart_19 post x1 r1 z1)) ∧ (¬ 0 ≤ r1 → (S_Reader_isDigit (fun (r3 : Int32) (z2 : St) => ((r3 = 0 → (((gI z2 16) = (2 : Int32) → ((x1 = (33 : Int32) → (B_LawReader_takesStart_77 post x1 z2)) ∧ (¬ x1 = (33 : Int32) → ((x1 = (40 : Int32) → (B_LawReader_takesStart_77 post x1 z2)) ∧ (¬ x1 = (40 : Int32) → (B_LawReader_takesStart_81 post x1 z2)))))) ∧ (¬ (gI z2 16) = (2 : Int32) → (B_LawReader_takesStart_81 post x1 z2)))) ∧ (¬ r3 = 0 → (B_LawReader_takesStart_19 post x1 r1 z2)))) x1 z1)))) 1 (((x1).toUInt32 % 65536).toInt32) z0))
set_option maxHeartbeats 4000000 in
set_option maxRecDepth 100000 in
theorem w_LawReader_takesStart_0 {p : Program} {l : Launch} {e : Env} {R : Room} {s : State} {m : MethodId} {args : Array Value} {below : List Frame} {meth : Method} {c : Code} {Q : State → Prop} {G : GX} {A : Nat → Prop} (S : CallFix p m c cX2_takesStart 4 s args GW RX2) (hE : env G A s s.heap) (hA : ∀ q, s.heap.size ≤ q → A q) (hRf : 4 ≤ R.frames) (hRl : 91 ≤ R.locals) {post : Int32 → St → Prop} (hret : RetZ p l e R s m args below meth c Q 0 0 wX G A cX2_takesStart post) (x1 : Int32) (z0 : St) (hB : S_LawReader_takesStart post x1 z0) : Xw p l e R s m args below meth c Q 0 0 wX G A z0 4 [(0, .ref (ad G 3)), (1, .int x1)] 0 [] := by
  intro H locs ls hP hD hS hl
  have hx := S.1
  have hb := S.2.1
  refine va_ldcS hx hb S.2.2.2.1 (es_X2_61 hE.2) dX2_takesStart_0 ?_
  refine lv_iload_n hx hb dX2_takesStart_2 rfl (lv_at hl 1 rfl) ?_
  refine lv_i2c hx hb dX2_takesStart_3 rfl ?_
  obtain ⟨hk9, hB⟩ := hB
  have hrv9 := vk_recv (eS hE.2) hk9 hS
  refine xcVi [.int (((x1).toUInt32 % 65536).toInt32)] S hE hA hP hD hS (c_String_indexOf_0f7a4_X l G z0 H.size 1 (((x1).toUInt32 % 65536).toInt32) _) hB (gw_c lk_X2_63 (gw_c wi_J0_indexOf_0f7a4 (gw_c we_J0_J0_indexOf_0f7a4_J0_indexOf_0f7a4 (gw_c wn_J0 (gw_c wc_J0_indexOf_0f7a4 (fun _ h9 => h9)))))) hd_J0_indexOf_0f7a4 rfl rfl (Nat.le_trans (Nat.le_of_ble_eq_true rfl) hRf) (Nat.le_trans (Nat.le_of_ble_eq_true rfl) hRl) ⟨Nat.zero_le _, Nat.zero_le _⟩ hrv9 rfl hl.1 rfl (Nat.le_of_ble_eq_true rfl) dX2_takesStart_4 (fun r1 z1 H locs hB hP hD hS => ?_)
  refine lv_istore_n (lv' := [(2, .int r1), (0, .ref (ad G 3)), (1, .int x1)]) hx hb dX2_takesStart_7 rfl hl (by decide) rfl (fun ls hl => ?_)
  refine lv_iload_n hx hb dX2_takesStart_8 rfl (lv_at hl 0 rfl) ?_
  refine lv_if_ge (tgt := 19) hx hb dX2_takesStart_9 (by decide) (fun c2 => ?_) (fun c2 => ?_)
  · have hB := hB.1 c2
    exact w_LawReader_takesStart_19 S hE hA hRf hRl hret x1 r1 z1 hB _ _ _ hP hD hS (lv_sub hl [1, 2, 0] rfl)
  · have hB := hB.2 c2
    refine lv_iload_n hx hb dX2_takesStart_12 rfl (lv_at hl 2 rfl) ?_
    refine xcTi (x := ⟨RX2, "isDigit", "(I)Z"⟩) (owner := RX5) [.int x1] S hE hA hP hD hS (c_Reader_isDigit l G z1 H.size x1 _) hB (gw_c lk_X2_50 (gw_c wm_X2_X5_isDigit_I_Z (gw_c wt_X5_isDigit (gw_c wn_X5 (gw_c wc_X5_isDigit (fun _ h9 => h9)))))) rfl hs_X5_isDigit rfl rfl (Nat.le_trans (Nat.le_of_ble_eq_true rfl) hRf) (Nat.le_trans (Nat.le_of_ble_eq_true rfl) hRl) ⟨Nat.zero_le _, Nat.zero_le _⟩ rfl hl.1 rfl (Nat.le_of_ble_eq_true rfl) dX2_takesStart_13 (fun r3 z2 H locs hB hP hD hS => ?_)
    refine lv_if_eq (tgt := 57) hx hb dX2_takesStart_16 (by decide) (fun c4 => ?_) (fun c4 => ?_)
    · have hB := hB.1 c4
      refine lv_aload_n hx hb dX2_takesStart_57 rfl (lv_at hl 1 rfl) ?_
      refine xXg_3_awaits S hE hP lk_X2_30 dX2_takesStart_58 ?_
      refine lv_iconst (v := 2) hx hb dX2_takesStart_61 (by decide) ?_
      refine lv_icmp_ne (tgt := 81) hx hb dX2_takesStart_62 (by decide) (fun c5 => ?_) (fun c5 => ?_)
      · have hB := hB.2 c5
        exact w_LawReader_takesStart_81 S hE hA hRf hRl hret x1 z2 hB _ _ _ hP hD hS (lv_sub hl [1, 2] rfl)
      · have hB := hB.1 c5
        refine lv_iload_n hx hb dX2_takesStart_65 rfl (lv_at hl 2 rfl) ?_
        refine lv_bipush (v := 33) hx hb dX2_takesStart_66 (by decide) ?_
        refine lv_icmp_eq (tgt := 77) hx hb dX2_takesStart_68 (by decide) (fun c6 => ?_) (fun c6 => ?_)
        · have hB := hB.1 c6
          exact w_LawReader_takesStart_77 S hE hA hRf hRl hret x1 z2 hB _ _ _ hP hD hS (lv_sub hl [1, 2] rfl)
        · have hB := hB.2 c6
          refine lv_iload_n hx hb dX2_takesStart_71 rfl (lv_at hl 2 rfl) ?_
          refine lv_bipush (v := 40) hx hb dX2_takesStart_72 (by decide) ?_
          refine lv_icmp_ne (tgt := 81) hx hb dX2_takesStart_74 (by decide) (fun c7 => ?_) (fun c7 => ?_)
          · have hB := hB.2 c7
            exact w_LawReader_takesStart_81 S hE hA hRf hRl hret x1 z2 hB _ _ _ hP hD hS (lv_sub hl [1, 2] rfl)
          · have hB := hB.1 c7
            exact w_LawReader_takesStart_77 S hE hA hRf hRl hret x1 z2 hB _ _ _ hP hD hS (lv_sub hl [1, 2] rfl)
    · have hB := hB.2 c4
      exact w_LawReader_takesStart_19 S hE hA hRf hRl hret x1 r1 z2 hB _ _ _ hP hD hS (lv_sub hl [1, 2, 0] rfl)
set_option maxHeartbeats 4000000 in
set_option maxRecDepth 100000 in
theorem c_LawReader_takesStart (l : Launch) (G : GX) (z0 : St) (sz : Nat) (x1 : Int32) (post : Int32 → St → Prop) : MetI l wX yX2_takesStart cX2_takesStart 4 (some .boolean) ({ frames := 4, cells := 0, slots := 0, locals := 91 }) [.ref (ad G 3), .int x1] G z0 sz (S_LawReader_takesStart post x1 z0) post := by
  refine Met.ofW (cc := cX2_takesStart) (maxL := 4) (ret := (some .boolean)) (by decide) rfl ?_
  intro p e s m args below meth c s₁ B hml hv
  obtain ⟨rfl, hsz, hP, hD0, hE, hB⟩ := hv
  have S : CallFix p m c cX2_takesStart 4 s _ GW RX2 := ⟨B.exec, B.bytes, hml, findClass_of_methodNamed B.named, fun w h => atoms_spec (ws := Cond.code yX2_takesStart cX2_takesStart 4 (some .boolean) :: GW) B.pre w (List.mem_cons_of_mem _ h)⟩
  have hlocks := B.notSynchronized
  subst hsz
  have hD := hD0.self (sz := s.heap.size)
  generalize hAe : va_A (wX G z0) s.heap.size = A at hD hE ⊢
  have hA : ∀ q : Nat, s.heap.size ≤ q → A q := fun q h => by rw [← hAe]; exact Or.inr h
  have hS : va_S A s.heap s.heap [] := va_S.rf
  have hl := lv_entry ([.ref (ad G 3), .int x1]) (n := 4) (Nat.le_of_ble_eq_true rfl)
  rw [lg_entry_eq]
  generalize (lg_sl ([.ref (ad G 3), .int x1]) ++ List.replicate (4 - (lg_sl ([.ref (ad G 3), .int x1])).length) Slot.unset).toArray = ls at hl ⊢
  have hl : lv_has ls 4 [(0, .ref (ad G 3)), (1, .int x1)] := hl
  refine w_LawReader_takesStart_0 S hE hA (Nat.le_refl _) (Nat.le_refl _) ?_ x1 z0 hB _ _ _ hP hD hS hl
  intro pc ls r σ H locs hd hp hP hD hS
  exact W.zret (v := r) B.exec B.bytes B.returns (xboolc r hp.1) (fun t ht hW => ⟨⟨r, σ, rfl, hp.2, by rw [ht]; exact hP, hD⟩, hS.F ht⟩) hS.2.2 hd
def S_LawReader_goesOn (post : Int32 → St → Prop) (x1 : Int32) (x2 : Int32) (z0 : St) : Prop :=
  (S_LawReader_rank (fun (r1 : Int32) (z1 : St) => (S_LawReader_writeWaiting (fun (z2 : St) => (S_LawReader_await (fun (z3 : St) => (∀ z4 : St, z4 = sI z3 16 x2 → (post (1 : Int32) z4))) x1 z2)) r1 z1)) x1 z0)
set_option maxHeartbeats 4000000 in
set_option maxRecDepth 100000 in
theorem w_LawReader_goesOn_0 {p : Program} {l : Launch} {e : Env} {R : Room} {s : State} {m : MethodId} {args : Array Value} {below : List Frame} {meth : Method} {c : Code} {Q : State → Prop} {G : GX} {A : Nat → Prop} (S : CallFix p m c cX2_goesOn 3 s args GW RX2) (hE : env G A s s.heap) (hA : ∀ q, s.heap.size ≤ q → A q) (hRf : 2 ≤ R.frames) (hRl : 42 ≤ R.locals) {post : Int32 → St → Prop} (hret : RetZ p l e R s m args below meth c Q 0 0 wX G A cX2_goesOn post) (x1 : Int32) (x2 : Int32) (z0 : St) (hB : S_LawReader_goesOn post x1 x2 z0) : Xw p l e R s m args below meth c Q 0 0 wX G A z0 3 [(0, .ref (ad G 3)), (1, .int x1), (2, .int x2)] 0 [] := by
  intro H locs ls hP hD hS hl
  have hx := S.1
  have hb := S.2.1
  refine lv_aload_n hx hb dX2_goesOn_0 rfl (lv_at hl 0 rfl) ?_
  refine lv_iload_n hx hb dX2_goesOn_1 rfl (lv_at hl 1 rfl) ?_
  refine xcSi [.int x1] S hE hA hP hD hS (c_LawReader_rank l G z0 H.size x1 _) hB (gw_c lk_X2_103 (gw_c wt_X2_rank (gw_c wn_X2 (gw_c wc_X2_rank (fun _ h9 => h9))))) hs_X2_rank rfl rfl (Nat.le_trans (Nat.le_of_ble_eq_true rfl) hRf) (Nat.le_trans (Nat.le_of_ble_eq_true rfl) hRl) ⟨Nat.zero_le _, Nat.zero_le _⟩ rfl hl.1 rfl (Nat.le_of_ble_eq_true rfl) dX2_goesOn_2 (fun r1 z1 H locs hB hP hD hS => ?_)
  refine xcVv [.int r1] S hE hA hP hD hS (c_LawReader_writeWaiting l G z1 H.size r1 _) hB (gw_c lk_X2_106 (gw_c wi_X2_writeWaiting (gw_c we_X2_X2_writeWaiting_X2_writeWaiting (gw_c wn_X2 (gw_c wc_X2_writeWaiting (fun _ h9 => h9)))))) hd_X2_writeWaiting rfl rfl (Nat.le_trans (Nat.le_of_ble_eq_true rfl) hRf) (Nat.le_trans (Nat.le_of_ble_eq_true rfl) hRl) ⟨Nat.zero_le _, Nat.zero_le _⟩ (va_recv hE.1 hP (ci := 2) (q0 := 3) rfl rfl) rfl hl.1 rfl (Nat.le_of_ble_eq_true rfl) dX2_goesOn_5 (fun z2 H locs hB hP hD hS => ?_)
  refine lv_aload_n hx hb dX2_goesOn_8 rfl (lv_at hl 0 rfl) ?_
  refine lv_iload_n hx hb dX2_goesOn_9 rfl (lv_at hl 1 rfl) ?_
  refine xcVv [.int x1] S hE hA hP hD hS (c_LawReader_await l G z2 H.size x1 _) hB (gw_c lk_X2_76 (gw_c wi_X2_await (gw_c we_X2_X2_await_X2_await (gw_c wn_X2 (gw_c wc_X2_await (fun _ h9 => h9)))))) hd_X2_await rfl rfl (Nat.le_trans (Nat.le_of_ble_eq_true rfl) hRf) (Nat.le_trans (Nat.le_of_ble_eq_true rfl) hRl) ⟨Nat.zero_le _, Nat.zero_le _⟩ (va_recv hE.1 hP (ci := 2) (q0 := 3) rfl rfl) rfl hl.1 rfl (Nat.le_of_ble_eq_true rfl) dX2_goesOn_10 (fun z3 H locs hB hP hD hS => ?_)
  refine lv_aload_n hx hb dX2_goesOn_13 rfl (lv_at hl 0 rfl) ?_
  refine lv_iload_n hx hb dX2_goesOn_14 rfl (lv_at hl 2 rfl) ?_
  obtain ⟨z4, ez4⟩ : ∃ z9, z9 = sI z3 16 x2 := ⟨_, rfl⟩
  have hB := hB z4 ez4
  refine xXp_3_awaits S hE hP hD hS lk_X2_30 dX2_goesOn_15 (fun H locs hP hD hS => ?_)
  rw [← ez4] at hP hD
  refine lv_iconst (v := 1) hx hb dX2_goesOn_18 (by decide) ?_
  exact hret _ _ _ _ _ _ dX2_goesOn_19 ⟨by decide, hB⟩ hP hD hS
set_option maxHeartbeats 4000000 in
set_option maxRecDepth 100000 in
theorem c_LawReader_goesOn (l : Launch) (G : GX) (z0 : St) (sz : Nat) (x1 : Int32) (x2 : Int32) (post : Int32 → St → Prop) : MetI l wX yX2_goesOn cX2_goesOn 3 (some .boolean) ({ frames := 2, cells := 0, slots := 0, locals := 42 }) [.ref (ad G 3), .int x1, .int x2] G z0 sz (S_LawReader_goesOn post x1 x2 z0) post := by
  refine Met.ofW (cc := cX2_goesOn) (maxL := 3) (ret := (some .boolean)) (by decide) rfl ?_
  intro p e s m args below meth c s₁ B hml hv
  obtain ⟨rfl, hsz, hP, hD0, hE, hB⟩ := hv
  have S : CallFix p m c cX2_goesOn 3 s _ GW RX2 := ⟨B.exec, B.bytes, hml, findClass_of_methodNamed B.named, fun w h => atoms_spec (ws := Cond.code yX2_goesOn cX2_goesOn 3 (some .boolean) :: GW) B.pre w (List.mem_cons_of_mem _ h)⟩
  have hlocks := B.notSynchronized
  subst hsz
  have hD := hD0.self (sz := s.heap.size)
  generalize hAe : va_A (wX G z0) s.heap.size = A at hD hE ⊢
  have hA : ∀ q : Nat, s.heap.size ≤ q → A q := fun q h => by rw [← hAe]; exact Or.inr h
  have hS : va_S A s.heap s.heap [] := va_S.rf
  have hl := lv_entry ([.ref (ad G 3), .int x1, .int x2]) (n := 3) (Nat.le_of_ble_eq_true rfl)
  rw [lg_entry_eq]
  generalize (lg_sl ([.ref (ad G 3), .int x1, .int x2]) ++ List.replicate (3 - (lg_sl ([.ref (ad G 3), .int x1, .int x2])).length) Slot.unset).toArray = ls at hl ⊢
  have hl : lv_has ls 3 [(0, .ref (ad G 3)), (1, .int x1), (2, .int x2)] := hl
  refine w_LawReader_goesOn_0 S hE hA (Nat.le_refl _) (Nat.le_refl _) ?_ x1 x2 z0 hB _ _ _ hP hD hS hl
  intro pc ls r σ H locs hd hp hP hD hS
  exact W.zret (v := r) B.exec B.bytes B.returns (xboolc r hp.1) (fun t ht hW => ⟨⟨r, σ, rfl, hp.2, by rw [ht]; exact hP, hD⟩, hS.F ht⟩) hS.2.2 hd
def S_LawReader_takesJoint (post : Int32 → St → Prop) (x1 : Int32) (z0 : St) : Prop :=
  (∀ z1 : St, z1 = sI z0 18 (0 : Int32) → (S_LawReader_goesOn (fun (r1 : Int32) (z2 : St) => ((r1 = 0 ∨ r1 = 1) ∧ post r1 z2)) x1 (2 : Int32) z1))
set_option maxHeartbeats 4000000 in
set_option maxRecDepth 100000 in
theorem w_LawReader_takesJoint_0 {p : Program} {l : Launch} {e : Env} {R : Room} {s : State} {m : MethodId} {args : Array Value} {below : List Frame} {meth : Method} {c : Code} {Q : State → Prop} {G : GX} {A : Nat → Prop} (S : CallFix p m c cX2_takesJoint 2 s args GW RX2) (hE : env G A s s.heap) (hA : ∀ q, s.heap.size ≤ q → A q) (hRf : 3 ≤ R.frames) (hRl : 64 ≤ R.locals) {post : Int32 → St → Prop} (hret : RetZ p l e R s m args below meth c Q 0 0 wX G A cX2_takesJoint post) (x1 : Int32) (z0 : St) (hB : S_LawReader_takesJoint post x1 z0) : Xw p l e R s m args below meth c Q 0 0 wX G A z0 2 [(0, .ref (ad G 3)), (1, .int x1)] 0 [] := by
  intro H locs ls hP hD hS hl
  have hx := S.1
  have hb := S.2.1
  refine lv_aload_n hx hb dX2_takesJoint_0 rfl (lv_at hl 0 rfl) ?_
  refine lv_iconst (v := 0) hx hb dX2_takesJoint_1 (by decide) ?_
  obtain ⟨z1, ez1⟩ : ∃ z9, z9 = sI z0 18 (0 : Int32) := ⟨_, rfl⟩
  have hB := hB z1 ez1
  refine xXp_3_compared S hE hP hD hS lk_X2_42 (by decide) dX2_takesJoint_2 (fun H locs hP hD hS => ?_)
  rw [← ez1] at hP hD
  refine lv_aload_n hx hb dX2_takesJoint_5 rfl (lv_at hl 0 rfl) ?_
  refine lv_iload_n hx hb dX2_takesJoint_6 rfl (lv_at hl 1 rfl) ?_
  refine lv_iconst (v := 2) hx hb dX2_takesJoint_7 (by decide) ?_
  refine xcVi [.int x1, .int (2 : Int32)] S hE hA hP hD hS (c_LawReader_goesOn l G z1 H.size x1 (2 : Int32) _) hB (gw_c lk_X2_83 (gw_c wi_X2_goesOn (gw_c we_X2_X2_goesOn_X2_goesOn (gw_c wn_X2 (gw_c wc_X2_goesOn (fun _ h9 => h9)))))) hd_X2_goesOn rfl rfl (Nat.le_trans (Nat.le_of_ble_eq_true rfl) hRf) (Nat.le_trans (Nat.le_of_ble_eq_true rfl) hRl) ⟨Nat.zero_le _, Nat.zero_le _⟩ (va_recv hE.1 hP (ci := 2) (q0 := 3) rfl rfl) rfl hl.1 rfl (Nat.le_of_ble_eq_true rfl) dX2_takesJoint_8 (fun r1 z2 H locs hB hP hD hS => ?_)
  exact hret _ _ _ _ _ _ dX2_takesJoint_11 hB hP hD hS
set_option maxHeartbeats 4000000 in
set_option maxRecDepth 100000 in
theorem c_LawReader_takesJoint (l : Launch) (G : GX) (z0 : St) (sz : Nat) (x1 : Int32) (post : Int32 → St → Prop) : MetI l wX yX2_takesJoint cX2_takesJoint 2 (some .boolean) ({ frames := 3, cells := 0, slots := 0, locals := 64 }) [.ref (ad G 3), .int x1] G z0 sz (S_LawReader_takesJoint post x1 z0) post := by
  refine Met.ofW (cc := cX2_takesJoint) (maxL := 2) (ret := (some .boolean)) (by decide) rfl ?_
  intro p e s m args below meth c s₁ B hml hv
  obtain ⟨rfl, hsz, hP, hD0, hE, hB⟩ := hv
  have S : CallFix p m c cX2_takesJoint 2 s _ GW RX2 := ⟨B.exec, B.bytes, hml, findClass_of_methodNamed B.named, fun w h => atoms_spec (ws := Cond.code yX2_takesJoint cX2_takesJoint 2 (some .boolean) :: GW) B.pre w (List.mem_cons_of_mem _ h)⟩
  have hlocks := B.notSynchronized
  subst hsz
  have hD := hD0.self (sz := s.heap.size)
  generalize hAe : va_A (wX G z0) s.heap.size = A at hD hE ⊢
  have hA : ∀ q : Nat, s.heap.size ≤ q → A q := fun q h => by rw [← hAe]; exact Or.inr h
  have hS : va_S A s.heap s.heap [] := va_S.rf
  have hl := lv_entry ([.ref (ad G 3), .int x1]) (n := 2) (Nat.le_of_ble_eq_true rfl)
  rw [lg_entry_eq]
  generalize (lg_sl ([.ref (ad G 3), .int x1]) ++ List.replicate (2 - (lg_sl ([.ref (ad G 3), .int x1])).length) Slot.unset).toArray = ls at hl ⊢
  have hl : lv_has ls 2 [(0, .ref (ad G 3)), (1, .int x1)] := hl
  refine w_LawReader_takesJoint_0 S hE hA (Nat.le_refl _) (Nat.le_refl _) ?_ x1 z0 hB _ _ _ hP hD hS hl
  intro pc ls r σ H locs hd hp hP hD hS
  exact W.zret (v := r) B.exec B.bytes B.returns (xboolc r hp.1) (fun t ht hW => ⟨⟨r, σ, rfl, hp.2, by rw [ht]; exact hP, hD⟩, hS.F ht⟩) hS.2.2 hd
def B_LawReader_closesBracket_32 (post : Int32 → St → Prop) (x1 : Int32) (z0 : St) : Prop :=
  (∀ z1 : St, z1 = sI z0 16 x1 → (post (1 : Int32) z1))
set_option maxHeartbeats 4000000 in
set_option maxRecDepth 100000 in
theorem w_LawReader_closesBracket_32 {p : Program} {l : Launch} {e : Env} {R : Room} {s : State} {m : MethodId} {args : Array Value} {below : List Frame} {meth : Method} {c : Code} {Q : State → Prop} {G : GX} {A : Nat → Prop} (S : CallFix p m c cX2_closesBracket 2 s args GW RX2) (hE : env G A s s.heap) (hA : ∀ q, s.heap.size ≤ q → A q) (hRf : 2 ≤ R.frames) (hRl : 42 ≤ R.locals) {post : Int32 → St → Prop} (hret : RetZ p l e R s m args below meth c Q 0 0 wX G A cX2_closesBracket post) (x1 : Int32) (z0 : St) (hB : B_LawReader_closesBracket_32 post x1 z0) : Xw p l e R s m args below meth c Q 0 0 wX G A z0 2 [(0, .ref (ad G 3)), (1, .int x1)] 32 [] := by
  intro H locs ls hP hD hS hl
  have hx := S.1
  have hb := S.2.1
  refine lv_aload_n hx hb dX2_closesBracket_32 rfl (lv_at hl 0 rfl) ?_
  refine lv_iload_n hx hb dX2_closesBracket_33 rfl (lv_at hl 1 rfl) ?_
  obtain ⟨z1, ez1⟩ : ∃ z9, z9 = sI z0 16 x1 := ⟨_, rfl⟩
  have hB := hB z1 ez1
  refine xXp_3_awaits S hE hP hD hS lk_X2_30 dX2_closesBracket_34 (fun H locs hP hD hS => ?_)
  rw [← ez1] at hP hD
  refine lv_iconst (v := 1) hx hb dX2_closesBracket_37 (by decide) ?_
  exact hret _ _ _ _ _ _ dX2_closesBracket_38 ⟨by decide, hB⟩ hP hD hS
def S_LawReader_closesBracket (post : Int32 → St → Prop) (x1 : Int32) (z0 : St) : Prop :=
  (S_LawReader_writeWaiting (fun (z1 : St) => (((gI z1 14) ≤ 0 → (B_LawReader_closesBracket_32 post x1 z1)) ∧ (¬ (gI z1 14) ≤ 0 → (∀ z2 : St, z2 = sI z1 14 ((gI z1 14) - (1 : Int32)) → (∀ z3 : St, z3 = sI z2 15 ((gI z2 15) - (1 : Int32)) → (B_LawReader_closesBracket_32 post x1 z3)))))) (1 : Int32) z0)
set_option maxHeartbeats 4000000 in
set_option maxRecDepth 100000 in
theorem w_LawReader_closesBracket_0 {p : Program} {l : Launch} {e : Env} {R : Room} {s : State} {m : MethodId} {args : Array Value} {below : List Frame} {meth : Method} {c : Code} {Q : State → Prop} {G : GX} {A : Nat → Prop} (S : CallFix p m c cX2_closesBracket 2 s args GW RX2) (hE : env G A s s.heap) (hA : ∀ q, s.heap.size ≤ q → A q) (hRf : 2 ≤ R.frames) (hRl : 42 ≤ R.locals) {post : Int32 → St → Prop} (hret : RetZ p l e R s m args below meth c Q 0 0 wX G A cX2_closesBracket post) (x1 : Int32) (z0 : St) (hB : S_LawReader_closesBracket post x1 z0) : Xw p l e R s m args below meth c Q 0 0 wX G A z0 2 [(0, .ref (ad G 3)), (1, .int x1)] 0 [] := by
  intro H locs ls hP hD hS hl
  have hx := S.1
  have hb := S.2.1
  refine lv_aload_n hx hb dX2_closesBracket_0 rfl (lv_at hl 0 rfl) ?_
  refine lv_iconst (v := 1) hx hb dX2_closesBracket_1 (by decide) ?_
  refine xcVv [.int (1 : Int32)] S hE hA hP hD hS (c_LawReader_writeWaiting l G z0 H.size (1 : Int32) _) hB (gw_c lk_X2_106 (gw_c wi_X2_writeWaiting (gw_c we_X2_X2_writeWaiting_X2_writeWaiting (gw_c wn_X2 (gw_c wc_X2_writeWaiting (fun _ h9 => h9)))))) hd_X2_writeWaiting rfl rfl (Nat.le_trans (Nat.le_of_ble_eq_true rfl) hRf) (Nat.le_trans (Nat.le_of_ble_eq_true rfl) hRl) ⟨Nat.zero_le _, Nat.zero_le _⟩ (va_recv hE.1 hP (ci := 2) (q0 := 3) rfl rfl) rfl hl.1 rfl (Nat.le_of_ble_eq_true rfl) dX2_closesBracket_2 (fun z1 H locs hB hP hD hS => ?_)
  refine lv_aload_n hx hb dX2_closesBracket_5 rfl (lv_at hl 0 rfl) ?_
  refine xXg_3_waits S hE hP lk_X2_24 dX2_closesBracket_6 ?_
  refine lv_if_le (tgt := 32) hx hb dX2_closesBracket_9 (by decide) (fun c1 => ?_) (fun c1 => ?_)
  · have hB := hB.1 c1
    exact w_LawReader_closesBracket_32 S hE hA hRf hRl hret x1 z1 hB _ _ _ hP hD hS (lv_sub hl [0, 1] rfl)
  · have hB := hB.2 c1
    refine lv_aload_n hx hb dX2_closesBracket_12 rfl (lv_at hl 0 rfl) ?_
    refine lv_dup hx hb dX2_closesBracket_13 rfl ?_
    refine xXg_3_waits S hE hP lk_X2_24 dX2_closesBracket_14 ?_
    refine lv_iconst (v := 1) hx hb dX2_closesBracket_17 (by decide) ?_
    refine lv_isub hx hb dX2_closesBracket_18 ?_
    obtain ⟨z2, ez2⟩ : ∃ z9, z9 = sI z1 14 ((gI z1 14) - (1 : Int32)) := ⟨_, rfl⟩
    have hB := hB z2 ez2
    refine xXp_3_waits S hE hP hD hS lk_X2_24 dX2_closesBracket_19 (fun H locs hP hD hS => ?_)
    rw [← ez2] at hP hD
    refine lv_aload_n hx hb dX2_closesBracket_22 rfl (lv_at hl 0 rfl) ?_
    refine lv_dup hx hb dX2_closesBracket_23 rfl ?_
    refine xXg_3_within S hE hP lk_X2_27 dX2_closesBracket_24 ?_
    refine lv_iconst (v := 1) hx hb dX2_closesBracket_27 (by decide) ?_
    refine lv_isub hx hb dX2_closesBracket_28 ?_
    obtain ⟨z3, ez3⟩ : ∃ z9, z9 = sI z2 15 ((gI z2 15) - (1 : Int32)) := ⟨_, rfl⟩
    have hB := hB z3 ez3
    refine xXp_3_within S hE hP hD hS lk_X2_27 dX2_closesBracket_29 (fun H locs hP hD hS => ?_)
    rw [← ez3] at hP hD
    exact w_LawReader_closesBracket_32 S hE hA hRf hRl hret x1 z3 hB _ _ _ hP hD hS (lv_sub hl [0, 1] rfl)
set_option maxHeartbeats 4000000 in
set_option maxRecDepth 100000 in
theorem c_LawReader_closesBracket (l : Launch) (G : GX) (z0 : St) (sz : Nat) (x1 : Int32) (post : Int32 → St → Prop) : MetI l wX yX2_closesBracket cX2_closesBracket 2 (some .boolean) ({ frames := 2, cells := 0, slots := 0, locals := 42 }) [.ref (ad G 3), .int x1] G z0 sz (S_LawReader_closesBracket post x1 z0) post := by
  refine Met.ofW (cc := cX2_closesBracket) (maxL := 2) (ret := (some .boolean)) (by decide) rfl ?_
  intro p e s m args below meth c s₁ B hml hv
  obtain ⟨rfl, hsz, hP, hD0, hE, hB⟩ := hv
  have S : CallFix p m c cX2_closesBracket 2 s _ GW RX2 := ⟨B.exec, B.bytes, hml, findClass_of_methodNamed B.named, fun w h => atoms_spec (ws := Cond.code yX2_closesBracket cX2_closesBracket 2 (some .boolean) :: GW) B.pre w (List.mem_cons_of_mem _ h)⟩
  have hlocks := B.notSynchronized
  subst hsz
  have hD := hD0.self (sz := s.heap.size)
  generalize hAe : va_A (wX G z0) s.heap.size = A at hD hE ⊢
  have hA : ∀ q : Nat, s.heap.size ≤ q → A q := fun q h => by rw [← hAe]; exact Or.inr h
  have hS : va_S A s.heap s.heap [] := va_S.rf
  have hl := lv_entry ([.ref (ad G 3), .int x1]) (n := 2) (Nat.le_of_ble_eq_true rfl)
  rw [lg_entry_eq]
  generalize (lg_sl ([.ref (ad G 3), .int x1]) ++ List.replicate (2 - (lg_sl ([.ref (ad G 3), .int x1])).length) Slot.unset).toArray = ls at hl ⊢
  have hl : lv_has ls 2 [(0, .ref (ad G 3)), (1, .int x1)] := hl
  refine w_LawReader_closesBracket_0 S hE hA (Nat.le_refl _) (Nat.le_refl _) ?_ x1 z0 hB _ _ _ hP hD hS hl
  intro pc ls r σ H locs hd hp hP hD hS
  exact W.zret (v := r) B.exec B.bytes B.returns (xboolc r hp.1) (fun t ht hW => ⟨⟨r, σ, rfl, hp.2, by rw [ht]; exact hP, hD⟩, hS.F ht⟩) hS.2.2 hd
def S_LawReader_takesComparison (post : Int32 → St → Prop) (x1 : Int32) (z0 : St) : Prop :=
  (((gI z0 18) = 0 → (((gI z0 17) = (2 : Int32) → (post (0 : Int32) z0)) ∧ (¬ (gI z0 17) = (2 : Int32) → (∀ z1 : St, z1 = sI z0 17 (1 : Int32) → (∀ z2 : St, z2 = sI z1 18 (1 : Int32) → (S_LawReader_goesOn (fun (r3 : Int32) (z3 : St) => ((r3 = 0 ∨ r3 = 1) ∧ post r3 z3)) x1 (3 : Int32) z2)))))) ∧ (¬ (gI z0 18) = 0 → (post (0 : Int32) z0)))
set_option maxHeartbeats 4000000 in
set_option maxRecDepth 100000 in
theorem w_LawReader_takesComparison_0 {p : Program} {l : Launch} {e : Env} {R : Room} {s : State} {m : MethodId} {args : Array Value} {below : List Frame} {meth : Method} {c : Code} {Q : State → Prop} {G : GX} {A : Nat → Prop} (S : CallFix p m c cX2_takesComparison 2 s args GW RX2) (hE : env G A s s.heap) (hA : ∀ q, s.heap.size ≤ q → A q) (hRf : 3 ≤ R.frames) (hRl : 64 ≤ R.locals) {post : Int32 → St → Prop} (hret : RetZ p l e R s m args below meth c Q 0 0 wX G A cX2_takesComparison post) (x1 : Int32) (z0 : St) (hB : S_LawReader_takesComparison post x1 z0) : Xw p l e R s m args below meth c Q 0 0 wX G A z0 2 [(0, .ref (ad G 3)), (1, .int x1)] 0 [] := by
  intro H locs ls hP hD hS hl
  have hx := S.1
  have hb := S.2.1
  refine lv_aload_n hx hb dX2_takesComparison_0 rfl (lv_at hl 0 rfl) ?_
  refine xXg_3_compared S hE hP lk_X2_42 dX2_takesComparison_1 ?_
  refine lv_if_ne (tgt := 15) hx hb dX2_takesComparison_4 (by decide) (fun c1 => ?_) (fun c1 => ?_)
  · have hB := hB.2 c1
    refine lv_iconst (v := 0) hx hb dX2_takesComparison_15 (by decide) ?_
    exact hret _ _ _ _ _ _ dX2_takesComparison_16 ⟨by decide, hB⟩ hP hD hS
  · have hB := hB.1 c1
    refine lv_aload_n hx hb dX2_takesComparison_7 rfl (lv_at hl 0 rfl) ?_
    refine xXg_3_stage S hE hP lk_X2_39 dX2_takesComparison_8 ?_
    refine lv_iconst (v := 2) hx hb dX2_takesComparison_11 (by decide) ?_
    refine lv_icmp_ne (tgt := 17) hx hb dX2_takesComparison_12 (by decide) (fun c2 => ?_) (fun c2 => ?_)
    · have hB := hB.2 c2
      refine lv_aload_n hx hb dX2_takesComparison_17 rfl (lv_at hl 0 rfl) ?_
      refine lv_iconst (v := 1) hx hb dX2_takesComparison_18 (by decide) ?_
      obtain ⟨z1, ez1⟩ : ∃ z9, z9 = sI z0 17 (1 : Int32) := ⟨_, rfl⟩
      have hB := hB z1 ez1
      refine xXp_3_stage S hE hP hD hS lk_X2_39 dX2_takesComparison_19 (fun H locs hP hD hS => ?_)
      rw [← ez1] at hP hD
      refine lv_aload_n hx hb dX2_takesComparison_22 rfl (lv_at hl 0 rfl) ?_
      refine lv_iconst (v := 1) hx hb dX2_takesComparison_23 (by decide) ?_
      obtain ⟨z2, ez2⟩ : ∃ z9, z9 = sI z1 18 (1 : Int32) := ⟨_, rfl⟩
      have hB := hB z2 ez2
      refine xXp_3_compared S hE hP hD hS lk_X2_42 (by decide) dX2_takesComparison_24 (fun H locs hP hD hS => ?_)
      rw [← ez2] at hP hD
      refine lv_aload_n hx hb dX2_takesComparison_27 rfl (lv_at hl 0 rfl) ?_
      refine lv_iload_n hx hb dX2_takesComparison_28 rfl (lv_at hl 1 rfl) ?_
      refine lv_iconst (v := 3) hx hb dX2_takesComparison_29 (by decide) ?_
      refine xcVi [.int x1, .int (3 : Int32)] S hE hA hP hD hS (c_LawReader_goesOn l G z2 H.size x1 (3 : Int32) _) hB (gw_c lk_X2_83 (gw_c wi_X2_goesOn (gw_c we_X2_X2_goesOn_X2_goesOn (gw_c wn_X2 (gw_c wc_X2_goesOn (fun _ h9 => h9)))))) hd_X2_goesOn rfl rfl (Nat.le_trans (Nat.le_of_ble_eq_true rfl) hRf) (Nat.le_trans (Nat.le_of_ble_eq_true rfl) hRl) ⟨Nat.zero_le _, Nat.zero_le _⟩ (va_recv hE.1 hP (ci := 2) (q0 := 3) rfl rfl) rfl hl.1 rfl (Nat.le_of_ble_eq_true rfl) dX2_takesComparison_30 (fun r3 z3 H locs hB hP hD hS => ?_)
      exact hret _ _ _ _ _ _ dX2_takesComparison_33 hB hP hD hS
    · have hB := hB.1 c2
      refine lv_iconst (v := 0) hx hb dX2_takesComparison_15 (by decide) ?_
      exact hret _ _ _ _ _ _ dX2_takesComparison_16 ⟨by decide, hB⟩ hP hD hS
set_option maxHeartbeats 4000000 in
set_option maxRecDepth 100000 in
theorem c_LawReader_takesComparison (l : Launch) (G : GX) (z0 : St) (sz : Nat) (x1 : Int32) (post : Int32 → St → Prop) : MetI l wX yX2_takesComparison cX2_takesComparison 2 (some .boolean) ({ frames := 3, cells := 0, slots := 0, locals := 64 }) [.ref (ad G 3), .int x1] G z0 sz (S_LawReader_takesComparison post x1 z0) post := by
  refine Met.ofW (cc := cX2_takesComparison) (maxL := 2) (ret := (some .boolean)) (by decide) rfl ?_
  intro p e s m args below meth c s₁ B hml hv
  obtain ⟨rfl, hsz, hP, hD0, hE, hB⟩ := hv
  have S : CallFix p m c cX2_takesComparison 2 s _ GW RX2 := ⟨B.exec, B.bytes, hml, findClass_of_methodNamed B.named, fun w h => atoms_spec (ws := Cond.code yX2_takesComparison cX2_takesComparison 2 (some .boolean) :: GW) B.pre w (List.mem_cons_of_mem _ h)⟩
  have hlocks := B.notSynchronized
  subst hsz
  have hD := hD0.self (sz := s.heap.size)
  generalize hAe : va_A (wX G z0) s.heap.size = A at hD hE ⊢
  have hA : ∀ q : Nat, s.heap.size ≤ q → A q := fun q h => by rw [← hAe]; exact Or.inr h
  have hS : va_S A s.heap s.heap [] := va_S.rf
  have hl := lv_entry ([.ref (ad G 3), .int x1]) (n := 2) (Nat.le_of_ble_eq_true rfl)
  rw [lg_entry_eq]
  generalize (lg_sl ([.ref (ad G 3), .int x1]) ++ List.replicate (2 - (lg_sl ([.ref (ad G 3), .int x1])).length) Slot.unset).toArray = ls at hl ⊢
  have hl : lv_has ls 2 [(0, .ref (ad G 3)), (1, .int x1)] := hl
  refine w_LawReader_takesComparison_0 S hE hA (Nat.le_refl _) (Nat.le_refl _) ?_ x1 z0 hB _ _ _ hP hD hS hl
  intro pc ls r σ H locs hd hp hP hD hS
  exact W.zret (v := r) B.exec B.bytes B.returns (xboolc r hp.1) (fun t ht hW => ⟨⟨r, σ, rfl, hp.2, by rw [ht]; exact hP, hD⟩, hS.F ht⟩) hS.2.2 hd
def S_LawReader_endsCondition (post : Int32 → St → Prop) (z0 : St) : Prop :=
  (S_LawReader_writeWaiting (fun (z1 : St) => (S_LawReader_write (fun (z2 : St) => (∀ z3 : St, z3 = sI z2 17 (2 : Int32) → (∀ z4 : St, z4 = sI z3 18 (0 : Int32) → (∀ z5 : St, z5 = sI z4 16 (3 : Int32) → (post (1 : Int32) z5))))) (-63 : Int32) z1)) (1 : Int32) z0)
set_option maxHeartbeats 4000000 in
set_option maxRecDepth 100000 in
theorem w_LawReader_endsCondition_0 {p : Program} {l : Launch} {e : Env} {R : Room} {s : State} {m : MethodId} {args : Array Value} {below : List Frame} {meth : Method} {c : Code} {Q : State → Prop} {G : GX} {A : Nat → Prop} (S : CallFix p m c cX2_endsCondition 1 s args GW RX2) (hE : env G A s s.heap) (hA : ∀ q, s.heap.size ≤ q → A q) (hRf : 2 ≤ R.frames) (hRl : 42 ≤ R.locals) {post : Int32 → St → Prop} (hret : RetZ p l e R s m args below meth c Q 0 0 wX G A cX2_endsCondition post) (z0 : St) (hB : S_LawReader_endsCondition post z0) : Xw p l e R s m args below meth c Q 0 0 wX G A z0 1 [(0, .ref (ad G 3))] 0 [] := by
  intro H locs ls hP hD hS hl
  have hx := S.1
  have hb := S.2.1
  refine lv_aload_n hx hb dX2_endsCondition_0 rfl (lv_at hl 0 rfl) ?_
  refine lv_iconst (v := 1) hx hb dX2_endsCondition_1 (by decide) ?_
  refine xcVv [.int (1 : Int32)] S hE hA hP hD hS (c_LawReader_writeWaiting l G z0 H.size (1 : Int32) _) hB (gw_c lk_X2_106 (gw_c wi_X2_writeWaiting (gw_c we_X2_X2_writeWaiting_X2_writeWaiting (gw_c wn_X2 (gw_c wc_X2_writeWaiting (fun _ h9 => h9)))))) hd_X2_writeWaiting rfl rfl (Nat.le_trans (Nat.le_of_ble_eq_true rfl) hRf) (Nat.le_trans (Nat.le_of_ble_eq_true rfl) hRl) ⟨Nat.zero_le _, Nat.zero_le _⟩ (va_recv hE.1 hP (ci := 2) (q0 := 3) rfl rfl) rfl hl.1 rfl (Nat.le_of_ble_eq_true rfl) dX2_endsCondition_2 (fun z1 H locs hB hP hD hS => ?_)
  refine lv_aload_n hx hb dX2_endsCondition_5 rfl (lv_at hl 0 rfl) ?_
  refine lv_bipush (v := -63) hx hb dX2_endsCondition_6 (by decide) ?_
  refine xcVv [.int (-63 : Int32)] S hE hA hP hD hS (c_LawReader_write l G z1 H.size (-63 : Int32) _) hB (gw_c lk_X2_72 (gw_c wi_X2_write (gw_c we_X2_X2_write_X2_write (gw_c wn_X2 (gw_c wc_X2_write (fun _ h9 => h9)))))) hd_X2_write rfl rfl (Nat.le_trans (Nat.le_of_ble_eq_true rfl) hRf) (Nat.le_trans (Nat.le_of_ble_eq_true rfl) hRl) ⟨Nat.zero_le _, Nat.zero_le _⟩ (va_recv hE.1 hP (ci := 2) (q0 := 3) rfl rfl) rfl hl.1 rfl (Nat.le_of_ble_eq_true rfl) dX2_endsCondition_8 (fun z2 H locs hB hP hD hS => ?_)
  refine lv_aload_n hx hb dX2_endsCondition_11 rfl (lv_at hl 0 rfl) ?_
  refine lv_iconst (v := 2) hx hb dX2_endsCondition_12 (by decide) ?_
  obtain ⟨z3, ez3⟩ : ∃ z9, z9 = sI z2 17 (2 : Int32) := ⟨_, rfl⟩
  have hB := hB z3 ez3
  refine xXp_3_stage S hE hP hD hS lk_X2_39 dX2_endsCondition_13 (fun H locs hP hD hS => ?_)
  rw [← ez3] at hP hD
  refine lv_aload_n hx hb dX2_endsCondition_16 rfl (lv_at hl 0 rfl) ?_
  refine lv_iconst (v := 0) hx hb dX2_endsCondition_17 (by decide) ?_
  obtain ⟨z4, ez4⟩ : ∃ z9, z9 = sI z3 18 (0 : Int32) := ⟨_, rfl⟩
  have hB := hB z4 ez4
  refine xXp_3_compared S hE hP hD hS lk_X2_42 (by decide) dX2_endsCondition_18 (fun H locs hP hD hS => ?_)
  rw [← ez4] at hP hD
  refine lv_aload_n hx hb dX2_endsCondition_21 rfl (lv_at hl 0 rfl) ?_
  refine lv_iconst (v := 3) hx hb dX2_endsCondition_22 (by decide) ?_
  obtain ⟨z5, ez5⟩ : ∃ z9, z9 = sI z4 16 (3 : Int32) := ⟨_, rfl⟩
  have hB := hB z5 ez5
  refine xXp_3_awaits S hE hP hD hS lk_X2_30 dX2_endsCondition_23 (fun H locs hP hD hS => ?_)
  rw [← ez5] at hP hD
  refine lv_iconst (v := 1) hx hb dX2_endsCondition_26 (by decide) ?_
  exact hret _ _ _ _ _ _ dX2_endsCondition_27 ⟨by decide, hB⟩ hP hD hS
set_option maxHeartbeats 4000000 in
set_option maxRecDepth 100000 in
theorem c_LawReader_endsCondition (l : Launch) (G : GX) (z0 : St) (sz : Nat) (post : Int32 → St → Prop) : MetI l wX yX2_endsCondition cX2_endsCondition 1 (some .boolean) ({ frames := 2, cells := 0, slots := 0, locals := 42 }) [.ref (ad G 3)] G z0 sz (S_LawReader_endsCondition post z0) post := by
  refine Met.ofW (cc := cX2_endsCondition) (maxL := 1) (ret := (some .boolean)) (by decide) rfl ?_
  intro p e s m args below meth c s₁ B hml hv
  obtain ⟨rfl, hsz, hP, hD0, hE, hB⟩ := hv
  have S : CallFix p m c cX2_endsCondition 1 s _ GW RX2 := ⟨B.exec, B.bytes, hml, findClass_of_methodNamed B.named, fun w h => atoms_spec (ws := Cond.code yX2_endsCondition cX2_endsCondition 1 (some .boolean) :: GW) B.pre w (List.mem_cons_of_mem _ h)⟩
  have hlocks := B.notSynchronized
  subst hsz
  have hD := hD0.self (sz := s.heap.size)
  generalize hAe : va_A (wX G z0) s.heap.size = A at hD hE ⊢
  have hA : ∀ q : Nat, s.heap.size ≤ q → A q := fun q h => by rw [← hAe]; exact Or.inr h
  have hS : va_S A s.heap s.heap [] := va_S.rf
  have hl := lv_entry ([.ref (ad G 3)]) (n := 1) (Nat.le_of_ble_eq_true rfl)
  rw [lg_entry_eq]
  generalize (lg_sl ([.ref (ad G 3)]) ++ List.replicate (1 - (lg_sl ([.ref (ad G 3)])).length) Slot.unset).toArray = ls at hl ⊢
  have hl : lv_has ls 1 [(0, .ref (ad G 3))] := hl
  refine w_LawReader_endsCondition_0 S hE hA (Nat.le_refl _) (Nat.le_refl _) ?_  z0 hB _ _ _ hP hD hS hl
  intro pc ls r σ H locs hd hp hP hD hS
  exact W.zret (v := r) B.exec B.bytes B.returns (xboolc r hp.1) (fun t ht hW => ⟨⟨r, σ, rfl, hp.2, by rw [ht]; exact hP, hD⟩, hS.F ht⟩) hS.2.2 hd
def S_LawReader_takesBehind (post : Int32 → St → Prop) (x1 : Int32) (z0 : St) : Prop :=
  (∀ z1 : St, z1 = sI z0 19 (0 : Int32) → (S_LawReader_enclosing (fun (r1 : Int32) (z2 : St) => ((x1 = (38 : Int32) → (((gI z2 18) = 0 → (post (0 : Int32) z2)) ∧ (¬ (gI z2 18) = 0 → ((r1 = (91 : Int32) → (post (0 : Int32) z2)) ∧ (¬ r1 = (91 : Int32) → (S_LawReader_takesJoint (fun (r4 : Int32) (z3 : St) => ((r4 = 0 → (post (0 : Int32) z3)) ∧ (¬ r4 = 0 → (post (1 : Int32) z3)))) x1 z2)))))) ∧ (¬ x1 = (38 : Int32) → ((x1 = (41 : Int32) → ((r1 = (40 : Int32) → (((gI z2 18) = 0 → (post (0 : Int32) z2)) ∧ (¬ (gI z2 18) = 0 → (S_LawReader_closesBracket (fun (r8 : Int32) (z4 : St) => ((r8 = 0 → (post (0 : Int32) z4)) ∧ (¬ r8 = 0 → (post (1 : Int32) z4)))) (5 : Int32) z2)))) ∧ (¬ r1 = (40 : Int32) → (post (0 : Int32) z2)))) ∧ (¬ x1 = (41 : Int32) → ((x1 = (42 : Int32) → (((gI z2 16) = (4 : Int32) → (S_LawReader_goesOn (fun (r11 : Int32) (z5 : St) => ((r11 = 0 → (post (0 : Int32) z5)) ∧ (¬ r11 = 0 → (post (1 : Int32) z5)))) x1 (3 : Int32) z2)) ∧ (¬ (gI z2 16) = (4 : Int32) → (post (0 : Int32) z2)))) ∧ (¬ x1 = (42 : Int32) → ((x1 = (43 : Int32) → (((gI z2 16) = (4 : Int32) → (S_LawReader_goesOn (fun (r14 : Int32) (z6 : St) => ((r14 = 0 → (post (0 : Int32) z6)) ∧ (¬ r14 = 0 → (post (1 : Int32) z6)))) x1 (3 : Int32) z2)) ∧ (¬ (gI z2 16) = (4 : Int32) → (post (0 : Int32) z2)))) ∧ (¬ x1 = (43 : Int32) → ((x1 = (45 : Int32) → (((gI z2 16) = (4 : Int32) → (S_LawReader_goesOn (fun (r17 : Int32) (z7 : St) => ((r17 = 0 → (post (0 : Int32) z7)) ∧ (¬ r17 = 0 → (post (1 : Int32) z7)))) x1 (3 : Int32) z2)) ∧ (¬ (gI z2 16) = (4 : Int32) → (post (0 : Int32) z2)))) ∧ (¬ x1 = (45 : Int32) → ((x1 = (47 : Int32) → (((gI z2 16) = (4 : Int32) → (S_LawReader_goesOn (fun (r20 : Int32) (z8 : St) => ((r20 = 0 → (post (0 : Int32) z8)) ∧ (¬ r20 = 0 → (post (1 : Int32) z8)))) x1 (3 : Int32) z2)) ∧ (¬ (gI z2 16) = (4 : Int32) → (post (0 : Int32) z2)))) ∧ (¬ x1 = (47 : Int32) → ((x1 = (59 : Int32) → ((r1 = (-1 : Int32) → (((gI z2 17) = (1 : Int32) → (post (0 : Int32) z2)) ∧ (¬ (gI z2 17) = (1 : Int32) → (S_LawReader_endsSum (fun (r24 : Int32) (z9 : St) => ((r24 = 0 → (post (0 : Int32) z9)) ∧ (¬ r24 = 0 → (post (1 : Int32) z9)))) z2)))) ∧ (¬ r1 = (-1 : Int32) → (post (0 : Int32) z2)))) ∧ (¬ x1 = (59 : Int32) → ((x1 = (60 : Int32) → (((gI z2 16) = (4 : Int32) → ((r1 = (91 : Int32) → (post (0 : Int32) z2)) ∧ (¬ r1 = (91 : Int32) → (S_LawReader_takesComparison (fun (r28 : Int32) (z10 : St) => ((r28 = 0 → (post (0 : Int32) z10)) ∧ (¬ r28 = 0 → (post (1 : Int32) z10)))) x1 z2)))) ∧ (¬ (gI z2 16) = (4 : Int32) → (post (0 : Int32) z2)))) ∧ (¬ x1 = (60 : Int32) → ((x1 = (61 : Int32) → (((gI z2 16) = (4 : Int32) → ((r1 = (91 : Int32) → (post (0 : Int32) z2)) ∧ (¬ r1 = (91 : Int32) → (S_LawReader_takesComparison (fun (r32 : Int32) (z11 : St) => ((r32 = 0 → (post (0 : Int32) z11)) ∧ (¬ r32 = 0 → (post (1 : Int32) z11)))) x1 z2)))) ∧ (¬ (gI z2 16) = (4 : Int32) → (post (0 : Int32) z2)))) ∧ (¬ x1 = (61 : Int32) → ((x1 = (62 : Int32) → (((gI z2 16) = (4 : Int32) → ((r1 = (91 : Int32) → (post (0 : Int32) z2)) ∧ (¬ r1 = (91 : Int32) → (S_LawReader_takesComparison (fun (r36 : Int32) (z12 : St) => ((r36 = 0 → (post (0 : Int32) z12)) ∧ (¬ r36 = 0 → (post (1 : Int32) z12)))) x1 z2)))) ∧ (¬ (gI z2 16) = (4 : Int32) → (post (0 : Int32) z2)))) ∧ (¬ x1 = (62 : Int32) → ((x1 = (63 : Int32) → ((r1 = (-1 : Int32) → (((gI z2 18) = 0 → (post (0 : Int32) z2)) ∧ (¬ (gI z2 18) = 0 → (S_LawReader_endsCondition (fun (r40 : Int32) (z13 : St) => ((r40 = 0 → (post (0 : Int32) z13)) ∧ (¬ r40 = 0 → (post (1 : Int32) z13)))) z2)))) ∧ (¬ r1 = (-1 : Int32) → (post (0 : Int32) z2)))) ∧ (¬ x1 = (63 : Int32) → ((x1 = (93 : Int32) → ((r1 = (91 : Int32) → (S_LawReader_closesBracket (fun (r43 : Int32) (z14 : St) => ((r43 = 0 → (post (0 : Int32) z14)) ∧ (¬ r43 = 0 → (post (1 : Int32) z14)))) (4 : Int32) z2)) ∧ (¬ r1 = (91 : Int32) → (post (0 : Int32) z2)))) ∧ (¬ x1 = (93 : Int32) → ((x1 = (124 : Int32) → (((gI z2 18) = 0 → (post (0 : Int32) z2)) ∧ (¬ (gI z2 18) = 0 → ((r1 = (91 : Int32) → (post (0 : Int32) z2)) ∧ (¬ r1 = (91 : Int32) → (S_LawReader_takesJoint (fun (r47 : Int32) (z15 : St) => ((r47 = 0 → (post (0 : Int32) z15)) ∧ (¬ r47 = 0 → (post (1 : Int32) z15)))) x1 z2)))))) ∧ (¬ x1 = (124 : Int32) → (post (0 : Int32) z2)))))))))))))))))))))))))))) z1))
set_option maxHeartbeats 4000000 in
set_option maxRecDepth 100000 in
theorem w_LawReader_takesBehind_0 {p : Program} {l : Launch} {e : Env} {R : Room} {s : State} {m : MethodId} {args : Array Value} {below : List Frame} {meth : Method} {c : Code} {Q : State → Prop} {G : GX} {A : Nat → Prop} (S : CallFix p m c cX2_takesBehind 3 s args GW RX2) (hE : env G A s s.heap) (hA : ∀ q, s.heap.size ≤ q → A q) (hRf : 4 ≤ R.frames) (hRl : 85 ≤ R.locals) {post : Int32 → St → Prop} (hret : RetZ p l e R s m args below meth c Q 0 0 wX G A cX2_takesBehind post) (x1 : Int32) (z0 : St) (hB : S_LawReader_takesBehind post x1 z0) : Xw p l e R s m args below meth c Q 0 0 wX G A z0 3 [(0, .ref (ad G 3)), (1, .int x1)] 0 [] := by
  intro H locs ls hP hD hS hl
  have hx := S.1
  have hb := S.2.1
  refine lv_aload_n hx hb dX2_takesBehind_0 rfl (lv_at hl 0 rfl) ?_
  refine lv_iconst (v := 0) hx hb dX2_takesBehind_1 (by decide) ?_
  obtain ⟨z1, ez1⟩ : ∃ z9, z9 = sI z0 19 (0 : Int32) := ⟨_, rfl⟩
  have hB := hB z1 ez1
  refine xXp_3_digits S hE hP hD hS lk_X2_69 dX2_takesBehind_2 (fun H locs hP hD hS => ?_)
  rw [← ez1] at hP hD
  refine lv_aload_n hx hb dX2_takesBehind_5 rfl (lv_at hl 0 rfl) ?_
  refine xcVi [] S hE hA hP hD hS (c_LawReader_enclosing l G z1 H.size _) hB (gw_c lk_X2_79 (gw_c wi_X2_enclosing (gw_c we_X2_X2_enclosing_X2_enclosing (gw_c wn_X2 (gw_c wc_X2_enclosing (fun _ h9 => h9)))))) hd_X2_enclosing rfl rfl (Nat.le_trans (Nat.le_of_ble_eq_true rfl) hRf) (Nat.le_trans (Nat.le_of_ble_eq_true rfl) hRl) ⟨Nat.zero_le _, Nat.zero_le _⟩ (va_recv hE.1 hP (ci := 2) (q0 := 3) rfl rfl) rfl hl.1 rfl (Nat.le_of_ble_eq_true rfl) dX2_takesBehind_6 (fun r1 z2 H locs hB hP hD hS => ?_)
  refine lv_istore_n (lv' := [(2, .int r1), (0, .ref (ad G 3)), (1, .int x1)]) hx hb dX2_takesBehind_9 rfl hl (by decide) rfl (fun ls hl => ?_)
  refine lv_iload_n hx hb dX2_takesBehind_10 rfl (lv_at hl 2 rfl) ?_
  -- switch
  by_cases q38 : x1 = (38 : Int32)
  · have hB := hB.1 q38
    refine lv_lookup (tgt := 175) (off := 164) hx hb dX2_takesBehind_11 (by decide) (by rw [q38]; decide) (by decide) ?_
    refine lv_aload_n hx hb dX2_takesBehind_175 rfl (lv_at hl 1 rfl) ?_
    refine xXg_3_compared S hE hP lk_X2_42 dX2_takesBehind_176 ?_
    refine lv_if_eq (tgt := 200) hx hb dX2_takesBehind_179 (by decide) (fun c2 => ?_) (fun c2 => ?_)
    · have hB := hB.1 c2
      refine lv_iconst (v := 0) hx hb dX2_takesBehind_200 (by decide) ?_
      exact hret _ _ _ _ _ _ dX2_takesBehind_201 ⟨by decide, hB⟩ hP hD hS
    · have hB := hB.2 c2
      refine lv_iload_n hx hb dX2_takesBehind_182 rfl (lv_at hl 0 rfl) ?_
      refine lv_bipush (v := 91) hx hb dX2_takesBehind_183 (by decide) ?_
      refine lv_icmp_eq (tgt := 200) hx hb dX2_takesBehind_185 (by decide) (fun c3 => ?_) (fun c3 => ?_)
      · have hB := hB.1 c3
        refine lv_iconst (v := 0) hx hb dX2_takesBehind_200 (by decide) ?_
        exact hret _ _ _ _ _ _ dX2_takesBehind_201 ⟨by decide, hB⟩ hP hD hS
      · have hB := hB.2 c3
        refine lv_aload_n hx hb dX2_takesBehind_188 rfl (lv_at hl 1 rfl) ?_
        refine lv_iload_n hx hb dX2_takesBehind_189 rfl (lv_at hl 2 rfl) ?_
        refine xcVi [.int x1] S hE hA hP hD hS (c_LawReader_takesJoint l G z2 H.size x1 _) hB (gw_c lk_X2_90 (gw_c wi_X2_takesJoint (gw_c we_X2_X2_takesJoint_X2_takesJoint (gw_c wn_X2 (gw_c wc_X2_takesJoint (fun _ h9 => h9)))))) hd_X2_takesJoint rfl rfl (Nat.le_trans (Nat.le_of_ble_eq_true rfl) hRf) (Nat.le_trans (Nat.le_of_ble_eq_true rfl) hRl) ⟨Nat.zero_le _, Nat.zero_le _⟩ (va_recv hE.1 hP (ci := 2) (q0 := 3) rfl rfl) rfl hl.1 rfl (Nat.le_of_ble_eq_true rfl) dX2_takesBehind_190 (fun r4 z3 H locs hB hP hD hS => ?_)
        refine lv_if_eq (tgt := 200) hx hb dX2_takesBehind_193 (by decide) (fun c5 => ?_) (fun c5 => ?_)
        · have hB := hB.1 c5
          refine lv_iconst (v := 0) hx hb dX2_takesBehind_200 (by decide) ?_
          exact hret _ _ _ _ _ _ dX2_takesBehind_201 ⟨by decide, hB⟩ hP hD hS
        · have hB := hB.2 c5
          refine lv_iconst (v := 1) hx hb dX2_takesBehind_196 (by decide) ?_
          refine lv_goto (tgt := 201) hx hb dX2_takesBehind_197 (by decide) ?_
          exact hret _ _ _ _ _ _ dX2_takesBehind_201 ⟨by decide, hB⟩ hP hD hS
  have hB := hB.2 q38
  by_cases q41 : x1 = (41 : Int32)
  · have hB := hB.1 q41
    refine lv_lookup (tgt := 222) (off := 211) hx hb dX2_takesBehind_11 (by decide) (by rw [q41]; decide) (by decide) ?_
    refine lv_iload_n hx hb dX2_takesBehind_222 rfl (lv_at hl 0 rfl) ?_
    refine lv_bipush (v := 40) hx hb dX2_takesBehind_223 (by decide) ?_
    refine lv_icmp_ne (tgt := 247) hx hb dX2_takesBehind_225 (by decide) (fun c6 => ?_) (fun c6 => ?_)
    · have hB := hB.2 c6
      refine lv_iconst (v := 0) hx hb dX2_takesBehind_247 (by decide) ?_
      exact hret _ _ _ _ _ _ dX2_takesBehind_248 ⟨by decide, hB⟩ hP hD hS
    · have hB := hB.1 c6
      refine lv_aload_n hx hb dX2_takesBehind_228 rfl (lv_at hl 1 rfl) ?_
      refine xXg_3_compared S hE hP lk_X2_42 dX2_takesBehind_229 ?_
      refine lv_if_eq (tgt := 247) hx hb dX2_takesBehind_232 (by decide) (fun c7 => ?_) (fun c7 => ?_)
      · have hB := hB.1 c7
        refine lv_iconst (v := 0) hx hb dX2_takesBehind_247 (by decide) ?_
        exact hret _ _ _ _ _ _ dX2_takesBehind_248 ⟨by decide, hB⟩ hP hD hS
      · have hB := hB.2 c7
        refine lv_aload_n hx hb dX2_takesBehind_235 rfl (lv_at hl 1 rfl) ?_
        refine lv_iconst (v := 5) hx hb dX2_takesBehind_236 (by decide) ?_
        refine xcVi [.int (5 : Int32)] S hE hA hP hD hS (c_LawReader_closesBracket l G z2 H.size (5 : Int32) _) hB (gw_c lk_X2_93 (gw_c wi_X2_closesBracket (gw_c we_X2_X2_closesBracket_X2_closesBracket (gw_c wn_X2 (gw_c wc_X2_closesBracket (fun _ h9 => h9)))))) hd_X2_closesBracket rfl rfl (Nat.le_trans (Nat.le_of_ble_eq_true rfl) hRf) (Nat.le_trans (Nat.le_of_ble_eq_true rfl) hRl) ⟨Nat.zero_le _, Nat.zero_le _⟩ (va_recv hE.1 hP (ci := 2) (q0 := 3) rfl rfl) rfl hl.1 rfl (Nat.le_of_ble_eq_true rfl) dX2_takesBehind_237 (fun r8 z4 H locs hB hP hD hS => ?_)
        refine lv_if_eq (tgt := 247) hx hb dX2_takesBehind_240 (by decide) (fun c9 => ?_) (fun c9 => ?_)
        · have hB := hB.1 c9
          refine lv_iconst (v := 0) hx hb dX2_takesBehind_247 (by decide) ?_
          exact hret _ _ _ _ _ _ dX2_takesBehind_248 ⟨by decide, hB⟩ hP hD hS
        · have hB := hB.2 c9
          refine lv_iconst (v := 1) hx hb dX2_takesBehind_243 (by decide) ?_
          refine lv_goto (tgt := 248) hx hb dX2_takesBehind_244 (by decide) ?_
          exact hret _ _ _ _ _ _ dX2_takesBehind_248 ⟨by decide, hB⟩ hP hD hS
  have hB := hB.2 q41
  by_cases q42 : x1 = (42 : Int32)
  · have hB := hB.1 q42
    refine lv_lookup (tgt := 124) (off := 113) hx hb dX2_takesBehind_11 (by decide) (by rw [q42]; decide) (by decide) ?_
    refine lv_aload_n hx hb dX2_takesBehind_124 rfl (lv_at hl 1 rfl) ?_
    refine xXg_3_awaits S hE hP lk_X2_30 dX2_takesBehind_125 ?_
    refine lv_iconst (v := 4) hx hb dX2_takesBehind_128 (by decide) ?_
    refine lv_icmp_ne (tgt := 145) hx hb dX2_takesBehind_129 (by decide) (fun c10 => ?_) (fun c10 => ?_)
    · have hB := hB.2 c10
      refine lv_iconst (v := 0) hx hb dX2_takesBehind_145 (by decide) ?_
      exact hret _ _ _ _ _ _ dX2_takesBehind_146 ⟨by decide, hB⟩ hP hD hS
    · have hB := hB.1 c10
      refine lv_aload_n hx hb dX2_takesBehind_132 rfl (lv_at hl 1 rfl) ?_
      refine lv_iload_n hx hb dX2_takesBehind_133 rfl (lv_at hl 2 rfl) ?_
      refine lv_iconst (v := 3) hx hb dX2_takesBehind_134 (by decide) ?_
      refine xcVi [.int x1, .int (3 : Int32)] S hE hA hP hD hS (c_LawReader_goesOn l G z2 H.size x1 (3 : Int32) _) hB (gw_c lk_X2_83 (gw_c wi_X2_goesOn (gw_c we_X2_X2_goesOn_X2_goesOn (gw_c wn_X2 (gw_c wc_X2_goesOn (fun _ h9 => h9)))))) hd_X2_goesOn rfl rfl (Nat.le_trans (Nat.le_of_ble_eq_true rfl) hRf) (Nat.le_trans (Nat.le_of_ble_eq_true rfl) hRl) ⟨Nat.zero_le _, Nat.zero_le _⟩ (va_recv hE.1 hP (ci := 2) (q0 := 3) rfl rfl) rfl hl.1 rfl (Nat.le_of_ble_eq_true rfl) dX2_takesBehind_135 (fun r11 z5 H locs hB hP hD hS => ?_)
      refine lv_if_eq (tgt := 145) hx hb dX2_takesBehind_138 (by decide) (fun c12 => ?_) (fun c12 => ?_)
      · have hB := hB.1 c12
        refine lv_iconst (v := 0) hx hb dX2_takesBehind_145 (by decide) ?_
        exact hret _ _ _ _ _ _ dX2_takesBehind_146 ⟨by decide, hB⟩ hP hD hS
      · have hB := hB.2 c12
        refine lv_iconst (v := 1) hx hb dX2_takesBehind_141 (by decide) ?_
        refine lv_goto (tgt := 146) hx hb dX2_takesBehind_142 (by decide) ?_
        exact hret _ _ _ _ _ _ dX2_takesBehind_146 ⟨by decide, hB⟩ hP hD hS
  have hB := hB.2 q42
  by_cases q43 : x1 = (43 : Int32)
  · have hB := hB.1 q43
    refine lv_lookup (tgt := 124) (off := 113) hx hb dX2_takesBehind_11 (by decide) (by rw [q43]; decide) (by decide) ?_
    refine lv_aload_n hx hb dX2_takesBehind_124 rfl (lv_at hl 1 rfl) ?_
    refine xXg_3_awaits S hE hP lk_X2_30 dX2_takesBehind_125 ?_
    refine lv_iconst (v := 4) hx hb dX2_takesBehind_128 (by decide) ?_
    refine lv_icmp_ne (tgt := 145) hx hb dX2_takesBehind_129 (by decide) (fun c13 => ?_) (fun c13 => ?_)
    · have hB := hB.2 c13
      refine lv_iconst (v := 0) hx hb dX2_takesBehind_145 (by decide) ?_
      exact hret _ _ _ _ _ _ dX2_takesBehind_146 ⟨by decide, hB⟩ hP hD hS
    · have hB := hB.1 c13
      refine lv_aload_n hx hb dX2_takesBehind_132 rfl (lv_at hl 1 rfl) ?_
      refine lv_iload_n hx hb dX2_takesBehind_133 rfl (lv_at hl 2 rfl) ?_
      refine lv_iconst (v := 3) hx hb dX2_takesBehind_134 (by decide) ?_
      refine xcVi [.int x1, .int (3 : Int32)] S hE hA hP hD hS (c_LawReader_goesOn l G z2 H.size x1 (3 : Int32) _) hB (gw_c lk_X2_83 (gw_c wi_X2_goesOn (gw_c we_X2_X2_goesOn_X2_goesOn (gw_c wn_X2 (gw_c wc_X2_goesOn (fun _ h9 => h9)))))) hd_X2_goesOn rfl rfl (Nat.le_trans (Nat.le_of_ble_eq_true rfl) hRf) (Nat.le_trans (Nat.le_of_ble_eq_true rfl) hRl) ⟨Nat.zero_le _, Nat.zero_le _⟩ (va_recv hE.1 hP (ci := 2) (q0 := 3) rfl rfl) rfl hl.1 rfl (Nat.le_of_ble_eq_true rfl) dX2_takesBehind_135 (fun r14 z6 H locs hB hP hD hS => ?_)
      refine lv_if_eq (tgt := 145) hx hb dX2_takesBehind_138 (by decide) (fun c15 => ?_) (fun c15 => ?_)
      · have hB := hB.1 c15
        refine lv_iconst (v := 0) hx hb dX2_takesBehind_145 (by decide) ?_
        exact hret _ _ _ _ _ _ dX2_takesBehind_146 ⟨by decide, hB⟩ hP hD hS
      · have hB := hB.2 c15
        refine lv_iconst (v := 1) hx hb dX2_takesBehind_141 (by decide) ?_
        refine lv_goto (tgt := 146) hx hb dX2_takesBehind_142 (by decide) ?_
        exact hret _ _ _ _ _ _ dX2_takesBehind_146 ⟨by decide, hB⟩ hP hD hS
  have hB := hB.2 q43
  by_cases q45 : x1 = (45 : Int32)
  · have hB := hB.1 q45
    refine lv_lookup (tgt := 124) (off := 113) hx hb dX2_takesBehind_11 (by decide) (by rw [q45]; decide) (by decide) ?_
    refine lv_aload_n hx hb dX2_takesBehind_124 rfl (lv_at hl 1 rfl) ?_
    refine xXg_3_awaits S hE hP lk_X2_30 dX2_takesBehind_125 ?_
    refine lv_iconst (v := 4) hx hb dX2_takesBehind_128 (by decide) ?_
    refine lv_icmp_ne (tgt := 145) hx hb dX2_takesBehind_129 (by decide) (fun c16 => ?_) (fun c16 => ?_)
    · have hB := hB.2 c16
      refine lv_iconst (v := 0) hx hb dX2_takesBehind_145 (by decide) ?_
      exact hret _ _ _ _ _ _ dX2_takesBehind_146 ⟨by decide, hB⟩ hP hD hS
    · have hB := hB.1 c16
      refine lv_aload_n hx hb dX2_takesBehind_132 rfl (lv_at hl 1 rfl) ?_
      refine lv_iload_n hx hb dX2_takesBehind_133 rfl (lv_at hl 2 rfl) ?_
      refine lv_iconst (v := 3) hx hb dX2_takesBehind_134 (by decide) ?_
      refine xcVi [.int x1, .int (3 : Int32)] S hE hA hP hD hS (c_LawReader_goesOn l G z2 H.size x1 (3 : Int32) _) hB (gw_c lk_X2_83 (gw_c wi_X2_goesOn (gw_c we_X2_X2_goesOn_X2_goesOn (gw_c wn_X2 (gw_c wc_X2_goesOn (fun _ h9 => h9)))))) hd_X2_goesOn rfl rfl (Nat.le_trans (Nat.le_of_ble_eq_true rfl) hRf) (Nat.le_trans (Nat.le_of_ble_eq_true rfl) hRl) ⟨Nat.zero_le _, Nat.zero_le _⟩ (va_recv hE.1 hP (ci := 2) (q0 := 3) rfl rfl) rfl hl.1 rfl (Nat.le_of_ble_eq_true rfl) dX2_takesBehind_135 (fun r17 z7 H locs hB hP hD hS => ?_)
      refine lv_if_eq (tgt := 145) hx hb dX2_takesBehind_138 (by decide) (fun c18 => ?_) (fun c18 => ?_)
      · have hB := hB.1 c18
        refine lv_iconst (v := 0) hx hb dX2_takesBehind_145 (by decide) ?_
        exact hret _ _ _ _ _ _ dX2_takesBehind_146 ⟨by decide, hB⟩ hP hD hS
      · have hB := hB.2 c18
        refine lv_iconst (v := 1) hx hb dX2_takesBehind_141 (by decide) ?_
        refine lv_goto (tgt := 146) hx hb dX2_takesBehind_142 (by decide) ?_
        exact hret _ _ _ _ _ _ dX2_takesBehind_146 ⟨by decide, hB⟩ hP hD hS
  have hB := hB.2 q45
  by_cases q47 : x1 = (47 : Int32)
  · have hB := hB.1 q47
    refine lv_lookup (tgt := 124) (off := 113) hx hb dX2_takesBehind_11 (by decide) (by rw [q47]; decide) (by decide) ?_
    refine lv_aload_n hx hb dX2_takesBehind_124 rfl (lv_at hl 1 rfl) ?_
    refine xXg_3_awaits S hE hP lk_X2_30 dX2_takesBehind_125 ?_
    refine lv_iconst (v := 4) hx hb dX2_takesBehind_128 (by decide) ?_
    refine lv_icmp_ne (tgt := 145) hx hb dX2_takesBehind_129 (by decide) (fun c19 => ?_) (fun c19 => ?_)
    · have hB := hB.2 c19
      refine lv_iconst (v := 0) hx hb dX2_takesBehind_145 (by decide) ?_
      exact hret _ _ _ _ _ _ dX2_takesBehind_146 ⟨by decide, hB⟩ hP hD hS
    · have hB := hB.1 c19
      refine lv_aload_n hx hb dX2_takesBehind_132 rfl (lv_at hl 1 rfl) ?_
      refine lv_iload_n hx hb dX2_takesBehind_133 rfl (lv_at hl 2 rfl) ?_
      refine lv_iconst (v := 3) hx hb dX2_takesBehind_134 (by decide) ?_
      refine xcVi [.int x1, .int (3 : Int32)] S hE hA hP hD hS (c_LawReader_goesOn l G z2 H.size x1 (3 : Int32) _) hB (gw_c lk_X2_83 (gw_c wi_X2_goesOn (gw_c we_X2_X2_goesOn_X2_goesOn (gw_c wn_X2 (gw_c wc_X2_goesOn (fun _ h9 => h9)))))) hd_X2_goesOn rfl rfl (Nat.le_trans (Nat.le_of_ble_eq_true rfl) hRf) (Nat.le_trans (Nat.le_of_ble_eq_true rfl) hRl) ⟨Nat.zero_le _, Nat.zero_le _⟩ (va_recv hE.1 hP (ci := 2) (q0 := 3) rfl rfl) rfl hl.1 rfl (Nat.le_of_ble_eq_true rfl) dX2_takesBehind_135 (fun r20 z8 H locs hB hP hD hS => ?_)
      refine lv_if_eq (tgt := 145) hx hb dX2_takesBehind_138 (by decide) (fun c21 => ?_) (fun c21 => ?_)
      · have hB := hB.1 c21
        refine lv_iconst (v := 0) hx hb dX2_takesBehind_145 (by decide) ?_
        exact hret _ _ _ _ _ _ dX2_takesBehind_146 ⟨by decide, hB⟩ hP hD hS
      · have hB := hB.2 c21
        refine lv_iconst (v := 1) hx hb dX2_takesBehind_141 (by decide) ?_
        refine lv_goto (tgt := 146) hx hb dX2_takesBehind_142 (by decide) ?_
        exact hret _ _ _ _ _ _ dX2_takesBehind_146 ⟨by decide, hB⟩ hP hD hS
  have hB := hB.2 q47
  by_cases q59 : x1 = (59 : Int32)
  · have hB := hB.1 q59
    refine lv_lookup (tgt := 274) (off := 263) hx hb dX2_takesBehind_11 (by decide) (by rw [q59]; decide) (by decide) ?_
    refine lv_iload_n hx hb dX2_takesBehind_274 rfl (lv_at hl 0 rfl) ?_
    refine lv_iconst (v := -1) hx hb dX2_takesBehind_275 (by decide) ?_
    refine lv_icmp_ne (tgt := 298) hx hb dX2_takesBehind_276 (by decide) (fun c22 => ?_) (fun c22 => ?_)
    · have hB := hB.2 c22
      refine lv_iconst (v := 0) hx hb dX2_takesBehind_298 (by decide) ?_
      exact hret _ _ _ _ _ _ dX2_takesBehind_299 ⟨by decide, hB⟩ hP hD hS
    · have hB := hB.1 c22
      refine lv_aload_n hx hb dX2_takesBehind_279 rfl (lv_at hl 1 rfl) ?_
      refine xXg_3_stage S hE hP lk_X2_39 dX2_takesBehind_280 ?_
      refine lv_iconst (v := 1) hx hb dX2_takesBehind_283 (by decide) ?_
      refine lv_icmp_eq (tgt := 298) hx hb dX2_takesBehind_284 (by decide) (fun c23 => ?_) (fun c23 => ?_)
      · have hB := hB.1 c23
        refine lv_iconst (v := 0) hx hb dX2_takesBehind_298 (by decide) ?_
        exact hret _ _ _ _ _ _ dX2_takesBehind_299 ⟨by decide, hB⟩ hP hD hS
      · have hB := hB.2 c23
        refine lv_aload_n hx hb dX2_takesBehind_287 rfl (lv_at hl 1 rfl) ?_
        refine xcVi [] S hE hA hP hD hS (c_LawReader_endsSum l G z2 H.size _) hB (gw_c lk_X2_100 (gw_c wi_X2_endsSum (gw_c we_X2_X2_endsSum_X2_endsSum (gw_c wn_X2 (gw_c wc_X2_endsSum (fun _ h9 => h9)))))) hd_X2_endsSum rfl rfl (Nat.le_trans (Nat.le_of_ble_eq_true rfl) hRf) (Nat.le_trans (Nat.le_of_ble_eq_true rfl) hRl) ⟨Nat.zero_le _, Nat.zero_le _⟩ (va_recv hE.1 hP (ci := 2) (q0 := 3) rfl rfl) rfl hl.1 rfl (Nat.le_of_ble_eq_true rfl) dX2_takesBehind_288 (fun r24 z9 H locs hB hP hD hS => ?_)
        refine lv_if_eq (tgt := 298) hx hb dX2_takesBehind_291 (by decide) (fun c25 => ?_) (fun c25 => ?_)
        · have hB := hB.1 c25
          refine lv_iconst (v := 0) hx hb dX2_takesBehind_298 (by decide) ?_
          exact hret _ _ _ _ _ _ dX2_takesBehind_299 ⟨by decide, hB⟩ hP hD hS
        · have hB := hB.2 c25
          refine lv_iconst (v := 1) hx hb dX2_takesBehind_294 (by decide) ?_
          refine lv_goto (tgt := 299) hx hb dX2_takesBehind_295 (by decide) ?_
          exact hret _ _ _ _ _ _ dX2_takesBehind_299 ⟨by decide, hB⟩ hP hD hS
  have hB := hB.2 q59
  by_cases q60 : x1 = (60 : Int32)
  · have hB := hB.1 q60
    refine lv_lookup (tgt := 147) (off := 136) hx hb dX2_takesBehind_11 (by decide) (by rw [q60]; decide) (by decide) ?_
    refine lv_aload_n hx hb dX2_takesBehind_147 rfl (lv_at hl 1 rfl) ?_
    refine xXg_3_awaits S hE hP lk_X2_30 dX2_takesBehind_148 ?_
    refine lv_iconst (v := 4) hx hb dX2_takesBehind_151 (by decide) ?_
    refine lv_icmp_ne (tgt := 173) hx hb dX2_takesBehind_152 (by decide) (fun c26 => ?_) (fun c26 => ?_)
    · have hB := hB.2 c26
      refine lv_iconst (v := 0) hx hb dX2_takesBehind_173 (by decide) ?_
      exact hret _ _ _ _ _ _ dX2_takesBehind_174 ⟨by decide, hB⟩ hP hD hS
    · have hB := hB.1 c26
      refine lv_iload_n hx hb dX2_takesBehind_155 rfl (lv_at hl 0 rfl) ?_
      refine lv_bipush (v := 91) hx hb dX2_takesBehind_156 (by decide) ?_
      refine lv_icmp_eq (tgt := 173) hx hb dX2_takesBehind_158 (by decide) (fun c27 => ?_) (fun c27 => ?_)
      · have hB := hB.1 c27
        refine lv_iconst (v := 0) hx hb dX2_takesBehind_173 (by decide) ?_
        exact hret _ _ _ _ _ _ dX2_takesBehind_174 ⟨by decide, hB⟩ hP hD hS
      · have hB := hB.2 c27
        refine lv_aload_n hx hb dX2_takesBehind_161 rfl (lv_at hl 1 rfl) ?_
        refine lv_iload_n hx hb dX2_takesBehind_162 rfl (lv_at hl 2 rfl) ?_
        refine xcVi [.int x1] S hE hA hP hD hS (c_LawReader_takesComparison l G z2 H.size x1 _) hB (gw_c lk_X2_87 (gw_c wi_X2_takesComparison (gw_c we_X2_X2_takesComparison_X2_takesComparison (gw_c wn_X2 (gw_c wc_X2_takesComparison (fun _ h9 => h9)))))) hd_X2_takesComparison rfl rfl (Nat.le_trans (Nat.le_of_ble_eq_true rfl) hRf) (Nat.le_trans (Nat.le_of_ble_eq_true rfl) hRl) ⟨Nat.zero_le _, Nat.zero_le _⟩ (va_recv hE.1 hP (ci := 2) (q0 := 3) rfl rfl) rfl hl.1 rfl (Nat.le_of_ble_eq_true rfl) dX2_takesBehind_163 (fun r28 z10 H locs hB hP hD hS => ?_)
        refine lv_if_eq (tgt := 173) hx hb dX2_takesBehind_166 (by decide) (fun c29 => ?_) (fun c29 => ?_)
        · have hB := hB.1 c29
          refine lv_iconst (v := 0) hx hb dX2_takesBehind_173 (by decide) ?_
          exact hret _ _ _ _ _ _ dX2_takesBehind_174 ⟨by decide, hB⟩ hP hD hS
        · have hB := hB.2 c29
          refine lv_iconst (v := 1) hx hb dX2_takesBehind_169 (by decide) ?_
          refine lv_goto (tgt := 174) hx hb dX2_takesBehind_170 (by decide) ?_
          exact hret _ _ _ _ _ _ dX2_takesBehind_174 ⟨by decide, hB⟩ hP hD hS
  have hB := hB.2 q60
  by_cases q61 : x1 = (61 : Int32)
  · have hB := hB.1 q61
    refine lv_lookup (tgt := 147) (off := 136) hx hb dX2_takesBehind_11 (by decide) (by rw [q61]; decide) (by decide) ?_
    refine lv_aload_n hx hb dX2_takesBehind_147 rfl (lv_at hl 1 rfl) ?_
    refine xXg_3_awaits S hE hP lk_X2_30 dX2_takesBehind_148 ?_
    refine lv_iconst (v := 4) hx hb dX2_takesBehind_151 (by decide) ?_
    refine lv_icmp_ne (tgt := 173) hx hb dX2_takesBehind_152 (by decide) (fun c30 => ?_) (fun c30 => ?_)
    · have hB := hB.2 c30
      refine lv_iconst (v := 0) hx hb dX2_takesBehind_173 (by decide) ?_
      exact hret _ _ _ _ _ _ dX2_takesBehind_174 ⟨by decide, hB⟩ hP hD hS
    · have hB := hB.1 c30
      refine lv_iload_n hx hb dX2_takesBehind_155 rfl (lv_at hl 0 rfl) ?_
      refine lv_bipush (v := 91) hx hb dX2_takesBehind_156 (by decide) ?_
      refine lv_icmp_eq (tgt := 173) hx hb dX2_takesBehind_158 (by decide) (fun c31 => ?_) (fun c31 => ?_)
      · have hB := hB.1 c31
        refine lv_iconst (v := 0) hx hb dX2_takesBehind_173 (by decide) ?_
        exact hret _ _ _ _ _ _ dX2_takesBehind_174 ⟨by decide, hB⟩ hP hD hS
      · have hB := hB.2 c31
        refine lv_aload_n hx hb dX2_takesBehind_161 rfl (lv_at hl 1 rfl) ?_
        refine lv_iload_n hx hb dX2_takesBehind_162 rfl (lv_at hl 2 rfl) ?_
        refine xcVi [.int x1] S hE hA hP hD hS (c_LawReader_takesComparison l G z2 H.size x1 _) hB (gw_c lk_X2_87 (gw_c wi_X2_takesComparison (gw_c we_X2_X2_takesComparison_X2_takesComparison (gw_c wn_X2 (gw_c wc_X2_takesComparison (fun _ h9 => h9)))))) hd_X2_takesComparison rfl rfl (Nat.le_trans (Nat.le_of_ble_eq_true rfl) hRf) (Nat.le_trans (Nat.le_of_ble_eq_true rfl) hRl) ⟨Nat.zero_le _, Nat.zero_le _⟩ (va_recv hE.1 hP (ci := 2) (q0 := 3) rfl rfl) rfl hl.1 rfl (Nat.le_of_ble_eq_true rfl) dX2_takesBehind_163 (fun r32 z11 H locs hB hP hD hS => ?_)
        refine lv_if_eq (tgt := 173) hx hb dX2_takesBehind_166 (by decide) (fun c33 => ?_) (fun c33 => ?_)
        · have hB := hB.1 c33
          refine lv_iconst (v := 0) hx hb dX2_takesBehind_173 (by decide) ?_
          exact hret _ _ _ _ _ _ dX2_takesBehind_174 ⟨by decide, hB⟩ hP hD hS
        · have hB := hB.2 c33
          refine lv_iconst (v := 1) hx hb dX2_takesBehind_169 (by decide) ?_
          refine lv_goto (tgt := 174) hx hb dX2_takesBehind_170 (by decide) ?_
          exact hret _ _ _ _ _ _ dX2_takesBehind_174 ⟨by decide, hB⟩ hP hD hS
  have hB := hB.2 q61
  by_cases q62 : x1 = (62 : Int32)
  · have hB := hB.1 q62
    refine lv_lookup (tgt := 147) (off := 136) hx hb dX2_takesBehind_11 (by decide) (by rw [q62]; decide) (by decide) ?_
    refine lv_aload_n hx hb dX2_takesBehind_147 rfl (lv_at hl 1 rfl) ?_
    refine xXg_3_awaits S hE hP lk_X2_30 dX2_takesBehind_148 ?_
    refine lv_iconst (v := 4) hx hb dX2_takesBehind_151 (by decide) ?_
    refine lv_icmp_ne (tgt := 173) hx hb dX2_takesBehind_152 (by decide) (fun c34 => ?_) (fun c34 => ?_)
    · have hB := hB.2 c34
      refine lv_iconst (v := 0) hx hb dX2_takesBehind_173 (by decide) ?_
      exact hret _ _ _ _ _ _ dX2_takesBehind_174 ⟨by decide, hB⟩ hP hD hS
    · have hB := hB.1 c34
      refine lv_iload_n hx hb dX2_takesBehind_155 rfl (lv_at hl 0 rfl) ?_
      refine lv_bipush (v := 91) hx hb dX2_takesBehind_156 (by decide) ?_
      refine lv_icmp_eq (tgt := 173) hx hb dX2_takesBehind_158 (by decide) (fun c35 => ?_) (fun c35 => ?_)
      · have hB := hB.1 c35
        refine lv_iconst (v := 0) hx hb dX2_takesBehind_173 (by decide) ?_
        exact hret _ _ _ _ _ _ dX2_takesBehind_174 ⟨by decide, hB⟩ hP hD hS
      · have hB := hB.2 c35
        refine lv_aload_n hx hb dX2_takesBehind_161 rfl (lv_at hl 1 rfl) ?_
        refine lv_iload_n hx hb dX2_takesBehind_162 rfl (lv_at hl 2 rfl) ?_
        refine xcVi [.int x1] S hE hA hP hD hS (c_LawReader_takesComparison l G z2 H.size x1 _) hB (gw_c lk_X2_87 (gw_c wi_X2_takesComparison (gw_c we_X2_X2_takesComparison_X2_takesComparison (gw_c wn_X2 (gw_c wc_X2_takesComparison (fun _ h9 => h9)))))) hd_X2_takesComparison rfl rfl (Nat.le_trans (Nat.le_of_ble_eq_true rfl) hRf) (Nat.le_trans (Nat.le_of_ble_eq_true rfl) hRl) ⟨Nat.zero_le _, Nat.zero_le _⟩ (va_recv hE.1 hP (ci := 2) (q0 := 3) rfl rfl) rfl hl.1 rfl (Nat.le_of_ble_eq_true rfl) dX2_takesBehind_163 (fun r36 z12 H locs hB hP hD hS => ?_)
        refine lv_if_eq (tgt := 173) hx hb dX2_takesBehind_166 (by decide) (fun c37 => ?_) (fun c37 => ?_)
        · have hB := hB.1 c37
          refine lv_iconst (v := 0) hx hb dX2_takesBehind_173 (by decide) ?_
          exact hret _ _ _ _ _ _ dX2_takesBehind_174 ⟨by decide, hB⟩ hP hD hS
        · have hB := hB.2 c37
          refine lv_iconst (v := 1) hx hb dX2_takesBehind_169 (by decide) ?_
          refine lv_goto (tgt := 174) hx hb dX2_takesBehind_170 (by decide) ?_
          exact hret _ _ _ _ _ _ dX2_takesBehind_174 ⟨by decide, hB⟩ hP hD hS
  have hB := hB.2 q62
  by_cases q63 : x1 = (63 : Int32)
  · have hB := hB.1 q63
    refine lv_lookup (tgt := 249) (off := 238) hx hb dX2_takesBehind_11 (by decide) (by rw [q63]; decide) (by decide) ?_
    refine lv_iload_n hx hb dX2_takesBehind_249 rfl (lv_at hl 0 rfl) ?_
    refine lv_iconst (v := -1) hx hb dX2_takesBehind_250 (by decide) ?_
    refine lv_icmp_ne (tgt := 272) hx hb dX2_takesBehind_251 (by decide) (fun c38 => ?_) (fun c38 => ?_)
    · have hB := hB.2 c38
      refine lv_iconst (v := 0) hx hb dX2_takesBehind_272 (by decide) ?_
      exact hret _ _ _ _ _ _ dX2_takesBehind_273 ⟨by decide, hB⟩ hP hD hS
    · have hB := hB.1 c38
      refine lv_aload_n hx hb dX2_takesBehind_254 rfl (lv_at hl 1 rfl) ?_
      refine xXg_3_compared S hE hP lk_X2_42 dX2_takesBehind_255 ?_
      refine lv_if_eq (tgt := 272) hx hb dX2_takesBehind_258 (by decide) (fun c39 => ?_) (fun c39 => ?_)
      · have hB := hB.1 c39
        refine lv_iconst (v := 0) hx hb dX2_takesBehind_272 (by decide) ?_
        exact hret _ _ _ _ _ _ dX2_takesBehind_273 ⟨by decide, hB⟩ hP hD hS
      · have hB := hB.2 c39
        refine lv_aload_n hx hb dX2_takesBehind_261 rfl (lv_at hl 1 rfl) ?_
        refine xcVi [] S hE hA hP hD hS (c_LawReader_endsCondition l G z2 H.size _) hB (gw_c lk_X2_96 (gw_c wi_X2_endsCondition (gw_c we_X2_X2_endsCondition_X2_endsCondition (gw_c wn_X2 (gw_c wc_X2_endsCondition (fun _ h9 => h9)))))) hd_X2_endsCondition rfl rfl (Nat.le_trans (Nat.le_of_ble_eq_true rfl) hRf) (Nat.le_trans (Nat.le_of_ble_eq_true rfl) hRl) ⟨Nat.zero_le _, Nat.zero_le _⟩ (va_recv hE.1 hP (ci := 2) (q0 := 3) rfl rfl) rfl hl.1 rfl (Nat.le_of_ble_eq_true rfl) dX2_takesBehind_262 (fun r40 z13 H locs hB hP hD hS => ?_)
        refine lv_if_eq (tgt := 272) hx hb dX2_takesBehind_265 (by decide) (fun c41 => ?_) (fun c41 => ?_)
        · have hB := hB.1 c41
          refine lv_iconst (v := 0) hx hb dX2_takesBehind_272 (by decide) ?_
          exact hret _ _ _ _ _ _ dX2_takesBehind_273 ⟨by decide, hB⟩ hP hD hS
        · have hB := hB.2 c41
          refine lv_iconst (v := 1) hx hb dX2_takesBehind_268 (by decide) ?_
          refine lv_goto (tgt := 273) hx hb dX2_takesBehind_269 (by decide) ?_
          exact hret _ _ _ _ _ _ dX2_takesBehind_273 ⟨by decide, hB⟩ hP hD hS
  have hB := hB.2 q63
  by_cases q93 : x1 = (93 : Int32)
  · have hB := hB.1 q93
    refine lv_lookup (tgt := 202) (off := 191) hx hb dX2_takesBehind_11 (by decide) (by rw [q93]; decide) (by decide) ?_
    refine lv_iload_n hx hb dX2_takesBehind_202 rfl (lv_at hl 0 rfl) ?_
    refine lv_bipush (v := 91) hx hb dX2_takesBehind_203 (by decide) ?_
    refine lv_icmp_ne (tgt := 220) hx hb dX2_takesBehind_205 (by decide) (fun c42 => ?_) (fun c42 => ?_)
    · have hB := hB.2 c42
      refine lv_iconst (v := 0) hx hb dX2_takesBehind_220 (by decide) ?_
      exact hret _ _ _ _ _ _ dX2_takesBehind_221 ⟨by decide, hB⟩ hP hD hS
    · have hB := hB.1 c42
      refine lv_aload_n hx hb dX2_takesBehind_208 rfl (lv_at hl 1 rfl) ?_
      refine lv_iconst (v := 4) hx hb dX2_takesBehind_209 (by decide) ?_
      refine xcVi [.int (4 : Int32)] S hE hA hP hD hS (c_LawReader_closesBracket l G z2 H.size (4 : Int32) _) hB (gw_c lk_X2_93 (gw_c wi_X2_closesBracket (gw_c we_X2_X2_closesBracket_X2_closesBracket (gw_c wn_X2 (gw_c wc_X2_closesBracket (fun _ h9 => h9)))))) hd_X2_closesBracket rfl rfl (Nat.le_trans (Nat.le_of_ble_eq_true rfl) hRf) (Nat.le_trans (Nat.le_of_ble_eq_true rfl) hRl) ⟨Nat.zero_le _, Nat.zero_le _⟩ (va_recv hE.1 hP (ci := 2) (q0 := 3) rfl rfl) rfl hl.1 rfl (Nat.le_of_ble_eq_true rfl) dX2_takesBehind_210 (fun r43 z14 H locs hB hP hD hS => ?_)
      refine lv_if_eq (tgt := 220) hx hb dX2_takesBehind_213 (by decide) (fun c44 => ?_) (fun c44 => ?_)
      · have hB := hB.1 c44
        refine lv_iconst (v := 0) hx hb dX2_takesBehind_220 (by decide) ?_
        exact hret _ _ _ _ _ _ dX2_takesBehind_221 ⟨by decide, hB⟩ hP hD hS
      · have hB := hB.2 c44
        refine lv_iconst (v := 1) hx hb dX2_takesBehind_216 (by decide) ?_
        refine lv_goto (tgt := 221) hx hb dX2_takesBehind_217 (by decide) ?_
        exact hret _ _ _ _ _ _ dX2_takesBehind_221 ⟨by decide, hB⟩ hP hD hS
  have hB := hB.2 q93
  by_cases q124 : x1 = (124 : Int32)
  · have hB := hB.1 q124
    refine lv_lookup (tgt := 175) (off := 164) hx hb dX2_takesBehind_11 (by decide) (by rw [q124]; decide) (by decide) ?_
    refine lv_aload_n hx hb dX2_takesBehind_175 rfl (lv_at hl 1 rfl) ?_
    refine xXg_3_compared S hE hP lk_X2_42 dX2_takesBehind_176 ?_
    refine lv_if_eq (tgt := 200) hx hb dX2_takesBehind_179 (by decide) (fun c45 => ?_) (fun c45 => ?_)
    · have hB := hB.1 c45
      refine lv_iconst (v := 0) hx hb dX2_takesBehind_200 (by decide) ?_
      exact hret _ _ _ _ _ _ dX2_takesBehind_201 ⟨by decide, hB⟩ hP hD hS
    · have hB := hB.2 c45
      refine lv_iload_n hx hb dX2_takesBehind_182 rfl (lv_at hl 0 rfl) ?_
      refine lv_bipush (v := 91) hx hb dX2_takesBehind_183 (by decide) ?_
      refine lv_icmp_eq (tgt := 200) hx hb dX2_takesBehind_185 (by decide) (fun c46 => ?_) (fun c46 => ?_)
      · have hB := hB.1 c46
        refine lv_iconst (v := 0) hx hb dX2_takesBehind_200 (by decide) ?_
        exact hret _ _ _ _ _ _ dX2_takesBehind_201 ⟨by decide, hB⟩ hP hD hS
      · have hB := hB.2 c46
        refine lv_aload_n hx hb dX2_takesBehind_188 rfl (lv_at hl 1 rfl) ?_
        refine lv_iload_n hx hb dX2_takesBehind_189 rfl (lv_at hl 2 rfl) ?_
        refine xcVi [.int x1] S hE hA hP hD hS (c_LawReader_takesJoint l G z2 H.size x1 _) hB (gw_c lk_X2_90 (gw_c wi_X2_takesJoint (gw_c we_X2_X2_takesJoint_X2_takesJoint (gw_c wn_X2 (gw_c wc_X2_takesJoint (fun _ h9 => h9)))))) hd_X2_takesJoint rfl rfl (Nat.le_trans (Nat.le_of_ble_eq_true rfl) hRf) (Nat.le_trans (Nat.le_of_ble_eq_true rfl) hRl) ⟨Nat.zero_le _, Nat.zero_le _⟩ (va_recv hE.1 hP (ci := 2) (q0 := 3) rfl rfl) rfl hl.1 rfl (Nat.le_of_ble_eq_true rfl) dX2_takesBehind_190 (fun r47 z15 H locs hB hP hD hS => ?_)
        refine lv_if_eq (tgt := 200) hx hb dX2_takesBehind_193 (by decide) (fun c48 => ?_) (fun c48 => ?_)
        · have hB := hB.1 c48
          refine lv_iconst (v := 0) hx hb dX2_takesBehind_200 (by decide) ?_
          exact hret _ _ _ _ _ _ dX2_takesBehind_201 ⟨by decide, hB⟩ hP hD hS
        · have hB := hB.2 c48
          refine lv_iconst (v := 1) hx hb dX2_takesBehind_196 (by decide) ?_
          refine lv_goto (tgt := 201) hx hb dX2_takesBehind_197 (by decide) ?_
          exact hret _ _ _ _ _ _ dX2_takesBehind_201 ⟨by decide, hB⟩ hP hD hS
  have hB := hB.2 q124
  have t38 := lv_neT q38 (show ((38 : Int32)).toInt = 38 by decide)
  have t41 := lv_neT q41 (show ((41 : Int32)).toInt = 41 by decide)
  have t42 := lv_neT q42 (show ((42 : Int32)).toInt = 42 by decide)
  have t43 := lv_neT q43 (show ((43 : Int32)).toInt = 43 by decide)
  have t45 := lv_neT q45 (show ((45 : Int32)).toInt = 45 by decide)
  have t47 := lv_neT q47 (show ((47 : Int32)).toInt = 47 by decide)
  have t59 := lv_neT q59 (show ((59 : Int32)).toInt = 59 by decide)
  have t60 := lv_neT q60 (show ((60 : Int32)).toInt = 60 by decide)
  have t61 := lv_neT q61 (show ((61 : Int32)).toInt = 61 by decide)
  have t62 := lv_neT q62 (show ((62 : Int32)).toInt = 62 by decide)
  have t63 := lv_neT q63 (show ((63 : Int32)).toInt = 63 by decide)
  have t93 := lv_neT q93 (show ((93 : Int32)).toInt = 93 by decide)
  have t124 := lv_neT q124 (show ((124 : Int32)).toInt = 124 by decide)
  refine lv_lookup (tgt := 300) (off := 289) hx hb dX2_takesBehind_11 (by decide) (by simp only [Op.lookupswitch.offset, if_neg (Ne.symm t38), if_neg (Ne.symm t41), if_neg (Ne.symm t42), if_neg (Ne.symm t43), if_neg (Ne.symm t45), if_neg (Ne.symm t47), if_neg (Ne.symm t59), if_neg (Ne.symm t60), if_neg (Ne.symm t61), if_neg (Ne.symm t62), if_neg (Ne.symm t63), if_neg (Ne.symm t93), if_neg (Ne.symm t124)]) (by decide) ?_
  refine lv_iconst (v := 0) hx hb dX2_takesBehind_300 (by decide) ?_
  exact hret _ _ _ _ _ _ dX2_takesBehind_301 ⟨by decide, hB⟩ hP hD hS
set_option maxHeartbeats 4000000 in
set_option maxRecDepth 100000 in
theorem c_LawReader_takesBehind (l : Launch) (G : GX) (z0 : St) (sz : Nat) (x1 : Int32) (post : Int32 → St → Prop) : MetI l wX yX2_takesBehind cX2_takesBehind 3 (some .boolean) ({ frames := 4, cells := 0, slots := 0, locals := 85 }) [.ref (ad G 3), .int x1] G z0 sz (S_LawReader_takesBehind post x1 z0) post := by
  refine Met.ofW (cc := cX2_takesBehind) (maxL := 3) (ret := (some .boolean)) (by decide) rfl ?_
  intro p e s m args below meth c s₁ B hml hv
  obtain ⟨rfl, hsz, hP, hD0, hE, hB⟩ := hv
  have S : CallFix p m c cX2_takesBehind 3 s _ GW RX2 := ⟨B.exec, B.bytes, hml, findClass_of_methodNamed B.named, fun w h => atoms_spec (ws := Cond.code yX2_takesBehind cX2_takesBehind 3 (some .boolean) :: GW) B.pre w (List.mem_cons_of_mem _ h)⟩
  have hlocks := B.notSynchronized
  subst hsz
  have hD := hD0.self (sz := s.heap.size)
  generalize hAe : va_A (wX G z0) s.heap.size = A at hD hE ⊢
  have hA : ∀ q : Nat, s.heap.size ≤ q → A q := fun q h => by rw [← hAe]; exact Or.inr h
  have hS : va_S A s.heap s.heap [] := va_S.rf
  have hl := lv_entry ([.ref (ad G 3), .int x1]) (n := 3) (Nat.le_of_ble_eq_true rfl)
  rw [lg_entry_eq]
  generalize (lg_sl ([.ref (ad G 3), .int x1]) ++ List.replicate (3 - (lg_sl ([.ref (ad G 3), .int x1])).length) Slot.unset).toArray = ls at hl ⊢
  have hl : lv_has ls 3 [(0, .ref (ad G 3)), (1, .int x1)] := hl
  refine w_LawReader_takesBehind_0 S hE hA (Nat.le_refl _) (Nat.le_refl _) ?_ x1 z0 hB _ _ _ hP hD hS hl
  intro pc ls r σ H locs hd hp hP hD hS
  exact W.zret (v := r) B.exec B.bytes B.returns (xboolc r hp.1) (fun t ht hW => ⟨⟨r, σ, rfl, hp.2, by rw [ht]; exact hP, hD⟩, hS.F ht⟩) hS.2.2 hd
def S_LawReader_takesDigit (post : Int32 → St → Prop) (x1 : Int32) (z0 : St) : Prop :=
  (((gI z0 19) < (1 : Int32) → (post (0 : Int32) z0)) ∧ (¬ (gI z0 19) < (1 : Int32) → (((4 : Int32) ≤ (gI z0 19) → (post (0 : Int32) z0)) ∧ (¬ (4 : Int32) ≤ (gI z0 19) → (((1 : Int32) ≤ (gI z0 13) → (∀ z1 : St, z1 = sI z0 19 ((gI z0 19) + (1 : Int32)) → (vp_in ((gI z1 13) - (1 : Int32)) 241 ∧ (vp_in ((gI z1 13) - (1 : Int32)) 241 ∧ (∀ z2 : St, z2 = sA z1 14 ((gI z1 13) - (1 : Int32)).toNatClampNeg ((((gA z1 14 ((gI z1 13) - (1 : Int32)).toNatClampNeg) * (10 : Int32)) + x1) - (48 : Int32)) → (post (1 : Int32) z2)))))) ∧ (¬ (1 : Int32) ≤ (gI z0 13) → (post (0 : Int32) z0)))))))
set_option maxHeartbeats 4000000 in
set_option maxRecDepth 100000 in
theorem w_LawReader_takesDigit_0 {p : Program} {l : Launch} {e : Env} {R : Room} {s : State} {m : MethodId} {args : Array Value} {below : List Frame} {meth : Method} {c : Code} {Q : State → Prop} {G : GX} {A : Nat → Prop} (S : CallFix p m c cX2_takesDigit 2 s args GW RX2) (hE : env G A s s.heap) (hA : ∀ q, s.heap.size ≤ q → A q) (hRf : 0 ≤ R.frames) (hRl : 0 ≤ R.locals) {post : Int32 → St → Prop} (hret : RetZ p l e R s m args below meth c Q 0 0 wX G A cX2_takesDigit post) (x1 : Int32) (z0 : St) (hB : S_LawReader_takesDigit post x1 z0) : Xw p l e R s m args below meth c Q 0 0 wX G A z0 2 [(0, .ref (ad G 3)), (1, .int x1)] 0 [] := by
  intro H locs ls hP hD hS hl
  have hx := S.1
  have hb := S.2.1
  refine lv_aload_n hx hb dX2_takesDigit_0 rfl (lv_at hl 0 rfl) ?_
  refine xXg_3_digits S hE hP lk_X2_69 dX2_takesDigit_1 ?_
  refine lv_iconst (v := 1) hx hb dX2_takesDigit_4 (by decide) ?_
  refine lv_icmp_lt (tgt := 24) hx hb dX2_takesDigit_5 (by decide) (fun c1 => ?_) (fun c1 => ?_)
  · have hB := hB.1 c1
    refine lv_iconst (v := 0) hx hb dX2_takesDigit_24 (by decide) ?_
    exact hret _ _ _ _ _ _ dX2_takesDigit_25 ⟨by decide, hB⟩ hP hD hS
  · have hB := hB.2 c1
    refine lv_aload_n hx hb dX2_takesDigit_8 rfl (lv_at hl 0 rfl) ?_
    refine xXg_3_digits S hE hP lk_X2_69 dX2_takesDigit_9 ?_
    refine lv_iconst (v := 4) hx hb dX2_takesDigit_12 (by decide) ?_
    refine lv_icmp_ge (tgt := 24) hx hb dX2_takesDigit_13 (by decide) (fun c2 => ?_) (fun c2 => ?_)
    · have hB := hB.1 c2
      refine lv_iconst (v := 0) hx hb dX2_takesDigit_24 (by decide) ?_
      exact hret _ _ _ _ _ _ dX2_takesDigit_25 ⟨by decide, hB⟩ hP hD hS
    · have hB := hB.2 c2
      refine lv_aload_n hx hb dX2_takesDigit_16 rfl (lv_at hl 0 rfl) ?_
      refine xXg_3_written S hE hP lk_X2_20 dX2_takesDigit_17 ?_
      refine lv_iconst (v := 1) hx hb dX2_takesDigit_20 (by decide) ?_
      refine lv_icmp_ge (tgt := 26) hx hb dX2_takesDigit_21 (by decide) (fun c3 => ?_) (fun c3 => ?_)
      · have hB := hB.1 c3
        refine lv_aload_n hx hb dX2_takesDigit_26 rfl (lv_at hl 0 rfl) ?_
        refine lv_dup hx hb dX2_takesDigit_27 rfl ?_
        refine xXg_3_digits S hE hP lk_X2_69 dX2_takesDigit_28 ?_
        refine lv_iconst (v := 1) hx hb dX2_takesDigit_31 (by decide) ?_
        refine lv_iadd hx hb dX2_takesDigit_32 ?_
        obtain ⟨z1, ez1⟩ : ∃ z9, z9 = sI z0 19 ((gI z0 19) + (1 : Int32)) := ⟨_, rfl⟩
        have hB := hB z1 ez1
        refine xXp_3_digits S hE hP hD hS lk_X2_69 dX2_takesDigit_33 (fun H locs hP hD hS => ?_)
        rw [← ez1] at hP hD
        refine lv_aload_n hx hb dX2_takesDigit_36 rfl (lv_at hl 0 rfl) ?_
        refine xXg_3_code S hE hP lk_X2_11 dX2_takesDigit_37 ?_
        refine lv_aload_n hx hb dX2_takesDigit_40 rfl (lv_at hl 0 rfl) ?_
        refine xXg_3_written S hE hP lk_X2_20 dX2_takesDigit_41 ?_
        refine lv_iconst (v := 1) hx hb dX2_takesDigit_44 (by decide) ?_
        refine lv_isub hx hb dX2_takesDigit_45 ?_
        refine lv_aload_n hx hb dX2_takesDigit_46 rfl (lv_at hl 0 rfl) ?_
        refine xXg_3_code S hE hP lk_X2_11 dX2_takesDigit_47 ?_
        refine lv_aload_n hx hb dX2_takesDigit_50 rfl (lv_at hl 0 rfl) ?_
        refine xXg_3_written S hE hP lk_X2_20 dX2_takesDigit_51 ?_
        refine lv_iconst (v := 1) hx hb dX2_takesDigit_54 (by decide) ?_
        refine lv_isub hx hb dX2_takesDigit_55 ?_
        obtain ⟨hi, hB⟩ := hB
        refine xXl_14 S hE hP hi dX2_takesDigit_56 ?_
        refine lv_bipush (v := 10) hx hb dX2_takesDigit_57 (by decide) ?_
        refine lv_imul hx hb dX2_takesDigit_59 ?_
        refine lv_iload_n hx hb dX2_takesDigit_60 rfl (lv_at hl 1 rfl) ?_
        refine lv_iadd hx hb dX2_takesDigit_61 ?_
        refine lv_bipush (v := 48) hx hb dX2_takesDigit_62 (by decide) ?_
        refine lv_isub hx hb dX2_takesDigit_64 ?_
        obtain ⟨hi, hB⟩ := hB
        obtain ⟨z2, ez2⟩ : ∃ z9, z9 = sA z1 14 ((gI z1 13) - (1 : Int32)).toNatClampNeg ((((gA z1 14 ((gI z1 13) - (1 : Int32)).toNatClampNeg) * (10 : Int32)) + x1) - (48 : Int32)) := ⟨_, rfl⟩
        have hB := hB z2 ez2
        refine xXs_14 S hE hP hD hS _ rfl hi dX2_takesDigit_65 (fun H locs hP hD hS => ?_)
        rw [← ez2] at hP hD
        refine lv_iconst (v := 1) hx hb dX2_takesDigit_66 (by decide) ?_
        exact hret _ _ _ _ _ _ dX2_takesDigit_67 ⟨by decide, hB⟩ hP hD hS
      · have hB := hB.2 c3
        refine lv_iconst (v := 0) hx hb dX2_takesDigit_24 (by decide) ?_
        exact hret _ _ _ _ _ _ dX2_takesDigit_25 ⟨by decide, hB⟩ hP hD hS
set_option maxHeartbeats 4000000 in
set_option maxRecDepth 100000 in
theorem c_LawReader_takesDigit (l : Launch) (G : GX) (z0 : St) (sz : Nat) (x1 : Int32) (post : Int32 → St → Prop) : MetI l wX yX2_takesDigit cX2_takesDigit 2 (some .boolean) ({ frames := 0, cells := 0, slots := 0, locals := 0 }) [.ref (ad G 3), .int x1] G z0 sz (S_LawReader_takesDigit post x1 z0) post := by
  refine Met.ofW (cc := cX2_takesDigit) (maxL := 2) (ret := (some .boolean)) (by decide) rfl ?_
  intro p e s m args below meth c s₁ B hml hv
  obtain ⟨rfl, hsz, hP, hD0, hE, hB⟩ := hv
  have S : CallFix p m c cX2_takesDigit 2 s _ GW RX2 := ⟨B.exec, B.bytes, hml, findClass_of_methodNamed B.named, fun w h => atoms_spec (ws := Cond.code yX2_takesDigit cX2_takesDigit 2 (some .boolean) :: GW) B.pre w (List.mem_cons_of_mem _ h)⟩
  have hlocks := B.notSynchronized
  subst hsz
  have hD := hD0.self (sz := s.heap.size)
  generalize hAe : va_A (wX G z0) s.heap.size = A at hD hE ⊢
  have hA : ∀ q : Nat, s.heap.size ≤ q → A q := fun q h => by rw [← hAe]; exact Or.inr h
  have hS : va_S A s.heap s.heap [] := va_S.rf
  have hl := lv_entry ([.ref (ad G 3), .int x1]) (n := 2) (Nat.le_of_ble_eq_true rfl)
  rw [lg_entry_eq]
  generalize (lg_sl ([.ref (ad G 3), .int x1]) ++ List.replicate (2 - (lg_sl ([.ref (ad G 3), .int x1])).length) Slot.unset).toArray = ls at hl ⊢
  have hl : lv_has ls 2 [(0, .ref (ad G 3)), (1, .int x1)] := hl
  refine w_LawReader_takesDigit_0 S hE hA (Nat.le_refl _) (Nat.le_refl _) ?_ x1 z0 hB _ _ _ hP hD hS hl
  intro pc ls r σ H locs hd hp hP hD hS
  exact W.zret (v := r) B.exec B.bytes B.returns (xboolc r hp.1) (fun t ht hW => ⟨⟨r, σ, rfl, hp.2, by rw [ht]; exact hP, hD⟩, hS.F ht⟩) hS.2.2 hd
def B_LawReader_takes_75 (post : Int32 → St → Prop) (x1 : Int32) (z0 : St) : Prop :=
  (S_LawReader_takesStart (fun (r1 : Int32) (z1 : St) => ((r1 = 0 ∨ r1 = 1) ∧ post r1 z1)) x1 z0)
set_option maxHeartbeats 4000000 in
set_option maxRecDepth 100000 in
theorem w_LawReader_takes_75 {p : Program} {l : Launch} {e : Env} {R : Room} {s : State} {m : MethodId} {args : Array Value} {below : List Frame} {meth : Method} {c : Code} {Q : State → Prop} {G : GX} {A : Nat → Prop} (S : CallFix p m c cX2_takes 4 s args GW RX2) (hE : env G A s s.heap) (hA : ∀ q, s.heap.size ≤ q → A q) (hRf : 5 ≤ R.frames) (hRl : 114 ≤ R.locals) {post : Int32 → St → Prop} (hret : RetZ p l e R s m args below meth c Q 0 0 wX G A cX2_takes post) (x1 : Int32) (z0 : St) (hB : B_LawReader_takes_75 post x1 z0) : Xw p l e R s m args below meth c Q 0 0 wX G A z0 4 [(0, .ref (ad G 3)), (1, .int x1)] 75 [] := by
  intro H locs ls hP hD hS hl
  have hx := S.1
  have hb := S.2.1
  refine lv_aload_n hx hb dX2_takes_75 rfl (lv_at hl 0 rfl) ?_
  refine lv_iload_n hx hb dX2_takes_76 rfl (lv_at hl 1 rfl) ?_
  refine xcVi [.int x1] S hE hA hP hD hS (c_LawReader_takesStart l G z0 H.size x1 _) hB (gw_c lk_X2_46 (gw_c wi_X2_takesStart (gw_c we_X2_X2_takesStart_X2_takesStart (gw_c wn_X2 (gw_c wc_X2_takesStart (fun _ h9 => h9)))))) hd_X2_takesStart rfl rfl (Nat.le_trans (Nat.le_of_ble_eq_true rfl) hRf) (Nat.le_trans (Nat.le_of_ble_eq_true rfl) hRl) ⟨Nat.zero_le _, Nat.zero_le _⟩ (va_recv hE.1 hP (ci := 2) (q0 := 3) rfl rfl) rfl hl.1 rfl (Nat.le_of_ble_eq_true rfl) dX2_takes_77 (fun r1 z1 H locs hB hP hD hS => ?_)
  exact hret _ _ _ _ _ _ dX2_takes_80 hB hP hD hS
def S_LawReader_takes (post : Int32 → St → Prop) (x1 : Int32) (x2 : Int32) (x3 : Int32) (z0 : St) : Prop :=
  (((gI z0 16) = 0 → (∀ z7 : St, z7 = sI z0 16 (1 : Int32) → ((x1 = (121 : Int32) → (post (1 : Int32) z7)) ∧ (¬ x1 = (121 : Int32) → (post (0 : Int32) z7))))) ∧ (¬ (gI z0 16) = 0 → (((gI z0 16) = (1 : Int32) → (∀ z4 : St, z4 = sI z0 16 (2 : Int32) → (∀ z5 : St, z5 = sI z4 17 (0 : Int32) → (∀ z6 : St, z6 = sI z5 18 (0 : Int32) → ((x1 = (58 : Int32) → (post (1 : Int32) z6)) ∧ (¬ x1 = (58 : Int32) → (post (0 : Int32) z6))))))) ∧ (¬ (gI z0 16) = (1 : Int32) → (((gI z0 16) = (2 : Int32) → (B_LawReader_takes_75 post x1 z0)) ∧ (¬ (gI z0 16) = (2 : Int32) → (((gI z0 16) = (3 : Int32) → (B_LawReader_takes_75 post x1 z0)) ∧ (¬ (gI z0 16) = (3 : Int32) → (S_Reader_isDigit (fun (r5 : Int32) (z1 : St) => ((r5 = 0 → (S_LawReader_takesBehind (fun (r7 : Int32) (z2 : St) => ((r7 = 0 ∨ r7 = 1) ∧ post r7 z2)) x1 z1)) ∧ (¬ r5 = 0 → ((x3 = 0 → (post (0 : Int32) z1)) ∧ (¬ x3 = 0 → (S_LawReader_takesDigit (fun (r9 : Int32) (z3 : St) => ((r9 = 0 → (post (0 : Int32) z3)) ∧ (¬ r9 = 0 → (post (1 : Int32) z3)))) x1 z1)))))) x1 z0)))))))))
set_option maxHeartbeats 4000000 in
set_option maxRecDepth 100000 in
theorem w_LawReader_takes_0 {p : Program} {l : Launch} {e : Env} {R : Room} {s : State} {m : MethodId} {args : Array Value} {below : List Frame} {meth : Method} {c : Code} {Q : State → Prop} {G : GX} {A : Nat → Prop} (S : CallFix p m c cX2_takes 4 s args GW RX2) (hE : env G A s s.heap) (hA : ∀ q, s.heap.size ≤ q → A q) (hRf : 5 ≤ R.frames) (hRl : 114 ≤ R.locals) {post : Int32 → St → Prop} (hret : RetZ p l e R s m args below meth c Q 0 0 wX G A cX2_takes post) (x1 : Int32) (x2 : Int32) (x3 : Int32) (z0 : St) (hB : S_LawReader_takes post x1 x2 x3 z0) : Xw p l e R s m args below meth c Q 0 0 wX G A z0 4 [(0, .ref (ad G 3)), (1, .int x1), (2, .int x2), (3, .int x3)] 0 [] := by
  intro H locs ls hP hD hS hl
  have hx := S.1
  have hb := S.2.1
  refine lv_aload_n hx hb dX2_takes_0 rfl (lv_at hl 0 rfl) ?_
  refine xXg_3_awaits S hE hP lk_X2_30 dX2_takes_1 ?_
  refine lv_if_ne (tgt := 24) hx hb dX2_takes_4 (by decide) (fun c1 => ?_) (fun c1 => ?_)
  · have hB := hB.2 c1
    refine lv_aload_n hx hb dX2_takes_24 rfl (lv_at hl 0 rfl) ?_
    refine xXg_3_awaits S hE hP lk_X2_30 dX2_takes_25 ?_
    refine lv_iconst (v := 1) hx hb dX2_takes_28 (by decide) ?_
    refine lv_icmp_ne (tgt := 59) hx hb dX2_takes_29 (by decide) (fun c2 => ?_) (fun c2 => ?_)
    · have hB := hB.2 c2
      refine lv_aload_n hx hb dX2_takes_59 rfl (lv_at hl 0 rfl) ?_
      refine xXg_3_awaits S hE hP lk_X2_30 dX2_takes_60 ?_
      refine lv_iconst (v := 2) hx hb dX2_takes_63 (by decide) ?_
      refine lv_icmp_eq (tgt := 75) hx hb dX2_takes_64 (by decide) (fun c3 => ?_) (fun c3 => ?_)
      · have hB := hB.1 c3
        exact w_LawReader_takes_75 S hE hA hRf hRl hret x1 z0 hB _ _ _ hP hD hS (lv_sub hl [0, 1] rfl)
      · have hB := hB.2 c3
        refine lv_aload_n hx hb dX2_takes_67 rfl (lv_at hl 0 rfl) ?_
        refine xXg_3_awaits S hE hP lk_X2_30 dX2_takes_68 ?_
        refine lv_iconst (v := 3) hx hb dX2_takes_71 (by decide) ?_
        refine lv_icmp_ne (tgt := 81) hx hb dX2_takes_72 (by decide) (fun c4 => ?_) (fun c4 => ?_)
        · have hB := hB.2 c4
          refine lv_iload_n hx hb dX2_takes_81 rfl (lv_at hl 1 rfl) ?_
          refine xcTi (x := ⟨RX2, "isDigit", "(I)Z"⟩) (owner := RX5) [.int x1] S hE hA hP hD hS (c_Reader_isDigit l G z0 H.size x1 _) hB (gw_c lk_X2_50 (gw_c wm_X2_X5_isDigit_I_Z (gw_c wt_X5_isDigit (gw_c wn_X5 (gw_c wc_X5_isDigit (fun _ h9 => h9)))))) rfl hs_X5_isDigit rfl rfl (Nat.le_trans (Nat.le_of_ble_eq_true rfl) hRf) (Nat.le_trans (Nat.le_of_ble_eq_true rfl) hRl) ⟨Nat.zero_le _, Nat.zero_le _⟩ rfl hl.1 rfl (Nat.le_of_ble_eq_true rfl) dX2_takes_82 (fun r5 z1 H locs hB hP hD hS => ?_)
          refine lv_if_eq (tgt := 106) hx hb dX2_takes_85 (by decide) (fun c6 => ?_) (fun c6 => ?_)
          · have hB := hB.1 c6
            refine lv_aload_n hx hb dX2_takes_106 rfl (lv_at hl 0 rfl) ?_
            refine lv_iload_n hx hb dX2_takes_107 rfl (lv_at hl 1 rfl) ?_
            refine xcVi [.int x1] S hE hA hP hD hS (c_LawReader_takesBehind l G z1 H.size x1 _) hB (gw_c lk_X2_56 (gw_c wi_X2_takesBehind (gw_c we_X2_X2_takesBehind_X2_takesBehind (gw_c wn_X2 (gw_c wc_X2_takesBehind (fun _ h9 => h9)))))) hd_X2_takesBehind rfl rfl (Nat.le_trans (Nat.le_of_ble_eq_true rfl) hRf) (Nat.le_trans (Nat.le_of_ble_eq_true rfl) hRl) ⟨Nat.zero_le _, Nat.zero_le _⟩ (va_recv hE.1 hP (ci := 2) (q0 := 3) rfl rfl) rfl hl.1 rfl (Nat.le_of_ble_eq_true rfl) dX2_takes_108 (fun r7 z2 H locs hB hP hD hS => ?_)
            exact hret _ _ _ _ _ _ dX2_takes_111 hB hP hD hS
          · have hB := hB.2 c6
            refine lv_iload_n hx hb dX2_takes_88 rfl (lv_at hl 3 rfl) ?_
            refine lv_if_eq (tgt := 104) hx hb dX2_takes_89 (by decide) (fun c8 => ?_) (fun c8 => ?_)
            · have hB := hB.1 c8
              refine lv_iconst (v := 0) hx hb dX2_takes_104 (by decide) ?_
              exact hret _ _ _ _ _ _ dX2_takes_105 ⟨by decide, hB⟩ hP hD hS
            · have hB := hB.2 c8
              refine lv_aload_n hx hb dX2_takes_92 rfl (lv_at hl 0 rfl) ?_
              refine lv_iload_n hx hb dX2_takes_93 rfl (lv_at hl 1 rfl) ?_
              refine xcVi [.int x1] S hE hA hP hD hS (c_LawReader_takesDigit l G z1 H.size x1 _) hB (gw_c lk_X2_53 (gw_c wi_X2_takesDigit (gw_c we_X2_X2_takesDigit_X2_takesDigit (gw_c wn_X2 (gw_c wc_X2_takesDigit (fun _ h9 => h9)))))) hd_X2_takesDigit rfl rfl (Nat.le_trans (Nat.le_of_ble_eq_true rfl) hRf) (Nat.le_trans (Nat.le_of_ble_eq_true rfl) hRl) ⟨Nat.zero_le _, Nat.zero_le _⟩ (va_recv hE.1 hP (ci := 2) (q0 := 3) rfl rfl) rfl hl.1 rfl (Nat.le_of_ble_eq_true rfl) dX2_takes_94 (fun r9 z3 H locs hB hP hD hS => ?_)
              refine lv_if_eq (tgt := 104) hx hb dX2_takes_97 (by decide) (fun c10 => ?_) (fun c10 => ?_)
              · have hB := hB.1 c10
                refine lv_iconst (v := 0) hx hb dX2_takes_104 (by decide) ?_
                exact hret _ _ _ _ _ _ dX2_takes_105 ⟨by decide, hB⟩ hP hD hS
              · have hB := hB.2 c10
                refine lv_iconst (v := 1) hx hb dX2_takes_100 (by decide) ?_
                refine lv_goto (tgt := 105) hx hb dX2_takes_101 (by decide) ?_
                exact hret _ _ _ _ _ _ dX2_takes_105 ⟨by decide, hB⟩ hP hD hS
        · have hB := hB.1 c4
          exact w_LawReader_takes_75 S hE hA hRf hRl hret x1 z0 hB _ _ _ hP hD hS (lv_sub hl [0, 1] rfl)
    · have hB := hB.1 c2
      refine lv_aload_n hx hb dX2_takes_32 rfl (lv_at hl 0 rfl) ?_
      refine lv_iconst (v := 2) hx hb dX2_takes_33 (by decide) ?_
      obtain ⟨z4, ez4⟩ : ∃ z9, z9 = sI z0 16 (2 : Int32) := ⟨_, rfl⟩
      have hB := hB z4 ez4
      refine xXp_3_awaits S hE hP hD hS lk_X2_30 dX2_takes_34 (fun H locs hP hD hS => ?_)
      rw [← ez4] at hP hD
      refine lv_aload_n hx hb dX2_takes_37 rfl (lv_at hl 0 rfl) ?_
      refine lv_iconst (v := 0) hx hb dX2_takes_38 (by decide) ?_
      obtain ⟨z5, ez5⟩ : ∃ z9, z9 = sI z4 17 (0 : Int32) := ⟨_, rfl⟩
      have hB := hB z5 ez5
      refine xXp_3_stage S hE hP hD hS lk_X2_39 dX2_takes_39 (fun H locs hP hD hS => ?_)
      rw [← ez5] at hP hD
      refine lv_aload_n hx hb dX2_takes_42 rfl (lv_at hl 0 rfl) ?_
      refine lv_iconst (v := 0) hx hb dX2_takes_43 (by decide) ?_
      obtain ⟨z6, ez6⟩ : ∃ z9, z9 = sI z5 18 (0 : Int32) := ⟨_, rfl⟩
      have hB := hB z6 ez6
      refine xXp_3_compared S hE hP hD hS lk_X2_42 (by decide) dX2_takes_44 (fun H locs hP hD hS => ?_)
      rw [← ez6] at hP hD
      refine lv_iload_n hx hb dX2_takes_47 rfl (lv_at hl 1 rfl) ?_
      refine lv_bipush (v := 58) hx hb dX2_takes_48 (by decide) ?_
      refine lv_icmp_ne (tgt := 57) hx hb dX2_takes_50 (by decide) (fun c11 => ?_) (fun c11 => ?_)
      · have hB := hB.2 c11
        refine lv_iconst (v := 0) hx hb dX2_takes_57 (by decide) ?_
        exact hret _ _ _ _ _ _ dX2_takes_58 ⟨by decide, hB⟩ hP hD hS
      · have hB := hB.1 c11
        refine lv_iconst (v := 1) hx hb dX2_takes_53 (by decide) ?_
        refine lv_goto (tgt := 58) hx hb dX2_takes_54 (by decide) ?_
        exact hret _ _ _ _ _ _ dX2_takes_58 ⟨by decide, hB⟩ hP hD hS
  · have hB := hB.1 c1
    refine lv_aload_n hx hb dX2_takes_7 rfl (lv_at hl 0 rfl) ?_
    refine lv_iconst (v := 1) hx hb dX2_takes_8 (by decide) ?_
    obtain ⟨z7, ez7⟩ : ∃ z9, z9 = sI z0 16 (1 : Int32) := ⟨_, rfl⟩
    have hB := hB z7 ez7
    refine xXp_3_awaits S hE hP hD hS lk_X2_30 dX2_takes_9 (fun H locs hP hD hS => ?_)
    rw [← ez7] at hP hD
    refine lv_iload_n hx hb dX2_takes_12 rfl (lv_at hl 1 rfl) ?_
    refine lv_bipush (v := 121) hx hb dX2_takes_13 (by decide) ?_
    refine lv_icmp_ne (tgt := 22) hx hb dX2_takes_15 (by decide) (fun c12 => ?_) (fun c12 => ?_)
    · have hB := hB.2 c12
      refine lv_iconst (v := 0) hx hb dX2_takes_22 (by decide) ?_
      exact hret _ _ _ _ _ _ dX2_takes_23 ⟨by decide, hB⟩ hP hD hS
    · have hB := hB.1 c12
      refine lv_iconst (v := 1) hx hb dX2_takes_18 (by decide) ?_
      refine lv_goto (tgt := 23) hx hb dX2_takes_19 (by decide) ?_
      exact hret _ _ _ _ _ _ dX2_takes_23 ⟨by decide, hB⟩ hP hD hS
set_option maxHeartbeats 4000000 in
set_option maxRecDepth 100000 in
theorem c_LawReader_takes (l : Launch) (G : GX) (z0 : St) (sz : Nat) (x1 : Int32) (x2 : Int32) (x3 : Int32) (post : Int32 → St → Prop) : MetI l wX yX2_takes cX2_takes 4 (some .boolean) ({ frames := 5, cells := 0, slots := 0, locals := 114 }) [.ref (ad G 3), .int x1, .int x2, .int x3] G z0 sz (S_LawReader_takes post x1 x2 x3 z0) post := by
  refine Met.ofW (cc := cX2_takes) (maxL := 4) (ret := (some .boolean)) (by decide) rfl ?_
  intro p e s m args below meth c s₁ B hml hv
  obtain ⟨rfl, hsz, hP, hD0, hE, hB⟩ := hv
  have S : CallFix p m c cX2_takes 4 s _ GW RX2 := ⟨B.exec, B.bytes, hml, findClass_of_methodNamed B.named, fun w h => atoms_spec (ws := Cond.code yX2_takes cX2_takes 4 (some .boolean) :: GW) B.pre w (List.mem_cons_of_mem _ h)⟩
  have hlocks := B.notSynchronized
  subst hsz
  have hD := hD0.self (sz := s.heap.size)
  generalize hAe : va_A (wX G z0) s.heap.size = A at hD hE ⊢
  have hA : ∀ q : Nat, s.heap.size ≤ q → A q := fun q h => by rw [← hAe]; exact Or.inr h
  have hS : va_S A s.heap s.heap [] := va_S.rf
  have hl := lv_entry ([.ref (ad G 3), .int x1, .int x2, .int x3]) (n := 4) (Nat.le_of_ble_eq_true rfl)
  rw [lg_entry_eq]
  generalize (lg_sl ([.ref (ad G 3), .int x1, .int x2, .int x3]) ++ List.replicate (4 - (lg_sl ([.ref (ad G 3), .int x1, .int x2, .int x3])).length) Slot.unset).toArray = ls at hl ⊢
  have hl : lv_has ls 4 [(0, .ref (ad G 3)), (1, .int x1), (2, .int x2), (3, .int x3)] := hl
  refine w_LawReader_takes_0 S hE hA (Nat.le_refl _) (Nat.le_refl _) ?_ x1 x2 x3 z0 hB _ _ _ hP hD hS hl
  intro pc ls r σ H locs hd hp hP hD hS
  exact W.zret (v := r) B.exec B.bytes B.returns (xboolc r hp.1) (fun t ht hW => ⟨⟨r, σ, rfl, hp.2, by rw [ht]; exact hP, hD⟩, hS.F ht⟩) hS.2.2 hd
def B_Reader_faultOf_3_r1_61 (post : Int32 → St → Prop) (ih8 : Int32 → Int32 → St → Prop) (x3 : Int32) (s0 : Int32) (z0 : St) : Prop :=
  (∀ v1 : Int32, v1 = x3 + (1 : Int32) → (ih8 s0 v1 z0))
set_option maxHeartbeats 4000000 in
set_option maxRecDepth 100000 in
theorem w_Reader_faultOf_3_r1_61 {p : Program} {l : Launch} {e : Env} {R : Room} {s : State} {m : MethodId} {args : Array Value} {below : List Frame} {meth : Method} {c : Code} {Q : State → Prop} {G : GX} {A : Nat → Prop} (S : CallFix p m c cX5_faultOf 5 s args GW RX5) (hE : env G A s s.heap) (hA : ∀ q, s.heap.size ≤ q → A q) (hRf : 6 ≤ R.frames) (hRl : 137 ≤ R.locals) {post : Int32 → St → Prop} (hret : RetI p l e R s m args below meth c Q 0 0 wX G A cX5_faultOf post) {ih8 : Int32 → Int32 → St → Prop} (h8 : ∀ (x2 : Int32) (x3 : Int32) (z0 : St), ih8 x2 x3 z0 → Xw p l e R s m args below meth c Q 0 0 wX G A z0 5 [(0, .ref (ad G 3)), (1, .ref (ad G 1)), (2, .int x2), (3, .int x3)] 8 []) (x3 : Int32) (s0 : Int32) (z0 : St) (hB : B_Reader_faultOf_3_r1_61 post ih8 x3 s0 z0) : Xw p l e R s m args below meth c Q 0 0 wX G A z0 5 [(0, .ref (ad G 3)), (1, .ref (ad G 1)), (3, .int x3)] 61 [.int s0] := by
  intro H locs ls hP hD hS hl
  have hx := S.1
  have hb := S.2.1
  refine lv_istore_n (lv' := [(2, .int s0), (0, .ref (ad G 3)), (1, .ref (ad G 1)), (3, .int x3)]) hx hb dX5_faultOf_61 rfl hl (by decide) rfl (fun ls hl => ?_)
  obtain ⟨v1, ev1⟩ : ∃ y9, y9 = x3 + (1 : Int32) := ⟨_, rfl⟩
  have hB := hB v1 ev1
  refine lv_iinc (v := v1) (lv' := [(3, .int v1), (2, .int s0), (0, .ref (ad G 3)), (1, .ref (ad G 1))]) hx hb dX5_faultOf_62 hl (k := 3) rfl (by rw [ev1]; rfl) (by decide) rfl (fun ls hl => ?_)
  refine lv_goto (tgt := 8) hx hb dX5_faultOf_65 (by decide) ?_
  exact h8 s0 v1 z0 hB _ _ _ hP hD hS (lv_sub hl [2, 3, 1, 0] rfl)
def B_Reader_faultOf_3_r1_49 (post : Int32 → St → Prop) (ih8 : Int32 → Int32 → St → Prop) (x3 : Int32) (x4 : Int32) (z0 : St) : Prop :=
  ((x4 = (32 : Int32) → (B_Reader_faultOf_3_r1_61 post ih8 x3 (0 : Int32) z0)) ∧ (¬ x4 = (32 : Int32) → (B_Reader_faultOf_3_r1_61 post ih8 x3 (1 : Int32) z0)))
set_option maxHeartbeats 4000000 in
set_option maxRecDepth 100000 in
theorem w_Reader_faultOf_3_r1_49 {p : Program} {l : Launch} {e : Env} {R : Room} {s : State} {m : MethodId} {args : Array Value} {below : List Frame} {meth : Method} {c : Code} {Q : State → Prop} {G : GX} {A : Nat → Prop} (S : CallFix p m c cX5_faultOf 5 s args GW RX5) (hE : env G A s s.heap) (hA : ∀ q, s.heap.size ≤ q → A q) (hRf : 6 ≤ R.frames) (hRl : 137 ≤ R.locals) {post : Int32 → St → Prop} (hret : RetI p l e R s m args below meth c Q 0 0 wX G A cX5_faultOf post) {ih8 : Int32 → Int32 → St → Prop} (h8 : ∀ (x2 : Int32) (x3 : Int32) (z0 : St), ih8 x2 x3 z0 → Xw p l e R s m args below meth c Q 0 0 wX G A z0 5 [(0, .ref (ad G 3)), (1, .ref (ad G 1)), (2, .int x2), (3, .int x3)] 8 []) (x3 : Int32) (x4 : Int32) (z0 : St) (hB : B_Reader_faultOf_3_r1_49 post ih8 x3 x4 z0) : Xw p l e R s m args below meth c Q 0 0 wX G A z0 5 [(0, .ref (ad G 3)), (1, .ref (ad G 1)), (3, .int x3), (4, .int x4)] 49 [] := by
  intro H locs ls hP hD hS hl
  have hx := S.1
  have hb := S.2.1
  refine lv_iload hx hb dX5_faultOf_49 (lv_at hl 3 rfl) ?_
  refine lv_bipush (v := 32) hx hb dX5_faultOf_51 (by decide) ?_
  refine lv_icmp_eq (tgt := 60) hx hb dX5_faultOf_53 (by decide) (fun c1 => ?_) (fun c1 => ?_)
  · have hB := hB.1 c1
    refine lv_iconst (v := 0) hx hb dX5_faultOf_60 (by decide) ?_
    exact w_Reader_faultOf_3_r1_61 S hE hA hRf hRl hret h8 x3 (0 : Int32) z0 hB _ _ _ hP hD hS (lv_sub hl [0, 1, 2] rfl)
  · have hB := hB.2 c1
    refine lv_iconst (v := 1) hx hb dX5_faultOf_56 (by decide) ?_
    refine lv_goto (tgt := 61) hx hb dX5_faultOf_57 (by decide) ?_
    exact w_Reader_faultOf_3_r1_61 S hE hA hRf hRl hret h8 x3 (1 : Int32) z0 hB _ _ _ hP hD hS (lv_sub hl [0, 1, 2] rfl)
def B_Reader_faultOf_3_r1_8 (post : Int32 → St → Prop) (ih8 : Int32 → Int32 → St → Prop) (x2 : Int32) (x3 : Int32) (z0 : St) : Prop :=
  (((gI z0 2) ≤ x3 → (S_LawReader_closes (fun (r2 : Int32) (z1 : St) => ((r2 = 0 → (post (gI z1 2) z1)) ∧ (¬ r2 = 0 → (post (-1 : Int32) z1)))) z0)) ∧ (¬ (gI z0 2) ≤ x3 → (S_Tape_signAt (fun (r4 : Int32) (z2 : St) => ((r4 = (32 : Int32) → (B_Reader_faultOf_3_r1_49 post ih8 x3 r4 z2)) ∧ (¬ r4 = (32 : Int32) → (S_Tape_signAt (fun (r6 : Int32) (z3 : St) => (S_LawReader_takes (fun (r7 : Int32) (z4 : St) => ((r7 = 0 → (post x3 z4)) ∧ (¬ r7 = 0 → (B_Reader_faultOf_3_r1_49 post ih8 x3 r4 z4)))) r4 r6 x2 z3)) (x3 + (1 : Int32)) z2)))) x3 z0)))
set_option maxHeartbeats 4000000 in
set_option maxRecDepth 100000 in
theorem w_Reader_faultOf_3_r1_8 {p : Program} {l : Launch} {e : Env} {R : Room} {s : State} {m : MethodId} {args : Array Value} {below : List Frame} {meth : Method} {c : Code} {Q : State → Prop} {G : GX} {A : Nat → Prop} (S : CallFix p m c cX5_faultOf 5 s args GW RX5) (hE : env G A s s.heap) (hA : ∀ q, s.heap.size ≤ q → A q) (hRf : 6 ≤ R.frames) (hRl : 137 ≤ R.locals) {post : Int32 → St → Prop} (hret : RetI p l e R s m args below meth c Q 0 0 wX G A cX5_faultOf post) {ih8 : Int32 → Int32 → St → Prop} (h8 : ∀ (x2 : Int32) (x3 : Int32) (z0 : St), ih8 x2 x3 z0 → Xw p l e R s m args below meth c Q 0 0 wX G A z0 5 [(0, .ref (ad G 3)), (1, .ref (ad G 1)), (2, .int x2), (3, .int x3)] 8 []) (x2 : Int32) (x3 : Int32) (z0 : St) (hB : B_Reader_faultOf_3_r1_8 post ih8 x2 x3 z0) : Xw p l e R s m args below meth c Q 0 0 wX G A z0 5 [(0, .ref (ad G 3)), (1, .ref (ad G 1)), (2, .int x2), (3, .int x3)] 8 [] := by
  intro H locs ls hP hD hS hl
  have hx := S.1
  have hb := S.2.1
  refine lv_iload_n hx hb dX5_faultOf_8 rfl (lv_at hl 3 rfl) ?_
  refine lv_aload_n hx hb dX5_faultOf_9 rfl (lv_at hl 1 rfl) ?_
  refine xXg_1_length S hE hP lk_X5_14 dX5_faultOf_10 ?_
  refine lv_icmp_ge (tgt := 68) hx hb dX5_faultOf_13 (by decide) (fun c1 => ?_) (fun c1 => ?_)
  · have hB := hB.1 c1
    refine lv_aload_n hx hb dX5_faultOf_68 rfl (lv_at hl 0 rfl) ?_
    refine xcAi (x := ⟨RX5, "closes", "()Z"⟩) (owner := RX5) (C := RX2) [] S hE hA hP hD hS (c_LawReader_closes l G z0 H.size _) hB (gw_c lk_X5_28 (gw_c wm_X5_X5_closes__Z (gw_c we_X2_X5_closes___Z_X2_closes (gw_c wi_X2_closes (gw_c wn_X2 (gw_c wc_X2_closes (fun _ h9 => h9))))))) (ed_closes hE.2) hu_X5_closes___Z rfl rfl (Nat.le_trans (Nat.le_of_ble_eq_true rfl) hRf) (Nat.le_trans (Nat.le_of_ble_eq_true rfl) hRl) ⟨Nat.zero_le _, Nat.zero_le _⟩ (va_recv hE.1 hP (ci := 2) (q0 := 3) rfl rfl) rfl hl.1 rfl (Nat.le_of_ble_eq_true rfl) dX5_faultOf_69 (fun r2 z1 H locs hB hP hD hS => ?_)
    refine lv_if_eq (tgt := 79) hx hb dX5_faultOf_72 (by decide) (fun c3 => ?_) (fun c3 => ?_)
    · have hB := hB.1 c3
      refine lv_aload_n hx hb dX5_faultOf_79 rfl (lv_at hl 1 rfl) ?_
      refine xXg_1_length S hE hP lk_X5_14 dX5_faultOf_80 ?_
      exact hret _ _ _ _ _ _ dX5_faultOf_83 hB hP hD hS
    · have hB := hB.2 c3
      refine lv_iconst (v := -1) hx hb dX5_faultOf_75 (by decide) ?_
      refine lv_goto (tgt := 83) hx hb dX5_faultOf_76 (by decide) ?_
      exact hret _ _ _ _ _ _ dX5_faultOf_83 hB hP hD hS
  · have hB := hB.2 c1
    refine lv_aload_n hx hb dX5_faultOf_16 rfl (lv_at hl 1 rfl) ?_
    refine lv_iload_n hx hb dX5_faultOf_17 rfl (lv_at hl 3 rfl) ?_
    refine xcVi [.int x3] S hE hA hP hD hS (c_Tape_signAt l G z0 H.size x3 _) hB (gw_c lk_X5_20 (gw_c wi_X9_signAt (gw_c we_X9_X9_signAt_X9_signAt (gw_c wn_X9 (gw_c wc_X9_signAt (fun _ h9 => h9)))))) hd_X9_signAt rfl rfl (Nat.le_trans (Nat.le_of_ble_eq_true rfl) hRf) (Nat.le_trans (Nat.le_of_ble_eq_true rfl) hRl) ⟨Nat.zero_le _, Nat.zero_le _⟩ (va_recv hE.1 hP (ci := 8) (q0 := 1) rfl rfl) rfl hl.1 rfl (Nat.le_of_ble_eq_true rfl) dX5_faultOf_18 (fun r4 z2 H locs hB hP hD hS => ?_)
    refine lv_istore (lv' := [(4, .int r4), (0, .ref (ad G 3)), (1, .ref (ad G 1)), (2, .int x2), (3, .int x3)]) hx hb dX5_faultOf_21 hl (by decide) rfl (fun ls hl => ?_)
    refine lv_iload hx hb dX5_faultOf_23 (lv_at hl 0 rfl) ?_
    refine lv_bipush (v := 32) hx hb dX5_faultOf_25 (by decide) ?_
    refine lv_icmp_eq (tgt := 49) hx hb dX5_faultOf_27 (by decide) (fun c5 => ?_) (fun c5 => ?_)
    · have hB := hB.1 c5
      exact w_Reader_faultOf_3_r1_49 S hE hA hRf hRl hret h8 x3 r4 z2 hB _ _ _ hP hD hS (lv_sub hl [1, 2, 4, 0] rfl)
    · have hB := hB.2 c5
      refine lv_aload_n hx hb dX5_faultOf_30 rfl (lv_at hl 1 rfl) ?_
      refine lv_iload hx hb dX5_faultOf_31 (lv_at hl 0 rfl) ?_
      refine lv_aload_n hx hb dX5_faultOf_33 rfl (lv_at hl 2 rfl) ?_
      refine lv_iload_n hx hb dX5_faultOf_34 rfl (lv_at hl 4 rfl) ?_
      refine lv_iconst (v := 1) hx hb dX5_faultOf_35 (by decide) ?_
      refine lv_iadd hx hb dX5_faultOf_36 ?_
      refine xcVi [.int (x3 + (1 : Int32))] S hE hA hP hD hS (c_Tape_signAt l G z2 H.size (x3 + (1 : Int32)) _) hB (gw_c lk_X5_20 (gw_c wi_X9_signAt (gw_c we_X9_X9_signAt_X9_signAt (gw_c wn_X9 (gw_c wc_X9_signAt (fun _ h9 => h9)))))) hd_X9_signAt rfl rfl (Nat.le_trans (Nat.le_of_ble_eq_true rfl) hRf) (Nat.le_trans (Nat.le_of_ble_eq_true rfl) hRl) ⟨Nat.zero_le _, Nat.zero_le _⟩ (va_recv hE.1 hP (ci := 8) (q0 := 1) rfl rfl) rfl hl.1 rfl (Nat.le_of_ble_eq_true rfl) dX5_faultOf_37 (fun r6 z3 H locs hB hP hD hS => ?_)
      refine lv_iload_n hx hb dX5_faultOf_40 rfl (lv_at hl 3 rfl) ?_
      refine xcAi (x := ⟨RX5, "takes", "(IIZ)Z"⟩) (owner := RX5) (C := RX2) [.int r4, .int r6, .int x2] S hE hA hP hD hS (c_LawReader_takes l G z3 H.size r4 r6 x2 _) hB (gw_c lk_X5_24 (gw_c wm_X5_X5_takes_IIZ_Z (gw_c we_X2_X5_takes__IIZ_Z_X2_takes (gw_c wi_X2_takes (gw_c wn_X2 (gw_c wc_X2_takes (fun _ h9 => h9))))))) (ed_takes hE.2) hu_X5_takes__IIZ_Z rfl rfl (Nat.le_trans (Nat.le_of_ble_eq_true rfl) hRf) (Nat.le_trans (Nat.le_of_ble_eq_true rfl) hRl) ⟨Nat.zero_le _, Nat.zero_le _⟩ (va_recv hE.1 hP (ci := 2) (q0 := 3) rfl rfl) rfl hl.1 rfl (Nat.le_of_ble_eq_true rfl) dX5_faultOf_41 (fun r7 z4 H locs hB hP hD hS => ?_)
      refine lv_if_ne (tgt := 49) hx hb dX5_faultOf_44 (by decide) (fun c8 => ?_) (fun c8 => ?_)
      · have hB := hB.2 c8
        exact w_Reader_faultOf_3_r1_49 S hE hA hRf hRl hret h8 x3 r4 z4 hB _ _ _ hP hD hS (lv_sub hl [1, 2, 4, 0] rfl)
      · have hB := hB.1 c8
        refine lv_iload_n hx hb dX5_faultOf_47 rfl (lv_at hl 4 rfl) ?_
        exact hret _ _ _ _ _ _ dX5_faultOf_48 hB hP hD hS
def L_Reader_faultOf_3_r1_8 (post : Int32 → St → Prop) : Nat → Int32 → Int32 → St → Prop
  | 0 => fun _ _ _ => False
  | n + 1 => B_Reader_faultOf_3_r1_8 post (L_Reader_faultOf_3_r1_8 post n)
theorem wl_Reader_faultOf_3_r1_8 {p : Program} {l : Launch} {e : Env} {R : Room} {s : State} {m : MethodId} {args : Array Value} {below : List Frame} {meth : Method} {c : Code} {Q : State → Prop} {G : GX} {A : Nat → Prop} (S : CallFix p m c cX5_faultOf 5 s args GW RX5) (hE : env G A s s.heap) (hA : ∀ q, s.heap.size ≤ q → A q) (hRf : 6 ≤ R.frames) (hRl : 137 ≤ R.locals) {post : Int32 → St → Prop} (hret : RetI p l e R s m args below meth c Q 0 0 wX G A cX5_faultOf post) : ∀ (n : Nat) (x2 : Int32) (x3 : Int32) (z0 : St), L_Reader_faultOf_3_r1_8 post n x2 x3 z0 → Xw p l e R s m args below meth c Q 0 0 wX G A z0 5 [(0, .ref (ad G 3)), (1, .ref (ad G 1)), (2, .int x2), (3, .int x3)] 8 [] := by
  intro n
  induction n with
  | zero => intro x2 x3 z0 hB; exact absurd hB id
  | succ n ih => exact fun x2 x3 z0 hB => w_Reader_faultOf_3_r1_8 S hE hA hRf hRl hret ih x2 x3 z0 hB
def S_Reader_faultOf_3_r1 (post : Int32 → St → Prop) (z0 : St) : Prop :=
  (S_LawReader_start (fun (z1 : St) => (∃ n1, L_Reader_faultOf_3_r1_8 post n1 (0 : Int32) (0 : Int32) z1)) z0)
set_option maxHeartbeats 4000000 in
set_option maxRecDepth 100000 in
theorem w_Reader_faultOf_3_r1_0 {p : Program} {l : Launch} {e : Env} {R : Room} {s : State} {m : MethodId} {args : Array Value} {below : List Frame} {meth : Method} {c : Code} {Q : State → Prop} {G : GX} {A : Nat → Prop} (S : CallFix p m c cX5_faultOf 5 s args GW RX5) (hE : env G A s s.heap) (hA : ∀ q, s.heap.size ≤ q → A q) (hRf : 6 ≤ R.frames) (hRl : 137 ≤ R.locals) {post : Int32 → St → Prop} (hret : RetI p l e R s m args below meth c Q 0 0 wX G A cX5_faultOf post) (z0 : St) (hB : S_Reader_faultOf_3_r1 post z0) : Xw p l e R s m args below meth c Q 0 0 wX G A z0 5 [(0, .ref (ad G 3)), (1, .ref (ad G 1))] 0 [] := by
  intro H locs ls hP hD hS hl
  have hx := S.1
  have hb := S.2.1
  refine lv_aload_n hx hb dX5_faultOf_0 rfl (lv_at hl 0 rfl) ?_
  refine xcAv (x := ⟨RX5, "start", "()V"⟩) (owner := RX5) (C := RX2) [] S hE hA hP hD hS (c_LawReader_start l G z0 H.size _) hB (gw_c lk_X5_9 (gw_c wm_X5_X5_start__V (gw_c we_X2_X5_start___V_X2_start (gw_c wi_X2_start (gw_c wn_X2 (gw_c wc_X2_start (fun _ h9 => h9))))))) (ed_start hE.2) hu_X5_start___V rfl rfl (Nat.le_trans (Nat.le_of_ble_eq_true rfl) hRf) (Nat.le_trans (Nat.le_of_ble_eq_true rfl) hRl) ⟨Nat.zero_le _, Nat.zero_le _⟩ (va_recv hE.1 hP (ci := 2) (q0 := 3) rfl rfl) rfl hl.1 rfl (Nat.le_of_ble_eq_true rfl) dX5_faultOf_1 (fun z1 H locs hB hP hD hS => ?_)
  refine lv_iconst (v := 0) hx hb dX5_faultOf_4 (by decide) ?_
  refine lv_istore_n (lv' := [(2, .int (0 : Int32)), (0, .ref (ad G 3)), (1, .ref (ad G 1))]) hx hb dX5_faultOf_5 rfl hl (by decide) rfl (fun ls hl => ?_)
  refine lv_iconst (v := 0) hx hb dX5_faultOf_6 (by decide) ?_
  refine lv_istore_n (lv' := [(3, .int (0 : Int32)), (2, .int (0 : Int32)), (0, .ref (ad G 3)), (1, .ref (ad G 1))]) hx hb dX5_faultOf_7 rfl hl (by decide) rfl (fun ls hl => ?_)
  obtain ⟨n1, hB⟩ := hB
  exact wl_Reader_faultOf_3_r1_8 S hE hA hRf hRl hret n1 (0 : Int32) (0 : Int32) z1 hB _ _ _ hP hD hS (lv_sub hl [2, 3, 1, 0] rfl)
set_option maxHeartbeats 4000000 in
set_option maxRecDepth 100000 in
theorem c_Reader_faultOf_3_r1 (l : Launch) (G : GX) (z0 : St) (sz : Nat) (post : Int32 → St → Prop) : MetI l wX yX5_faultOf cX5_faultOf 5 (some .int) ({ frames := 6, cells := 0, slots := 0, locals := 137 }) [.ref (ad G 3), .ref (ad G 1)] G z0 sz (S_Reader_faultOf_3_r1 post z0) post := by
  refine Met.ofW (cc := cX5_faultOf) (maxL := 5) (ret := (some .int)) (by decide) rfl ?_
  intro p e s m args below meth c s₁ B hml hv
  obtain ⟨rfl, hsz, hP, hD0, hE, hB⟩ := hv
  have S : CallFix p m c cX5_faultOf 5 s _ GW RX5 := ⟨B.exec, B.bytes, hml, findClass_of_methodNamed B.named, fun w h => atoms_spec (ws := Cond.code yX5_faultOf cX5_faultOf 5 (some .int) :: GW) B.pre w (List.mem_cons_of_mem _ h)⟩
  have hlocks := B.notSynchronized
  subst hsz
  have hD := hD0.self (sz := s.heap.size)
  generalize hAe : va_A (wX G z0) s.heap.size = A at hD hE ⊢
  have hA : ∀ q : Nat, s.heap.size ≤ q → A q := fun q h => by rw [← hAe]; exact Or.inr h
  have hS : va_S A s.heap s.heap [] := va_S.rf
  have hl := lv_entry ([.ref (ad G 3), .ref (ad G 1)]) (n := 5) (Nat.le_of_ble_eq_true rfl)
  rw [lg_entry_eq]
  generalize (lg_sl ([.ref (ad G 3), .ref (ad G 1)]) ++ List.replicate (5 - (lg_sl ([.ref (ad G 3), .ref (ad G 1)])).length) Slot.unset).toArray = ls at hl ⊢
  have hl : lv_has ls 5 [(0, .ref (ad G 3)), (1, .ref (ad G 1))] := hl
  refine w_Reader_faultOf_3_r1_0 S hE hA (Nat.le_refl _) (Nat.le_refl _) ?_  z0 hB _ _ _ hP hD hS hl
  intro pc ls r σ H locs hd hp hP hD hS
  exact W.iret (v := r) B.exec B.bytes B.returns (fun t ht hW => ⟨⟨r, σ, rfl, hp, by rw [ht]; exact hP, hD⟩, hS.F ht⟩) hS.2.2 hd
def S_B_fault_v1 (post : Int32 → St → Prop) (x1 : Int32) (z0 : St) : Prop :=
  (S_B_readerOf_v1 (fun (z1 : St) => (S_Reader_faultOf_3_r1 (fun (r1 : Int32) (z2 : St) => (post r1 z2)) z1)) x1 z0)
set_option maxHeartbeats 4000000 in
set_option maxRecDepth 100000 in
theorem w_B_fault_v1_0 {p : Program} {l : Launch} {e : Env} {R : Room} {s : State} {m : MethodId} {args : Array Value} {below : List Frame} {meth : Method} {c : Code} {Q : State → Prop} {G : GX} {A : Nat → Prop} (S : CallFix p m c cX11_fault 3 s args GW RX11) (hE : env G A s s.heap) (hA : ∀ q, s.heap.size ≤ q → A q) (hRf : 7 ≤ R.frames) (hRl : 161 ≤ R.locals) {post : Int32 → St → Prop} (hret : RetI p l e R s m args below meth c Q 0 0 wX G A cX11_fault post) (x1 : Int32) (z0 : St) (hB : S_B_fault_v1 post x1 z0) : Xw p l e R s m args below meth c Q 0 0 wX G A z0 3 [(0, .ref (ad G 0)), (1, .int x1)] 0 [] := by
  intro H locs ls hP hD hS hl
  have hx := S.1
  have hb := S.2.1
  refine lv_aload_n hx hb dX11_fault_0 rfl (lv_at hl 0 rfl) ?_
  refine lv_iload_n hx hb dX11_fault_1 rfl (lv_at hl 1 rfl) ?_
  refine xcVq [.int x1] S hE hA hP hD hS (c_B_readerOf_v1 l G z0 H.size x1 _) hB (gw_c lk_X11_108 (gw_c wi_X11_readerOf (gw_c we_X11_X11_readerOf_X11_readerOf (gw_c wn_X11 (gw_c wc_X11_readerOf (fun _ h9 => h9)))))) hd_X11_readerOf rfl rfl (Nat.le_trans (Nat.le_of_ble_eq_true rfl) hRf) (Nat.le_trans (Nat.le_of_ble_eq_true rfl) hRl) ⟨Nat.zero_le _, Nat.zero_le _⟩ (va_recv hE.1 hP (ci := 10) (q0 := 0) rfl rfl) rfl hl.1 rfl (Nat.le_of_ble_eq_true rfl) dX11_fault_2 rfl (fun z1 H locs hB hP hD hS => ?_)
  refine lv_astore_n (lv' := [(2, .ref (ad G 3)), (0, .ref (ad G 0)), (1, .int x1)]) hx hb dX11_fault_5 rfl hl (by decide) rfl (fun ls hl => ?_)
  refine lv_aload_n hx hb dX11_fault_6 rfl (lv_at hl 0 rfl) ?_
  refine lv_ifnonnull (tgt := 15) hx hb dX11_fault_7 (by decide) ?_
  refine lv_aload_n hx hb dX11_fault_15 rfl (lv_at hl 0 rfl) ?_
  refine lv_aload_n hx hb dX11_fault_16 rfl (lv_at hl 1 rfl) ?_
  refine xXg_0_tape S hE hP lk_X11_10 dX11_fault_17 ?_
  refine xcUi (x := yX5_faultOf) (owner := RX5) (C := RX2) [.ref (ad G 1)] S hE hA hP hD hS (c_Reader_faultOf_3_r1 l G z1 H.size _) hB (gw_c lk_X11_112 (gw_c wm_X5_X5_faultOf_LBottleBefore_Tape__I (gw_c we_X2_X5_faultOf_X5_faultOf (gw_c wi_X5_faultOf (gw_c wn_X5 (gw_c wc_X5_faultOf (fun _ h9 => h9))))))) rfl hu_X5_faultOf rfl rfl (Nat.le_trans (Nat.le_of_ble_eq_true rfl) hRf) (Nat.le_trans (Nat.le_of_ble_eq_true rfl) hRl) ⟨Nat.zero_le _, Nat.zero_le _⟩ (va_recv hE.1 hP (ci := 2) (q0 := 3) rfl rfl) rfl hl.1 rfl (Nat.le_of_ble_eq_true rfl) dX11_fault_20 (fun r1 z2 H locs hB hP hD hS => ?_)
  exact hret _ _ _ _ _ _ dX11_fault_23 hB hP hD hS
set_option maxHeartbeats 4000000 in
set_option maxRecDepth 100000 in
theorem c_B_fault_v1 (l : Launch) (G : GX) (z0 : St) (sz : Nat) (x1 : Int32) (post : Int32 → St → Prop) : MetI l wX yX11_fault cX11_fault 3 (some .int) ({ frames := 7, cells := 0, slots := 0, locals := 161 }) [.ref (ad G 0), .int x1] G z0 sz (S_B_fault_v1 post x1 z0) post := by
  refine Met.ofW (cc := cX11_fault) (maxL := 3) (ret := (some .int)) (by decide) rfl ?_
  intro p e s m args below meth c s₁ B hml hv
  obtain ⟨rfl, hsz, hP, hD0, hE, hB⟩ := hv
  have S : CallFix p m c cX11_fault 3 s _ GW RX11 := ⟨B.exec, B.bytes, hml, findClass_of_methodNamed B.named, fun w h => atoms_spec (ws := Cond.code yX11_fault cX11_fault 3 (some .int) :: GW) B.pre w (List.mem_cons_of_mem _ h)⟩
  have hlocks := B.notSynchronized
  subst hsz
  have hD := hD0.self (sz := s.heap.size)
  generalize hAe : va_A (wX G z0) s.heap.size = A at hD hE ⊢
  have hA : ∀ q : Nat, s.heap.size ≤ q → A q := fun q h => by rw [← hAe]; exact Or.inr h
  have hS : va_S A s.heap s.heap [] := va_S.rf
  have hl := lv_entry ([.ref (ad G 0), .int x1]) (n := 3) (Nat.le_of_ble_eq_true rfl)
  rw [lg_entry_eq]
  generalize (lg_sl ([.ref (ad G 0), .int x1]) ++ List.replicate (3 - (lg_sl ([.ref (ad G 0), .int x1])).length) Slot.unset).toArray = ls at hl ⊢
  have hl : lv_has ls 3 [(0, .ref (ad G 0)), (1, .int x1)] := hl
  refine w_B_fault_v1_0 S hE hA (Nat.le_refl _) (Nat.le_refl _) ?_ x1 z0 hB _ _ _ hP hD hS hl
  intro pc ls r σ H locs hd hp hP hD hS
  exact W.iret (v := r) B.exec B.bytes B.returns (fun t ht hW => ⟨⟨r, σ, rfl, hp, by rw [ht]; exact hP, hD⟩, hS.F ht⟩) hS.2.2 hd
def B_B_readerOf_v2_32 (post : St → Prop) (z0 : St) : Prop :=
  (post z0)
set_option maxHeartbeats 4000000 in
set_option maxRecDepth 100000 in
theorem w_B_readerOf_v2_32 {p : Program} {l : Launch} {e : Env} {R : Room} {s : State} {m : MethodId} {args : Array Value} {below : List Frame} {meth : Method} {c : Code} {Q : State → Prop} {G : GX} {A : Nat → Prop} (S : CallFix p m c cX11_readerOf 2 s args GW RX11) (hE : env G A s s.heap) (hA : ∀ q, s.heap.size ≤ q → A q) (hRf : 0 ≤ R.frames) (hRl : 0 ≤ R.locals) {post : St → Prop} (hret : RetQ p l e R s m args below meth c Q 0 0 wX G A cX11_readerOf (.ref (ad G 4)) post) (z0 : St) (hB : B_B_readerOf_v2_32 post z0) : Xw p l e R s m args below meth c Q 0 0 wX G A z0 2 [] 32 [.ref (ad G 4)] := by
  intro H locs ls hP hD hS hl
  have hx := S.1
  have hb := S.2.1
  exact hret _ _ _ _ _ dX11_readerOf_32 hB hP hD hS
def S_B_readerOf_v2 (post : St → Prop) (x1 : Int32) (z0 : St) : Prop :=
  (¬ x1 = 0 ∧ (¬ x1 = (1 : Int32) ∧ (x1 = (2 : Int32) ∧ (B_B_readerOf_v2_32 post z0))))
set_option maxHeartbeats 4000000 in
set_option maxRecDepth 100000 in
theorem w_B_readerOf_v2_0 {p : Program} {l : Launch} {e : Env} {R : Room} {s : State} {m : MethodId} {args : Array Value} {below : List Frame} {meth : Method} {c : Code} {Q : State → Prop} {G : GX} {A : Nat → Prop} (S : CallFix p m c cX11_readerOf 2 s args GW RX11) (hE : env G A s s.heap) (hA : ∀ q, s.heap.size ≤ q → A q) (hRf : 0 ≤ R.frames) (hRl : 0 ≤ R.locals) {post : St → Prop} (hret : RetQ p l e R s m args below meth c Q 0 0 wX G A cX11_readerOf (.ref (ad G 4)) post) (x1 : Int32) (z0 : St) (hB : S_B_readerOf_v2 post x1 z0) : Xw p l e R s m args below meth c Q 0 0 wX G A z0 2 [(0, .ref (ad G 0)), (1, .int x1)] 0 [] := by
  intro H locs ls hP hD hS hl
  have hx := S.1
  have hb := S.2.1
  refine lv_iload_n hx hb dX11_readerOf_0 rfl (lv_at hl 1 rfl) ?_
  obtain ⟨hc9, hB⟩ := hB
  refine lv_if_ne (tgt := 9) hx hb dX11_readerOf_1 (by decide) (fun _ => ?_) (fun h9 => absurd h9 hc9)
  refine lv_iload_n hx hb dX11_readerOf_9 rfl (lv_at hl 1 rfl) ?_
  refine lv_iconst (v := 1) hx hb dX11_readerOf_10 (by decide) ?_
  obtain ⟨hc9, hB⟩ := hB
  refine lv_icmp_ne (tgt := 19) hx hb dX11_readerOf_11 (by decide) (fun _ => ?_) (fun h9 => absurd h9 hc9)
  refine lv_iload_n hx hb dX11_readerOf_19 rfl (lv_at hl 1 rfl) ?_
  refine lv_iconst (v := 2) hx hb dX11_readerOf_20 (by decide) ?_
  obtain ⟨hc9, hB⟩ := hB
  refine lv_icmp_ne (tgt := 31) hx hb dX11_readerOf_21 (by decide) (fun h9 => absurd hc9 h9) (fun _ => ?_)
  refine lv_aload_n hx hb dX11_readerOf_24 rfl (lv_at hl 0 rfl) ?_
  refine xXg_0_winterReader S hE hP lk_X11_33 dX11_readerOf_25 ?_
  refine lv_goto (tgt := 32) hx hb dX11_readerOf_28 (by decide) ?_
  exact w_B_readerOf_v2_32 S hE hA hRf hRl hret z0 hB _ _ _ hP hD hS (lv_sub hl [] rfl)
set_option maxHeartbeats 4000000 in
set_option maxRecDepth 100000 in
theorem c_B_readerOf_v2 (l : Launch) (G : GX) (z0 : St) (sz : Nat) (x1 : Int32) (post : St → Prop) : MetQ l wX yX11_readerOf cX11_readerOf 2 (some (.object "BottleBefore$Reader")) ({ frames := 0, cells := 0, slots := 0, locals := 0 }) [.ref (ad G 0), .int x1] G z0 sz (S_B_readerOf_v2 post x1 z0) (some (ad G 4)) post := by
  refine Met.ofW (cc := cX11_readerOf) (maxL := 2) (ret := (some (.object "BottleBefore$Reader"))) (by decide) rfl ?_
  intro p e s m args below meth c s₁ B hml hv
  obtain ⟨rfl, hsz, hP, hD0, hE, hB⟩ := hv
  have S : CallFix p m c cX11_readerOf 2 s _ GW RX11 := ⟨B.exec, B.bytes, hml, findClass_of_methodNamed B.named, fun w h => atoms_spec (ws := Cond.code yX11_readerOf cX11_readerOf 2 (some (.object "BottleBefore$Reader")) :: GW) B.pre w (List.mem_cons_of_mem _ h)⟩
  have hlocks := B.notSynchronized
  subst hsz
  have hD := hD0.self (sz := s.heap.size)
  generalize hAe : va_A (wX G z0) s.heap.size = A at hD hE ⊢
  have hA : ∀ q : Nat, s.heap.size ≤ q → A q := fun q h => by rw [← hAe]; exact Or.inr h
  have hS : va_S A s.heap s.heap [] := va_S.rf
  have hl := lv_entry ([.ref (ad G 0), .int x1]) (n := 2) (Nat.le_of_ble_eq_true rfl)
  rw [lg_entry_eq]
  generalize (lg_sl ([.ref (ad G 0), .int x1]) ++ List.replicate (2 - (lg_sl ([.ref (ad G 0), .int x1])).length) Slot.unset).toArray = ls at hl ⊢
  have hl : lv_has ls 2 [(0, .ref (ad G 0)), (1, .int x1)] := hl
  refine w_B_readerOf_v2_0 S hE hA (Nat.le_refl _) (Nat.le_refl _) ?_ x1 z0 hB _ _ _ hP hD hS hl
  intro pc ls σ H locs hd hp hP hD hS
  exact W.aret B.exec B.bytes B.returns (Or.inl ⟨_, rfl⟩) (Or.inr ⟨_, rfl⟩) (fun t ht hW => ⟨⟨some _, σ, rfl, ⟨rfl, hp⟩, by rw [ht]; exact hP, hD⟩, hS.F ht⟩) hS.2.2 hd
def S_WinterReader_start (post : St → Prop) (z0 : St) : Prop :=
  (∀ z1 : St, z1 = sI z0 20 (0 : Int32) → (∀ z2 : St, z2 = sI z1 22 (0 : Int32) → (post z2)))
set_option maxHeartbeats 4000000 in
set_option maxRecDepth 100000 in
theorem w_WinterReader_start_0 {p : Program} {l : Launch} {e : Env} {R : Room} {s : State} {m : MethodId} {args : Array Value} {below : List Frame} {meth : Method} {c : Code} {Q : State → Prop} {G : GX} {A : Nat → Prop} (S : CallFix p m c cX10_start 1 s args GW RX10) (hE : env G A s s.heap) (hA : ∀ q, s.heap.size ≤ q → A q) (hRf : 0 ≤ R.frames) (hRl : 0 ≤ R.locals) {post : St → Prop} (hret : RetV p l e R s m args below meth c Q 0 0 wX G A cX10_start post) (z0 : St) (hB : S_WinterReader_start post z0) : Xw p l e R s m args below meth c Q 0 0 wX G A z0 1 [(0, .ref (ad G 4))] 0 [] := by
  intro H locs ls hP hD hS hl
  have hx := S.1
  have hb := S.2.1
  refine lv_aload_n hx hb dX10_start_0 rfl (lv_at hl 0 rfl) ?_
  refine lv_iconst (v := 0) hx hb dX10_start_1 (by decide) ?_
  obtain ⟨z1, ez1⟩ : ∃ z9, z9 = sI z0 20 (0 : Int32) := ⟨_, rfl⟩
  have hB := hB z1 ez1
  refine xXp_4_length S hE hP hD hS lk_X10_15 dX10_start_2 (fun H locs hP hD hS => ?_)
  rw [← ez1] at hP hD
  refine lv_aload_n hx hb dX10_start_5 rfl (lv_at hl 0 rfl) ?_
  refine lv_iconst (v := 0) hx hb dX10_start_6 (by decide) ?_
  obtain ⟨z2, ez2⟩ : ∃ z9, z9 = sI z1 22 (0 : Int32) := ⟨_, rfl⟩
  have hB := hB z2 ez2
  refine xXp_4_awaits S hE hP hD hS lk_X10_19 dX10_start_7 (fun H locs hP hD hS => ?_)
  rw [← ez2] at hP hD
  exact hret _ _ _ _ _ dX10_start_10 hB hP hD hS
set_option maxHeartbeats 4000000 in
set_option maxRecDepth 100000 in
theorem c_WinterReader_start (l : Launch) (G : GX) (z0 : St) (sz : Nat) (post : St → Prop) : MetV l wX yX10_start cX10_start 1 none ({ frames := 0, cells := 0, slots := 0, locals := 0 }) [.ref (ad G 4)] G z0 sz (S_WinterReader_start post z0) post := by
  refine Met.ofW (cc := cX10_start) (maxL := 1) (ret := none) (by decide) rfl ?_
  intro p e s m args below meth c s₁ B hml hv
  obtain ⟨rfl, hsz, hP, hD0, hE, hB⟩ := hv
  have S : CallFix p m c cX10_start 1 s _ GW RX10 := ⟨B.exec, B.bytes, hml, findClass_of_methodNamed B.named, fun w h => atoms_spec (ws := Cond.code yX10_start cX10_start 1 none :: GW) B.pre w (List.mem_cons_of_mem _ h)⟩
  have hlocks := B.notSynchronized
  subst hsz
  have hD := hD0.self (sz := s.heap.size)
  generalize hAe : va_A (wX G z0) s.heap.size = A at hD hE ⊢
  have hA : ∀ q : Nat, s.heap.size ≤ q → A q := fun q h => by rw [← hAe]; exact Or.inr h
  have hS : va_S A s.heap s.heap [] := va_S.rf
  have hl := lv_entry ([.ref (ad G 4)]) (n := 1) (Nat.le_of_ble_eq_true rfl)
  rw [lg_entry_eq]
  generalize (lg_sl ([.ref (ad G 4)]) ++ List.replicate (1 - (lg_sl ([.ref (ad G 4)])).length) Slot.unset).toArray = ls at hl ⊢
  have hl : lv_has ls 1 [(0, .ref (ad G 4))] := hl
  refine w_WinterReader_start_0 S hE hA (Nat.le_refl _) (Nat.le_refl _) ?_  z0 hB _ _ _ hP hD hS hl
  intro pc ls σ H locs hd hp hP hD hS
  exact W.vret B.exec B.bytes B.returns (fun t ht hW => ⟨⟨σ, rfl, hp, by rw [ht]; exact hP, hD⟩, hS.F ht⟩) hS.2.2 hd
def S_WinterReader_closes (post : Int32 → St → Prop) (z0 : St) : Prop :=
  (((gI z0 22) = (2 : Int32) → (post (1 : Int32) z0)) ∧ (¬ (gI z0 22) = (2 : Int32) → (post (0 : Int32) z0)))
set_option maxHeartbeats 4000000 in
set_option maxRecDepth 100000 in
theorem w_WinterReader_closes_0 {p : Program} {l : Launch} {e : Env} {R : Room} {s : State} {m : MethodId} {args : Array Value} {below : List Frame} {meth : Method} {c : Code} {Q : State → Prop} {G : GX} {A : Nat → Prop} (S : CallFix p m c cX10_closes 1 s args GW RX10) (hE : env G A s s.heap) (hA : ∀ q, s.heap.size ≤ q → A q) (hRf : 0 ≤ R.frames) (hRl : 0 ≤ R.locals) {post : Int32 → St → Prop} (hret : RetZ p l e R s m args below meth c Q 0 0 wX G A cX10_closes post) (z0 : St) (hB : S_WinterReader_closes post z0) : Xw p l e R s m args below meth c Q 0 0 wX G A z0 1 [(0, .ref (ad G 4))] 0 [] := by
  intro H locs ls hP hD hS hl
  have hx := S.1
  have hb := S.2.1
  refine lv_aload_n hx hb dX10_closes_0 rfl (lv_at hl 0 rfl) ?_
  refine xXg_4_awaits S hE hP lk_X10_19 dX10_closes_1 ?_
  refine lv_iconst (v := 2) hx hb dX10_closes_4 (by decide) ?_
  refine lv_icmp_ne (tgt := 12) hx hb dX10_closes_5 (by decide) (fun c1 => ?_) (fun c1 => ?_)
  · have hB := hB.2 c1
    refine lv_iconst (v := 0) hx hb dX10_closes_12 (by decide) ?_
    exact hret _ _ _ _ _ _ dX10_closes_13 ⟨by decide, hB⟩ hP hD hS
  · have hB := hB.1 c1
    refine lv_iconst (v := 1) hx hb dX10_closes_8 (by decide) ?_
    refine lv_goto (tgt := 13) hx hb dX10_closes_9 (by decide) ?_
    exact hret _ _ _ _ _ _ dX10_closes_13 ⟨by decide, hB⟩ hP hD hS
set_option maxHeartbeats 4000000 in
set_option maxRecDepth 100000 in
theorem c_WinterReader_closes (l : Launch) (G : GX) (z0 : St) (sz : Nat) (post : Int32 → St → Prop) : MetI l wX yX10_closes cX10_closes 1 (some .boolean) ({ frames := 0, cells := 0, slots := 0, locals := 0 }) [.ref (ad G 4)] G z0 sz (S_WinterReader_closes post z0) post := by
  refine Met.ofW (cc := cX10_closes) (maxL := 1) (ret := (some .boolean)) (by decide) rfl ?_
  intro p e s m args below meth c s₁ B hml hv
  obtain ⟨rfl, hsz, hP, hD0, hE, hB⟩ := hv
  have S : CallFix p m c cX10_closes 1 s _ GW RX10 := ⟨B.exec, B.bytes, hml, findClass_of_methodNamed B.named, fun w h => atoms_spec (ws := Cond.code yX10_closes cX10_closes 1 (some .boolean) :: GW) B.pre w (List.mem_cons_of_mem _ h)⟩
  have hlocks := B.notSynchronized
  subst hsz
  have hD := hD0.self (sz := s.heap.size)
  generalize hAe : va_A (wX G z0) s.heap.size = A at hD hE ⊢
  have hA : ∀ q : Nat, s.heap.size ≤ q → A q := fun q h => by rw [← hAe]; exact Or.inr h
  have hS : va_S A s.heap s.heap [] := va_S.rf
  have hl := lv_entry ([.ref (ad G 4)]) (n := 1) (Nat.le_of_ble_eq_true rfl)
  rw [lg_entry_eq]
  generalize (lg_sl ([.ref (ad G 4)]) ++ List.replicate (1 - (lg_sl ([.ref (ad G 4)])).length) Slot.unset).toArray = ls at hl ⊢
  have hl : lv_has ls 1 [(0, .ref (ad G 4))] := hl
  refine w_WinterReader_closes_0 S hE hA (Nat.le_refl _) (Nat.le_refl _) ?_  z0 hB _ _ _ hP hD hS hl
  intro pc ls r σ H locs hd hp hP hD hS
  exact W.zret (v := r) B.exec B.bytes B.returns (xboolc r hp.1) (fun t ht hW => ⟨⟨r, σ, rfl, hp.2, by rw [ht]; exact hP, hD⟩, hS.F ht⟩) hS.2.2 hd
def S_WinterReader_adds (post : Int32 → St → Prop) (x1 : Int32) (z0 : St) : Prop :=
  (((gI z0 20) < (16 : Int32) → (vp_in (gI z0 20) 16 ∧ (∀ z1 : St, z1 = sA z0 16 (gI z0 20).toNatClampNeg (((10 : Int32) * (gI z0 21)) + x1) → (∀ z2 : St, z2 = sI z1 20 ((gI z1 20) + (1 : Int32)) → (∀ z3 : St, z3 = sI z2 22 (2 : Int32) → (post (1 : Int32) z3)))))) ∧ (¬ (gI z0 20) < (16 : Int32) → (post (0 : Int32) z0)))
set_option maxHeartbeats 4000000 in
set_option maxRecDepth 100000 in
theorem w_WinterReader_adds_0 {p : Program} {l : Launch} {e : Env} {R : Room} {s : State} {m : MethodId} {args : Array Value} {below : List Frame} {meth : Method} {c : Code} {Q : State → Prop} {G : GX} {A : Nat → Prop} (S : CallFix p m c cX10_adds 2 s args GW RX10) (hE : env G A s s.heap) (hA : ∀ q, s.heap.size ≤ q → A q) (hRf : 0 ≤ R.frames) (hRl : 0 ≤ R.locals) {post : Int32 → St → Prop} (hret : RetZ p l e R s m args below meth c Q 0 0 wX G A cX10_adds post) (x1 : Int32) (z0 : St) (hB : S_WinterReader_adds post x1 z0) : Xw p l e R s m args below meth c Q 0 0 wX G A z0 2 [(0, .ref (ad G 4)), (1, .int x1)] 0 [] := by
  intro H locs ls hP hD hS hl
  have hx := S.1
  have hb := S.2.1
  refine lv_aload_n hx hb dX10_adds_0 rfl (lv_at hl 0 rfl) ?_
  refine xXg_4_length S hE hP lk_X10_15 dX10_adds_1 ?_
  refine lv_bipush (v := 16) hx hb dX10_adds_4 (by decide) ?_
  refine lv_icmp_lt (tgt := 11) hx hb dX10_adds_6 (by decide) (fun c1 => ?_) (fun c1 => ?_)
  · have hB := hB.1 c1
    refine lv_aload_n hx hb dX10_adds_11 rfl (lv_at hl 0 rfl) ?_
    refine xXg_4_steps S hE hP lk_X10_11 dX10_adds_12 ?_
    refine lv_aload_n hx hb dX10_adds_15 rfl (lv_at hl 0 rfl) ?_
    refine xXg_4_length S hE hP lk_X10_15 dX10_adds_16 ?_
    refine lv_bipush (v := 10) hx hb dX10_adds_19 (by decide) ?_
    refine lv_aload_n hx hb dX10_adds_21 rfl (lv_at hl 0 rfl) ?_
    refine xXg_4_kind S hE hP lk_X10_46 dX10_adds_22 ?_
    refine lv_imul hx hb dX10_adds_25 ?_
    refine lv_iload_n hx hb dX10_adds_26 rfl (lv_at hl 1 rfl) ?_
    refine lv_iadd hx hb dX10_adds_27 ?_
    obtain ⟨hi, hB⟩ := hB
    obtain ⟨z1, ez1⟩ : ∃ z9, z9 = sA z0 16 (gI z0 20).toNatClampNeg (((10 : Int32) * (gI z0 21)) + x1) := ⟨_, rfl⟩
    have hB := hB z1 ez1
    refine xXs_16 S hE hP hD hS _ rfl hi dX10_adds_28 (fun H locs hP hD hS => ?_)
    rw [← ez1] at hP hD
    refine lv_aload_n hx hb dX10_adds_29 rfl (lv_at hl 0 rfl) ?_
    refine lv_dup hx hb dX10_adds_30 rfl ?_
    refine xXg_4_length S hE hP lk_X10_15 dX10_adds_31 ?_
    refine lv_iconst (v := 1) hx hb dX10_adds_34 (by decide) ?_
    refine lv_iadd hx hb dX10_adds_35 ?_
    obtain ⟨z2, ez2⟩ : ∃ z9, z9 = sI z1 20 ((gI z1 20) + (1 : Int32)) := ⟨_, rfl⟩
    have hB := hB z2 ez2
    refine xXp_4_length S hE hP hD hS lk_X10_15 dX10_adds_36 (fun H locs hP hD hS => ?_)
    rw [← ez2] at hP hD
    refine lv_aload_n hx hb dX10_adds_39 rfl (lv_at hl 0 rfl) ?_
    refine lv_iconst (v := 2) hx hb dX10_adds_40 (by decide) ?_
    obtain ⟨z3, ez3⟩ : ∃ z9, z9 = sI z2 22 (2 : Int32) := ⟨_, rfl⟩
    have hB := hB z3 ez3
    refine xXp_4_awaits S hE hP hD hS lk_X10_19 dX10_adds_41 (fun H locs hP hD hS => ?_)
    rw [← ez3] at hP hD
    refine lv_iconst (v := 1) hx hb dX10_adds_44 (by decide) ?_
    exact hret _ _ _ _ _ _ dX10_adds_45 ⟨by decide, hB⟩ hP hD hS
  · have hB := hB.2 c1
    refine lv_iconst (v := 0) hx hb dX10_adds_9 (by decide) ?_
    exact hret _ _ _ _ _ _ dX10_adds_10 ⟨by decide, hB⟩ hP hD hS
set_option maxHeartbeats 4000000 in
set_option maxRecDepth 100000 in
theorem c_WinterReader_adds (l : Launch) (G : GX) (z0 : St) (sz : Nat) (x1 : Int32) (post : Int32 → St → Prop) : MetI l wX yX10_adds cX10_adds 2 (some .boolean) ({ frames := 0, cells := 0, slots := 0, locals := 0 }) [.ref (ad G 4), .int x1] G z0 sz (S_WinterReader_adds post x1 z0) post := by
  refine Met.ofW (cc := cX10_adds) (maxL := 2) (ret := (some .boolean)) (by decide) rfl ?_
  intro p e s m args below meth c s₁ B hml hv
  obtain ⟨rfl, hsz, hP, hD0, hE, hB⟩ := hv
  have S : CallFix p m c cX10_adds 2 s _ GW RX10 := ⟨B.exec, B.bytes, hml, findClass_of_methodNamed B.named, fun w h => atoms_spec (ws := Cond.code yX10_adds cX10_adds 2 (some .boolean) :: GW) B.pre w (List.mem_cons_of_mem _ h)⟩
  have hlocks := B.notSynchronized
  subst hsz
  have hD := hD0.self (sz := s.heap.size)
  generalize hAe : va_A (wX G z0) s.heap.size = A at hD hE ⊢
  have hA : ∀ q : Nat, s.heap.size ≤ q → A q := fun q h => by rw [← hAe]; exact Or.inr h
  have hS : va_S A s.heap s.heap [] := va_S.rf
  have hl := lv_entry ([.ref (ad G 4), .int x1]) (n := 2) (Nat.le_of_ble_eq_true rfl)
  rw [lg_entry_eq]
  generalize (lg_sl ([.ref (ad G 4), .int x1]) ++ List.replicate (2 - (lg_sl ([.ref (ad G 4), .int x1])).length) Slot.unset).toArray = ls at hl ⊢
  have hl : lv_has ls 2 [(0, .ref (ad G 4)), (1, .int x1)] := hl
  refine w_WinterReader_adds_0 S hE hA (Nat.le_refl _) (Nat.le_refl _) ?_ x1 z0 hB _ _ _ hP hD hS hl
  intro pc ls r σ H locs hd hp hP hD hS
  exact W.zret (v := r) B.exec B.bytes B.returns (xboolc r hp.1) (fun t ht hW => ⟨⟨r, σ, rfl, hp.2, by rw [ht]; exact hP, hD⟩, hS.F ht⟩) hS.2.2 hd
def S_WinterReader_takesKind (post : Int32 → St → Prop) (x1 : Int32) (z0 : St) : Prop :=
  (5 < 8 ∧ (S_String_indexOf_0f7a4_X (fun (r1 : Int32) (z1 : St) => (∀ z2 : St, z2 = sI z1 21 r1 → (((gI z2 21) = (1 : Int32) → (S_WinterReader_adds (fun (r4 : Int32) (z4 : St) => ((r4 = 0 ∨ r4 = 1) ∧ post r4 z4)) (0 : Int32) z2)) ∧ (¬ (gI z2 21) = (1 : Int32) → (∀ z3 : St, z3 = sI z2 22 (1 : Int32) → (((gI z3 21) < 0 → (post (0 : Int32) z3)) ∧ (¬ (gI z3 21) < 0 → (post (1 : Int32) z3)))))))) 5 (((x1).toUInt32 % 65536).toInt32) z0))
set_option maxHeartbeats 4000000 in
set_option maxRecDepth 100000 in
theorem w_WinterReader_takesKind_0 {p : Program} {l : Launch} {e : Env} {R : Room} {s : State} {m : MethodId} {args : Array Value} {below : List Frame} {meth : Method} {c : Code} {Q : State → Prop} {G : GX} {A : Nat → Prop} (S : CallFix p m c cX10_takesKind 2 s args GW RX10) (hE : env G A s s.heap) (hA : ∀ q, s.heap.size ≤ q → A q) (hRf : 4 ≤ R.frames) (hRl : 91 ≤ R.locals) {post : Int32 → St → Prop} (hret : RetZ p l e R s m args below meth c Q 0 0 wX G A cX10_takesKind post) (x1 : Int32) (z0 : St) (hB : S_WinterReader_takesKind post x1 z0) : Xw p l e R s m args below meth c Q 0 0 wX G A z0 2 [(0, .ref (ad G 4)), (1, .int x1)] 0 [] := by
  intro H locs ls hP hD hS hl
  have hx := S.1
  have hb := S.2.1
  refine lv_aload_n hx hb dX10_takesKind_0 rfl (lv_at hl 0 rfl) ?_
  refine va_ldcS hx hb S.2.2.2.1 (es_X10_38 hE.2) dX10_takesKind_1 ?_
  refine lv_iload_n hx hb dX10_takesKind_3 rfl (lv_at hl 1 rfl) ?_
  refine lv_i2c hx hb dX10_takesKind_4 rfl ?_
  obtain ⟨hk9, hB⟩ := hB
  have hrv9 := vk_recv (eS hE.2) hk9 hS
  refine xcVi [.int (((x1).toUInt32 % 65536).toInt32)] S hE hA hP hD hS (c_String_indexOf_0f7a4_X l G z0 H.size 5 (((x1).toUInt32 % 65536).toInt32) _) hB (gw_c lk_X10_40 (gw_c wi_J0_indexOf_0f7a4 (gw_c we_J0_J0_indexOf_0f7a4_J0_indexOf_0f7a4 (gw_c wn_J0 (gw_c wc_J0_indexOf_0f7a4 (fun _ h9 => h9)))))) hd_J0_indexOf_0f7a4 rfl rfl (Nat.le_trans (Nat.le_of_ble_eq_true rfl) hRf) (Nat.le_trans (Nat.le_of_ble_eq_true rfl) hRl) ⟨Nat.zero_le _, Nat.zero_le _⟩ hrv9 rfl hl.1 rfl (Nat.le_of_ble_eq_true rfl) dX10_takesKind_5 (fun r1 z1 H locs hB hP hD hS => ?_)
  obtain ⟨z2, ez2⟩ : ∃ z9, z9 = sI z1 21 r1 := ⟨_, rfl⟩
  have hB := hB z2 ez2
  refine xXp_4_kind S hE hP hD hS lk_X10_46 dX10_takesKind_8 (fun H locs hP hD hS => ?_)
  rw [← ez2] at hP hD
  refine lv_aload_n hx hb dX10_takesKind_11 rfl (lv_at hl 0 rfl) ?_
  refine xXg_4_kind S hE hP lk_X10_46 dX10_takesKind_12 ?_
  refine lv_iconst (v := 1) hx hb dX10_takesKind_15 (by decide) ?_
  refine lv_icmp_ne (tgt := 25) hx hb dX10_takesKind_16 (by decide) (fun c2 => ?_) (fun c2 => ?_)
  · have hB := hB.2 c2
    refine lv_aload_n hx hb dX10_takesKind_25 rfl (lv_at hl 0 rfl) ?_
    refine lv_iconst (v := 1) hx hb dX10_takesKind_26 (by decide) ?_
    obtain ⟨z3, ez3⟩ : ∃ z9, z9 = sI z2 22 (1 : Int32) := ⟨_, rfl⟩
    have hB := hB z3 ez3
    refine xXp_4_awaits S hE hP hD hS lk_X10_19 dX10_takesKind_27 (fun H locs hP hD hS => ?_)
    rw [← ez3] at hP hD
    refine lv_aload_n hx hb dX10_takesKind_30 rfl (lv_at hl 0 rfl) ?_
    refine xXg_4_kind S hE hP lk_X10_46 dX10_takesKind_31 ?_
    refine lv_if_lt (tgt := 41) hx hb dX10_takesKind_34 (by decide) (fun c3 => ?_) (fun c3 => ?_)
    · have hB := hB.1 c3
      refine lv_iconst (v := 0) hx hb dX10_takesKind_41 (by decide) ?_
      exact hret _ _ _ _ _ _ dX10_takesKind_42 ⟨by decide, hB⟩ hP hD hS
    · have hB := hB.2 c3
      refine lv_iconst (v := 1) hx hb dX10_takesKind_37 (by decide) ?_
      refine lv_goto (tgt := 42) hx hb dX10_takesKind_38 (by decide) ?_
      exact hret _ _ _ _ _ _ dX10_takesKind_42 ⟨by decide, hB⟩ hP hD hS
  · have hB := hB.1 c2
    refine lv_aload_n hx hb dX10_takesKind_19 rfl (lv_at hl 0 rfl) ?_
    refine lv_iconst (v := 0) hx hb dX10_takesKind_20 (by decide) ?_
    refine xcVi [.int (0 : Int32)] S hE hA hP hD hS (c_WinterReader_adds l G z2 H.size (0 : Int32) _) hB (gw_c lk_X10_35 (gw_c wi_X10_adds (gw_c we_X10_X10_adds_X10_adds (gw_c wn_X10 (gw_c wc_X10_adds (fun _ h9 => h9)))))) hd_X10_adds rfl rfl (Nat.le_trans (Nat.le_of_ble_eq_true rfl) hRf) (Nat.le_trans (Nat.le_of_ble_eq_true rfl) hRl) ⟨Nat.zero_le _, Nat.zero_le _⟩ (va_recv hE.1 hP (ci := 9) (q0 := 4) rfl rfl) rfl hl.1 rfl (Nat.le_of_ble_eq_true rfl) dX10_takesKind_21 (fun r4 z4 H locs hB hP hD hS => ?_)
    exact hret _ _ _ _ _ _ dX10_takesKind_24 hB hP hD hS
set_option maxHeartbeats 4000000 in
set_option maxRecDepth 100000 in
theorem c_WinterReader_takesKind (l : Launch) (G : GX) (z0 : St) (sz : Nat) (x1 : Int32) (post : Int32 → St → Prop) : MetI l wX yX10_takesKind cX10_takesKind 2 (some .boolean) ({ frames := 4, cells := 0, slots := 0, locals := 91 }) [.ref (ad G 4), .int x1] G z0 sz (S_WinterReader_takesKind post x1 z0) post := by
  refine Met.ofW (cc := cX10_takesKind) (maxL := 2) (ret := (some .boolean)) (by decide) rfl ?_
  intro p e s m args below meth c s₁ B hml hv
  obtain ⟨rfl, hsz, hP, hD0, hE, hB⟩ := hv
  have S : CallFix p m c cX10_takesKind 2 s _ GW RX10 := ⟨B.exec, B.bytes, hml, findClass_of_methodNamed B.named, fun w h => atoms_spec (ws := Cond.code yX10_takesKind cX10_takesKind 2 (some .boolean) :: GW) B.pre w (List.mem_cons_of_mem _ h)⟩
  have hlocks := B.notSynchronized
  subst hsz
  have hD := hD0.self (sz := s.heap.size)
  generalize hAe : va_A (wX G z0) s.heap.size = A at hD hE ⊢
  have hA : ∀ q : Nat, s.heap.size ≤ q → A q := fun q h => by rw [← hAe]; exact Or.inr h
  have hS : va_S A s.heap s.heap [] := va_S.rf
  have hl := lv_entry ([.ref (ad G 4), .int x1]) (n := 2) (Nat.le_of_ble_eq_true rfl)
  rw [lg_entry_eq]
  generalize (lg_sl ([.ref (ad G 4), .int x1]) ++ List.replicate (2 - (lg_sl ([.ref (ad G 4), .int x1])).length) Slot.unset).toArray = ls at hl ⊢
  have hl : lv_has ls 2 [(0, .ref (ad G 4)), (1, .int x1)] := hl
  refine w_WinterReader_takesKind_0 S hE hA (Nat.le_refl _) (Nat.le_refl _) ?_ x1 z0 hB _ _ _ hP hD hS hl
  intro pc ls r σ H locs hd hp hP hD hS
  exact W.zret (v := r) B.exec B.bytes B.returns (xboolc r hp.1) (fun t ht hW => ⟨⟨r, σ, rfl, hp.2, by rw [ht]; exact hP, hD⟩, hS.F ht⟩) hS.2.2 hd
def S_WinterReader_takes (post : Int32 → St → Prop) (x1 : Int32) (x2 : Int32) (x3 : Int32) (z0 : St) : Prop :=
  (((gI z0 22) = 0 → (S_WinterReader_takesKind (fun (r9 : Int32) (z4 : St) => ((r9 = 0 ∨ r9 = 1) ∧ post r9 z4)) x1 z0)) ∧ (¬ (gI z0 22) = 0 → (((gI z0 22) = (1 : Int32) → (S_Reader_isDigit (fun (r5 : Int32) (z2 : St) => ((r5 = 0 → (post (0 : Int32) z2)) ∧ (¬ r5 = 0 → (S_WinterReader_adds (fun (r7 : Int32) (z3 : St) => ((r7 = 0 → (post (0 : Int32) z3)) ∧ (¬ r7 = 0 → (post (1 : Int32) z3)))) (x1 - (48 : Int32)) z2)))) x1 z0)) ∧ (¬ (gI z0 22) = (1 : Int32) → (∀ z1 : St, z1 = sI z0 22 (0 : Int32) → ((x1 = (59 : Int32) → (((16 : Int32) ≤ (gI z1 20) → (post (0 : Int32) z1)) ∧ (¬ (16 : Int32) ≤ (gI z1 20) → (post (1 : Int32) z1)))) ∧ (¬ x1 = (59 : Int32) → (post (0 : Int32) z1))))))))
set_option maxHeartbeats 4000000 in
set_option maxRecDepth 100000 in
theorem w_WinterReader_takes_0 {p : Program} {l : Launch} {e : Env} {R : Room} {s : State} {m : MethodId} {args : Array Value} {below : List Frame} {meth : Method} {c : Code} {Q : State → Prop} {G : GX} {A : Nat → Prop} (S : CallFix p m c cX10_takes 4 s args GW RX10) (hE : env G A s s.heap) (hA : ∀ q, s.heap.size ≤ q → A q) (hRf : 5 ≤ R.frames) (hRl : 112 ≤ R.locals) {post : Int32 → St → Prop} (hret : RetZ p l e R s m args below meth c Q 0 0 wX G A cX10_takes post) (x1 : Int32) (x2 : Int32) (x3 : Int32) (z0 : St) (hB : S_WinterReader_takes post x1 x2 x3 z0) : Xw p l e R s m args below meth c Q 0 0 wX G A z0 4 [(0, .ref (ad G 4)), (1, .int x1), (2, .int x2), (3, .int x3)] 0 [] := by
  intro H locs ls hP hD hS hl
  have hx := S.1
  have hb := S.2.1
  refine lv_aload_n hx hb dX10_takes_0 rfl (lv_at hl 0 rfl) ?_
  refine xXg_4_awaits S hE hP lk_X10_19 dX10_takes_1 ?_
  refine lv_if_ne (tgt := 13) hx hb dX10_takes_4 (by decide) (fun c1 => ?_) (fun c1 => ?_)
  · have hB := hB.2 c1
    refine lv_aload_n hx hb dX10_takes_13 rfl (lv_at hl 0 rfl) ?_
    refine xXg_4_awaits S hE hP lk_X10_19 dX10_takes_14 ?_
    refine lv_iconst (v := 1) hx hb dX10_takes_17 (by decide) ?_
    refine lv_icmp_ne (tgt := 45) hx hb dX10_takes_18 (by decide) (fun c2 => ?_) (fun c2 => ?_)
    · have hB := hB.2 c2
      refine lv_aload_n hx hb dX10_takes_45 rfl (lv_at hl 0 rfl) ?_
      refine lv_iconst (v := 0) hx hb dX10_takes_46 (by decide) ?_
      obtain ⟨z1, ez1⟩ : ∃ z9, z9 = sI z0 22 (0 : Int32) := ⟨_, rfl⟩
      have hB := hB z1 ez1
      refine xXp_4_awaits S hE hP hD hS lk_X10_19 dX10_takes_47 (fun H locs hP hD hS => ?_)
      rw [← ez1] at hP hD
      refine lv_iload_n hx hb dX10_takes_50 rfl (lv_at hl 1 rfl) ?_
      refine lv_bipush (v := 59) hx hb dX10_takes_51 (by decide) ?_
      refine lv_icmp_ne (tgt := 69) hx hb dX10_takes_53 (by decide) (fun c3 => ?_) (fun c3 => ?_)
      · have hB := hB.2 c3
        refine lv_iconst (v := 0) hx hb dX10_takes_69 (by decide) ?_
        exact hret _ _ _ _ _ _ dX10_takes_70 ⟨by decide, hB⟩ hP hD hS
      · have hB := hB.1 c3
        refine lv_aload_n hx hb dX10_takes_56 rfl (lv_at hl 0 rfl) ?_
        refine xXg_4_length S hE hP lk_X10_15 dX10_takes_57 ?_
        refine lv_bipush (v := 16) hx hb dX10_takes_60 (by decide) ?_
        refine lv_icmp_ge (tgt := 69) hx hb dX10_takes_62 (by decide) (fun c4 => ?_) (fun c4 => ?_)
        · have hB := hB.1 c4
          refine lv_iconst (v := 0) hx hb dX10_takes_69 (by decide) ?_
          exact hret _ _ _ _ _ _ dX10_takes_70 ⟨by decide, hB⟩ hP hD hS
        · have hB := hB.2 c4
          refine lv_iconst (v := 1) hx hb dX10_takes_65 (by decide) ?_
          refine lv_goto (tgt := 70) hx hb dX10_takes_66 (by decide) ?_
          exact hret _ _ _ _ _ _ dX10_takes_70 ⟨by decide, hB⟩ hP hD hS
    · have hB := hB.1 c2
      refine lv_iload_n hx hb dX10_takes_21 rfl (lv_at hl 1 rfl) ?_
      refine xcTi (x := ⟨RX10, "isDigit", "(I)Z"⟩) (owner := RX5) [.int x1] S hE hA hP hD hS (c_Reader_isDigit l G z0 H.size x1 _) hB (gw_c lk_X10_32 (gw_c wm_X10_X5_isDigit_I_Z (gw_c wt_X5_isDigit (gw_c wn_X5 (gw_c wc_X5_isDigit (fun _ h9 => h9)))))) rfl hs_X5_isDigit rfl rfl (Nat.le_trans (Nat.le_of_ble_eq_true rfl) hRf) (Nat.le_trans (Nat.le_of_ble_eq_true rfl) hRl) ⟨Nat.zero_le _, Nat.zero_le _⟩ rfl hl.1 rfl (Nat.le_of_ble_eq_true rfl) dX10_takes_22 (fun r5 z2 H locs hB hP hD hS => ?_)
      refine lv_if_eq (tgt := 43) hx hb dX10_takes_25 (by decide) (fun c6 => ?_) (fun c6 => ?_)
      · have hB := hB.1 c6
        refine lv_iconst (v := 0) hx hb dX10_takes_43 (by decide) ?_
        exact hret _ _ _ _ _ _ dX10_takes_44 ⟨by decide, hB⟩ hP hD hS
      · have hB := hB.2 c6
        refine lv_aload_n hx hb dX10_takes_28 rfl (lv_at hl 0 rfl) ?_
        refine lv_iload_n hx hb dX10_takes_29 rfl (lv_at hl 1 rfl) ?_
        refine lv_bipush (v := 48) hx hb dX10_takes_30 (by decide) ?_
        refine lv_isub hx hb dX10_takes_32 ?_
        refine xcVi [.int (x1 - (48 : Int32))] S hE hA hP hD hS (c_WinterReader_adds l G z2 H.size (x1 - (48 : Int32)) _) hB (gw_c lk_X10_35 (gw_c wi_X10_adds (gw_c we_X10_X10_adds_X10_adds (gw_c wn_X10 (gw_c wc_X10_adds (fun _ h9 => h9)))))) hd_X10_adds rfl rfl (Nat.le_trans (Nat.le_of_ble_eq_true rfl) hRf) (Nat.le_trans (Nat.le_of_ble_eq_true rfl) hRl) ⟨Nat.zero_le _, Nat.zero_le _⟩ (va_recv hE.1 hP (ci := 9) (q0 := 4) rfl rfl) rfl hl.1 rfl (Nat.le_of_ble_eq_true rfl) dX10_takes_33 (fun r7 z3 H locs hB hP hD hS => ?_)
        refine lv_if_eq (tgt := 43) hx hb dX10_takes_36 (by decide) (fun c8 => ?_) (fun c8 => ?_)
        · have hB := hB.1 c8
          refine lv_iconst (v := 0) hx hb dX10_takes_43 (by decide) ?_
          exact hret _ _ _ _ _ _ dX10_takes_44 ⟨by decide, hB⟩ hP hD hS
        · have hB := hB.2 c8
          refine lv_iconst (v := 1) hx hb dX10_takes_39 (by decide) ?_
          refine lv_goto (tgt := 44) hx hb dX10_takes_40 (by decide) ?_
          exact hret _ _ _ _ _ _ dX10_takes_44 ⟨by decide, hB⟩ hP hD hS
  · have hB := hB.1 c1
    refine lv_aload_n hx hb dX10_takes_7 rfl (lv_at hl 0 rfl) ?_
    refine lv_iload_n hx hb dX10_takes_8 rfl (lv_at hl 1 rfl) ?_
    refine xcVi [.int x1] S hE hA hP hD hS (c_WinterReader_takesKind l G z0 H.size x1 _) hB (gw_c lk_X10_28 (gw_c wi_X10_takesKind (gw_c we_X10_X10_takesKind_X10_takesKind (gw_c wn_X10 (gw_c wc_X10_takesKind (fun _ h9 => h9)))))) hd_X10_takesKind rfl rfl (Nat.le_trans (Nat.le_of_ble_eq_true rfl) hRf) (Nat.le_trans (Nat.le_of_ble_eq_true rfl) hRl) ⟨Nat.zero_le _, Nat.zero_le _⟩ (va_recv hE.1 hP (ci := 9) (q0 := 4) rfl rfl) rfl hl.1 rfl (Nat.le_of_ble_eq_true rfl) dX10_takes_9 (fun r9 z4 H locs hB hP hD hS => ?_)
    exact hret _ _ _ _ _ _ dX10_takes_12 hB hP hD hS
set_option maxHeartbeats 4000000 in
set_option maxRecDepth 100000 in
theorem c_WinterReader_takes (l : Launch) (G : GX) (z0 : St) (sz : Nat) (x1 : Int32) (x2 : Int32) (x3 : Int32) (post : Int32 → St → Prop) : MetI l wX yX10_takes cX10_takes 4 (some .boolean) ({ frames := 5, cells := 0, slots := 0, locals := 112 }) [.ref (ad G 4), .int x1, .int x2, .int x3] G z0 sz (S_WinterReader_takes post x1 x2 x3 z0) post := by
  refine Met.ofW (cc := cX10_takes) (maxL := 4) (ret := (some .boolean)) (by decide) rfl ?_
  intro p e s m args below meth c s₁ B hml hv
  obtain ⟨rfl, hsz, hP, hD0, hE, hB⟩ := hv
  have S : CallFix p m c cX10_takes 4 s _ GW RX10 := ⟨B.exec, B.bytes, hml, findClass_of_methodNamed B.named, fun w h => atoms_spec (ws := Cond.code yX10_takes cX10_takes 4 (some .boolean) :: GW) B.pre w (List.mem_cons_of_mem _ h)⟩
  have hlocks := B.notSynchronized
  subst hsz
  have hD := hD0.self (sz := s.heap.size)
  generalize hAe : va_A (wX G z0) s.heap.size = A at hD hE ⊢
  have hA : ∀ q : Nat, s.heap.size ≤ q → A q := fun q h => by rw [← hAe]; exact Or.inr h
  have hS : va_S A s.heap s.heap [] := va_S.rf
  have hl := lv_entry ([.ref (ad G 4), .int x1, .int x2, .int x3]) (n := 4) (Nat.le_of_ble_eq_true rfl)
  rw [lg_entry_eq]
  generalize (lg_sl ([.ref (ad G 4), .int x1, .int x2, .int x3]) ++ List.replicate (4 - (lg_sl ([.ref (ad G 4), .int x1, .int x2, .int x3])).length) Slot.unset).toArray = ls at hl ⊢
  have hl : lv_has ls 4 [(0, .ref (ad G 4)), (1, .int x1), (2, .int x2), (3, .int x3)] := hl
  refine w_WinterReader_takes_0 S hE hA (Nat.le_refl _) (Nat.le_refl _) ?_ x1 x2 x3 z0 hB _ _ _ hP hD hS hl
  intro pc ls r σ H locs hd hp hP hD hS
  exact W.zret (v := r) B.exec B.bytes B.returns (xboolc r hp.1) (fun t ht hW => ⟨⟨r, σ, rfl, hp.2, by rw [ht]; exact hP, hD⟩, hS.F ht⟩) hS.2.2 hd
def B_Reader_faultOf_4_r1_61 (post : Int32 → St → Prop) (ih8 : Int32 → Int32 → St → Prop) (x3 : Int32) (s0 : Int32) (z0 : St) : Prop :=
  (∀ v1 : Int32, v1 = x3 + (1 : Int32) → (ih8 s0 v1 z0))
set_option maxHeartbeats 4000000 in
set_option maxRecDepth 100000 in
theorem w_Reader_faultOf_4_r1_61 {p : Program} {l : Launch} {e : Env} {R : Room} {s : State} {m : MethodId} {args : Array Value} {below : List Frame} {meth : Method} {c : Code} {Q : State → Prop} {G : GX} {A : Nat → Prop} (S : CallFix p m c cX5_faultOf 5 s args GW RX5) (hE : env G A s s.heap) (hA : ∀ q, s.heap.size ≤ q → A q) (hRf : 6 ≤ R.frames) (hRl : 135 ≤ R.locals) {post : Int32 → St → Prop} (hret : RetI p l e R s m args below meth c Q 0 0 wX G A cX5_faultOf post) {ih8 : Int32 → Int32 → St → Prop} (h8 : ∀ (x2 : Int32) (x3 : Int32) (z0 : St), ih8 x2 x3 z0 → Xw p l e R s m args below meth c Q 0 0 wX G A z0 5 [(0, .ref (ad G 4)), (1, .ref (ad G 1)), (2, .int x2), (3, .int x3)] 8 []) (x3 : Int32) (s0 : Int32) (z0 : St) (hB : B_Reader_faultOf_4_r1_61 post ih8 x3 s0 z0) : Xw p l e R s m args below meth c Q 0 0 wX G A z0 5 [(0, .ref (ad G 4)), (1, .ref (ad G 1)), (3, .int x3)] 61 [.int s0] := by
  intro H locs ls hP hD hS hl
  have hx := S.1
  have hb := S.2.1
  refine lv_istore_n (lv' := [(2, .int s0), (0, .ref (ad G 4)), (1, .ref (ad G 1)), (3, .int x3)]) hx hb dX5_faultOf_61 rfl hl (by decide) rfl (fun ls hl => ?_)
  obtain ⟨v1, ev1⟩ : ∃ y9, y9 = x3 + (1 : Int32) := ⟨_, rfl⟩
  have hB := hB v1 ev1
  refine lv_iinc (v := v1) (lv' := [(3, .int v1), (2, .int s0), (0, .ref (ad G 4)), (1, .ref (ad G 1))]) hx hb dX5_faultOf_62 hl (k := 3) rfl (by rw [ev1]; rfl) (by decide) rfl (fun ls hl => ?_)
  refine lv_goto (tgt := 8) hx hb dX5_faultOf_65 (by decide) ?_
  exact h8 s0 v1 z0 hB _ _ _ hP hD hS (lv_sub hl [2, 3, 1, 0] rfl)
def B_Reader_faultOf_4_r1_49 (post : Int32 → St → Prop) (ih8 : Int32 → Int32 → St → Prop) (x3 : Int32) (x4 : Int32) (z0 : St) : Prop :=
  ((x4 = (32 : Int32) → (B_Reader_faultOf_4_r1_61 post ih8 x3 (0 : Int32) z0)) ∧ (¬ x4 = (32 : Int32) → (B_Reader_faultOf_4_r1_61 post ih8 x3 (1 : Int32) z0)))
set_option maxHeartbeats 4000000 in
set_option maxRecDepth 100000 in
theorem w_Reader_faultOf_4_r1_49 {p : Program} {l : Launch} {e : Env} {R : Room} {s : State} {m : MethodId} {args : Array Value} {below : List Frame} {meth : Method} {c : Code} {Q : State → Prop} {G : GX} {A : Nat → Prop} (S : CallFix p m c cX5_faultOf 5 s args GW RX5) (hE : env G A s s.heap) (hA : ∀ q, s.heap.size ≤ q → A q) (hRf : 6 ≤ R.frames) (hRl : 135 ≤ R.locals) {post : Int32 → St → Prop} (hret : RetI p l e R s m args below meth c Q 0 0 wX G A cX5_faultOf post) {ih8 : Int32 → Int32 → St → Prop} (h8 : ∀ (x2 : Int32) (x3 : Int32) (z0 : St), ih8 x2 x3 z0 → Xw p l e R s m args below meth c Q 0 0 wX G A z0 5 [(0, .ref (ad G 4)), (1, .ref (ad G 1)), (2, .int x2), (3, .int x3)] 8 []) (x3 : Int32) (x4 : Int32) (z0 : St) (hB : B_Reader_faultOf_4_r1_49 post ih8 x3 x4 z0) : Xw p l e R s m args below meth c Q 0 0 wX G A z0 5 [(0, .ref (ad G 4)), (1, .ref (ad G 1)), (3, .int x3), (4, .int x4)] 49 [] := by
  intro H locs ls hP hD hS hl
  have hx := S.1
  have hb := S.2.1
  refine lv_iload hx hb dX5_faultOf_49 (lv_at hl 3 rfl) ?_
  refine lv_bipush (v := 32) hx hb dX5_faultOf_51 (by decide) ?_
  refine lv_icmp_eq (tgt := 60) hx hb dX5_faultOf_53 (by decide) (fun c1 => ?_) (fun c1 => ?_)
  · have hB := hB.1 c1
    refine lv_iconst (v := 0) hx hb dX5_faultOf_60 (by decide) ?_
    exact w_Reader_faultOf_4_r1_61 S hE hA hRf hRl hret h8 x3 (0 : Int32) z0 hB _ _ _ hP hD hS (lv_sub hl [0, 1, 2] rfl)
  · have hB := hB.2 c1
    refine lv_iconst (v := 1) hx hb dX5_faultOf_56 (by decide) ?_
    refine lv_goto (tgt := 61) hx hb dX5_faultOf_57 (by decide) ?_
    exact w_Reader_faultOf_4_r1_61 S hE hA hRf hRl hret h8 x3 (1 : Int32) z0 hB _ _ _ hP hD hS (lv_sub hl [0, 1, 2] rfl)
def B_Reader_faultOf_4_r1_8 (post : Int32 → St → Prop) (ih8 : Int32 → Int32 → St → Prop) (x2 : Int32) (x3 : Int32) (z0 : St) : Prop :=
  (((gI z0 2) ≤ x3 → (S_WinterReader_closes (fun (r2 : Int32) (z1 : St) => ((r2 = 0 → (post (gI z1 2) z1)) ∧ (¬ r2 = 0 → (post (-1 : Int32) z1)))) z0)) ∧ (¬ (gI z0 2) ≤ x3 → (S_Tape_signAt (fun (r4 : Int32) (z2 : St) => ((r4 = (32 : Int32) → (B_Reader_faultOf_4_r1_49 post ih8 x3 r4 z2)) ∧ (¬ r4 = (32 : Int32) → (S_Tape_signAt (fun (r6 : Int32) (z3 : St) => (S_WinterReader_takes (fun (r7 : Int32) (z4 : St) => ((r7 = 0 → (post x3 z4)) ∧ (¬ r7 = 0 → (B_Reader_faultOf_4_r1_49 post ih8 x3 r4 z4)))) r4 r6 x2 z3)) (x3 + (1 : Int32)) z2)))) x3 z0)))
set_option maxHeartbeats 4000000 in
set_option maxRecDepth 100000 in
theorem w_Reader_faultOf_4_r1_8 {p : Program} {l : Launch} {e : Env} {R : Room} {s : State} {m : MethodId} {args : Array Value} {below : List Frame} {meth : Method} {c : Code} {Q : State → Prop} {G : GX} {A : Nat → Prop} (S : CallFix p m c cX5_faultOf 5 s args GW RX5) (hE : env G A s s.heap) (hA : ∀ q, s.heap.size ≤ q → A q) (hRf : 6 ≤ R.frames) (hRl : 135 ≤ R.locals) {post : Int32 → St → Prop} (hret : RetI p l e R s m args below meth c Q 0 0 wX G A cX5_faultOf post) {ih8 : Int32 → Int32 → St → Prop} (h8 : ∀ (x2 : Int32) (x3 : Int32) (z0 : St), ih8 x2 x3 z0 → Xw p l e R s m args below meth c Q 0 0 wX G A z0 5 [(0, .ref (ad G 4)), (1, .ref (ad G 1)), (2, .int x2), (3, .int x3)] 8 []) (x2 : Int32) (x3 : Int32) (z0 : St) (hB : B_Reader_faultOf_4_r1_8 post ih8 x2 x3 z0) : Xw p l e R s m args below meth c Q 0 0 wX G A z0 5 [(0, .ref (ad G 4)), (1, .ref (ad G 1)), (2, .int x2), (3, .int x3)] 8 [] := by
  intro H locs ls hP hD hS hl
  have hx := S.1
  have hb := S.2.1
  refine lv_iload_n hx hb dX5_faultOf_8 rfl (lv_at hl 3 rfl) ?_
  refine lv_aload_n hx hb dX5_faultOf_9 rfl (lv_at hl 1 rfl) ?_
  refine xXg_1_length S hE hP lk_X5_14 dX5_faultOf_10 ?_
  refine lv_icmp_ge (tgt := 68) hx hb dX5_faultOf_13 (by decide) (fun c1 => ?_) (fun c1 => ?_)
  · have hB := hB.1 c1
    refine lv_aload_n hx hb dX5_faultOf_68 rfl (lv_at hl 0 rfl) ?_
    refine xcAi (x := ⟨RX5, "closes", "()Z"⟩) (owner := RX5) (C := RX10) [] S hE hA hP hD hS (c_WinterReader_closes l G z0 H.size _) hB (gw_c lk_X5_28 (gw_c wm_X5_X5_closes__Z (gw_c we_X10_X5_closes___Z_X10_closes (gw_c wi_X10_closes (gw_c wn_X10 (gw_c wc_X10_closes (fun _ h9 => h9))))))) (ed_closes hE.2) hu_X5_closes___Z rfl rfl (Nat.le_trans (Nat.le_of_ble_eq_true rfl) hRf) (Nat.le_trans (Nat.le_of_ble_eq_true rfl) hRl) ⟨Nat.zero_le _, Nat.zero_le _⟩ (va_recv hE.1 hP (ci := 9) (q0 := 4) rfl rfl) rfl hl.1 rfl (Nat.le_of_ble_eq_true rfl) dX5_faultOf_69 (fun r2 z1 H locs hB hP hD hS => ?_)
    refine lv_if_eq (tgt := 79) hx hb dX5_faultOf_72 (by decide) (fun c3 => ?_) (fun c3 => ?_)
    · have hB := hB.1 c3
      refine lv_aload_n hx hb dX5_faultOf_79 rfl (lv_at hl 1 rfl) ?_
      refine xXg_1_length S hE hP lk_X5_14 dX5_faultOf_80 ?_
      exact hret _ _ _ _ _ _ dX5_faultOf_83 hB hP hD hS
    · have hB := hB.2 c3
      refine lv_iconst (v := -1) hx hb dX5_faultOf_75 (by decide) ?_
      refine lv_goto (tgt := 83) hx hb dX5_faultOf_76 (by decide) ?_
      exact hret _ _ _ _ _ _ dX5_faultOf_83 hB hP hD hS
  · have hB := hB.2 c1
    refine lv_aload_n hx hb dX5_faultOf_16 rfl (lv_at hl 1 rfl) ?_
    refine lv_iload_n hx hb dX5_faultOf_17 rfl (lv_at hl 3 rfl) ?_
    refine xcVi [.int x3] S hE hA hP hD hS (c_Tape_signAt l G z0 H.size x3 _) hB (gw_c lk_X5_20 (gw_c wi_X9_signAt (gw_c we_X9_X9_signAt_X9_signAt (gw_c wn_X9 (gw_c wc_X9_signAt (fun _ h9 => h9)))))) hd_X9_signAt rfl rfl (Nat.le_trans (Nat.le_of_ble_eq_true rfl) hRf) (Nat.le_trans (Nat.le_of_ble_eq_true rfl) hRl) ⟨Nat.zero_le _, Nat.zero_le _⟩ (va_recv hE.1 hP (ci := 8) (q0 := 1) rfl rfl) rfl hl.1 rfl (Nat.le_of_ble_eq_true rfl) dX5_faultOf_18 (fun r4 z2 H locs hB hP hD hS => ?_)
    refine lv_istore (lv' := [(4, .int r4), (0, .ref (ad G 4)), (1, .ref (ad G 1)), (2, .int x2), (3, .int x3)]) hx hb dX5_faultOf_21 hl (by decide) rfl (fun ls hl => ?_)
    refine lv_iload hx hb dX5_faultOf_23 (lv_at hl 0 rfl) ?_
    refine lv_bipush (v := 32) hx hb dX5_faultOf_25 (by decide) ?_
    refine lv_icmp_eq (tgt := 49) hx hb dX5_faultOf_27 (by decide) (fun c5 => ?_) (fun c5 => ?_)
    · have hB := hB.1 c5
      exact w_Reader_faultOf_4_r1_49 S hE hA hRf hRl hret h8 x3 r4 z2 hB _ _ _ hP hD hS (lv_sub hl [1, 2, 4, 0] rfl)
    · have hB := hB.2 c5
      refine lv_aload_n hx hb dX5_faultOf_30 rfl (lv_at hl 1 rfl) ?_
      refine lv_iload hx hb dX5_faultOf_31 (lv_at hl 0 rfl) ?_
      refine lv_aload_n hx hb dX5_faultOf_33 rfl (lv_at hl 2 rfl) ?_
      refine lv_iload_n hx hb dX5_faultOf_34 rfl (lv_at hl 4 rfl) ?_
      refine lv_iconst (v := 1) hx hb dX5_faultOf_35 (by decide) ?_
      refine lv_iadd hx hb dX5_faultOf_36 ?_
      refine xcVi [.int (x3 + (1 : Int32))] S hE hA hP hD hS (c_Tape_signAt l G z2 H.size (x3 + (1 : Int32)) _) hB (gw_c lk_X5_20 (gw_c wi_X9_signAt (gw_c we_X9_X9_signAt_X9_signAt (gw_c wn_X9 (gw_c wc_X9_signAt (fun _ h9 => h9)))))) hd_X9_signAt rfl rfl (Nat.le_trans (Nat.le_of_ble_eq_true rfl) hRf) (Nat.le_trans (Nat.le_of_ble_eq_true rfl) hRl) ⟨Nat.zero_le _, Nat.zero_le _⟩ (va_recv hE.1 hP (ci := 8) (q0 := 1) rfl rfl) rfl hl.1 rfl (Nat.le_of_ble_eq_true rfl) dX5_faultOf_37 (fun r6 z3 H locs hB hP hD hS => ?_)
      refine lv_iload_n hx hb dX5_faultOf_40 rfl (lv_at hl 3 rfl) ?_
      refine xcAi (x := ⟨RX5, "takes", "(IIZ)Z"⟩) (owner := RX5) (C := RX10) [.int r4, .int r6, .int x2] S hE hA hP hD hS (c_WinterReader_takes l G z3 H.size r4 r6 x2 _) hB (gw_c lk_X5_24 (gw_c wm_X5_X5_takes_IIZ_Z (gw_c we_X10_X5_takes__IIZ_Z_X10_takes (gw_c wi_X10_takes (gw_c wn_X10 (gw_c wc_X10_takes (fun _ h9 => h9))))))) (ed_takes hE.2) hu_X5_takes__IIZ_Z rfl rfl (Nat.le_trans (Nat.le_of_ble_eq_true rfl) hRf) (Nat.le_trans (Nat.le_of_ble_eq_true rfl) hRl) ⟨Nat.zero_le _, Nat.zero_le _⟩ (va_recv hE.1 hP (ci := 9) (q0 := 4) rfl rfl) rfl hl.1 rfl (Nat.le_of_ble_eq_true rfl) dX5_faultOf_41 (fun r7 z4 H locs hB hP hD hS => ?_)
      refine lv_if_ne (tgt := 49) hx hb dX5_faultOf_44 (by decide) (fun c8 => ?_) (fun c8 => ?_)
      · have hB := hB.2 c8
        exact w_Reader_faultOf_4_r1_49 S hE hA hRf hRl hret h8 x3 r4 z4 hB _ _ _ hP hD hS (lv_sub hl [1, 2, 4, 0] rfl)
      · have hB := hB.1 c8
        refine lv_iload_n hx hb dX5_faultOf_47 rfl (lv_at hl 4 rfl) ?_
        exact hret _ _ _ _ _ _ dX5_faultOf_48 hB hP hD hS
def L_Reader_faultOf_4_r1_8 (post : Int32 → St → Prop) : Nat → Int32 → Int32 → St → Prop
  | 0 => fun _ _ _ => False
  | n + 1 => B_Reader_faultOf_4_r1_8 post (L_Reader_faultOf_4_r1_8 post n)
theorem wl_Reader_faultOf_4_r1_8 {p : Program} {l : Launch} {e : Env} {R : Room} {s : State} {m : MethodId} {args : Array Value} {below : List Frame} {meth : Method} {c : Code} {Q : State → Prop} {G : GX} {A : Nat → Prop} (S : CallFix p m c cX5_faultOf 5 s args GW RX5) (hE : env G A s s.heap) (hA : ∀ q, s.heap.size ≤ q → A q) (hRf : 6 ≤ R.frames) (hRl : 135 ≤ R.locals) {post : Int32 → St → Prop} (hret : RetI p l e R s m args below meth c Q 0 0 wX G A cX5_faultOf post) : ∀ (n : Nat) (x2 : Int32) (x3 : Int32) (z0 : St), L_Reader_faultOf_4_r1_8 post n x2 x3 z0 → Xw p l e R s m args below meth c Q 0 0 wX G A z0 5 [(0, .ref (ad G 4)), (1, .ref (ad G 1)), (2, .int x2), (3, .int x3)] 8 [] := by
  intro n
  induction n with
  | zero => intro x2 x3 z0 hB; exact absurd hB id
  | succ n ih => exact fun x2 x3 z0 hB => w_Reader_faultOf_4_r1_8 S hE hA hRf hRl hret ih x2 x3 z0 hB
def S_Reader_faultOf_4_r1 (post : Int32 → St → Prop) (z0 : St) : Prop :=
  (S_WinterReader_start (fun (z1 : St) => (∃ n1, L_Reader_faultOf_4_r1_8 post n1 (0 : Int32) (0 : Int32) z1)) z0)
set_option maxHeartbeats 4000000 in
set_option maxRecDepth 100000 in
theorem w_Reader_faultOf_4_r1_0 {p : Program} {l : Launch} {e : Env} {R : Room} {s : State} {m : MethodId} {args : Array Value} {below : List Frame} {meth : Method} {c : Code} {Q : State → Prop} {G : GX} {A : Nat → Prop} (S : CallFix p m c cX5_faultOf 5 s args GW RX5) (hE : env G A s s.heap) (hA : ∀ q, s.heap.size ≤ q → A q) (hRf : 6 ≤ R.frames) (hRl : 135 ≤ R.locals) {post : Int32 → St → Prop} (hret : RetI p l e R s m args below meth c Q 0 0 wX G A cX5_faultOf post) (z0 : St) (hB : S_Reader_faultOf_4_r1 post z0) : Xw p l e R s m args below meth c Q 0 0 wX G A z0 5 [(0, .ref (ad G 4)), (1, .ref (ad G 1))] 0 [] := by
  intro H locs ls hP hD hS hl
  have hx := S.1
  have hb := S.2.1
  refine lv_aload_n hx hb dX5_faultOf_0 rfl (lv_at hl 0 rfl) ?_
  refine xcAv (x := ⟨RX5, "start", "()V"⟩) (owner := RX5) (C := RX10) [] S hE hA hP hD hS (c_WinterReader_start l G z0 H.size _) hB (gw_c lk_X5_9 (gw_c wm_X5_X5_start__V (gw_c we_X10_X5_start___V_X10_start (gw_c wi_X10_start (gw_c wn_X10 (gw_c wc_X10_start (fun _ h9 => h9))))))) (ed_start hE.2) hu_X5_start___V rfl rfl (Nat.le_trans (Nat.le_of_ble_eq_true rfl) hRf) (Nat.le_trans (Nat.le_of_ble_eq_true rfl) hRl) ⟨Nat.zero_le _, Nat.zero_le _⟩ (va_recv hE.1 hP (ci := 9) (q0 := 4) rfl rfl) rfl hl.1 rfl (Nat.le_of_ble_eq_true rfl) dX5_faultOf_1 (fun z1 H locs hB hP hD hS => ?_)
  refine lv_iconst (v := 0) hx hb dX5_faultOf_4 (by decide) ?_
  refine lv_istore_n (lv' := [(2, .int (0 : Int32)), (0, .ref (ad G 4)), (1, .ref (ad G 1))]) hx hb dX5_faultOf_5 rfl hl (by decide) rfl (fun ls hl => ?_)
  refine lv_iconst (v := 0) hx hb dX5_faultOf_6 (by decide) ?_
  refine lv_istore_n (lv' := [(3, .int (0 : Int32)), (2, .int (0 : Int32)), (0, .ref (ad G 4)), (1, .ref (ad G 1))]) hx hb dX5_faultOf_7 rfl hl (by decide) rfl (fun ls hl => ?_)
  obtain ⟨n1, hB⟩ := hB
  exact wl_Reader_faultOf_4_r1_8 S hE hA hRf hRl hret n1 (0 : Int32) (0 : Int32) z1 hB _ _ _ hP hD hS (lv_sub hl [2, 3, 1, 0] rfl)
set_option maxHeartbeats 4000000 in
set_option maxRecDepth 100000 in
theorem c_Reader_faultOf_4_r1 (l : Launch) (G : GX) (z0 : St) (sz : Nat) (post : Int32 → St → Prop) : MetI l wX yX5_faultOf cX5_faultOf 5 (some .int) ({ frames := 6, cells := 0, slots := 0, locals := 135 }) [.ref (ad G 4), .ref (ad G 1)] G z0 sz (S_Reader_faultOf_4_r1 post z0) post := by
  refine Met.ofW (cc := cX5_faultOf) (maxL := 5) (ret := (some .int)) (by decide) rfl ?_
  intro p e s m args below meth c s₁ B hml hv
  obtain ⟨rfl, hsz, hP, hD0, hE, hB⟩ := hv
  have S : CallFix p m c cX5_faultOf 5 s _ GW RX5 := ⟨B.exec, B.bytes, hml, findClass_of_methodNamed B.named, fun w h => atoms_spec (ws := Cond.code yX5_faultOf cX5_faultOf 5 (some .int) :: GW) B.pre w (List.mem_cons_of_mem _ h)⟩
  have hlocks := B.notSynchronized
  subst hsz
  have hD := hD0.self (sz := s.heap.size)
  generalize hAe : va_A (wX G z0) s.heap.size = A at hD hE ⊢
  have hA : ∀ q : Nat, s.heap.size ≤ q → A q := fun q h => by rw [← hAe]; exact Or.inr h
  have hS : va_S A s.heap s.heap [] := va_S.rf
  have hl := lv_entry ([.ref (ad G 4), .ref (ad G 1)]) (n := 5) (Nat.le_of_ble_eq_true rfl)
  rw [lg_entry_eq]
  generalize (lg_sl ([.ref (ad G 4), .ref (ad G 1)]) ++ List.replicate (5 - (lg_sl ([.ref (ad G 4), .ref (ad G 1)])).length) Slot.unset).toArray = ls at hl ⊢
  have hl : lv_has ls 5 [(0, .ref (ad G 4)), (1, .ref (ad G 1))] := hl
  refine w_Reader_faultOf_4_r1_0 S hE hA (Nat.le_refl _) (Nat.le_refl _) ?_  z0 hB _ _ _ hP hD hS hl
  intro pc ls r σ H locs hd hp hP hD hS
  exact W.iret (v := r) B.exec B.bytes B.returns (fun t ht hW => ⟨⟨r, σ, rfl, hp, by rw [ht]; exact hP, hD⟩, hS.F ht⟩) hS.2.2 hd
def S_B_fault_v2 (post : Int32 → St → Prop) (x1 : Int32) (z0 : St) : Prop :=
  (S_B_readerOf_v2 (fun (z1 : St) => (S_Reader_faultOf_4_r1 (fun (r1 : Int32) (z2 : St) => (post r1 z2)) z1)) x1 z0)
set_option maxHeartbeats 4000000 in
set_option maxRecDepth 100000 in
theorem w_B_fault_v2_0 {p : Program} {l : Launch} {e : Env} {R : Room} {s : State} {m : MethodId} {args : Array Value} {below : List Frame} {meth : Method} {c : Code} {Q : State → Prop} {G : GX} {A : Nat → Prop} (S : CallFix p m c cX11_fault 3 s args GW RX11) (hE : env G A s s.heap) (hA : ∀ q, s.heap.size ≤ q → A q) (hRf : 7 ≤ R.frames) (hRl : 159 ≤ R.locals) {post : Int32 → St → Prop} (hret : RetI p l e R s m args below meth c Q 0 0 wX G A cX11_fault post) (x1 : Int32) (z0 : St) (hB : S_B_fault_v2 post x1 z0) : Xw p l e R s m args below meth c Q 0 0 wX G A z0 3 [(0, .ref (ad G 0)), (1, .int x1)] 0 [] := by
  intro H locs ls hP hD hS hl
  have hx := S.1
  have hb := S.2.1
  refine lv_aload_n hx hb dX11_fault_0 rfl (lv_at hl 0 rfl) ?_
  refine lv_iload_n hx hb dX11_fault_1 rfl (lv_at hl 1 rfl) ?_
  refine xcVq [.int x1] S hE hA hP hD hS (c_B_readerOf_v2 l G z0 H.size x1 _) hB (gw_c lk_X11_108 (gw_c wi_X11_readerOf (gw_c we_X11_X11_readerOf_X11_readerOf (gw_c wn_X11 (gw_c wc_X11_readerOf (fun _ h9 => h9)))))) hd_X11_readerOf rfl rfl (Nat.le_trans (Nat.le_of_ble_eq_true rfl) hRf) (Nat.le_trans (Nat.le_of_ble_eq_true rfl) hRl) ⟨Nat.zero_le _, Nat.zero_le _⟩ (va_recv hE.1 hP (ci := 10) (q0 := 0) rfl rfl) rfl hl.1 rfl (Nat.le_of_ble_eq_true rfl) dX11_fault_2 rfl (fun z1 H locs hB hP hD hS => ?_)
  refine lv_astore_n (lv' := [(2, .ref (ad G 4)), (0, .ref (ad G 0)), (1, .int x1)]) hx hb dX11_fault_5 rfl hl (by decide) rfl (fun ls hl => ?_)
  refine lv_aload_n hx hb dX11_fault_6 rfl (lv_at hl 0 rfl) ?_
  refine lv_ifnonnull (tgt := 15) hx hb dX11_fault_7 (by decide) ?_
  refine lv_aload_n hx hb dX11_fault_15 rfl (lv_at hl 0 rfl) ?_
  refine lv_aload_n hx hb dX11_fault_16 rfl (lv_at hl 1 rfl) ?_
  refine xXg_0_tape S hE hP lk_X11_10 dX11_fault_17 ?_
  refine xcUi (x := yX5_faultOf) (owner := RX5) (C := RX10) [.ref (ad G 1)] S hE hA hP hD hS (c_Reader_faultOf_4_r1 l G z1 H.size _) hB (gw_c lk_X11_112 (gw_c wm_X5_X5_faultOf_LBottleBefore_Tape__I (gw_c we_X10_X5_faultOf_X5_faultOf (gw_c wi_X5_faultOf (gw_c wn_X5 (gw_c wc_X5_faultOf (fun _ h9 => h9))))))) rfl hu_X5_faultOf rfl rfl (Nat.le_trans (Nat.le_of_ble_eq_true rfl) hRf) (Nat.le_trans (Nat.le_of_ble_eq_true rfl) hRl) ⟨Nat.zero_le _, Nat.zero_le _⟩ (va_recv hE.1 hP (ci := 9) (q0 := 4) rfl rfl) rfl hl.1 rfl (Nat.le_of_ble_eq_true rfl) dX11_fault_20 (fun r1 z2 H locs hB hP hD hS => ?_)
  exact hret _ _ _ _ _ _ dX11_fault_23 hB hP hD hS
set_option maxHeartbeats 4000000 in
set_option maxRecDepth 100000 in
theorem c_B_fault_v2 (l : Launch) (G : GX) (z0 : St) (sz : Nat) (x1 : Int32) (post : Int32 → St → Prop) : MetI l wX yX11_fault cX11_fault 3 (some .int) ({ frames := 7, cells := 0, slots := 0, locals := 159 }) [.ref (ad G 0), .int x1] G z0 sz (S_B_fault_v2 post x1 z0) post := by
  refine Met.ofW (cc := cX11_fault) (maxL := 3) (ret := (some .int)) (by decide) rfl ?_
  intro p e s m args below meth c s₁ B hml hv
  obtain ⟨rfl, hsz, hP, hD0, hE, hB⟩ := hv
  have S : CallFix p m c cX11_fault 3 s _ GW RX11 := ⟨B.exec, B.bytes, hml, findClass_of_methodNamed B.named, fun w h => atoms_spec (ws := Cond.code yX11_fault cX11_fault 3 (some .int) :: GW) B.pre w (List.mem_cons_of_mem _ h)⟩
  have hlocks := B.notSynchronized
  subst hsz
  have hD := hD0.self (sz := s.heap.size)
  generalize hAe : va_A (wX G z0) s.heap.size = A at hD hE ⊢
  have hA : ∀ q : Nat, s.heap.size ≤ q → A q := fun q h => by rw [← hAe]; exact Or.inr h
  have hS : va_S A s.heap s.heap [] := va_S.rf
  have hl := lv_entry ([.ref (ad G 0), .int x1]) (n := 3) (Nat.le_of_ble_eq_true rfl)
  rw [lg_entry_eq]
  generalize (lg_sl ([.ref (ad G 0), .int x1]) ++ List.replicate (3 - (lg_sl ([.ref (ad G 0), .int x1])).length) Slot.unset).toArray = ls at hl ⊢
  have hl : lv_has ls 3 [(0, .ref (ad G 0)), (1, .int x1)] := hl
  refine w_B_fault_v2_0 S hE hA (Nat.le_refl _) (Nat.le_refl _) ?_ x1 z0 hB _ _ _ hP hD hS hl
  intro pc ls r σ H locs hd hp hP hD hS
  exact W.iret (v := r) B.exec B.bytes B.returns (fun t ht hW => ⟨⟨r, σ, rfl, hp, by rw [ht]; exact hP, hD⟩, hS.F ht⟩) hS.2.2 hd
def B_B_readerOf_vn_32 (post : St → Prop) (z0 : St) : Prop :=
  (post z0)
set_option maxHeartbeats 4000000 in
set_option maxRecDepth 100000 in
theorem w_B_readerOf_vn_32 {p : Program} {l : Launch} {e : Env} {R : Room} {s : State} {m : MethodId} {args : Array Value} {below : List Frame} {meth : Method} {c : Code} {Q : State → Prop} {G : GX} {A : Nat → Prop} (S : CallFix p m c cX11_readerOf 2 s args GW RX11) (hE : env G A s s.heap) (hA : ∀ q, s.heap.size ≤ q → A q) (hRf : 0 ≤ R.frames) (hRl : 0 ≤ R.locals) {post : St → Prop} (hret : RetQ p l e R s m args below meth c Q 0 0 wX G A cX11_readerOf (.null) post) (z0 : St) (hB : B_B_readerOf_vn_32 post z0) : Xw p l e R s m args below meth c Q 0 0 wX G A z0 2 [] 32 [.null] := by
  intro H locs ls hP hD hS hl
  have hx := S.1
  have hb := S.2.1
  exact hret _ _ _ _ _ dX11_readerOf_32 hB hP hD hS
def S_B_readerOf_vn (post : St → Prop) (x1 : Int32) (z0 : St) : Prop :=
  (¬ x1 = 0 ∧ (¬ x1 = (1 : Int32) ∧ (¬ x1 = (2 : Int32) ∧ (B_B_readerOf_vn_32 post z0))))
set_option maxHeartbeats 4000000 in
set_option maxRecDepth 100000 in
theorem w_B_readerOf_vn_0 {p : Program} {l : Launch} {e : Env} {R : Room} {s : State} {m : MethodId} {args : Array Value} {below : List Frame} {meth : Method} {c : Code} {Q : State → Prop} {G : GX} {A : Nat → Prop} (S : CallFix p m c cX11_readerOf 2 s args GW RX11) (hE : env G A s s.heap) (hA : ∀ q, s.heap.size ≤ q → A q) (hRf : 0 ≤ R.frames) (hRl : 0 ≤ R.locals) {post : St → Prop} (hret : RetQ p l e R s m args below meth c Q 0 0 wX G A cX11_readerOf (.null) post) (x1 : Int32) (z0 : St) (hB : S_B_readerOf_vn post x1 z0) : Xw p l e R s m args below meth c Q 0 0 wX G A z0 2 [(0, .ref (ad G 0)), (1, .int x1)] 0 [] := by
  intro H locs ls hP hD hS hl
  have hx := S.1
  have hb := S.2.1
  refine lv_iload_n hx hb dX11_readerOf_0 rfl (lv_at hl 1 rfl) ?_
  obtain ⟨hc9, hB⟩ := hB
  refine lv_if_ne (tgt := 9) hx hb dX11_readerOf_1 (by decide) (fun _ => ?_) (fun h9 => absurd h9 hc9)
  refine lv_iload_n hx hb dX11_readerOf_9 rfl (lv_at hl 1 rfl) ?_
  refine lv_iconst (v := 1) hx hb dX11_readerOf_10 (by decide) ?_
  obtain ⟨hc9, hB⟩ := hB
  refine lv_icmp_ne (tgt := 19) hx hb dX11_readerOf_11 (by decide) (fun _ => ?_) (fun h9 => absurd h9 hc9)
  refine lv_iload_n hx hb dX11_readerOf_19 rfl (lv_at hl 1 rfl) ?_
  refine lv_iconst (v := 2) hx hb dX11_readerOf_20 (by decide) ?_
  obtain ⟨hc9, hB⟩ := hB
  refine lv_icmp_ne (tgt := 31) hx hb dX11_readerOf_21 (by decide) (fun _ => ?_) (fun h9 => absurd h9 hc9)
  refine lv_null hx hb dX11_readerOf_31 ?_
  exact w_B_readerOf_vn_32 S hE hA hRf hRl hret z0 hB _ _ _ hP hD hS (lv_sub hl [] rfl)
set_option maxHeartbeats 4000000 in
set_option maxRecDepth 100000 in
theorem c_B_readerOf_vn (l : Launch) (G : GX) (z0 : St) (sz : Nat) (x1 : Int32) (post : St → Prop) : MetQ l wX yX11_readerOf cX11_readerOf 2 (some (.object "BottleBefore$Reader")) ({ frames := 0, cells := 0, slots := 0, locals := 0 }) [.ref (ad G 0), .int x1] G z0 sz (S_B_readerOf_vn post x1 z0) none post := by
  refine Met.ofW (cc := cX11_readerOf) (maxL := 2) (ret := (some (.object "BottleBefore$Reader"))) (by decide) rfl ?_
  intro p e s m args below meth c s₁ B hml hv
  obtain ⟨rfl, hsz, hP, hD0, hE, hB⟩ := hv
  have S : CallFix p m c cX11_readerOf 2 s _ GW RX11 := ⟨B.exec, B.bytes, hml, findClass_of_methodNamed B.named, fun w h => atoms_spec (ws := Cond.code yX11_readerOf cX11_readerOf 2 (some (.object "BottleBefore$Reader")) :: GW) B.pre w (List.mem_cons_of_mem _ h)⟩
  have hlocks := B.notSynchronized
  subst hsz
  have hD := hD0.self (sz := s.heap.size)
  generalize hAe : va_A (wX G z0) s.heap.size = A at hD hE ⊢
  have hA : ∀ q : Nat, s.heap.size ≤ q → A q := fun q h => by rw [← hAe]; exact Or.inr h
  have hS : va_S A s.heap s.heap [] := va_S.rf
  have hl := lv_entry ([.ref (ad G 0), .int x1]) (n := 2) (Nat.le_of_ble_eq_true rfl)
  rw [lg_entry_eq]
  generalize (lg_sl ([.ref (ad G 0), .int x1]) ++ List.replicate (2 - (lg_sl ([.ref (ad G 0), .int x1])).length) Slot.unset).toArray = ls at hl ⊢
  have hl : lv_has ls 2 [(0, .ref (ad G 0)), (1, .int x1)] := hl
  refine w_B_readerOf_vn_0 S hE hA (Nat.le_refl _) (Nat.le_refl _) ?_ x1 z0 hB _ _ _ hP hD hS hl
  intro pc ls σ H locs hd hp hP hD hS
  exact W.aret B.exec B.bytes B.returns (Or.inl ⟨_, rfl⟩) (Or.inl rfl) (fun t ht hW => ⟨⟨none, σ, rfl, ⟨rfl, hp⟩, by rw [ht]; exact hP, hD⟩, hS.F ht⟩) hS.2.2 hd
def S_B_fault_vn (post : Int32 → St → Prop) (x1 : Int32) (z0 : St) : Prop :=
  (S_B_readerOf_vn (fun (z1 : St) => (post (-2 : Int32) z1)) x1 z0)
set_option maxHeartbeats 4000000 in
set_option maxRecDepth 100000 in
theorem w_B_fault_vn_0 {p : Program} {l : Launch} {e : Env} {R : Room} {s : State} {m : MethodId} {args : Array Value} {below : List Frame} {meth : Method} {c : Code} {Q : State → Prop} {G : GX} {A : Nat → Prop} (S : CallFix p m c cX11_fault 3 s args GW RX11) (hE : env G A s s.heap) (hA : ∀ q, s.heap.size ≤ q → A q) (hRf : 1 ≤ R.frames) (hRl : 21 ≤ R.locals) {post : Int32 → St → Prop} (hret : RetI p l e R s m args below meth c Q 0 0 wX G A cX11_fault post) (x1 : Int32) (z0 : St) (hB : S_B_fault_vn post x1 z0) : Xw p l e R s m args below meth c Q 0 0 wX G A z0 3 [(0, .ref (ad G 0)), (1, .int x1)] 0 [] := by
  intro H locs ls hP hD hS hl
  have hx := S.1
  have hb := S.2.1
  refine lv_aload_n hx hb dX11_fault_0 rfl (lv_at hl 0 rfl) ?_
  refine lv_iload_n hx hb dX11_fault_1 rfl (lv_at hl 1 rfl) ?_
  refine xcVq [.int x1] S hE hA hP hD hS (c_B_readerOf_vn l G z0 H.size x1 _) hB (gw_c lk_X11_108 (gw_c wi_X11_readerOf (gw_c we_X11_X11_readerOf_X11_readerOf (gw_c wn_X11 (gw_c wc_X11_readerOf (fun _ h9 => h9)))))) hd_X11_readerOf rfl rfl (Nat.le_trans (Nat.le_of_ble_eq_true rfl) hRf) (Nat.le_trans (Nat.le_of_ble_eq_true rfl) hRl) ⟨Nat.zero_le _, Nat.zero_le _⟩ (va_recv hE.1 hP (ci := 10) (q0 := 0) rfl rfl) rfl hl.1 rfl (Nat.le_of_ble_eq_true rfl) dX11_fault_2 rfl (fun z1 H locs hB hP hD hS => ?_)
  refine lv_astore_nN (lv' := [(2, .null), (0, .ref (ad G 0)), (1, .int x1)]) hx hb dX11_fault_5 rfl hl (by decide) rfl (fun ls hl => ?_)
  refine lv_aload_nN hx hb dX11_fault_6 rfl (lv_at hl 0 rfl) ?_
  refine lv_ifnonnullN hx hb dX11_fault_7 ?_
  refine lv_bipush (v := -2) hx hb dX11_fault_10 (by decide) ?_
  refine lv_goto (tgt := 23) hx hb dX11_fault_12 (by decide) ?_
  exact hret _ _ _ _ _ _ dX11_fault_23 hB hP hD hS
set_option maxHeartbeats 4000000 in
set_option maxRecDepth 100000 in
theorem c_B_fault_vn (l : Launch) (G : GX) (z0 : St) (sz : Nat) (x1 : Int32) (post : Int32 → St → Prop) : MetI l wX yX11_fault cX11_fault 3 (some .int) ({ frames := 1, cells := 0, slots := 0, locals := 21 }) [.ref (ad G 0), .int x1] G z0 sz (S_B_fault_vn post x1 z0) post := by
  refine Met.ofW (cc := cX11_fault) (maxL := 3) (ret := (some .int)) (by decide) rfl ?_
  intro p e s m args below meth c s₁ B hml hv
  obtain ⟨rfl, hsz, hP, hD0, hE, hB⟩ := hv
  have S : CallFix p m c cX11_fault 3 s _ GW RX11 := ⟨B.exec, B.bytes, hml, findClass_of_methodNamed B.named, fun w h => atoms_spec (ws := Cond.code yX11_fault cX11_fault 3 (some .int) :: GW) B.pre w (List.mem_cons_of_mem _ h)⟩
  have hlocks := B.notSynchronized
  subst hsz
  have hD := hD0.self (sz := s.heap.size)
  generalize hAe : va_A (wX G z0) s.heap.size = A at hD hE ⊢
  have hA : ∀ q : Nat, s.heap.size ≤ q → A q := fun q h => by rw [← hAe]; exact Or.inr h
  have hS : va_S A s.heap s.heap [] := va_S.rf
  have hl := lv_entry ([.ref (ad G 0), .int x1]) (n := 3) (Nat.le_of_ble_eq_true rfl)
  rw [lg_entry_eq]
  generalize (lg_sl ([.ref (ad G 0), .int x1]) ++ List.replicate (3 - (lg_sl ([.ref (ad G 0), .int x1])).length) Slot.unset).toArray = ls at hl ⊢
  have hl : lv_has ls 3 [(0, .ref (ad G 0)), (1, .int x1)] := hl
  refine w_B_fault_vn_0 S hE hA (Nat.le_refl _) (Nat.le_refl _) ?_ x1 z0 hB _ _ _ hP hD hS hl
  intro pc ls r σ H locs hd hp hP hD hS
  exact W.iret (v := r) B.exec B.bytes B.returns (fun t ht hW => ⟨⟨r, σ, rfl, hp, by rw [ht]; exact hP, hD⟩, hS.F ht⟩) hS.2.2 hd
def S_HouseReader_wagesTold (post : Int32 → St → Prop) (z0 : St) : Prop :=
  (post (gA z0 13 1) z0)
set_option maxHeartbeats 4000000 in
set_option maxRecDepth 100000 in
theorem w_HouseReader_wagesTold_0 {p : Program} {l : Launch} {e : Env} {R : Room} {s : State} {m : MethodId} {args : Array Value} {below : List Frame} {meth : Method} {c : Code} {Q : State → Prop} {G : GX} {A : Nat → Prop} (S : CallFix p m c cX1_wagesTold 1 s args GW RX1) (hE : env G A s s.heap) (hA : ∀ q, s.heap.size ≤ q → A q) (hRf : 0 ≤ R.frames) (hRl : 0 ≤ R.locals) {post : Int32 → St → Prop} (hret : RetI p l e R s m args below meth c Q 0 0 wX G A cX1_wagesTold post) (z0 : St) (hB : S_HouseReader_wagesTold post z0) : Xw p l e R s m args below meth c Q 0 0 wX G A z0 1 [(0, .ref (ad G 2))] 0 [] := by
  intro H locs ls hP hD hS hl
  have hx := S.1
  have hb := S.2.1
  refine lv_aload_n hx hb dX1_wagesTold_0 rfl (lv_at hl 0 rfl) ?_
  refine xXg_2_values S hE hP lk_X1_11 dX1_wagesTold_1 ?_
  refine lv_iconst (v := 1) hx hb dX1_wagesTold_4 (by decide) ?_
  refine xXk_13 S hE hP 1 (by decide) (by unfold vp_in; decide) dX1_wagesTold_5 ?_
  exact hret _ _ _ _ _ _ dX1_wagesTold_6 hB hP hD hS
set_option maxHeartbeats 4000000 in
set_option maxRecDepth 100000 in
theorem c_HouseReader_wagesTold (l : Launch) (G : GX) (z0 : St) (sz : Nat) (post : Int32 → St → Prop) : MetI l wX yX1_wagesTold cX1_wagesTold 1 (some .int) ({ frames := 0, cells := 0, slots := 0, locals := 0 }) [.ref (ad G 2)] G z0 sz (S_HouseReader_wagesTold post z0) post := by
  refine Met.ofW (cc := cX1_wagesTold) (maxL := 1) (ret := (some .int)) (by decide) rfl ?_
  intro p e s m args below meth c s₁ B hml hv
  obtain ⟨rfl, hsz, hP, hD0, hE, hB⟩ := hv
  have S : CallFix p m c cX1_wagesTold 1 s _ GW RX1 := ⟨B.exec, B.bytes, hml, findClass_of_methodNamed B.named, fun w h => atoms_spec (ws := Cond.code yX1_wagesTold cX1_wagesTold 1 (some .int) :: GW) B.pre w (List.mem_cons_of_mem _ h)⟩
  have hlocks := B.notSynchronized
  subst hsz
  have hD := hD0.self (sz := s.heap.size)
  generalize hAe : va_A (wX G z0) s.heap.size = A at hD hE ⊢
  have hA : ∀ q : Nat, s.heap.size ≤ q → A q := fun q h => by rw [← hAe]; exact Or.inr h
  have hS : va_S A s.heap s.heap [] := va_S.rf
  have hl := lv_entry ([.ref (ad G 2)]) (n := 1) (Nat.le_of_ble_eq_true rfl)
  rw [lg_entry_eq]
  generalize (lg_sl ([.ref (ad G 2)]) ++ List.replicate (1 - (lg_sl ([.ref (ad G 2)])).length) Slot.unset).toArray = ls at hl ⊢
  have hl : lv_has ls 1 [(0, .ref (ad G 2))] := hl
  refine w_HouseReader_wagesTold_0 S hE hA (Nat.le_refl _) (Nat.le_refl _) ?_  z0 hB _ _ _ hP hD hS hl
  intro pc ls r σ H locs hd hp hP hD hS
  exact W.iret (v := r) B.exec B.bytes B.returns (fun t ht hW => ⟨⟨r, σ, rfl, hp, by rw [ht]; exact hP, hD⟩, hS.F ht⟩) hS.2.2 hd
def S_HouseReader_moreTold (post : Int32 → St → Prop) (z0 : St) : Prop :=
  (post (gA z0 13 2) z0)
set_option maxHeartbeats 4000000 in
set_option maxRecDepth 100000 in
theorem w_HouseReader_moreTold_0 {p : Program} {l : Launch} {e : Env} {R : Room} {s : State} {m : MethodId} {args : Array Value} {below : List Frame} {meth : Method} {c : Code} {Q : State → Prop} {G : GX} {A : Nat → Prop} (S : CallFix p m c cX1_moreTold 1 s args GW RX1) (hE : env G A s s.heap) (hA : ∀ q, s.heap.size ≤ q → A q) (hRf : 0 ≤ R.frames) (hRl : 0 ≤ R.locals) {post : Int32 → St → Prop} (hret : RetI p l e R s m args below meth c Q 0 0 wX G A cX1_moreTold post) (z0 : St) (hB : S_HouseReader_moreTold post z0) : Xw p l e R s m args below meth c Q 0 0 wX G A z0 1 [(0, .ref (ad G 2))] 0 [] := by
  intro H locs ls hP hD hS hl
  have hx := S.1
  have hb := S.2.1
  refine lv_aload_n hx hb dX1_moreTold_0 rfl (lv_at hl 0 rfl) ?_
  refine xXg_2_values S hE hP lk_X1_11 dX1_moreTold_1 ?_
  refine lv_iconst (v := 2) hx hb dX1_moreTold_4 (by decide) ?_
  refine xXk_13 S hE hP 2 (by decide) (by unfold vp_in; decide) dX1_moreTold_5 ?_
  exact hret _ _ _ _ _ _ dX1_moreTold_6 hB hP hD hS
set_option maxHeartbeats 4000000 in
set_option maxRecDepth 100000 in
theorem c_HouseReader_moreTold (l : Launch) (G : GX) (z0 : St) (sz : Nat) (post : Int32 → St → Prop) : MetI l wX yX1_moreTold cX1_moreTold 1 (some .int) ({ frames := 0, cells := 0, slots := 0, locals := 0 }) [.ref (ad G 2)] G z0 sz (S_HouseReader_moreTold post z0) post := by
  refine Met.ofW (cc := cX1_moreTold) (maxL := 1) (ret := (some .int)) (by decide) rfl ?_
  intro p e s m args below meth c s₁ B hml hv
  obtain ⟨rfl, hsz, hP, hD0, hE, hB⟩ := hv
  have S : CallFix p m c cX1_moreTold 1 s _ GW RX1 := ⟨B.exec, B.bytes, hml, findClass_of_methodNamed B.named, fun w h => atoms_spec (ws := Cond.code yX1_moreTold cX1_moreTold 1 (some .int) :: GW) B.pre w (List.mem_cons_of_mem _ h)⟩
  have hlocks := B.notSynchronized
  subst hsz
  have hD := hD0.self (sz := s.heap.size)
  generalize hAe : va_A (wX G z0) s.heap.size = A at hD hE ⊢
  have hA : ∀ q : Nat, s.heap.size ≤ q → A q := fun q h => by rw [← hAe]; exact Or.inr h
  have hS : va_S A s.heap s.heap [] := va_S.rf
  have hl := lv_entry ([.ref (ad G 2)]) (n := 1) (Nat.le_of_ble_eq_true rfl)
  rw [lg_entry_eq]
  generalize (lg_sl ([.ref (ad G 2)]) ++ List.replicate (1 - (lg_sl ([.ref (ad G 2)])).length) Slot.unset).toArray = ls at hl ⊢
  have hl : lv_has ls 1 [(0, .ref (ad G 2))] := hl
  refine w_HouseReader_moreTold_0 S hE hA (Nat.le_refl _) (Nat.le_refl _) ?_  z0 hB _ _ _ hP hD hS hl
  intro pc ls r σ H locs hd hp hP hD hS
  exact W.iret (v := r) B.exec B.bytes B.returns (fun t ht hW => ⟨⟨r, σ, rfl, hp, by rw [ht]; exact hP, hD⟩, hS.F ht⟩) hS.2.2 hd
def S_HouseReader_qualityTold (post : Int32 → St → Prop) (x1 : Int32) (z0 : St) : Prop :=
  (vp_in ((3 : Int32) + ((2 : Int32) * x1)) 33 ∧ (post (gA z0 13 ((3 : Int32) + ((2 : Int32) * x1)).toNatClampNeg) z0))
set_option maxHeartbeats 4000000 in
set_option maxRecDepth 100000 in
theorem w_HouseReader_qualityTold_0 {p : Program} {l : Launch} {e : Env} {R : Room} {s : State} {m : MethodId} {args : Array Value} {below : List Frame} {meth : Method} {c : Code} {Q : State → Prop} {G : GX} {A : Nat → Prop} (S : CallFix p m c cX1_qualityTold 2 s args GW RX1) (hE : env G A s s.heap) (hA : ∀ q, s.heap.size ≤ q → A q) (hRf : 0 ≤ R.frames) (hRl : 0 ≤ R.locals) {post : Int32 → St → Prop} (hret : RetI p l e R s m args below meth c Q 0 0 wX G A cX1_qualityTold post) (x1 : Int32) (z0 : St) (hB : S_HouseReader_qualityTold post x1 z0) : Xw p l e R s m args below meth c Q 0 0 wX G A z0 2 [(0, .ref (ad G 2)), (1, .int x1)] 0 [] := by
  intro H locs ls hP hD hS hl
  have hx := S.1
  have hb := S.2.1
  refine lv_aload_n hx hb dX1_qualityTold_0 rfl (lv_at hl 0 rfl) ?_
  refine xXg_2_values S hE hP lk_X1_11 dX1_qualityTold_1 ?_
  refine lv_iconst (v := 3) hx hb dX1_qualityTold_4 (by decide) ?_
  refine lv_iconst (v := 2) hx hb dX1_qualityTold_5 (by decide) ?_
  refine lv_iload_n hx hb dX1_qualityTold_6 rfl (lv_at hl 1 rfl) ?_
  refine lv_imul hx hb dX1_qualityTold_7 ?_
  refine lv_iadd hx hb dX1_qualityTold_8 ?_
  obtain ⟨hi, hB⟩ := hB
  refine xXl_13 S hE hP hi dX1_qualityTold_9 ?_
  exact hret _ _ _ _ _ _ dX1_qualityTold_10 hB hP hD hS
set_option maxHeartbeats 4000000 in
set_option maxRecDepth 100000 in
theorem c_HouseReader_qualityTold (l : Launch) (G : GX) (z0 : St) (sz : Nat) (x1 : Int32) (post : Int32 → St → Prop) : MetI l wX yX1_qualityTold cX1_qualityTold 2 (some .int) ({ frames := 0, cells := 0, slots := 0, locals := 0 }) [.ref (ad G 2), .int x1] G z0 sz (S_HouseReader_qualityTold post x1 z0) post := by
  refine Met.ofW (cc := cX1_qualityTold) (maxL := 2) (ret := (some .int)) (by decide) rfl ?_
  intro p e s m args below meth c s₁ B hml hv
  obtain ⟨rfl, hsz, hP, hD0, hE, hB⟩ := hv
  have S : CallFix p m c cX1_qualityTold 2 s _ GW RX1 := ⟨B.exec, B.bytes, hml, findClass_of_methodNamed B.named, fun w h => atoms_spec (ws := Cond.code yX1_qualityTold cX1_qualityTold 2 (some .int) :: GW) B.pre w (List.mem_cons_of_mem _ h)⟩
  have hlocks := B.notSynchronized
  subst hsz
  have hD := hD0.self (sz := s.heap.size)
  generalize hAe : va_A (wX G z0) s.heap.size = A at hD hE ⊢
  have hA : ∀ q : Nat, s.heap.size ≤ q → A q := fun q h => by rw [← hAe]; exact Or.inr h
  have hS : va_S A s.heap s.heap [] := va_S.rf
  have hl := lv_entry ([.ref (ad G 2), .int x1]) (n := 2) (Nat.le_of_ble_eq_true rfl)
  rw [lg_entry_eq]
  generalize (lg_sl ([.ref (ad G 2), .int x1]) ++ List.replicate (2 - (lg_sl ([.ref (ad G 2), .int x1])).length) Slot.unset).toArray = ls at hl ⊢
  have hl : lv_has ls 2 [(0, .ref (ad G 2)), (1, .int x1)] := hl
  refine w_HouseReader_qualityTold_0 S hE hA (Nat.le_refl _) (Nat.le_refl _) ?_ x1 z0 hB _ _ _ hP hD hS hl
  intro pc ls r σ H locs hd hp hP hD hS
  exact W.iret (v := r) B.exec B.bytes B.returns (fun t ht hW => ⟨⟨r, σ, rfl, hp, by rw [ht]; exact hP, hD⟩, hS.F ht⟩) hS.2.2 hd
def B_House_settle_r2_61 (post : St → Prop) (ih61 : Int32 → St → Prop) (x2 : Int32) (z0 : St) : Prop :=
  (((gI z0 27) ≤ x2 → (post z0)) ∧ (¬ (gI z0 27) ≤ x2 → (S_HouseReader_likeTold (fun (r2 : Int32) (z1 : St) => (vp_in x2 6 ∧ (∀ z2 : St, z2 = sA z1 19 x2.toNatClampNeg r2 → (∀ v3 : Int32, v3 = x2 + (1 : Int32) → (ih61 v3 z2))))) x2 z0)))
set_option maxHeartbeats 4000000 in
set_option maxRecDepth 100000 in
theorem w_House_settle_r2_61 {p : Program} {l : Launch} {e : Env} {R : Room} {s : State} {m : MethodId} {args : Array Value} {below : List Frame} {meth : Method} {c : Code} {Q : State → Prop} {G : GX} {A : Nat → Prop} (S : CallFix p m c cX0_settle 3 s args GW RX0) (hE : env G A s s.heap) (hA : ∀ q, s.heap.size ≤ q → A q) (hRf : 1 ≤ R.frames) (hRl : 21 ≤ R.locals) {post : St → Prop} (hret : RetV p l e R s m args below meth c Q 0 0 wX G A cX0_settle post) {ih61 : Int32 → St → Prop} (h61 : ∀ (x2 : Int32) (z0 : St), ih61 x2 z0 → Xw p l e R s m args below meth c Q 0 0 wX G A z0 3 [(0, .ref (ad G 6)), (1, .ref (ad G 2)), (2, .int x2)] 61 []) (x2 : Int32) (z0 : St) (hB : B_House_settle_r2_61 post ih61 x2 z0) : Xw p l e R s m args below meth c Q 0 0 wX G A z0 3 [(0, .ref (ad G 6)), (1, .ref (ad G 2)), (2, .int x2)] 61 [] := by
  intro H locs ls hP hD hS hl
  have hx := S.1
  have hb := S.2.1
  refine lv_iload_n hx hb dX0_settle_61 rfl (lv_at hl 2 rfl) ?_
  refine lv_aload_n hx hb dX0_settle_62 rfl (lv_at hl 0 rfl) ?_
  refine xXg_6_guests S hE hP lk_X0_30 dX0_settle_63 ?_
  refine lv_icmp_ge (tgt := 86) hx hb dX0_settle_66 (by decide) (fun c1 => ?_) (fun c1 => ?_)
  · have hB := hB.1 c1
    exact hret _ _ _ _ _ dX0_settle_86 hB hP hD hS
  · have hB := hB.2 c1
    refine lv_aload_n hx hb dX0_settle_69 rfl (lv_at hl 0 rfl) ?_
    refine xXg_6_likes S hE hP lk_X0_15 dX0_settle_70 ?_
    refine lv_iload_n hx hb dX0_settle_73 rfl (lv_at hl 2 rfl) ?_
    refine lv_aload_n hx hb dX0_settle_74 rfl (lv_at hl 1 rfl) ?_
    refine lv_iload_n hx hb dX0_settle_75 rfl (lv_at hl 2 rfl) ?_
    refine xcVi [.int x2] S hE hA hP hD hS (c_HouseReader_likeTold l G z0 H.size x2 _) hB (gw_c lk_X0_50 (gw_c wi_X1_likeTold (gw_c we_X1_X1_likeTold_X1_likeTold (gw_c wn_X1 (gw_c wc_X1_likeTold (fun _ h9 => h9)))))) hd_X1_likeTold rfl rfl (Nat.le_trans (Nat.le_of_ble_eq_true rfl) hRf) (Nat.le_trans (Nat.le_of_ble_eq_true rfl) hRl) ⟨Nat.zero_le _, Nat.zero_le _⟩ (va_recv hE.1 hP (ci := 1) (q0 := 2) rfl rfl) rfl hl.1 rfl (Nat.le_of_ble_eq_true rfl) dX0_settle_76 (fun r2 z1 H locs hB hP hD hS => ?_)
    obtain ⟨hi, hB⟩ := hB
    obtain ⟨z2, ez2⟩ : ∃ z9, z9 = sA z1 19 x2.toNatClampNeg r2 := ⟨_, rfl⟩
    have hB := hB z2 ez2
    refine xXs_19 S hE hP hD hS _ rfl hi dX0_settle_79 (fun H locs hP hD hS => ?_)
    rw [← ez2] at hP hD
    obtain ⟨v3, ev3⟩ : ∃ y9, y9 = x2 + (1 : Int32) := ⟨_, rfl⟩
    have hB := hB v3 ev3
    refine lv_iinc (v := v3) (lv' := [(2, .int v3), (0, .ref (ad G 6)), (1, .ref (ad G 2))]) hx hb dX0_settle_80 hl (k := 2) rfl (by rw [ev3]; rfl) (by decide) rfl (fun ls hl => ?_)
    refine lv_goto (tgt := 61) hx hb dX0_settle_83 (by decide) ?_
    exact h61 v3 z2 hB _ _ _ hP hD hS (lv_sub hl [1, 2, 0] rfl)
def L_House_settle_r2_61 (post : St → Prop) : Nat → Int32 → St → Prop
  | 0 => fun _ _ => False
  | n + 1 => B_House_settle_r2_61 post (L_House_settle_r2_61 post n)
theorem wl_House_settle_r2_61 {p : Program} {l : Launch} {e : Env} {R : Room} {s : State} {m : MethodId} {args : Array Value} {below : List Frame} {meth : Method} {c : Code} {Q : State → Prop} {G : GX} {A : Nat → Prop} (S : CallFix p m c cX0_settle 3 s args GW RX0) (hE : env G A s s.heap) (hA : ∀ q, s.heap.size ≤ q → A q) (hRf : 1 ≤ R.frames) (hRl : 21 ≤ R.locals) {post : St → Prop} (hret : RetV p l e R s m args below meth c Q 0 0 wX G A cX0_settle post) : ∀ (n : Nat) (x2 : Int32) (z0 : St), L_House_settle_r2_61 post n x2 z0 → Xw p l e R s m args below meth c Q 0 0 wX G A z0 3 [(0, .ref (ad G 6)), (1, .ref (ad G 2)), (2, .int x2)] 61 [] := by
  intro n
  induction n with
  | zero => intro x2 z0 hB; exact absurd hB id
  | succ n ih => exact fun x2 z0 hB => w_House_settle_r2_61 S hE hA hRf hRl hret ih x2 z0 hB
def B_House_settle_r2_34 (post : St → Prop) (ih34 : Int32 → St → Prop) (x2 : Int32) (z0 : St) : Prop :=
  (((gI z0 26) ≤ x2 → (∃ n2, L_House_settle_r2_61 post n2 (0 : Int32) z0)) ∧ (¬ (gI z0 26) ≤ x2 → (S_HouseReader_qualityTold (fun (r3 : Int32) (z1 : St) => (vp_in x2 6 ∧ (∀ z2 : St, z2 = sA z1 18 x2.toNatClampNeg r3 → (∀ v4 : Int32, v4 = x2 + (1 : Int32) → (ih34 v4 z2))))) x2 z0)))
set_option maxHeartbeats 4000000 in
set_option maxRecDepth 100000 in
theorem w_House_settle_r2_34 {p : Program} {l : Launch} {e : Env} {R : Room} {s : State} {m : MethodId} {args : Array Value} {below : List Frame} {meth : Method} {c : Code} {Q : State → Prop} {G : GX} {A : Nat → Prop} (S : CallFix p m c cX0_settle 3 s args GW RX0) (hE : env G A s s.heap) (hA : ∀ q, s.heap.size ≤ q → A q) (hRf : 1 ≤ R.frames) (hRl : 21 ≤ R.locals) {post : St → Prop} (hret : RetV p l e R s m args below meth c Q 0 0 wX G A cX0_settle post) {ih34 : Int32 → St → Prop} (h34 : ∀ (x2 : Int32) (z0 : St), ih34 x2 z0 → Xw p l e R s m args below meth c Q 0 0 wX G A z0 3 [(0, .ref (ad G 6)), (1, .ref (ad G 2)), (2, .int x2)] 34 []) (x2 : Int32) (z0 : St) (hB : B_House_settle_r2_34 post ih34 x2 z0) : Xw p l e R s m args below meth c Q 0 0 wX G A z0 3 [(0, .ref (ad G 6)), (1, .ref (ad G 2)), (2, .int x2)] 34 [] := by
  intro H locs ls hP hD hS hl
  have hx := S.1
  have hb := S.2.1
  refine lv_iload_n hx hb dX0_settle_34 rfl (lv_at hl 2 rfl) ?_
  refine lv_aload_n hx hb dX0_settle_35 rfl (lv_at hl 0 rfl) ?_
  refine xXg_6_drinks S hE hP lk_X0_24 dX0_settle_36 ?_
  refine lv_icmp_ge (tgt := 59) hx hb dX0_settle_39 (by decide) (fun c1 => ?_) (fun c1 => ?_)
  · have hB := hB.1 c1
    refine lv_iconst (v := 0) hx hb dX0_settle_59 (by decide) ?_
    refine lv_istore_n (lv' := [(2, .int (0 : Int32)), (0, .ref (ad G 6)), (1, .ref (ad G 2))]) hx hb dX0_settle_60 rfl hl (by decide) rfl (fun ls hl => ?_)
    obtain ⟨n2, hB⟩ := hB
    exact wl_House_settle_r2_61 S hE hA hRf hRl hret n2 (0 : Int32) z0 hB _ _ _ hP hD hS (lv_sub hl [1, 2, 0] rfl)
  · have hB := hB.2 c1
    refine lv_aload_n hx hb dX0_settle_42 rfl (lv_at hl 0 rfl) ?_
    refine xXg_6_quality S hE hP lk_X0_9 dX0_settle_43 ?_
    refine lv_iload_n hx hb dX0_settle_46 rfl (lv_at hl 2 rfl) ?_
    refine lv_aload_n hx hb dX0_settle_47 rfl (lv_at hl 1 rfl) ?_
    refine lv_iload_n hx hb dX0_settle_48 rfl (lv_at hl 2 rfl) ?_
    refine xcVi [.int x2] S hE hA hP hD hS (c_HouseReader_qualityTold l G z0 H.size x2 _) hB (gw_c lk_X0_46 (gw_c wi_X1_qualityTold (gw_c we_X1_X1_qualityTold_X1_qualityTold (gw_c wn_X1 (gw_c wc_X1_qualityTold (fun _ h9 => h9)))))) hd_X1_qualityTold rfl rfl (Nat.le_trans (Nat.le_of_ble_eq_true rfl) hRf) (Nat.le_trans (Nat.le_of_ble_eq_true rfl) hRl) ⟨Nat.zero_le _, Nat.zero_le _⟩ (va_recv hE.1 hP (ci := 1) (q0 := 2) rfl rfl) rfl hl.1 rfl (Nat.le_of_ble_eq_true rfl) dX0_settle_49 (fun r3 z1 H locs hB hP hD hS => ?_)
    obtain ⟨hi, hB⟩ := hB
    obtain ⟨z2, ez2⟩ : ∃ z9, z9 = sA z1 18 x2.toNatClampNeg r3 := ⟨_, rfl⟩
    have hB := hB z2 ez2
    refine xXs_18 S hE hP hD hS _ rfl hi dX0_settle_52 (fun H locs hP hD hS => ?_)
    rw [← ez2] at hP hD
    obtain ⟨v4, ev4⟩ : ∃ y9, y9 = x2 + (1 : Int32) := ⟨_, rfl⟩
    have hB := hB v4 ev4
    refine lv_iinc (v := v4) (lv' := [(2, .int v4), (0, .ref (ad G 6)), (1, .ref (ad G 2))]) hx hb dX0_settle_53 hl (k := 2) rfl (by rw [ev4]; rfl) (by decide) rfl (fun ls hl => ?_)
    refine lv_goto (tgt := 34) hx hb dX0_settle_56 (by decide) ?_
    exact h34 v4 z2 hB _ _ _ hP hD hS (lv_sub hl [1, 2, 0] rfl)
def L_House_settle_r2_34 (post : St → Prop) : Nat → Int32 → St → Prop
  | 0 => fun _ _ => False
  | n + 1 => B_House_settle_r2_34 post (L_House_settle_r2_34 post n)
theorem wl_House_settle_r2_34 {p : Program} {l : Launch} {e : Env} {R : Room} {s : State} {m : MethodId} {args : Array Value} {below : List Frame} {meth : Method} {c : Code} {Q : State → Prop} {G : GX} {A : Nat → Prop} (S : CallFix p m c cX0_settle 3 s args GW RX0) (hE : env G A s s.heap) (hA : ∀ q, s.heap.size ≤ q → A q) (hRf : 1 ≤ R.frames) (hRl : 21 ≤ R.locals) {post : St → Prop} (hret : RetV p l e R s m args below meth c Q 0 0 wX G A cX0_settle post) : ∀ (n : Nat) (x2 : Int32) (z0 : St), L_House_settle_r2_34 post n x2 z0 → Xw p l e R s m args below meth c Q 0 0 wX G A z0 3 [(0, .ref (ad G 6)), (1, .ref (ad G 2)), (2, .int x2)] 34 [] := by
  intro n
  induction n with
  | zero => intro x2 z0 hB; exact absurd hB id
  | succ n ih => exact fun x2 z0 hB => w_House_settle_r2_34 S hE hA hRf hRl hret ih x2 z0 hB
def S_House_settle_r2 (post : St → Prop) (z0 : St) : Prop :=
  (∀ z1 : St, z1 = sI z0 26 (gI z0 5) → (∀ z2 : St, z2 = sI z1 27 (gI z1 6) → (S_HouseReader_wagesTold (fun (r1 : Int32) (z3 : St) => (∀ z4 : St, z4 = sI z3 28 r1 → (S_HouseReader_moreTold (fun (r2 : Int32) (z5 : St) => (∀ z6 : St, z6 = sI z5 29 r2 → (∃ n3, L_House_settle_r2_34 post n3 (0 : Int32) z6))) z4))) z2)))
set_option maxHeartbeats 4000000 in
set_option maxRecDepth 100000 in
theorem w_House_settle_r2_0 {p : Program} {l : Launch} {e : Env} {R : Room} {s : State} {m : MethodId} {args : Array Value} {below : List Frame} {meth : Method} {c : Code} {Q : State → Prop} {G : GX} {A : Nat → Prop} (S : CallFix p m c cX0_settle 3 s args GW RX0) (hE : env G A s s.heap) (hA : ∀ q, s.heap.size ≤ q → A q) (hRf : 1 ≤ R.frames) (hRl : 21 ≤ R.locals) {post : St → Prop} (hret : RetV p l e R s m args below meth c Q 0 0 wX G A cX0_settle post) (z0 : St) (hB : S_House_settle_r2 post z0) : Xw p l e R s m args below meth c Q 0 0 wX G A z0 3 [(0, .ref (ad G 6)), (1, .ref (ad G 2))] 0 [] := by
  intro H locs ls hP hD hS hl
  have hx := S.1
  have hb := S.2.1
  refine lv_aload_n hx hb dX0_settle_0 rfl (lv_at hl 0 rfl) ?_
  refine lv_aload_n hx hb dX0_settle_1 rfl (lv_at hl 1 rfl) ?_
  refine va_getN (ci := 1) (C := RX1) (T := TX1) (N := 12) hx hb S.2.2.2.2 inX1 S.2.2.2.1 hE.1 hP 2 rfl rfl 3 (by decide) (va_Nw.use rfl (en_X0_18 hE.2)) (fun _ h9 => h9) rfl dX0_settle_2 ?_
  obtain ⟨z1, ez1⟩ : ∃ z9, z9 = sI z0 26 (gI z0 5) := ⟨_, rfl⟩
  have hB := hB z1 ez1
  refine xXp_6_drinks S hE hP hD hS lk_X0_24 dX0_settle_5 (fun H locs hP hD hS => ?_)
  rw [← ez1] at hP hD
  refine lv_aload_n hx hb dX0_settle_8 rfl (lv_at hl 0 rfl) ?_
  refine lv_aload_n hx hb dX0_settle_9 rfl (lv_at hl 1 rfl) ?_
  refine va_getN (ci := 1) (C := RX1) (T := TX1) (N := 12) hx hb S.2.2.2.2 inX1 S.2.2.2.1 hE.1 hP 2 rfl rfl 4 (by decide) (va_Nw.use rfl (en_X0_27 hE.2)) (fun _ h9 => h9) rfl dX0_settle_10 ?_
  obtain ⟨z2, ez2⟩ : ∃ z9, z9 = sI z1 27 (gI z1 6) := ⟨_, rfl⟩
  have hB := hB z2 ez2
  refine xXp_6_guests S hE hP hD hS lk_X0_30 dX0_settle_13 (fun H locs hP hD hS => ?_)
  rw [← ez2] at hP hD
  refine lv_aload_n hx hb dX0_settle_16 rfl (lv_at hl 0 rfl) ?_
  refine lv_aload_n hx hb dX0_settle_17 rfl (lv_at hl 1 rfl) ?_
  refine xcVi [] S hE hA hP hD hS (c_HouseReader_wagesTold l G z2 H.size _) hB (gw_c lk_X0_33 (gw_c wi_X1_wagesTold (gw_c we_X1_X1_wagesTold_X1_wagesTold (gw_c wn_X1 (gw_c wc_X1_wagesTold (fun _ h9 => h9)))))) hd_X1_wagesTold rfl rfl (Nat.le_trans (Nat.le_of_ble_eq_true rfl) hRf) (Nat.le_trans (Nat.le_of_ble_eq_true rfl) hRl) ⟨Nat.zero_le _, Nat.zero_le _⟩ (va_recv hE.1 hP (ci := 1) (q0 := 2) rfl rfl) rfl hl.1 rfl (Nat.le_of_ble_eq_true rfl) dX0_settle_18 (fun r1 z3 H locs hB hP hD hS => ?_)
  obtain ⟨z4, ez4⟩ : ∃ z9, z9 = sI z3 28 r1 := ⟨_, rfl⟩
  have hB := hB z4 ez4
  refine xXp_6_wages S hE hP hD hS lk_X0_37 dX0_settle_21 (fun H locs hP hD hS => ?_)
  rw [← ez4] at hP hD
  refine lv_aload_n hx hb dX0_settle_24 rfl (lv_at hl 0 rfl) ?_
  refine lv_aload_n hx hb dX0_settle_25 rfl (lv_at hl 1 rfl) ?_
  refine xcVi [] S hE hA hP hD hS (c_HouseReader_moreTold l G z4 H.size _) hB (gw_c lk_X0_40 (gw_c wi_X1_moreTold (gw_c we_X1_X1_moreTold_X1_moreTold (gw_c wn_X1 (gw_c wc_X1_moreTold (fun _ h9 => h9)))))) hd_X1_moreTold rfl rfl (Nat.le_trans (Nat.le_of_ble_eq_true rfl) hRf) (Nat.le_trans (Nat.le_of_ble_eq_true rfl) hRl) ⟨Nat.zero_le _, Nat.zero_le _⟩ (va_recv hE.1 hP (ci := 1) (q0 := 2) rfl rfl) rfl hl.1 rfl (Nat.le_of_ble_eq_true rfl) dX0_settle_26 (fun r2 z5 H locs hB hP hD hS => ?_)
  obtain ⟨z6, ez6⟩ : ∃ z9, z9 = sI z5 29 r2 := ⟨_, rfl⟩
  have hB := hB z6 ez6
  refine xXp_6_more S hE hP hD hS lk_X0_43 dX0_settle_29 (fun H locs hP hD hS => ?_)
  rw [← ez6] at hP hD
  refine lv_iconst (v := 0) hx hb dX0_settle_32 (by decide) ?_
  refine lv_istore_n (lv' := [(2, .int (0 : Int32)), (0, .ref (ad G 6)), (1, .ref (ad G 2))]) hx hb dX0_settle_33 rfl hl (by decide) rfl (fun ls hl => ?_)
  obtain ⟨n3, hB⟩ := hB
  exact wl_House_settle_r2_34 S hE hA hRf hRl hret n3 (0 : Int32) z6 hB _ _ _ hP hD hS (lv_sub hl [1, 2, 0] rfl)
set_option maxHeartbeats 4000000 in
set_option maxRecDepth 100000 in
theorem c_House_settle_r2 (l : Launch) (G : GX) (z0 : St) (sz : Nat) (post : St → Prop) : MetV l wX yX0_settle cX0_settle 3 none ({ frames := 1, cells := 0, slots := 0, locals := 21 }) [.ref (ad G 6), .ref (ad G 2)] G z0 sz (S_House_settle_r2 post z0) post := by
  refine Met.ofW (cc := cX0_settle) (maxL := 3) (ret := none) (by decide) rfl ?_
  intro p e s m args below meth c s₁ B hml hv
  obtain ⟨rfl, hsz, hP, hD0, hE, hB⟩ := hv
  have S : CallFix p m c cX0_settle 3 s _ GW RX0 := ⟨B.exec, B.bytes, hml, findClass_of_methodNamed B.named, fun w h => atoms_spec (ws := Cond.code yX0_settle cX0_settle 3 none :: GW) B.pre w (List.mem_cons_of_mem _ h)⟩
  have hlocks := B.notSynchronized
  subst hsz
  have hD := hD0.self (sz := s.heap.size)
  generalize hAe : va_A (wX G z0) s.heap.size = A at hD hE ⊢
  have hA : ∀ q : Nat, s.heap.size ≤ q → A q := fun q h => by rw [← hAe]; exact Or.inr h
  have hS : va_S A s.heap s.heap [] := va_S.rf
  have hl := lv_entry ([.ref (ad G 6), .ref (ad G 2)]) (n := 3) (Nat.le_of_ble_eq_true rfl)
  rw [lg_entry_eq]
  generalize (lg_sl ([.ref (ad G 6), .ref (ad G 2)]) ++ List.replicate (3 - (lg_sl ([.ref (ad G 6), .ref (ad G 2)])).length) Slot.unset).toArray = ls at hl ⊢
  have hl : lv_has ls 3 [(0, .ref (ad G 6)), (1, .ref (ad G 2))] := hl
  refine w_House_settle_r2_0 S hE hA (Nat.le_refl _) (Nat.le_refl _) ?_  z0 hB _ _ _ hP hD hS hl
  intro pc ls σ H locs hd hp hP hD hS
  exact W.vret B.exec B.bytes B.returns (fun t ht hW => ⟨⟨σ, rfl, hp, by rw [ht]; exact hP, hD⟩, hS.F ht⟩) hS.2.2 hd
def B_Arrays_fill_53178_X_r23_5 (post : St → Prop) (ih5 : Int32 → Int32 → Int32 → St → Prop) (x1 : Int32) (x2 : Int32) (x3 : Int32) (z0 : St) : Prop :=
  ((x3 ≤ x2 → (post z0)) ∧ (¬ x3 ≤ x2 → (vp_in x2 28 ∧ (∀ z1 : St, z1 = sA z0 23 x2.toNatClampNeg x1 → (∀ v2 : Int32, v2 = x2 + (1 : Int32) → (ih5 x1 v2 x3 z1))))))
set_option maxHeartbeats 4000000 in
set_option maxRecDepth 100000 in
theorem w_Arrays_fill_53178_X_r23_5 {p : Program} {l : Launch} {e : Env} {R : Room} {s : State} {m : MethodId} {args : Array Value} {below : List Frame} {meth : Method} {c : Code} {Q : State → Prop} {G : GX} {A : Nat → Prop} (S : CallFix p m c cJ7_fill_53178 4 s args GW RJ7) (hE : env G A s s.heap) (hA : ∀ q, s.heap.size ≤ q → A q) (hRf : 0 ≤ R.frames) (hRl : 0 ≤ R.locals) {post : St → Prop} (hret : RetV p l e R s m args below meth c Q 0 0 wX G A cJ7_fill_53178 post) {ih5 : Int32 → Int32 → Int32 → St → Prop} (h5 : ∀ (x1 : Int32) (x2 : Int32) (x3 : Int32) (z0 : St), ih5 x1 x2 x3 z0 → Xw p l e R s m args below meth c Q 0 0 wX G A z0 4 [(0, .ref (ad G 23)), (1, .int x1), (2, .int x2), (3, .int x3)] 5 []) (x1 : Int32) (x2 : Int32) (x3 : Int32) (z0 : St) (hB : B_Arrays_fill_53178_X_r23_5 post ih5 x1 x2 x3 z0) : Xw p l e R s m args below meth c Q 0 0 wX G A z0 4 [(0, .ref (ad G 23)), (1, .int x1), (2, .int x2), (3, .int x3)] 5 [] := by
  intro H locs ls hP hD hS hl
  have hx := S.1
  have hb := S.2.1
  refine lv_iload_n hx hb dJ7_fill_53178_5 rfl (lv_at hl 2 rfl) ?_
  refine lv_iload_n hx hb dJ7_fill_53178_6 rfl (lv_at hl 3 rfl) ?_
  refine lv_icmp_ge (tgt := 20) hx hb dJ7_fill_53178_7 (by decide) (fun c1 => ?_) (fun c1 => ?_)
  · have hB := hB.1 c1
    exact hret _ _ _ _ _ dJ7_fill_53178_20 hB hP hD hS
  · have hB := hB.2 c1
    refine lv_aload_n hx hb dJ7_fill_53178_10 rfl (lv_at hl 0 rfl) ?_
    refine lv_iload_n hx hb dJ7_fill_53178_11 rfl (lv_at hl 2 rfl) ?_
    refine lv_iload_n hx hb dJ7_fill_53178_12 rfl (lv_at hl 1 rfl) ?_
    obtain ⟨hi, hB⟩ := hB
    obtain ⟨z1, ez1⟩ : ∃ z9, z9 = sA z0 23 x2.toNatClampNeg x1 := ⟨_, rfl⟩
    have hB := hB z1 ez1
    refine xXs_23 S hE hP hD hS _ rfl hi dJ7_fill_53178_13 (fun H locs hP hD hS => ?_)
    rw [← ez1] at hP hD
    obtain ⟨v2, ev2⟩ : ∃ y9, y9 = x2 + (1 : Int32) := ⟨_, rfl⟩
    have hB := hB v2 ev2
    refine lv_iinc (v := v2) (lv' := [(2, .int v2), (0, .ref (ad G 23)), (1, .int x1), (3, .int x3)]) hx hb dJ7_fill_53178_14 hl (k := 2) rfl (by rw [ev2]; rfl) (by decide) rfl (fun ls hl => ?_)
    refine lv_goto (tgt := 5) hx hb dJ7_fill_53178_17 (by decide) ?_
    exact h5 x1 v2 x3 z1 hB _ _ _ hP hD hS (lv_sub hl [1, 2, 0, 3] rfl)
def L_Arrays_fill_53178_X_r23_5 (post : St → Prop) : Nat → Int32 → Int32 → Int32 → St → Prop
  | 0 => fun _ _ _ _ => False
  | n + 1 => B_Arrays_fill_53178_X_r23_5 post (L_Arrays_fill_53178_X_r23_5 post n)
theorem wl_Arrays_fill_53178_X_r23_5 {p : Program} {l : Launch} {e : Env} {R : Room} {s : State} {m : MethodId} {args : Array Value} {below : List Frame} {meth : Method} {c : Code} {Q : State → Prop} {G : GX} {A : Nat → Prop} (S : CallFix p m c cJ7_fill_53178 4 s args GW RJ7) (hE : env G A s s.heap) (hA : ∀ q, s.heap.size ≤ q → A q) (hRf : 0 ≤ R.frames) (hRl : 0 ≤ R.locals) {post : St → Prop} (hret : RetV p l e R s m args below meth c Q 0 0 wX G A cJ7_fill_53178 post) : ∀ (n : Nat) (x1 : Int32) (x2 : Int32) (x3 : Int32) (z0 : St), L_Arrays_fill_53178_X_r23_5 post n x1 x2 x3 z0 → Xw p l e R s m args below meth c Q 0 0 wX G A z0 4 [(0, .ref (ad G 23)), (1, .int x1), (2, .int x2), (3, .int x3)] 5 [] := by
  intro n
  induction n with
  | zero => intro x1 x2 x3 z0 hB; exact absurd hB id
  | succ n ih => exact fun x1 x2 x3 z0 hB => w_Arrays_fill_53178_X_r23_5 S hE hA hRf hRl hret ih x1 x2 x3 z0 hB
def S_Arrays_fill_53178_X_r23 (post : St → Prop) (x1 : Int32) (z0 : St) : Prop :=
  (∃ n1, L_Arrays_fill_53178_X_r23_5 post n1 x1 (0 : Int32) (28 : Int32) z0)
set_option maxHeartbeats 4000000 in
set_option maxRecDepth 100000 in
theorem w_Arrays_fill_53178_X_r23_0 {p : Program} {l : Launch} {e : Env} {R : Room} {s : State} {m : MethodId} {args : Array Value} {below : List Frame} {meth : Method} {c : Code} {Q : State → Prop} {G : GX} {A : Nat → Prop} (S : CallFix p m c cJ7_fill_53178 4 s args GW RJ7) (hE : env G A s s.heap) (hA : ∀ q, s.heap.size ≤ q → A q) (hRf : 0 ≤ R.frames) (hRl : 0 ≤ R.locals) {post : St → Prop} (hret : RetV p l e R s m args below meth c Q 0 0 wX G A cJ7_fill_53178 post) (x1 : Int32) (z0 : St) (hB : S_Arrays_fill_53178_X_r23 post x1 z0) : Xw p l e R s m args below meth c Q 0 0 wX G A z0 4 [(0, .ref (ad G 23)), (1, .int x1)] 0 [] := by
  intro H locs ls hP hD hS hl
  have hx := S.1
  have hb := S.2.1
  refine lv_iconst (v := 0) hx hb dJ7_fill_53178_0 (by decide) ?_
  refine lv_istore_n (lv' := [(2, .int (0 : Int32)), (0, .ref (ad G 23)), (1, .int x1)]) hx hb dJ7_fill_53178_1 rfl hl (by decide) rfl (fun ls hl => ?_)
  refine lv_aload_n hx hb dJ7_fill_53178_2 rfl (lv_at hl 1 rfl) ?_
  refine xXn_23 S hE hP dJ7_fill_53178_3 ?_
  refine lv_istore_n (lv' := [(3, .int (28 : Int32)), (2, .int (0 : Int32)), (0, .ref (ad G 23)), (1, .int x1)]) hx hb dJ7_fill_53178_4 rfl hl (by decide) rfl (fun ls hl => ?_)
  obtain ⟨n1, hB⟩ := hB
  exact wl_Arrays_fill_53178_X_r23_5 S hE hA hRf hRl hret n1 x1 (0 : Int32) (28 : Int32) z0 hB _ _ _ hP hD hS (lv_sub hl [2, 3, 1, 0] rfl)
set_option maxHeartbeats 4000000 in
set_option maxRecDepth 100000 in
theorem c_Arrays_fill_53178_X_r23 (l : Launch) (G : GX) (z0 : St) (sz : Nat) (x1 : Int32) (post : St → Prop) : MetV l wX yJ7_fill_53178 cJ7_fill_53178 4 none ({ frames := 0, cells := 0, slots := 0, locals := 0 }) [.ref (ad G 23), .int x1] G z0 sz (S_Arrays_fill_53178_X_r23 post x1 z0) post := by
  refine Met.ofW (cc := cJ7_fill_53178) (maxL := 4) (ret := none) (by decide) rfl ?_
  intro p e s m args below meth c s₁ B hml hv
  obtain ⟨rfl, hsz, hP, hD0, hE, hB⟩ := hv
  have S : CallFix p m c cJ7_fill_53178 4 s _ GW RJ7 := ⟨B.exec, B.bytes, hml, findClass_of_methodNamed B.named, fun w h => atoms_spec (ws := Cond.code yJ7_fill_53178 cJ7_fill_53178 4 none :: GW) B.pre w (List.mem_cons_of_mem _ h)⟩
  have hlocks := B.notSynchronized
  subst hsz
  have hD := hD0.self (sz := s.heap.size)
  generalize hAe : va_A (wX G z0) s.heap.size = A at hD hE ⊢
  have hA : ∀ q : Nat, s.heap.size ≤ q → A q := fun q h => by rw [← hAe]; exact Or.inr h
  have hS : va_S A s.heap s.heap [] := va_S.rf
  have hl := lv_entry ([.ref (ad G 23), .int x1]) (n := 4) (Nat.le_of_ble_eq_true rfl)
  rw [lg_entry_eq]
  generalize (lg_sl ([.ref (ad G 23), .int x1]) ++ List.replicate (4 - (lg_sl ([.ref (ad G 23), .int x1])).length) Slot.unset).toArray = ls at hl ⊢
  have hl : lv_has ls 4 [(0, .ref (ad G 23)), (1, .int x1)] := hl
  refine w_Arrays_fill_53178_X_r23_0 S hE hA (Nat.le_refl _) (Nat.le_refl _) ?_ x1 z0 hB _ _ _ hP hD hS hl
  intro pc ls σ H locs hd hp hP hD hS
  exact W.vret B.exec B.bytes B.returns (fun t ht hW => ⟨⟨σ, rfl, hp, by rw [ht]; exact hP, hD⟩, hS.F ht⟩) hS.2.2 hd
def S_HouseReader_moneyTold (post : Int32 → St → Prop) (x1 : Int32) (z0 : St) : Prop :=
  (vp_in (((15 : Int32) + ((3 : Int32) * x1)) + (1 : Int32)) 33 ∧ (post (gA z0 13 (((15 : Int32) + ((3 : Int32) * x1)) + (1 : Int32)).toNatClampNeg) z0))
set_option maxHeartbeats 4000000 in
set_option maxRecDepth 100000 in
theorem w_HouseReader_moneyTold_0 {p : Program} {l : Launch} {e : Env} {R : Room} {s : State} {m : MethodId} {args : Array Value} {below : List Frame} {meth : Method} {c : Code} {Q : State → Prop} {G : GX} {A : Nat → Prop} (S : CallFix p m c cX1_moneyTold 2 s args GW RX1) (hE : env G A s s.heap) (hA : ∀ q, s.heap.size ≤ q → A q) (hRf : 0 ≤ R.frames) (hRl : 0 ≤ R.locals) {post : Int32 → St → Prop} (hret : RetI p l e R s m args below meth c Q 0 0 wX G A cX1_moneyTold post) (x1 : Int32) (z0 : St) (hB : S_HouseReader_moneyTold post x1 z0) : Xw p l e R s m args below meth c Q 0 0 wX G A z0 2 [(0, .ref (ad G 2)), (1, .int x1)] 0 [] := by
  intro H locs ls hP hD hS hl
  have hx := S.1
  have hb := S.2.1
  refine lv_aload_n hx hb dX1_moneyTold_0 rfl (lv_at hl 0 rfl) ?_
  refine xXg_2_values S hE hP lk_X1_11 dX1_moneyTold_1 ?_
  refine lv_bipush (v := 15) hx hb dX1_moneyTold_4 (by decide) ?_
  refine lv_iconst (v := 3) hx hb dX1_moneyTold_6 (by decide) ?_
  refine lv_iload_n hx hb dX1_moneyTold_7 rfl (lv_at hl 1 rfl) ?_
  refine lv_imul hx hb dX1_moneyTold_8 ?_
  refine lv_iadd hx hb dX1_moneyTold_9 ?_
  refine lv_iconst (v := 1) hx hb dX1_moneyTold_10 (by decide) ?_
  refine lv_iadd hx hb dX1_moneyTold_11 ?_
  obtain ⟨hi, hB⟩ := hB
  refine xXl_13 S hE hP hi dX1_moneyTold_12 ?_
  exact hret _ _ _ _ _ _ dX1_moneyTold_13 hB hP hD hS
set_option maxHeartbeats 4000000 in
set_option maxRecDepth 100000 in
theorem c_HouseReader_moneyTold (l : Launch) (G : GX) (z0 : St) (sz : Nat) (x1 : Int32) (post : Int32 → St → Prop) : MetI l wX yX1_moneyTold cX1_moneyTold 2 (some .int) ({ frames := 0, cells := 0, slots := 0, locals := 0 }) [.ref (ad G 2), .int x1] G z0 sz (S_HouseReader_moneyTold post x1 z0) post := by
  refine Met.ofW (cc := cX1_moneyTold) (maxL := 2) (ret := (some .int)) (by decide) rfl ?_
  intro p e s m args below meth c s₁ B hml hv
  obtain ⟨rfl, hsz, hP, hD0, hE, hB⟩ := hv
  have S : CallFix p m c cX1_moneyTold 2 s _ GW RX1 := ⟨B.exec, B.bytes, hml, findClass_of_methodNamed B.named, fun w h => atoms_spec (ws := Cond.code yX1_moneyTold cX1_moneyTold 2 (some .int) :: GW) B.pre w (List.mem_cons_of_mem _ h)⟩
  have hlocks := B.notSynchronized
  subst hsz
  have hD := hD0.self (sz := s.heap.size)
  generalize hAe : va_A (wX G z0) s.heap.size = A at hD hE ⊢
  have hA : ∀ q : Nat, s.heap.size ≤ q → A q := fun q h => by rw [← hAe]; exact Or.inr h
  have hS : va_S A s.heap s.heap [] := va_S.rf
  have hl := lv_entry ([.ref (ad G 2), .int x1]) (n := 2) (Nat.le_of_ble_eq_true rfl)
  rw [lg_entry_eq]
  generalize (lg_sl ([.ref (ad G 2), .int x1]) ++ List.replicate (2 - (lg_sl ([.ref (ad G 2), .int x1])).length) Slot.unset).toArray = ls at hl ⊢
  have hl : lv_has ls 2 [(0, .ref (ad G 2)), (1, .int x1)] := hl
  refine w_HouseReader_moneyTold_0 S hE hA (Nat.le_refl _) (Nat.le_refl _) ?_ x1 z0 hB _ _ _ hP hD hS hl
  intro pc ls r σ H locs hd hp hP hD hS
  exact W.iret (v := r) B.exec B.bytes B.returns (fun t ht hW => ⟨⟨r, σ, rfl, hp, by rw [ht]; exact hP, hD⟩, hS.F ht⟩) hS.2.2 hd
def S_HouseReader_moodTold (post : Int32 → St → Prop) (x1 : Int32) (z0 : St) : Prop :=
  (vp_in (((15 : Int32) + ((3 : Int32) * x1)) + (2 : Int32)) 33 ∧ (post (gA z0 13 (((15 : Int32) + ((3 : Int32) * x1)) + (2 : Int32)).toNatClampNeg) z0))
set_option maxHeartbeats 4000000 in
set_option maxRecDepth 100000 in
theorem w_HouseReader_moodTold_0 {p : Program} {l : Launch} {e : Env} {R : Room} {s : State} {m : MethodId} {args : Array Value} {below : List Frame} {meth : Method} {c : Code} {Q : State → Prop} {G : GX} {A : Nat → Prop} (S : CallFix p m c cX1_moodTold 2 s args GW RX1) (hE : env G A s s.heap) (hA : ∀ q, s.heap.size ≤ q → A q) (hRf : 0 ≤ R.frames) (hRl : 0 ≤ R.locals) {post : Int32 → St → Prop} (hret : RetI p l e R s m args below meth c Q 0 0 wX G A cX1_moodTold post) (x1 : Int32) (z0 : St) (hB : S_HouseReader_moodTold post x1 z0) : Xw p l e R s m args below meth c Q 0 0 wX G A z0 2 [(0, .ref (ad G 2)), (1, .int x1)] 0 [] := by
  intro H locs ls hP hD hS hl
  have hx := S.1
  have hb := S.2.1
  refine lv_aload_n hx hb dX1_moodTold_0 rfl (lv_at hl 0 rfl) ?_
  refine xXg_2_values S hE hP lk_X1_11 dX1_moodTold_1 ?_
  refine lv_bipush (v := 15) hx hb dX1_moodTold_4 (by decide) ?_
  refine lv_iconst (v := 3) hx hb dX1_moodTold_6 (by decide) ?_
  refine lv_iload_n hx hb dX1_moodTold_7 rfl (lv_at hl 1 rfl) ?_
  refine lv_imul hx hb dX1_moodTold_8 ?_
  refine lv_iadd hx hb dX1_moodTold_9 ?_
  refine lv_iconst (v := 2) hx hb dX1_moodTold_10 (by decide) ?_
  refine lv_iadd hx hb dX1_moodTold_11 ?_
  obtain ⟨hi, hB⟩ := hB
  refine xXl_13 S hE hP hi dX1_moodTold_12 ?_
  exact hret _ _ _ _ _ _ dX1_moodTold_13 hB hP hD hS
set_option maxHeartbeats 4000000 in
set_option maxRecDepth 100000 in
theorem c_HouseReader_moodTold (l : Launch) (G : GX) (z0 : St) (sz : Nat) (x1 : Int32) (post : Int32 → St → Prop) : MetI l wX yX1_moodTold cX1_moodTold 2 (some .int) ({ frames := 0, cells := 0, slots := 0, locals := 0 }) [.ref (ad G 2), .int x1] G z0 sz (S_HouseReader_moodTold post x1 z0) post := by
  refine Met.ofW (cc := cX1_moodTold) (maxL := 2) (ret := (some .int)) (by decide) rfl ?_
  intro p e s m args below meth c s₁ B hml hv
  obtain ⟨rfl, hsz, hP, hD0, hE, hB⟩ := hv
  have S : CallFix p m c cX1_moodTold 2 s _ GW RX1 := ⟨B.exec, B.bytes, hml, findClass_of_methodNamed B.named, fun w h => atoms_spec (ws := Cond.code yX1_moodTold cX1_moodTold 2 (some .int) :: GW) B.pre w (List.mem_cons_of_mem _ h)⟩
  have hlocks := B.notSynchronized
  subst hsz
  have hD := hD0.self (sz := s.heap.size)
  generalize hAe : va_A (wX G z0) s.heap.size = A at hD hE ⊢
  have hA : ∀ q : Nat, s.heap.size ≤ q → A q := fun q h => by rw [← hAe]; exact Or.inr h
  have hS : va_S A s.heap s.heap [] := va_S.rf
  have hl := lv_entry ([.ref (ad G 2), .int x1]) (n := 2) (Nat.le_of_ble_eq_true rfl)
  rw [lg_entry_eq]
  generalize (lg_sl ([.ref (ad G 2), .int x1]) ++ List.replicate (2 - (lg_sl ([.ref (ad G 2), .int x1])).length) Slot.unset).toArray = ls at hl ⊢
  have hl : lv_has ls 2 [(0, .ref (ad G 2)), (1, .int x1)] := hl
  refine w_HouseReader_moodTold_0 S hE hA (Nat.le_refl _) (Nat.le_refl _) ?_ x1 z0 hB _ _ _ hP hD hS hl
  intro pc ls r σ H locs hd hp hP hD hS
  exact W.iret (v := r) B.exec B.bytes B.returns (fun t ht hW => ⟨⟨r, σ, rfl, hp, by rw [ht]; exact hP, hD⟩, hS.F ht⟩) hS.2.2 hd
def S_HouseReader_priceTold (post : Int32 → St → Prop) (x1 : Int32) (z0 : St) : Prop :=
  (vp_in (((3 : Int32) + ((2 : Int32) * x1)) + (1 : Int32)) 33 ∧ (post (gA z0 13 (((3 : Int32) + ((2 : Int32) * x1)) + (1 : Int32)).toNatClampNeg) z0))
set_option maxHeartbeats 4000000 in
set_option maxRecDepth 100000 in
theorem w_HouseReader_priceTold_0 {p : Program} {l : Launch} {e : Env} {R : Room} {s : State} {m : MethodId} {args : Array Value} {below : List Frame} {meth : Method} {c : Code} {Q : State → Prop} {G : GX} {A : Nat → Prop} (S : CallFix p m c cX1_priceTold 2 s args GW RX1) (hE : env G A s s.heap) (hA : ∀ q, s.heap.size ≤ q → A q) (hRf : 0 ≤ R.frames) (hRl : 0 ≤ R.locals) {post : Int32 → St → Prop} (hret : RetI p l e R s m args below meth c Q 0 0 wX G A cX1_priceTold post) (x1 : Int32) (z0 : St) (hB : S_HouseReader_priceTold post x1 z0) : Xw p l e R s m args below meth c Q 0 0 wX G A z0 2 [(0, .ref (ad G 2)), (1, .int x1)] 0 [] := by
  intro H locs ls hP hD hS hl
  have hx := S.1
  have hb := S.2.1
  refine lv_aload_n hx hb dX1_priceTold_0 rfl (lv_at hl 0 rfl) ?_
  refine xXg_2_values S hE hP lk_X1_11 dX1_priceTold_1 ?_
  refine lv_iconst (v := 3) hx hb dX1_priceTold_4 (by decide) ?_
  refine lv_iconst (v := 2) hx hb dX1_priceTold_5 (by decide) ?_
  refine lv_iload_n hx hb dX1_priceTold_6 rfl (lv_at hl 1 rfl) ?_
  refine lv_imul hx hb dX1_priceTold_7 ?_
  refine lv_iadd hx hb dX1_priceTold_8 ?_
  refine lv_iconst (v := 1) hx hb dX1_priceTold_9 (by decide) ?_
  refine lv_iadd hx hb dX1_priceTold_10 ?_
  obtain ⟨hi, hB⟩ := hB
  refine xXl_13 S hE hP hi dX1_priceTold_11 ?_
  exact hret _ _ _ _ _ _ dX1_priceTold_12 hB hP hD hS
set_option maxHeartbeats 4000000 in
set_option maxRecDepth 100000 in
theorem c_HouseReader_priceTold (l : Launch) (G : GX) (z0 : St) (sz : Nat) (x1 : Int32) (post : Int32 → St → Prop) : MetI l wX yX1_priceTold cX1_priceTold 2 (some .int) ({ frames := 0, cells := 0, slots := 0, locals := 0 }) [.ref (ad G 2), .int x1] G z0 sz (S_HouseReader_priceTold post x1 z0) post := by
  refine Met.ofW (cc := cX1_priceTold) (maxL := 2) (ret := (some .int)) (by decide) rfl ?_
  intro p e s m args below meth c s₁ B hml hv
  obtain ⟨rfl, hsz, hP, hD0, hE, hB⟩ := hv
  have S : CallFix p m c cX1_priceTold 2 s _ GW RX1 := ⟨B.exec, B.bytes, hml, findClass_of_methodNamed B.named, fun w h => atoms_spec (ws := Cond.code yX1_priceTold cX1_priceTold 2 (some .int) :: GW) B.pre w (List.mem_cons_of_mem _ h)⟩
  have hlocks := B.notSynchronized
  subst hsz
  have hD := hD0.self (sz := s.heap.size)
  generalize hAe : va_A (wX G z0) s.heap.size = A at hD hE ⊢
  have hA : ∀ q : Nat, s.heap.size ≤ q → A q := fun q h => by rw [← hAe]; exact Or.inr h
  have hS : va_S A s.heap s.heap [] := va_S.rf
  have hl := lv_entry ([.ref (ad G 2), .int x1]) (n := 2) (Nat.le_of_ble_eq_true rfl)
  rw [lg_entry_eq]
  generalize (lg_sl ([.ref (ad G 2), .int x1]) ++ List.replicate (2 - (lg_sl ([.ref (ad G 2), .int x1])).length) Slot.unset).toArray = ls at hl ⊢
  have hl : lv_has ls 2 [(0, .ref (ad G 2)), (1, .int x1)] := hl
  refine w_HouseReader_priceTold_0 S hE hA (Nat.le_refl _) (Nat.le_refl _) ?_ x1 z0 hB _ _ _ hP hD hS hl
  intro pc ls r σ H locs hd hp hP hD hS
  exact W.iret (v := r) B.exec B.bytes B.returns (fun t ht hW => ⟨⟨r, σ, rfl, hp, by rw [ht]; exact hP, hD⟩, hS.F ht⟩) hS.2.2 hd
def B_Table_settle_8_r2_53 (post : St → Prop) (ih53 : Int32 → St → Prop) (x2 : Int32) (z0 : St) : Prop :=
  (((gI z0 27) ≤ x2 → (post z0)) ∧ (¬ (gI z0 27) ≤ x2 → (S_HouseReader_moneyTold (fun (r2 : Int32) (z1 : St) => (vp_in ((4 : Int32) + x2) 28 ∧ (∀ z2 : St, z2 = sA z1 23 ((4 : Int32) + x2).toNatClampNeg r2 → (S_HouseReader_moodTold (fun (r3 : Int32) (z3 : St) => (vp_in ((10 : Int32) + x2) 28 ∧ (∀ z4 : St, z4 = sA z3 23 ((10 : Int32) + x2).toNatClampNeg r3 → (∀ v4 : Int32, v4 = x2 + (1 : Int32) → (ih53 v4 z4))))) x2 z2)))) x2 z0)))
set_option maxHeartbeats 4000000 in
set_option maxRecDepth 100000 in
theorem w_Table_settle_8_r2_53 {p : Program} {l : Launch} {e : Env} {R : Room} {s : State} {m : MethodId} {args : Array Value} {below : List Frame} {meth : Method} {c : Code} {Q : State → Prop} {G : GX} {A : Nat → Prop} (S : CallFix p m c cX8_settle 3 s args GW RX8) (hE : env G A s s.heap) (hA : ∀ q, s.heap.size ≤ q → A q) (hRf : 1 ≤ R.frames) (hRl : 23 ≤ R.locals) {post : St → Prop} (hret : RetV p l e R s m args below meth c Q 0 0 wX G A cX8_settle post) {ih53 : Int32 → St → Prop} (h53 : ∀ (x2 : Int32) (z0 : St), ih53 x2 z0 → Xw p l e R s m args below meth c Q 0 0 wX G A z0 3 [(0, .ref (ad G 8)), (1, .ref (ad G 2)), (2, .int x2)] 53 []) (x2 : Int32) (z0 : St) (hB : B_Table_settle_8_r2_53 post ih53 x2 z0) : Xw p l e R s m args below meth c Q 0 0 wX G A z0 3 [(0, .ref (ad G 8)), (1, .ref (ad G 2)), (2, .int x2)] 53 [] := by
  intro H locs ls hP hD hS hl
  have hx := S.1
  have hb := S.2.1
  refine lv_iload_n hx hb dX8_settle_53 rfl (lv_at hl 2 rfl) ?_
  refine lv_aload_n hx hb dX8_settle_54 rfl (lv_at hl 0 rfl) ?_
  refine xXg_8_house S hE hP lk_X8_15 dX8_settle_55 ?_
  refine xXg_6_guests S hE hP lk_X8_45 dX8_settle_58 ?_
  refine lv_icmp_ge (tgt := 97) hx hb dX8_settle_61 (by decide) (fun c1 => ?_) (fun c1 => ?_)
  · have hB := hB.1 c1
    exact hret _ _ _ _ _ dX8_settle_97 hB hP hD hS
  · have hB := hB.2 c1
    refine lv_aload_n hx hb dX8_settle_64 rfl (lv_at hl 0 rfl) ?_
    refine xXg_8_cells S hE hP lk_X8_11 dX8_settle_65 ?_
    refine lv_iconst (v := 4) hx hb dX8_settle_68 (by decide) ?_
    refine lv_iload_n hx hb dX8_settle_69 rfl (lv_at hl 2 rfl) ?_
    refine lv_iadd hx hb dX8_settle_70 ?_
    refine lv_aload_n hx hb dX8_settle_71 rfl (lv_at hl 1 rfl) ?_
    refine lv_iload_n hx hb dX8_settle_72 rfl (lv_at hl 2 rfl) ?_
    refine xcVi [.int x2] S hE hA hP hD hS (c_HouseReader_moneyTold l G z0 H.size x2 _) hB (gw_c lk_X8_48 (gw_c wi_X1_moneyTold (gw_c we_X1_X1_moneyTold_X1_moneyTold (gw_c wn_X1 (gw_c wc_X1_moneyTold (fun _ h9 => h9)))))) hd_X1_moneyTold rfl rfl (Nat.le_trans (Nat.le_of_ble_eq_true rfl) hRf) (Nat.le_trans (Nat.le_of_ble_eq_true rfl) hRl) ⟨Nat.zero_le _, Nat.zero_le _⟩ (va_recv hE.1 hP (ci := 1) (q0 := 2) rfl rfl) rfl hl.1 rfl (Nat.le_of_ble_eq_true rfl) dX8_settle_73 (fun r2 z1 H locs hB hP hD hS => ?_)
    obtain ⟨hi, hB⟩ := hB
    obtain ⟨z2, ez2⟩ : ∃ z9, z9 = sA z1 23 ((4 : Int32) + x2).toNatClampNeg r2 := ⟨_, rfl⟩
    have hB := hB z2 ez2
    refine xXs_23 S hE hP hD hS _ rfl hi dX8_settle_76 (fun H locs hP hD hS => ?_)
    rw [← ez2] at hP hD
    refine lv_aload_n hx hb dX8_settle_77 rfl (lv_at hl 0 rfl) ?_
    refine xXg_8_cells S hE hP lk_X8_11 dX8_settle_78 ?_
    refine lv_bipush (v := 10) hx hb dX8_settle_81 (by decide) ?_
    refine lv_iload_n hx hb dX8_settle_83 rfl (lv_at hl 2 rfl) ?_
    refine lv_iadd hx hb dX8_settle_84 ?_
    refine lv_aload_n hx hb dX8_settle_85 rfl (lv_at hl 1 rfl) ?_
    refine lv_iload_n hx hb dX8_settle_86 rfl (lv_at hl 2 rfl) ?_
    refine xcVi [.int x2] S hE hA hP hD hS (c_HouseReader_moodTold l G z2 H.size x2 _) hB (gw_c lk_X8_51 (gw_c wi_X1_moodTold (gw_c we_X1_X1_moodTold_X1_moodTold (gw_c wn_X1 (gw_c wc_X1_moodTold (fun _ h9 => h9)))))) hd_X1_moodTold rfl rfl (Nat.le_trans (Nat.le_of_ble_eq_true rfl) hRf) (Nat.le_trans (Nat.le_of_ble_eq_true rfl) hRl) ⟨Nat.zero_le _, Nat.zero_le _⟩ (va_recv hE.1 hP (ci := 1) (q0 := 2) rfl rfl) rfl hl.1 rfl (Nat.le_of_ble_eq_true rfl) dX8_settle_87 (fun r3 z3 H locs hB hP hD hS => ?_)
    obtain ⟨hi, hB⟩ := hB
    obtain ⟨z4, ez4⟩ : ∃ z9, z9 = sA z3 23 ((10 : Int32) + x2).toNatClampNeg r3 := ⟨_, rfl⟩
    have hB := hB z4 ez4
    refine xXs_23 S hE hP hD hS _ rfl hi dX8_settle_90 (fun H locs hP hD hS => ?_)
    rw [← ez4] at hP hD
    obtain ⟨v4, ev4⟩ : ∃ y9, y9 = x2 + (1 : Int32) := ⟨_, rfl⟩
    have hB := hB v4 ev4
    refine lv_iinc (v := v4) (lv' := [(2, .int v4), (0, .ref (ad G 8)), (1, .ref (ad G 2))]) hx hb dX8_settle_91 hl (k := 2) rfl (by rw [ev4]; rfl) (by decide) rfl (fun ls hl => ?_)
    refine lv_goto (tgt := 53) hx hb dX8_settle_94 (by decide) ?_
    exact h53 v4 z4 hB _ _ _ hP hD hS (lv_sub hl [1, 2, 0] rfl)
def L_Table_settle_8_r2_53 (post : St → Prop) : Nat → Int32 → St → Prop
  | 0 => fun _ _ => False
  | n + 1 => B_Table_settle_8_r2_53 post (L_Table_settle_8_r2_53 post n)
theorem wl_Table_settle_8_r2_53 {p : Program} {l : Launch} {e : Env} {R : Room} {s : State} {m : MethodId} {args : Array Value} {below : List Frame} {meth : Method} {c : Code} {Q : State → Prop} {G : GX} {A : Nat → Prop} (S : CallFix p m c cX8_settle 3 s args GW RX8) (hE : env G A s s.heap) (hA : ∀ q, s.heap.size ≤ q → A q) (hRf : 1 ≤ R.frames) (hRl : 23 ≤ R.locals) {post : St → Prop} (hret : RetV p l e R s m args below meth c Q 0 0 wX G A cX8_settle post) : ∀ (n : Nat) (x2 : Int32) (z0 : St), L_Table_settle_8_r2_53 post n x2 z0 → Xw p l e R s m args below meth c Q 0 0 wX G A z0 3 [(0, .ref (ad G 8)), (1, .ref (ad G 2)), (2, .int x2)] 53 [] := by
  intro n
  induction n with
  | zero => intro x2 z0 hB; exact absurd hB id
  | succ n ih => exact fun x2 z0 hB => w_Table_settle_8_r2_53 S hE hA hRf hRl hret ih x2 z0 hB
def B_Table_settle_8_r2_20 (post : St → Prop) (ih20 : Int32 → St → Prop) (x2 : Int32) (z0 : St) : Prop :=
  (((gI z0 26) ≤ x2 → (∃ n2, L_Table_settle_8_r2_53 post n2 (0 : Int32) z0)) ∧ (¬ (gI z0 26) ≤ x2 → (S_HouseReader_priceTold (fun (r3 : Int32) (z1 : St) => (vp_in ((22 : Int32) + x2) 28 ∧ (∀ z2 : St, z2 = sA z1 23 ((22 : Int32) + x2).toNatClampNeg r3 → (∀ v4 : Int32, v4 = x2 + (1 : Int32) → (ih20 v4 z2))))) x2 z0)))
set_option maxHeartbeats 4000000 in
set_option maxRecDepth 100000 in
theorem w_Table_settle_8_r2_20 {p : Program} {l : Launch} {e : Env} {R : Room} {s : State} {m : MethodId} {args : Array Value} {below : List Frame} {meth : Method} {c : Code} {Q : State → Prop} {G : GX} {A : Nat → Prop} (S : CallFix p m c cX8_settle 3 s args GW RX8) (hE : env G A s s.heap) (hA : ∀ q, s.heap.size ≤ q → A q) (hRf : 1 ≤ R.frames) (hRl : 23 ≤ R.locals) {post : St → Prop} (hret : RetV p l e R s m args below meth c Q 0 0 wX G A cX8_settle post) {ih20 : Int32 → St → Prop} (h20 : ∀ (x2 : Int32) (z0 : St), ih20 x2 z0 → Xw p l e R s m args below meth c Q 0 0 wX G A z0 3 [(0, .ref (ad G 8)), (1, .ref (ad G 2)), (2, .int x2)] 20 []) (x2 : Int32) (z0 : St) (hB : B_Table_settle_8_r2_20 post ih20 x2 z0) : Xw p l e R s m args below meth c Q 0 0 wX G A z0 3 [(0, .ref (ad G 8)), (1, .ref (ad G 2)), (2, .int x2)] 20 [] := by
  intro H locs ls hP hD hS hl
  have hx := S.1
  have hb := S.2.1
  refine lv_iload_n hx hb dX8_settle_20 rfl (lv_at hl 2 rfl) ?_
  refine lv_aload_n hx hb dX8_settle_21 rfl (lv_at hl 0 rfl) ?_
  refine xXg_8_house S hE hP lk_X8_15 dX8_settle_22 ?_
  refine xXg_6_drinks S hE hP lk_X8_35 dX8_settle_25 ?_
  refine lv_icmp_ge (tgt := 51) hx hb dX8_settle_28 (by decide) (fun c1 => ?_) (fun c1 => ?_)
  · have hB := hB.1 c1
    refine lv_iconst (v := 0) hx hb dX8_settle_51 (by decide) ?_
    refine lv_istore_n (lv' := [(2, .int (0 : Int32)), (0, .ref (ad G 8)), (1, .ref (ad G 2))]) hx hb dX8_settle_52 rfl hl (by decide) rfl (fun ls hl => ?_)
    obtain ⟨n2, hB⟩ := hB
    exact wl_Table_settle_8_r2_53 S hE hA hRf hRl hret n2 (0 : Int32) z0 hB _ _ _ hP hD hS (lv_sub hl [1, 2, 0] rfl)
  · have hB := hB.2 c1
    refine lv_aload_n hx hb dX8_settle_31 rfl (lv_at hl 0 rfl) ?_
    refine xXg_8_cells S hE hP lk_X8_11 dX8_settle_32 ?_
    refine lv_bipush (v := 22) hx hb dX8_settle_35 (by decide) ?_
    refine lv_iload_n hx hb dX8_settle_37 rfl (lv_at hl 2 rfl) ?_
    refine lv_iadd hx hb dX8_settle_38 ?_
    refine lv_aload_n hx hb dX8_settle_39 rfl (lv_at hl 1 rfl) ?_
    refine lv_iload_n hx hb dX8_settle_40 rfl (lv_at hl 2 rfl) ?_
    refine xcVi [.int x2] S hE hA hP hD hS (c_HouseReader_priceTold l G z0 H.size x2 _) hB (gw_c lk_X8_41 (gw_c wi_X1_priceTold (gw_c we_X1_X1_priceTold_X1_priceTold (gw_c wn_X1 (gw_c wc_X1_priceTold (fun _ h9 => h9)))))) hd_X1_priceTold rfl rfl (Nat.le_trans (Nat.le_of_ble_eq_true rfl) hRf) (Nat.le_trans (Nat.le_of_ble_eq_true rfl) hRl) ⟨Nat.zero_le _, Nat.zero_le _⟩ (va_recv hE.1 hP (ci := 1) (q0 := 2) rfl rfl) rfl hl.1 rfl (Nat.le_of_ble_eq_true rfl) dX8_settle_41 (fun r3 z1 H locs hB hP hD hS => ?_)
    obtain ⟨hi, hB⟩ := hB
    obtain ⟨z2, ez2⟩ : ∃ z9, z9 = sA z1 23 ((22 : Int32) + x2).toNatClampNeg r3 := ⟨_, rfl⟩
    have hB := hB z2 ez2
    refine xXs_23 S hE hP hD hS _ rfl hi dX8_settle_44 (fun H locs hP hD hS => ?_)
    rw [← ez2] at hP hD
    obtain ⟨v4, ev4⟩ : ∃ y9, y9 = x2 + (1 : Int32) := ⟨_, rfl⟩
    have hB := hB v4 ev4
    refine lv_iinc (v := v4) (lv' := [(2, .int v4), (0, .ref (ad G 8)), (1, .ref (ad G 2))]) hx hb dX8_settle_45 hl (k := 2) rfl (by rw [ev4]; rfl) (by decide) rfl (fun ls hl => ?_)
    refine lv_goto (tgt := 20) hx hb dX8_settle_48 (by decide) ?_
    exact h20 v4 z2 hB _ _ _ hP hD hS (lv_sub hl [1, 2, 0] rfl)
def L_Table_settle_8_r2_20 (post : St → Prop) : Nat → Int32 → St → Prop
  | 0 => fun _ _ => False
  | n + 1 => B_Table_settle_8_r2_20 post (L_Table_settle_8_r2_20 post n)
theorem wl_Table_settle_8_r2_20 {p : Program} {l : Launch} {e : Env} {R : Room} {s : State} {m : MethodId} {args : Array Value} {below : List Frame} {meth : Method} {c : Code} {Q : State → Prop} {G : GX} {A : Nat → Prop} (S : CallFix p m c cX8_settle 3 s args GW RX8) (hE : env G A s s.heap) (hA : ∀ q, s.heap.size ≤ q → A q) (hRf : 1 ≤ R.frames) (hRl : 23 ≤ R.locals) {post : St → Prop} (hret : RetV p l e R s m args below meth c Q 0 0 wX G A cX8_settle post) : ∀ (n : Nat) (x2 : Int32) (z0 : St), L_Table_settle_8_r2_20 post n x2 z0 → Xw p l e R s m args below meth c Q 0 0 wX G A z0 3 [(0, .ref (ad G 8)), (1, .ref (ad G 2)), (2, .int x2)] 20 [] := by
  intro n
  induction n with
  | zero => intro x2 z0 hB; exact absurd hB id
  | succ n ih => exact fun x2 z0 hB => w_Table_settle_8_r2_20 S hE hA hRf hRl hret ih x2 z0 hB
def S_Table_settle_8_r2 (post : St → Prop) (z0 : St) : Prop :=
  (S_Arrays_fill_53178_X_r23 (fun (z1 : St) => (S_HouseReader_bottleTold (fun (r1 : Int32) (z2 : St) => (∀ z3 : St, z3 = sA z2 23 0 r1 → (∃ n2, L_Table_settle_8_r2_20 post n2 (0 : Int32) z3))) z1)) (0 : Int32) z0)
set_option maxHeartbeats 4000000 in
set_option maxRecDepth 100000 in
theorem w_Table_settle_8_r2_0 {p : Program} {l : Launch} {e : Env} {R : Room} {s : State} {m : MethodId} {args : Array Value} {below : List Frame} {meth : Method} {c : Code} {Q : State → Prop} {G : GX} {A : Nat → Prop} (S : CallFix p m c cX8_settle 3 s args GW RX8) (hE : env G A s s.heap) (hA : ∀ q, s.heap.size ≤ q → A q) (hRf : 1 ≤ R.frames) (hRl : 23 ≤ R.locals) {post : St → Prop} (hret : RetV p l e R s m args below meth c Q 0 0 wX G A cX8_settle post) (z0 : St) (hB : S_Table_settle_8_r2 post z0) : Xw p l e R s m args below meth c Q 0 0 wX G A z0 3 [(0, .ref (ad G 8)), (1, .ref (ad G 2))] 0 [] := by
  intro H locs ls hP hD hS hl
  have hx := S.1
  have hb := S.2.1
  refine lv_aload_n hx hb dX8_settle_0 rfl (lv_at hl 0 rfl) ?_
  refine xXg_8_cells S hE hP lk_X8_11 dX8_settle_1 ?_
  refine lv_iconst (v := 0) hx hb dX8_settle_4 (by decide) ?_
  refine xcSv [.ref (ad G 23), .int (0 : Int32)] S hE hA hP hD hS (c_Arrays_fill_53178_X_r23 l G z0 H.size (0 : Int32) _) hB (gw_c lk_X8_23 (gw_c wt_J7_fill_53178 (gw_c wn_J7 (gw_c wc_J7_fill_53178 (fun _ h9 => h9))))) hs_J7_fill_53178 rfl rfl (Nat.le_trans (Nat.le_of_ble_eq_true rfl) hRf) (Nat.le_trans (Nat.le_of_ble_eq_true rfl) hRl) ⟨Nat.zero_le _, Nat.zero_le _⟩ rfl hl.1 rfl (Nat.le_of_ble_eq_true rfl) dX8_settle_5 (fun z1 H locs hB hP hD hS => ?_)
  refine lv_aload_n hx hb dX8_settle_8 rfl (lv_at hl 0 rfl) ?_
  refine xXg_8_cells S hE hP lk_X8_11 dX8_settle_9 ?_
  refine lv_iconst (v := 0) hx hb dX8_settle_12 (by decide) ?_
  refine lv_aload_n hx hb dX8_settle_13 rfl (lv_at hl 1 rfl) ?_
  refine xcVi [] S hE hA hP hD hS (c_HouseReader_bottleTold l G z1 H.size _) hB (gw_c lk_X8_29 (gw_c wi_X1_bottleTold (gw_c we_X1_X1_bottleTold_X1_bottleTold (gw_c wn_X1 (gw_c wc_X1_bottleTold (fun _ h9 => h9)))))) hd_X1_bottleTold rfl rfl (Nat.le_trans (Nat.le_of_ble_eq_true rfl) hRf) (Nat.le_trans (Nat.le_of_ble_eq_true rfl) hRl) ⟨Nat.zero_le _, Nat.zero_le _⟩ (va_recv hE.1 hP (ci := 1) (q0 := 2) rfl rfl) rfl hl.1 rfl (Nat.le_of_ble_eq_true rfl) dX8_settle_14 (fun r1 z2 H locs hB hP hD hS => ?_)
  obtain ⟨z3, ez3⟩ : ∃ z9, z9 = sA z2 23 0 r1 := ⟨_, rfl⟩
  have hB := hB z3 ez3
  refine xXs_23 S hE hP hD hS 0 (by decide) (by unfold vp_in; decide) dX8_settle_17 (fun H locs hP hD hS => ?_)
  rw [← ez3] at hP hD
  refine lv_iconst (v := 0) hx hb dX8_settle_18 (by decide) ?_
  refine lv_istore_n (lv' := [(2, .int (0 : Int32)), (0, .ref (ad G 8)), (1, .ref (ad G 2))]) hx hb dX8_settle_19 rfl hl (by decide) rfl (fun ls hl => ?_)
  obtain ⟨n2, hB⟩ := hB
  exact wl_Table_settle_8_r2_20 S hE hA hRf hRl hret n2 (0 : Int32) z3 hB _ _ _ hP hD hS (lv_sub hl [1, 2, 0] rfl)
set_option maxHeartbeats 4000000 in
set_option maxRecDepth 100000 in
theorem c_Table_settle_8_r2 (l : Launch) (G : GX) (z0 : St) (sz : Nat) (post : St → Prop) : MetV l wX yX8_settle cX8_settle 3 none ({ frames := 1, cells := 0, slots := 0, locals := 23 }) [.ref (ad G 8), .ref (ad G 2)] G z0 sz (S_Table_settle_8_r2 post z0) post := by
  refine Met.ofW (cc := cX8_settle) (maxL := 3) (ret := none) (by decide) rfl ?_
  intro p e s m args below meth c s₁ B hml hv
  obtain ⟨rfl, hsz, hP, hD0, hE, hB⟩ := hv
  have S : CallFix p m c cX8_settle 3 s _ GW RX8 := ⟨B.exec, B.bytes, hml, findClass_of_methodNamed B.named, fun w h => atoms_spec (ws := Cond.code yX8_settle cX8_settle 3 none :: GW) B.pre w (List.mem_cons_of_mem _ h)⟩
  have hlocks := B.notSynchronized
  subst hsz
  have hD := hD0.self (sz := s.heap.size)
  generalize hAe : va_A (wX G z0) s.heap.size = A at hD hE ⊢
  have hA : ∀ q : Nat, s.heap.size ≤ q → A q := fun q h => by rw [← hAe]; exact Or.inr h
  have hS : va_S A s.heap s.heap [] := va_S.rf
  have hl := lv_entry ([.ref (ad G 8), .ref (ad G 2)]) (n := 3) (Nat.le_of_ble_eq_true rfl)
  rw [lg_entry_eq]
  generalize (lg_sl ([.ref (ad G 8), .ref (ad G 2)]) ++ List.replicate (3 - (lg_sl ([.ref (ad G 8), .ref (ad G 2)])).length) Slot.unset).toArray = ls at hl ⊢
  have hl : lv_has ls 3 [(0, .ref (ad G 8)), (1, .ref (ad G 2))] := hl
  refine w_Table_settle_8_r2_0 S hE hA (Nat.le_refl _) (Nat.le_refl _) ?_  z0 hB _ _ _ hP hD hS hl
  intro pc ls σ H locs hd hp hP hD hS
  exact W.vret B.exec B.bytes B.returns (fun t ht hW => ⟨⟨σ, rfl, hp, by rw [ht]; exact hP, hD⟩, hS.F ht⟩) hS.2.2 hd
def S_Memory_forgetAll (post : St → Prop) (z0 : St) : Prop :=
  (∀ z1 : St, z1 = sI z0 25 (0 : Int32) → (∀ z2 : St, z2 = sI z1 23 (0 : Int32) → (post z2)))
set_option maxHeartbeats 4000000 in
set_option maxRecDepth 100000 in
theorem w_Memory_forgetAll_0 {p : Program} {l : Launch} {e : Env} {R : Room} {s : State} {m : MethodId} {args : Array Value} {below : List Frame} {meth : Method} {c : Code} {Q : State → Prop} {G : GX} {A : Nat → Prop} (S : CallFix p m c cX4_forgetAll 1 s args GW RX4) (hE : env G A s s.heap) (hA : ∀ q, s.heap.size ≤ q → A q) (hRf : 0 ≤ R.frames) (hRl : 0 ≤ R.locals) {post : St → Prop} (hret : RetV p l e R s m args below meth c Q 0 0 wX G A cX4_forgetAll post) (z0 : St) (hB : S_Memory_forgetAll post z0) : Xw p l e R s m args below meth c Q 0 0 wX G A z0 1 [(0, .ref (ad G 5))] 0 [] := by
  intro H locs ls hP hD hS hl
  have hx := S.1
  have hb := S.2.1
  refine lv_aload_n hx hb dX4_forgetAll_0 rfl (lv_at hl 0 rfl) ?_
  refine lv_iconst (v := 0) hx hb dX4_forgetAll_1 (by decide) ?_
  obtain ⟨z1, ez1⟩ : ∃ z9, z9 = sI z0 25 (0 : Int32) := ⟨_, rfl⟩
  have hB := hB z1 ez1
  refine xXp_5_kept S hE hP hD hS lk_X4_24 dX4_forgetAll_2 (fun H locs hP hD hS => ?_)
  rw [← ez1] at hP hD
  refine lv_aload_n hx hb dX4_forgetAll_5 rfl (lv_at hl 0 rfl) ?_
  refine lv_iconst (v := 0) hx hb dX4_forgetAll_6 (by decide) ?_
  obtain ⟨z2, ez2⟩ : ∃ z9, z9 = sI z1 23 (0 : Int32) := ⟨_, rfl⟩
  have hB := hB z2 ez2
  refine xXp_5_imaged S hE hP hD hS lk_X4_28 (by decide) dX4_forgetAll_7 (fun H locs hP hD hS => ?_)
  rw [← ez2] at hP hD
  exact hret _ _ _ _ _ dX4_forgetAll_10 hB hP hD hS
set_option maxHeartbeats 4000000 in
set_option maxRecDepth 100000 in
theorem c_Memory_forgetAll (l : Launch) (G : GX) (z0 : St) (sz : Nat) (post : St → Prop) : MetV l wX yX4_forgetAll cX4_forgetAll 1 none ({ frames := 0, cells := 0, slots := 0, locals := 0 }) [.ref (ad G 5)] G z0 sz (S_Memory_forgetAll post z0) post := by
  refine Met.ofW (cc := cX4_forgetAll) (maxL := 1) (ret := none) (by decide) rfl ?_
  intro p e s m args below meth c s₁ B hml hv
  obtain ⟨rfl, hsz, hP, hD0, hE, hB⟩ := hv
  have S : CallFix p m c cX4_forgetAll 1 s _ GW RX4 := ⟨B.exec, B.bytes, hml, findClass_of_methodNamed B.named, fun w h => atoms_spec (ws := Cond.code yX4_forgetAll cX4_forgetAll 1 none :: GW) B.pre w (List.mem_cons_of_mem _ h)⟩
  have hlocks := B.notSynchronized
  subst hsz
  have hD := hD0.self (sz := s.heap.size)
  generalize hAe : va_A (wX G z0) s.heap.size = A at hD hE ⊢
  have hA : ∀ q : Nat, s.heap.size ≤ q → A q := fun q h => by rw [← hAe]; exact Or.inr h
  have hS : va_S A s.heap s.heap [] := va_S.rf
  have hl := lv_entry ([.ref (ad G 5)]) (n := 1) (Nat.le_of_ble_eq_true rfl)
  rw [lg_entry_eq]
  generalize (lg_sl ([.ref (ad G 5)]) ++ List.replicate (1 - (lg_sl ([.ref (ad G 5)])).length) Slot.unset).toArray = ls at hl ⊢
  have hl : lv_has ls 1 [(0, .ref (ad G 5))] := hl
  refine w_Memory_forgetAll_0 S hE hA (Nat.le_refl _) (Nat.le_refl _) ?_  z0 hB _ _ _ hP hD hS hl
  intro pc ls σ H locs hd hp hP hD hS
  exact W.vret B.exec B.bytes B.returns (fun t ht hW => ⟨⟨σ, rfl, hp, by rw [ht]; exact hP, hD⟩, hS.F ht⟩) hS.2.2 hd
def S_B_settleHouse (post : Int32 → St → Prop) (z0 : St) : Prop :=
  (S_House_settle_r2 (fun (z1 : St) => (S_Table_settle_8_r2 (fun (z2 : St) => (S_Memory_forgetAll (fun (z3 : St) => (∀ z4 : St, z4 = sI z3 41 (0 : Int32) → (post (gI z4 27) z4))) z2)) z1)) z0)
set_option maxHeartbeats 4000000 in
set_option maxRecDepth 100000 in
theorem w_B_settleHouse_0 {p : Program} {l : Launch} {e : Env} {R : Room} {s : State} {m : MethodId} {args : Array Value} {below : List Frame} {meth : Method} {c : Code} {Q : State → Prop} {G : GX} {A : Nat → Prop} (S : CallFix p m c cX11_settleHouse 1 s args GW RX11) (hE : env G A s s.heap) (hA : ∀ q, s.heap.size ≤ q → A q) (hRf : 2 ≤ R.frames) (hRl : 45 ≤ R.locals) {post : Int32 → St → Prop} (hret : RetI p l e R s m args below meth c Q 0 0 wX G A cX11_settleHouse post) (z0 : St) (hB : S_B_settleHouse post z0) : Xw p l e R s m args below meth c Q 0 0 wX G A z0 1 [(0, .ref (ad G 0))] 0 [] := by
  intro H locs ls hP hD hS hl
  have hx := S.1
  have hb := S.2.1
  refine lv_aload_n hx hb dX11_settleHouse_0 rfl (lv_at hl 0 rfl) ?_
  refine xXg_0_house S hE hP lk_X11_64 dX11_settleHouse_1 ?_
  refine lv_aload_n hx hb dX11_settleHouse_4 rfl (lv_at hl 0 rfl) ?_
  refine xXg_0_houseReader S hE hP lk_X11_19 dX11_settleHouse_5 ?_
  refine xcVv [.ref (ad G 2)] S hE hA hP hD hS (c_House_settle_r2 l G z0 H.size _) hB (gw_c lk_X11_128 (gw_c wi_X0_settle (gw_c we_X0_X0_settle_X0_settle (gw_c wn_X0 (gw_c wc_X0_settle (fun _ h9 => h9)))))) hd_X0_settle rfl rfl (Nat.le_trans (Nat.le_of_ble_eq_true rfl) hRf) (Nat.le_trans (Nat.le_of_ble_eq_true rfl) hRl) ⟨Nat.zero_le _, Nat.zero_le _⟩ (va_recv hE.1 hP (ci := 0) (q0 := 6) rfl rfl) rfl hl.1 rfl (Nat.le_of_ble_eq_true rfl) dX11_settleHouse_8 (fun z1 H locs hB hP hD hS => ?_)
  refine lv_aload_n hx hb dX11_settleHouse_11 rfl (lv_at hl 0 rfl) ?_
  refine xXg_0_table S hE hP lk_X11_72 dX11_settleHouse_12 ?_
  refine lv_aload_n hx hb dX11_settleHouse_15 rfl (lv_at hl 0 rfl) ?_
  refine xXg_0_houseReader S hE hP lk_X11_19 dX11_settleHouse_16 ?_
  refine xcVv [.ref (ad G 2)] S hE hA hP hD hS (c_Table_settle_8_r2 l G z1 H.size _) hB (gw_c lk_X11_132 (gw_c wi_X8_settle (gw_c we_X8_X8_settle_X8_settle (gw_c wn_X8 (gw_c wc_X8_settle (fun _ h9 => h9)))))) hd_X8_settle rfl rfl (Nat.le_trans (Nat.le_of_ble_eq_true rfl) hRf) (Nat.le_trans (Nat.le_of_ble_eq_true rfl) hRl) ⟨Nat.zero_le _, Nat.zero_le _⟩ (va_recv hE.1 hP (ci := 7) (q0 := 8) rfl rfl) rfl hl.1 rfl (Nat.le_of_ble_eq_true rfl) dX11_settleHouse_19 (fun z2 H locs hB hP hD hS => ?_)
  refine lv_aload_n hx hb dX11_settleHouse_22 rfl (lv_at hl 0 rfl) ?_
  refine xXg_0_memory S hE hP lk_X11_45 dX11_settleHouse_23 ?_
  refine xcVv [] S hE hA hP hD hS (c_Memory_forgetAll l G z2 H.size _) hB (gw_c lk_X11_133 (gw_c wi_X4_forgetAll (gw_c we_X4_X4_forgetAll_X4_forgetAll (gw_c wn_X4 (gw_c wc_X4_forgetAll (fun _ h9 => h9)))))) hd_X4_forgetAll rfl rfl (Nat.le_trans (Nat.le_of_ble_eq_true rfl) hRf) (Nat.le_trans (Nat.le_of_ble_eq_true rfl) hRl) ⟨Nat.zero_le _, Nat.zero_le _⟩ (va_recv hE.1 hP (ci := 4) (q0 := 5) rfl rfl) rfl hl.1 rfl (Nat.le_of_ble_eq_true rfl) dX11_settleHouse_26 (fun z3 H locs hB hP hD hS => ?_)
  refine lv_aload_n hx hb dX11_settleHouse_29 rfl (lv_at hl 0 rfl) ?_
  refine xXg_0_sightings S hE hP lk_X11_93 dX11_settleHouse_30 ?_
  refine lv_iconst (v := 0) hx hb dX11_settleHouse_33 (by decide) ?_
  obtain ⟨z4, ez4⟩ : ∃ z9, z9 = sI z3 41 (0 : Int32) := ⟨_, rfl⟩
  have hB := hB z4 ez4
  refine xXp_11_length S hE hP hD hS lk_X11_136 dX11_settleHouse_34 (fun H locs hP hD hS => ?_)
  rw [← ez4] at hP hD
  refine lv_aload_n hx hb dX11_settleHouse_37 rfl (lv_at hl 0 rfl) ?_
  refine xXg_0_house S hE hP lk_X11_64 dX11_settleHouse_38 ?_
  refine xXg_6_guests S hE hP lk_X11_137 dX11_settleHouse_41 ?_
  exact hret _ _ _ _ _ _ dX11_settleHouse_44 hB hP hD hS
set_option maxHeartbeats 4000000 in
set_option maxRecDepth 100000 in
theorem c_B_settleHouse (l : Launch) (G : GX) (z0 : St) (sz : Nat) (post : Int32 → St → Prop) : MetI l wX yX11_settleHouse cX11_settleHouse 1 (some .int) ({ frames := 2, cells := 0, slots := 0, locals := 45 }) [.ref (ad G 0)] G z0 sz (S_B_settleHouse post z0) post := by
  refine Met.ofW (cc := cX11_settleHouse) (maxL := 1) (ret := (some .int)) (by decide) rfl ?_
  intro p e s m args below meth c s₁ B hml hv
  obtain ⟨rfl, hsz, hP, hD0, hE, hB⟩ := hv
  have S : CallFix p m c cX11_settleHouse 1 s _ GW RX11 := ⟨B.exec, B.bytes, hml, findClass_of_methodNamed B.named, fun w h => atoms_spec (ws := Cond.code yX11_settleHouse cX11_settleHouse 1 (some .int) :: GW) B.pre w (List.mem_cons_of_mem _ h)⟩
  have hlocks := B.notSynchronized
  subst hsz
  have hD := hD0.self (sz := s.heap.size)
  generalize hAe : va_A (wX G z0) s.heap.size = A at hD hE ⊢
  have hA : ∀ q : Nat, s.heap.size ≤ q → A q := fun q h => by rw [← hAe]; exact Or.inr h
  have hS : va_S A s.heap s.heap [] := va_S.rf
  have hl := lv_entry ([.ref (ad G 0)]) (n := 1) (Nat.le_of_ble_eq_true rfl)
  rw [lg_entry_eq]
  generalize (lg_sl ([.ref (ad G 0)]) ++ List.replicate (1 - (lg_sl ([.ref (ad G 0)])).length) Slot.unset).toArray = ls at hl ⊢
  have hl : lv_has ls 1 [(0, .ref (ad G 0))] := hl
  refine w_B_settleHouse_0 S hE hA (Nat.le_refl _) (Nat.le_refl _) ?_  z0 hB _ _ _ hP hD hS hl
  intro pc ls r σ H locs hd hp hP hD hS
  exact W.iret (v := r) B.exec B.bytes B.returns (fun t ht hW => ⟨⟨r, σ, rfl, hp, by rw [ht]; exact hP, hD⟩, hS.F ht⟩) hS.2.2 hd
def B_B_text_v0_61 (post : Int32 → St → Prop) (x3 : Int32) (z0 : St) : Prop :=
  ((x3 = (-1 : Int32) → (post x3 z0)) ∧ (¬ x3 = (-1 : Int32) → (∀ z1 : St, z1 = sI z0 2 (0 : Int32) → (post x3 z1))))
set_option maxHeartbeats 4000000 in
set_option maxRecDepth 100000 in
theorem w_B_text_v0_61 {p : Program} {l : Launch} {e : Env} {R : Room} {s : State} {m : MethodId} {args : Array Value} {below : List Frame} {meth : Method} {c : Code} {Q : State → Prop} {G : GX} {A : Nat → Prop} (S : CallFix p m c cX11_text 4 s args GW RX11) (hE : env G A s s.heap) (hA : ∀ q, s.heap.size ≤ q → A q) (hRf : 7 ≤ R.frames) (hRl : 160 ≤ R.locals) {post : Int32 → St → Prop} (hret : RetI p l e R s m args below meth c Q 0 0 wX G A cX11_text post) (x3 : Int32) (z0 : St) (hB : B_B_text_v0_61 post x3 z0) : Xw p l e R s m args below meth c Q 0 0 wX G A z0 4 [(0, .ref (ad G 0)), (3, .int x3)] 61 [] := by
  intro H locs ls hP hD hS hl
  have hx := S.1
  have hb := S.2.1
  refine lv_iload_n hx hb dX11_text_61 rfl (lv_at hl 1 rfl) ?_
  refine lv_iconst (v := -1) hx hb dX11_text_62 (by decide) ?_
  refine lv_icmp_eq (tgt := 74) hx hb dX11_text_63 (by decide) (fun c1 => ?_) (fun c1 => ?_)
  · have hB := hB.1 c1
    refine lv_iload_n hx hb dX11_text_74 rfl (lv_at hl 1 rfl) ?_
    exact hret _ _ _ _ _ _ dX11_text_75 hB hP hD hS
  · have hB := hB.2 c1
    refine lv_aload_n hx hb dX11_text_66 rfl (lv_at hl 0 rfl) ?_
    refine xXg_0_tape S hE hP lk_X11_10 dX11_text_67 ?_
    refine lv_iconst (v := 0) hx hb dX11_text_70 (by decide) ?_
    obtain ⟨z1, ez1⟩ : ∃ z9, z9 = sI z0 2 (0 : Int32) := ⟨_, rfl⟩
    have hB := hB z1 ez1
    refine xXp_1_length S hE hP hD hS lk_X11_101 dX11_text_71 (fun H locs hP hD hS => ?_)
    rw [← ez1] at hP hD
    refine lv_iload_n hx hb dX11_text_74 rfl (lv_at hl 1 rfl) ?_
    exact hret _ _ _ _ _ _ dX11_text_75 hB hP hD hS
def S_B_text_v0 (post : Int32 → St → Prop) (x1 : Int32) (z0 : St) : Prop :=
  (S_B_readerOf_v0 (fun (z1 : St) => (S_Reader_faultOf_2_r1 (fun (r1 : Int32) (z2 : St) => ((r1 = (-1 : Int32) → (x1 = 0 ∧ (S_B_settleHouse (fun (r4 : Int32) (z3 : St) => (B_B_text_v0_61 post r4 z3)) z2))) ∧ (¬ r1 = (-1 : Int32) → (post (-1 : Int32) z2)))) z1)) x1 z0)
set_option maxHeartbeats 4000000 in
set_option maxRecDepth 100000 in
theorem w_B_text_v0_0 {p : Program} {l : Launch} {e : Env} {R : Room} {s : State} {m : MethodId} {args : Array Value} {below : List Frame} {meth : Method} {c : Code} {Q : State → Prop} {G : GX} {A : Nat → Prop} (S : CallFix p m c cX11_text 4 s args GW RX11) (hE : env G A s s.heap) (hA : ∀ q, s.heap.size ≤ q → A q) (hRf : 7 ≤ R.frames) (hRl : 160 ≤ R.locals) {post : Int32 → St → Prop} (hret : RetI p l e R s m args below meth c Q 0 0 wX G A cX11_text post) (x1 : Int32) (z0 : St) (hB : S_B_text_v0 post x1 z0) : Xw p l e R s m args below meth c Q 0 0 wX G A z0 4 [(0, .ref (ad G 0)), (1, .int x1)] 0 [] := by
  intro H locs ls hP hD hS hl
  have hx := S.1
  have hb := S.2.1
  refine lv_aload_n hx hb dX11_text_0 rfl (lv_at hl 0 rfl) ?_
  refine lv_iload_n hx hb dX11_text_1 rfl (lv_at hl 1 rfl) ?_
  refine xcVq [.int x1] S hE hA hP hD hS (c_B_readerOf_v0 l G z0 H.size x1 _) hB (gw_c lk_X11_108 (gw_c wi_X11_readerOf (gw_c we_X11_X11_readerOf_X11_readerOf (gw_c wn_X11 (gw_c wc_X11_readerOf (fun _ h9 => h9)))))) hd_X11_readerOf rfl rfl (Nat.le_trans (Nat.le_of_ble_eq_true rfl) hRf) (Nat.le_trans (Nat.le_of_ble_eq_true rfl) hRl) ⟨Nat.zero_le _, Nat.zero_le _⟩ (va_recv hE.1 hP (ci := 10) (q0 := 0) rfl rfl) rfl hl.1 rfl (Nat.le_of_ble_eq_true rfl) dX11_text_2 rfl (fun z1 H locs hB hP hD hS => ?_)
  refine lv_astore_n (lv' := [(2, .ref (ad G 2)), (0, .ref (ad G 0)), (1, .int x1)]) hx hb dX11_text_5 rfl hl (by decide) rfl (fun ls hl => ?_)
  refine lv_aload_n hx hb dX11_text_6 rfl (lv_at hl 0 rfl) ?_
  refine lv_ifnull hx hb dX11_text_7 ?_
  refine lv_aload_n hx hb dX11_text_10 rfl (lv_at hl 0 rfl) ?_
  refine lv_aload_n hx hb dX11_text_11 rfl (lv_at hl 1 rfl) ?_
  refine xXg_0_tape S hE hP lk_X11_10 dX11_text_12 ?_
  refine xcUi (x := yX5_faultOf) (owner := RX5) (C := RX1) [.ref (ad G 1)] S hE hA hP hD hS (c_Reader_faultOf_2_r1 l G z1 H.size _) hB (gw_c lk_X11_112 (gw_c wm_X5_X5_faultOf_LBottleBefore_Tape__I (gw_c we_X1_X5_faultOf_X5_faultOf (gw_c wi_X5_faultOf (gw_c wn_X5 (gw_c wc_X5_faultOf (fun _ h9 => h9))))))) rfl hu_X5_faultOf rfl rfl (Nat.le_trans (Nat.le_of_ble_eq_true rfl) hRf) (Nat.le_trans (Nat.le_of_ble_eq_true rfl) hRl) ⟨Nat.zero_le _, Nat.zero_le _⟩ (va_recv hE.1 hP (ci := 1) (q0 := 2) rfl rfl) rfl hl.1 rfl (Nat.le_of_ble_eq_true rfl) dX11_text_15 (fun r1 z2 H locs hB hP hD hS => ?_)
  refine lv_iconst (v := -1) hx hb dX11_text_18 (by decide) ?_
  refine lv_icmp_eq (tgt := 24) hx hb dX11_text_19 (by decide) (fun c2 => ?_) (fun c2 => ?_)
  · have hB := hB.1 c2
    refine lv_iload_n hx hb dX11_text_24 rfl (lv_at hl 2 rfl) ?_
    obtain ⟨hc9, hB⟩ := hB
    refine lv_if_ne (tgt := 36) hx hb dX11_text_25 (by decide) (fun h9 => absurd hc9 h9) (fun _ => ?_)
    refine lv_aload_n hx hb dX11_text_28 rfl (lv_at hl 1 rfl) ?_
    refine xcVi [] S hE hA hP hD hS (c_B_settleHouse l G z2 H.size _) hB (gw_c lk_X11_118 (gw_c wi_X11_settleHouse (gw_c we_X11_X11_settleHouse_X11_settleHouse (gw_c wn_X11 (gw_c wc_X11_settleHouse (fun _ h9 => h9)))))) hd_X11_settleHouse rfl rfl (Nat.le_trans (Nat.le_of_ble_eq_true rfl) hRf) (Nat.le_trans (Nat.le_of_ble_eq_true rfl) hRl) ⟨Nat.zero_le _, Nat.zero_le _⟩ (va_recv hE.1 hP (ci := 10) (q0 := 0) rfl rfl) rfl hl.1 rfl (Nat.le_of_ble_eq_true rfl) dX11_text_29 (fun r4 z3 H locs hB hP hD hS => ?_)
    refine lv_istore_n (lv' := [(3, .int r4), (2, .ref (ad G 2)), (0, .ref (ad G 0)), (1, .int x1)]) hx hb dX11_text_32 rfl hl (by decide) rfl (fun ls hl => ?_)
    refine lv_goto (tgt := 61) hx hb dX11_text_33 (by decide) ?_
    exact w_B_text_v0_61 S hE hA hRf hRl hret r4 z3 hB _ _ _ hP hD hS (lv_sub hl [2, 0] rfl)
  · have hB := hB.2 c2
    refine lv_iconst (v := -1) hx hb dX11_text_22 (by decide) ?_
    exact hret _ _ _ _ _ _ dX11_text_23 hB hP hD hS
set_option maxHeartbeats 4000000 in
set_option maxRecDepth 100000 in
theorem c_B_text_v0 (l : Launch) (G : GX) (z0 : St) (sz : Nat) (x1 : Int32) (post : Int32 → St → Prop) : MetI l wX yX11_text cX11_text 4 (some .int) ({ frames := 7, cells := 0, slots := 0, locals := 160 }) [.ref (ad G 0), .int x1] G z0 sz (S_B_text_v0 post x1 z0) post := by
  refine Met.ofW (cc := cX11_text) (maxL := 4) (ret := (some .int)) (by decide) rfl ?_
  intro p e s m args below meth c s₁ B hml hv
  obtain ⟨rfl, hsz, hP, hD0, hE, hB⟩ := hv
  have S : CallFix p m c cX11_text 4 s _ GW RX11 := ⟨B.exec, B.bytes, hml, findClass_of_methodNamed B.named, fun w h => atoms_spec (ws := Cond.code yX11_text cX11_text 4 (some .int) :: GW) B.pre w (List.mem_cons_of_mem _ h)⟩
  have hlocks := B.notSynchronized
  subst hsz
  have hD := hD0.self (sz := s.heap.size)
  generalize hAe : va_A (wX G z0) s.heap.size = A at hD hE ⊢
  have hA : ∀ q : Nat, s.heap.size ≤ q → A q := fun q h => by rw [← hAe]; exact Or.inr h
  have hS : va_S A s.heap s.heap [] := va_S.rf
  have hl := lv_entry ([.ref (ad G 0), .int x1]) (n := 4) (Nat.le_of_ble_eq_true rfl)
  rw [lg_entry_eq]
  generalize (lg_sl ([.ref (ad G 0), .int x1]) ++ List.replicate (4 - (lg_sl ([.ref (ad G 0), .int x1])).length) Slot.unset).toArray = ls at hl ⊢
  have hl : lv_has ls 4 [(0, .ref (ad G 0)), (1, .int x1)] := hl
  refine w_B_text_v0_0 S hE hA (Nat.le_refl _) (Nat.le_refl _) ?_ x1 z0 hB _ _ _ hP hD hS hl
  intro pc ls r σ H locs hd hp hP hD hS
  exact W.iret (v := r) B.exec B.bytes B.returns (fun t ht hW => ⟨⟨r, σ, rfl, hp, by rw [ht]; exact hP, hD⟩, hS.F ht⟩) hS.2.2 hd
def S_Laws_add_r3 (post : Int32 → St → Prop) (z0 : St) : Prop :=
  (((gI z0 30) < (4 : Int32) → (S_LawReader_codeRead (fun (z1 : St) (N3 : Nat) (f4 : Nat → Int32) => ∀ q2 : Nat, (vp_in (gI z0 30) 4 ∧ ∀ z2 : St, z2 = sNew z1 4 (gI z0 30).toNatClampNeg q2 N3 f4 → (∀ z3 : St, z3 = sI z2 30 ((gI z2 30) + (1 : Int32)) → (post ((gI z3 30) - (1 : Int32)) z3)))) z0)) ∧ (¬ (gI z0 30) < (4 : Int32) → (post (-1 : Int32) z0)))
set_option maxHeartbeats 4000000 in
set_option maxRecDepth 100000 in
theorem w_Laws_add_r3_0 {p : Program} {l : Launch} {e : Env} {R : Room} {s : State} {m : MethodId} {args : Array Value} {below : List Frame} {meth : Method} {c : Code} {Q : State → Prop} {G : GX} {A : Nat → Prop} (S : CallFix p m c cX3_add 2 s args GW RX3) (hE : env G A s s.heap) (hA : ∀ q, s.heap.size ≤ q → A q) (hRf : 3 ≤ R.frames) (hRl : 114 ≤ R.locals) (hRc : 1 ≤ R.cells ∧ 241 ≤ R.slots) {post : Int32 → St → Prop} (hret : RetI p l e R s m args below meth c Q 1 241 wX G A cX3_add post) (z0 : St) (hB : S_Laws_add_r3 post z0) : Xw p l e R s m args below meth c Q 0 0 wX G A z0 2 [(0, .ref (ad G 7)), (1, .ref (ad G 3))] 0 [] := by
  intro H locs ls hP hD hS hl
  have hx := S.1
  have hb := S.2.1
  refine lv_aload_n hx hb dX3_add_0 rfl (lv_at hl 0 rfl) ?_
  refine xXg_7_told S hE hP lk_X3_35 dX3_add_1 ?_
  refine lv_iconst (v := 4) hx hb dX3_add_4 (by decide) ?_
  refine lv_icmp_lt (tgt := 10) hx hb dX3_add_5 (by decide) (fun c1 => ?_) (fun c1 => ?_)
  · have hB := hB.1 c1
    refine lv_aload_n hx hb dX3_add_10 rfl (lv_at hl 0 rfl) ?_
    refine xXg_7_codes S hE hP lk_X3_11 dX3_add_11 ?_
    refine lv_aload_n hx hb dX3_add_14 rfl (lv_at hl 0 rfl) ?_
    refine xXg_7_told S hE hP lk_X3_35 dX3_add_15 ?_
    refine lv_aload_n hx hb dX3_add_18 rfl (lv_at hl 1 rfl) ?_
    refine xcVn [] S hE hA hP hD hS (c_LawReader_codeRead l G z0 H.size _) hB (gw_c lk_X3_38 (gw_c wi_X2_codeRead (gw_c we_X2_X2_codeRead_X2_codeRead (gw_c wn_X2 (gw_c wc_X2_codeRead (fun _ h9 => h9)))))) hd_X2_codeRead rfl rfl (Nat.le_trans (Nat.le_of_ble_eq_true rfl) hRf) (Nat.le_trans (Nat.le_of_ble_eq_true rfl) hRl) hRc (va_recv hE.1 hP (ci := 2) (q0 := 3) rfl rfl) rfl hl.1 rfl (Nat.le_of_ble_eq_true rfl) dX3_add_19 (fun q2 N3 f4 z1 H locs hB hP hD hS => ?_)
    have hB := hB q2
    obtain ⟨hi, hB⟩ := hB
    obtain ⟨z2, ez2⟩ : ∃ z9, z9 = sNew z1 4 (gI z0 30).toNatClampNeg q2 N3 f4 := ⟨_, rfl⟩
    have hB := hB z2 ez2
    refine xXa_20 S hE hP hD hS _ rfl hi dX3_add_22 (fun H locs hP hD hS => ?_)
    rw [← ez2] at hP hD
    refine lv_aload_n hx hb dX3_add_23 rfl (lv_at hl 0 rfl) ?_
    refine lv_dup hx hb dX3_add_24 rfl ?_
    refine xXg_7_told S hE hP lk_X3_35 dX3_add_25 ?_
    refine lv_iconst (v := 1) hx hb dX3_add_28 (by decide) ?_
    refine lv_iadd hx hb dX3_add_29 ?_
    obtain ⟨z3, ez3⟩ : ∃ z9, z9 = sI z2 30 ((gI z2 30) + (1 : Int32)) := ⟨_, rfl⟩
    have hB := hB z3 ez3
    refine xXp_7_told S hE hP hD hS lk_X3_35 dX3_add_30 (fun H locs hP hD hS => ?_)
    rw [← ez3] at hP hD
    refine lv_aload_n hx hb dX3_add_33 rfl (lv_at hl 0 rfl) ?_
    refine xXg_7_told S hE hP lk_X3_35 dX3_add_34 ?_
    refine lv_iconst (v := 1) hx hb dX3_add_37 (by decide) ?_
    refine lv_isub hx hb dX3_add_38 ?_
    exact hret _ _ _ _ _ _ dX3_add_39 hB hP hD hS
  · have hB := hB.2 c1
    refine lv_iconst (v := -1) hx hb dX3_add_8 (by decide) ?_
    refine W.widen (k := 1) (n := 241) (Nat.zero_le _) (Nat.zero_le _) ?_
    exact hret _ _ _ _ _ _ dX3_add_9 hB hP hD hS
set_option maxHeartbeats 4000000 in
set_option maxRecDepth 100000 in
theorem c_Laws_add_r3 (l : Launch) (G : GX) (z0 : St) (sz : Nat) (post : Int32 → St → Prop) : MetJ 1 241 l wX yX3_add cX3_add 2 (some .int) ({ frames := 3, cells := 1, slots := 241, locals := 114 }) [.ref (ad G 7), .ref (ad G 3)] G z0 sz (S_Laws_add_r3 post z0) post := by
  refine Met.ofW (cc := cX3_add) (maxL := 2) (ret := (some .int)) (by decide) rfl ?_
  intro p e s m args below meth c s₁ B hml hv
  obtain ⟨rfl, hsz, hP, hD0, hE, hB⟩ := hv
  have S : CallFix p m c cX3_add 2 s _ GW RX3 := ⟨B.exec, B.bytes, hml, findClass_of_methodNamed B.named, fun w h => atoms_spec (ws := Cond.code yX3_add cX3_add 2 (some .int) :: GW) B.pre w (List.mem_cons_of_mem _ h)⟩
  have hlocks := B.notSynchronized
  subst hsz
  have hD := hD0.self (sz := s.heap.size)
  generalize hAe : va_A (wX G z0) s.heap.size = A at hD hE ⊢
  have hA : ∀ q : Nat, s.heap.size ≤ q → A q := fun q h => by rw [← hAe]; exact Or.inr h
  have hS : va_S A s.heap s.heap [] := va_S.rf
  have hl := lv_entry ([.ref (ad G 7), .ref (ad G 3)]) (n := 2) (Nat.le_of_ble_eq_true rfl)
  rw [lg_entry_eq]
  generalize (lg_sl ([.ref (ad G 7), .ref (ad G 3)]) ++ List.replicate (2 - (lg_sl ([.ref (ad G 7), .ref (ad G 3)])).length) Slot.unset).toArray = ls at hl ⊢
  have hl : lv_has ls 2 [(0, .ref (ad G 7)), (1, .ref (ad G 3))] := hl
  refine w_Laws_add_r3_0 S hE hA (Nat.le_refl _) (Nat.le_refl _) ⟨Nat.le_refl _, Nat.le_refl _⟩ ?_  z0 hB _ _ _ hP hD hS hl
  intro pc ls r σ H locs hd hp hP hD hS
  exact W.iret (v := r) B.exec B.bytes B.returns (fun t ht hW => ⟨⟨r, σ, rfl, hp, by rw [ht]; exact hP, hD⟩, hS.F ht⟩) hS.2.2 hd
def B_B_text_v1_61 (post : Int32 → St → Prop) (x3 : Int32) (z0 : St) : Prop :=
  ((x3 = (-1 : Int32) → (post x3 z0)) ∧ (¬ x3 = (-1 : Int32) → (∀ z1 : St, z1 = sI z0 2 (0 : Int32) → (post x3 z1))))
set_option maxHeartbeats 4000000 in
set_option maxRecDepth 100000 in
theorem w_B_text_v1_61 {p : Program} {l : Launch} {e : Env} {R : Room} {s : State} {m : MethodId} {args : Array Value} {below : List Frame} {meth : Method} {c : Code} {Q : State → Prop} {G : GX} {A : Nat → Prop} (S : CallFix p m c cX11_text 4 s args GW RX11) (hE : env G A s s.heap) (hA : ∀ q, s.heap.size ≤ q → A q) (hRf : 7 ≤ R.frames) (hRl : 161 ≤ R.locals) (hRc : 1 ≤ R.cells ∧ 241 ≤ R.slots) {post : Int32 → St → Prop} (hret : RetI p l e R s m args below meth c Q 1 241 wX G A cX11_text post) (x3 : Int32) (z0 : St) (hB : B_B_text_v1_61 post x3 z0) : Xw p l e R s m args below meth c Q 1 241 wX G A z0 4 [(0, .ref (ad G 0)), (3, .int x3)] 61 [] := by
  intro H locs ls hP hD hS hl
  have hx := S.1
  have hb := S.2.1
  refine lv_iload_n hx hb dX11_text_61 rfl (lv_at hl 1 rfl) ?_
  refine lv_iconst (v := -1) hx hb dX11_text_62 (by decide) ?_
  refine lv_icmp_eq (tgt := 74) hx hb dX11_text_63 (by decide) (fun c1 => ?_) (fun c1 => ?_)
  · have hB := hB.1 c1
    refine lv_iload_n hx hb dX11_text_74 rfl (lv_at hl 1 rfl) ?_
    exact hret _ _ _ _ _ _ dX11_text_75 hB hP hD hS
  · have hB := hB.2 c1
    refine lv_aload_n hx hb dX11_text_66 rfl (lv_at hl 0 rfl) ?_
    refine xXg_0_tape S hE hP lk_X11_10 dX11_text_67 ?_
    refine lv_iconst (v := 0) hx hb dX11_text_70 (by decide) ?_
    obtain ⟨z1, ez1⟩ : ∃ z9, z9 = sI z0 2 (0 : Int32) := ⟨_, rfl⟩
    have hB := hB z1 ez1
    refine xXp_1_length S hE hP hD hS lk_X11_101 dX11_text_71 (fun H locs hP hD hS => ?_)
    rw [← ez1] at hP hD
    refine lv_iload_n hx hb dX11_text_74 rfl (lv_at hl 1 rfl) ?_
    exact hret _ _ _ _ _ _ dX11_text_75 hB hP hD hS
def S_B_text_v1 (post : Int32 → St → Prop) (x1 : Int32) (z0 : St) : Prop :=
  (S_B_readerOf_v1 (fun (z1 : St) => (S_Reader_faultOf_3_r1 (fun (r1 : Int32) (z2 : St) => ((r1 = (-1 : Int32) → (¬ x1 = 0 ∧ (x1 = (1 : Int32) ∧ (S_Laws_add_r3 (fun (r5 : Int32) (z3 : St) => (B_B_text_v1_61 post r5 z3)) z2)))) ∧ (¬ r1 = (-1 : Int32) → (post (-1 : Int32) z2)))) z1)) x1 z0)
set_option maxHeartbeats 4000000 in
set_option maxRecDepth 100000 in
theorem w_B_text_v1_0 {p : Program} {l : Launch} {e : Env} {R : Room} {s : State} {m : MethodId} {args : Array Value} {below : List Frame} {meth : Method} {c : Code} {Q : State → Prop} {G : GX} {A : Nat → Prop} (S : CallFix p m c cX11_text 4 s args GW RX11) (hE : env G A s s.heap) (hA : ∀ q, s.heap.size ≤ q → A q) (hRf : 7 ≤ R.frames) (hRl : 161 ≤ R.locals) (hRc : 1 ≤ R.cells ∧ 241 ≤ R.slots) {post : Int32 → St → Prop} (hret : RetI p l e R s m args below meth c Q 1 241 wX G A cX11_text post) (x1 : Int32) (z0 : St) (hB : S_B_text_v1 post x1 z0) : Xw p l e R s m args below meth c Q 0 0 wX G A z0 4 [(0, .ref (ad G 0)), (1, .int x1)] 0 [] := by
  intro H locs ls hP hD hS hl
  have hx := S.1
  have hb := S.2.1
  refine lv_aload_n hx hb dX11_text_0 rfl (lv_at hl 0 rfl) ?_
  refine lv_iload_n hx hb dX11_text_1 rfl (lv_at hl 1 rfl) ?_
  refine xcVq [.int x1] S hE hA hP hD hS (c_B_readerOf_v1 l G z0 H.size x1 _) hB (gw_c lk_X11_108 (gw_c wi_X11_readerOf (gw_c we_X11_X11_readerOf_X11_readerOf (gw_c wn_X11 (gw_c wc_X11_readerOf (fun _ h9 => h9)))))) hd_X11_readerOf rfl rfl (Nat.le_trans (Nat.le_of_ble_eq_true rfl) hRf) (Nat.le_trans (Nat.le_of_ble_eq_true rfl) hRl) ⟨Nat.zero_le _, Nat.zero_le _⟩ (va_recv hE.1 hP (ci := 10) (q0 := 0) rfl rfl) rfl hl.1 rfl (Nat.le_of_ble_eq_true rfl) dX11_text_2 rfl (fun z1 H locs hB hP hD hS => ?_)
  refine lv_astore_n (lv' := [(2, .ref (ad G 3)), (0, .ref (ad G 0)), (1, .int x1)]) hx hb dX11_text_5 rfl hl (by decide) rfl (fun ls hl => ?_)
  refine lv_aload_n hx hb dX11_text_6 rfl (lv_at hl 0 rfl) ?_
  refine lv_ifnull hx hb dX11_text_7 ?_
  refine lv_aload_n hx hb dX11_text_10 rfl (lv_at hl 0 rfl) ?_
  refine lv_aload_n hx hb dX11_text_11 rfl (lv_at hl 1 rfl) ?_
  refine xXg_0_tape S hE hP lk_X11_10 dX11_text_12 ?_
  refine xcUi (x := yX5_faultOf) (owner := RX5) (C := RX2) [.ref (ad G 1)] S hE hA hP hD hS (c_Reader_faultOf_3_r1 l G z1 H.size _) hB (gw_c lk_X11_112 (gw_c wm_X5_X5_faultOf_LBottleBefore_Tape__I (gw_c we_X2_X5_faultOf_X5_faultOf (gw_c wi_X5_faultOf (gw_c wn_X5 (gw_c wc_X5_faultOf (fun _ h9 => h9))))))) rfl hu_X5_faultOf rfl rfl (Nat.le_trans (Nat.le_of_ble_eq_true rfl) hRf) (Nat.le_trans (Nat.le_of_ble_eq_true rfl) hRl) ⟨Nat.zero_le _, Nat.zero_le _⟩ (va_recv hE.1 hP (ci := 2) (q0 := 3) rfl rfl) rfl hl.1 rfl (Nat.le_of_ble_eq_true rfl) dX11_text_15 (fun r1 z2 H locs hB hP hD hS => ?_)
  refine lv_iconst (v := -1) hx hb dX11_text_18 (by decide) ?_
  refine lv_icmp_eq (tgt := 24) hx hb dX11_text_19 (by decide) (fun c2 => ?_) (fun c2 => ?_)
  · have hB := hB.1 c2
    refine lv_iload_n hx hb dX11_text_24 rfl (lv_at hl 2 rfl) ?_
    obtain ⟨hc9, hB⟩ := hB
    refine lv_if_ne (tgt := 36) hx hb dX11_text_25 (by decide) (fun _ => ?_) (fun h9 => absurd h9 hc9)
    refine lv_iload_n hx hb dX11_text_36 rfl (lv_at hl 2 rfl) ?_
    refine lv_iconst (v := 1) hx hb dX11_text_37 (by decide) ?_
    obtain ⟨hc9, hB⟩ := hB
    refine lv_icmp_ne (tgt := 56) hx hb dX11_text_38 (by decide) (fun h9 => absurd hc9 h9) (fun _ => ?_)
    refine lv_aload_n hx hb dX11_text_41 rfl (lv_at hl 1 rfl) ?_
    refine xXg_0_laws S hE hP lk_X11_68 dX11_text_42 ?_
    refine lv_aload_n hx hb dX11_text_45 rfl (lv_at hl 1 rfl) ?_
    refine xXg_0_lawReader S hE hP lk_X11_26 dX11_text_46 ?_
    refine xcVj [.ref (ad G 3)] S hE hA hP hD hS (c_Laws_add_r3 l G z2 H.size _) hB (gw_c lk_X11_122 (gw_c wi_X3_add (gw_c we_X3_X3_add_X3_add (gw_c wn_X3 (gw_c wc_X3_add (fun _ h9 => h9)))))) hd_X3_add rfl rfl (Nat.le_trans (Nat.le_of_ble_eq_true rfl) hRf) (Nat.le_trans (Nat.le_of_ble_eq_true rfl) hRl) hRc (va_recv hE.1 hP (ci := 3) (q0 := 7) rfl rfl) rfl hl.1 rfl (Nat.le_of_ble_eq_true rfl) dX11_text_49 (fun r5 z3 H locs hB hP hD hS => ?_)
    refine lv_istore_n (lv' := [(3, .int r5), (2, .ref (ad G 3)), (0, .ref (ad G 0)), (1, .int x1)]) hx hb dX11_text_52 rfl hl (by decide) rfl (fun ls hl => ?_)
    refine lv_goto (tgt := 61) hx hb dX11_text_53 (by decide) ?_
    exact w_B_text_v1_61 S hE hA hRf hRl hRc hret r5 z3 hB _ _ _ hP hD hS (lv_sub hl [2, 0] rfl)
  · have hB := hB.2 c2
    refine lv_iconst (v := -1) hx hb dX11_text_22 (by decide) ?_
    refine W.widen (k := 1) (n := 241) (Nat.zero_le _) (Nat.zero_le _) ?_
    exact hret _ _ _ _ _ _ dX11_text_23 hB hP hD hS
set_option maxHeartbeats 4000000 in
set_option maxRecDepth 100000 in
theorem c_B_text_v1 (l : Launch) (G : GX) (z0 : St) (sz : Nat) (x1 : Int32) (post : Int32 → St → Prop) : MetJ 1 241 l wX yX11_text cX11_text 4 (some .int) ({ frames := 7, cells := 1, slots := 241, locals := 161 }) [.ref (ad G 0), .int x1] G z0 sz (S_B_text_v1 post x1 z0) post := by
  refine Met.ofW (cc := cX11_text) (maxL := 4) (ret := (some .int)) (by decide) rfl ?_
  intro p e s m args below meth c s₁ B hml hv
  obtain ⟨rfl, hsz, hP, hD0, hE, hB⟩ := hv
  have S : CallFix p m c cX11_text 4 s _ GW RX11 := ⟨B.exec, B.bytes, hml, findClass_of_methodNamed B.named, fun w h => atoms_spec (ws := Cond.code yX11_text cX11_text 4 (some .int) :: GW) B.pre w (List.mem_cons_of_mem _ h)⟩
  have hlocks := B.notSynchronized
  subst hsz
  have hD := hD0.self (sz := s.heap.size)
  generalize hAe : va_A (wX G z0) s.heap.size = A at hD hE ⊢
  have hA : ∀ q : Nat, s.heap.size ≤ q → A q := fun q h => by rw [← hAe]; exact Or.inr h
  have hS : va_S A s.heap s.heap [] := va_S.rf
  have hl := lv_entry ([.ref (ad G 0), .int x1]) (n := 4) (Nat.le_of_ble_eq_true rfl)
  rw [lg_entry_eq]
  generalize (lg_sl ([.ref (ad G 0), .int x1]) ++ List.replicate (4 - (lg_sl ([.ref (ad G 0), .int x1])).length) Slot.unset).toArray = ls at hl ⊢
  have hl : lv_has ls 4 [(0, .ref (ad G 0)), (1, .int x1)] := hl
  refine w_B_text_v1_0 S hE hA (Nat.le_refl _) (Nat.le_refl _) ⟨Nat.le_refl _, Nat.le_refl _⟩ ?_ x1 z0 hB _ _ _ hP hD hS hl
  intro pc ls r σ H locs hd hp hP hD hS
  exact W.iret (v := r) B.exec B.bytes B.returns (fun t ht hW => ⟨⟨r, σ, rfl, hp, by rw [ht]; exact hP, hD⟩, hS.F ht⟩) hS.2.2 hd
def S_B_addWinter (post : Int32 → St → Prop) (z0 : St) : Prop :=
  (((gI z0 0) < (4 : Int32) → (S_WinterReader_stepsRead (fun (z1 : St) (N3 : Nat) (f4 : Nat → Int32) => ∀ q2 : Nat, (vp_in (gI z0 0) 4 ∧ ∀ z2 : St, z2 = sNew z1 0 (gI z0 0).toNatClampNeg q2 N3 f4 → (∀ z3 : St, z3 = sI z2 0 ((gI z2 0) + (1 : Int32)) → (post ((gI z3 0) - (1 : Int32)) z3)))) z0)) ∧ (¬ (gI z0 0) < (4 : Int32) → (post (-1 : Int32) z0)))
set_option maxHeartbeats 4000000 in
set_option maxRecDepth 100000 in
theorem w_B_addWinter_0 {p : Program} {l : Launch} {e : Env} {R : Room} {s : State} {m : MethodId} {args : Array Value} {below : List Frame} {meth : Method} {c : Code} {Q : State → Prop} {G : GX} {A : Nat → Prop} (S : CallFix p m c cX11_addWinter 1 s args GW RX11) (hE : env G A s s.heap) (hA : ∀ q, s.heap.size ≤ q → A q) (hRf : 3 ≤ R.frames) (hRl : 114 ≤ R.locals) (hRc : 1 ≤ R.cells ∧ 16 ≤ R.slots) {post : Int32 → St → Prop} (hret : RetI p l e R s m args below meth c Q 1 16 wX G A cX11_addWinter post) (z0 : St) (hB : S_B_addWinter post z0) : Xw p l e R s m args below meth c Q 0 0 wX G A z0 1 [(0, .ref (ad G 0))] 0 [] := by
  intro H locs ls hP hD hS hl
  have hx := S.1
  have hb := S.2.1
  refine lv_aload_n hx hb dX11_addWinter_0 rfl (lv_at hl 0 rfl) ?_
  refine xXg_0_wintersTold S hE hP lk_X11_140 dX11_addWinter_1 ?_
  refine lv_iconst (v := 4) hx hb dX11_addWinter_4 (by decide) ?_
  refine lv_icmp_lt (tgt := 10) hx hb dX11_addWinter_5 (by decide) (fun c1 => ?_) (fun c1 => ?_)
  · have hB := hB.1 c1
    refine lv_aload_n hx hb dX11_addWinter_10 rfl (lv_at hl 0 rfl) ?_
    refine xXg_0_winters S hE hP lk_X11_39 dX11_addWinter_11 ?_
    refine lv_aload_n hx hb dX11_addWinter_14 rfl (lv_at hl 0 rfl) ?_
    refine xXg_0_wintersTold S hE hP lk_X11_140 dX11_addWinter_15 ?_
    refine lv_aload_n hx hb dX11_addWinter_18 rfl (lv_at hl 0 rfl) ?_
    refine xXg_0_winterReader S hE hP lk_X11_33 dX11_addWinter_19 ?_
    refine xcVn [] S hE hA hP hD hS (c_WinterReader_stepsRead l G z0 H.size _) hB (gw_c lk_X11_143 (gw_c wi_X10_stepsRead (gw_c we_X10_X10_stepsRead_X10_stepsRead (gw_c wn_X10 (gw_c wc_X10_stepsRead (fun _ h9 => h9)))))) hd_X10_stepsRead rfl rfl (Nat.le_trans (Nat.le_of_ble_eq_true rfl) hRf) (Nat.le_trans (Nat.le_of_ble_eq_true rfl) hRl) hRc (va_recv hE.1 hP (ci := 9) (q0 := 4) rfl rfl) rfl hl.1 rfl (Nat.le_of_ble_eq_true rfl) dX11_addWinter_22 (fun q2 N3 f4 z1 H locs hB hP hD hS => ?_)
    have hB := hB q2
    obtain ⟨hi, hB⟩ := hB
    obtain ⟨z2, ez2⟩ : ∃ z9, z9 = sNew z1 0 (gI z0 0).toNatClampNeg q2 N3 f4 := ⟨_, rfl⟩
    have hB := hB z2 ez2
    refine xXa_17 S hE hP hD hS _ rfl hi dX11_addWinter_25 (fun H locs hP hD hS => ?_)
    rw [← ez2] at hP hD
    refine lv_aload_n hx hb dX11_addWinter_26 rfl (lv_at hl 0 rfl) ?_
    refine lv_dup hx hb dX11_addWinter_27 rfl ?_
    refine xXg_0_wintersTold S hE hP lk_X11_140 dX11_addWinter_28 ?_
    refine lv_iconst (v := 1) hx hb dX11_addWinter_31 (by decide) ?_
    refine lv_iadd hx hb dX11_addWinter_32 ?_
    obtain ⟨z3, ez3⟩ : ∃ z9, z9 = sI z2 0 ((gI z2 0) + (1 : Int32)) := ⟨_, rfl⟩
    have hB := hB z3 ez3
    refine xXp_0_wintersTold S hE hP hD hS lk_X11_140 dX11_addWinter_33 (fun H locs hP hD hS => ?_)
    rw [← ez3] at hP hD
    refine lv_aload_n hx hb dX11_addWinter_36 rfl (lv_at hl 0 rfl) ?_
    refine xXg_0_wintersTold S hE hP lk_X11_140 dX11_addWinter_37 ?_
    refine lv_iconst (v := 1) hx hb dX11_addWinter_40 (by decide) ?_
    refine lv_isub hx hb dX11_addWinter_41 ?_
    exact hret _ _ _ _ _ _ dX11_addWinter_42 hB hP hD hS
  · have hB := hB.2 c1
    refine lv_iconst (v := -1) hx hb dX11_addWinter_8 (by decide) ?_
    refine W.widen (k := 1) (n := 16) (Nat.zero_le _) (Nat.zero_le _) ?_
    exact hret _ _ _ _ _ _ dX11_addWinter_9 hB hP hD hS
set_option maxHeartbeats 4000000 in
set_option maxRecDepth 100000 in
theorem c_B_addWinter (l : Launch) (G : GX) (z0 : St) (sz : Nat) (post : Int32 → St → Prop) : MetJ 1 16 l wX yX11_addWinter cX11_addWinter 1 (some .int) ({ frames := 3, cells := 1, slots := 16, locals := 114 }) [.ref (ad G 0)] G z0 sz (S_B_addWinter post z0) post := by
  refine Met.ofW (cc := cX11_addWinter) (maxL := 1) (ret := (some .int)) (by decide) rfl ?_
  intro p e s m args below meth c s₁ B hml hv
  obtain ⟨rfl, hsz, hP, hD0, hE, hB⟩ := hv
  have S : CallFix p m c cX11_addWinter 1 s _ GW RX11 := ⟨B.exec, B.bytes, hml, findClass_of_methodNamed B.named, fun w h => atoms_spec (ws := Cond.code yX11_addWinter cX11_addWinter 1 (some .int) :: GW) B.pre w (List.mem_cons_of_mem _ h)⟩
  have hlocks := B.notSynchronized
  subst hsz
  have hD := hD0.self (sz := s.heap.size)
  generalize hAe : va_A (wX G z0) s.heap.size = A at hD hE ⊢
  have hA : ∀ q : Nat, s.heap.size ≤ q → A q := fun q h => by rw [← hAe]; exact Or.inr h
  have hS : va_S A s.heap s.heap [] := va_S.rf
  have hl := lv_entry ([.ref (ad G 0)]) (n := 1) (Nat.le_of_ble_eq_true rfl)
  rw [lg_entry_eq]
  generalize (lg_sl ([.ref (ad G 0)]) ++ List.replicate (1 - (lg_sl ([.ref (ad G 0)])).length) Slot.unset).toArray = ls at hl ⊢
  have hl : lv_has ls 1 [(0, .ref (ad G 0))] := hl
  refine w_B_addWinter_0 S hE hA (Nat.le_refl _) (Nat.le_refl _) ⟨Nat.le_refl _, Nat.le_refl _⟩ ?_  z0 hB _ _ _ hP hD hS hl
  intro pc ls r σ H locs hd hp hP hD hS
  exact W.iret (v := r) B.exec B.bytes B.returns (fun t ht hW => ⟨⟨r, σ, rfl, hp, by rw [ht]; exact hP, hD⟩, hS.F ht⟩) hS.2.2 hd
def B_B_text_v2_61 (post : Int32 → St → Prop) (x3 : Int32) (z0 : St) : Prop :=
  ((x3 = (-1 : Int32) → (post x3 z0)) ∧ (¬ x3 = (-1 : Int32) → (∀ z1 : St, z1 = sI z0 2 (0 : Int32) → (post x3 z1))))
set_option maxHeartbeats 4000000 in
set_option maxRecDepth 100000 in
theorem w_B_text_v2_61 {p : Program} {l : Launch} {e : Env} {R : Room} {s : State} {m : MethodId} {args : Array Value} {below : List Frame} {meth : Method} {c : Code} {Q : State → Prop} {G : GX} {A : Nat → Prop} (S : CallFix p m c cX11_text 4 s args GW RX11) (hE : env G A s s.heap) (hA : ∀ q, s.heap.size ≤ q → A q) (hRf : 7 ≤ R.frames) (hRl : 159 ≤ R.locals) (hRc : 1 ≤ R.cells ∧ 16 ≤ R.slots) {post : Int32 → St → Prop} (hret : RetI p l e R s m args below meth c Q 1 16 wX G A cX11_text post) (x3 : Int32) (z0 : St) (hB : B_B_text_v2_61 post x3 z0) : Xw p l e R s m args below meth c Q 1 16 wX G A z0 4 [(0, .ref (ad G 0)), (3, .int x3)] 61 [] := by
  intro H locs ls hP hD hS hl
  have hx := S.1
  have hb := S.2.1
  refine lv_iload_n hx hb dX11_text_61 rfl (lv_at hl 1 rfl) ?_
  refine lv_iconst (v := -1) hx hb dX11_text_62 (by decide) ?_
  refine lv_icmp_eq (tgt := 74) hx hb dX11_text_63 (by decide) (fun c1 => ?_) (fun c1 => ?_)
  · have hB := hB.1 c1
    refine lv_iload_n hx hb dX11_text_74 rfl (lv_at hl 1 rfl) ?_
    exact hret _ _ _ _ _ _ dX11_text_75 hB hP hD hS
  · have hB := hB.2 c1
    refine lv_aload_n hx hb dX11_text_66 rfl (lv_at hl 0 rfl) ?_
    refine xXg_0_tape S hE hP lk_X11_10 dX11_text_67 ?_
    refine lv_iconst (v := 0) hx hb dX11_text_70 (by decide) ?_
    obtain ⟨z1, ez1⟩ : ∃ z9, z9 = sI z0 2 (0 : Int32) := ⟨_, rfl⟩
    have hB := hB z1 ez1
    refine xXp_1_length S hE hP hD hS lk_X11_101 dX11_text_71 (fun H locs hP hD hS => ?_)
    rw [← ez1] at hP hD
    refine lv_iload_n hx hb dX11_text_74 rfl (lv_at hl 1 rfl) ?_
    exact hret _ _ _ _ _ _ dX11_text_75 hB hP hD hS
def S_B_text_v2 (post : Int32 → St → Prop) (x1 : Int32) (z0 : St) : Prop :=
  (S_B_readerOf_v2 (fun (z1 : St) => (S_Reader_faultOf_4_r1 (fun (r1 : Int32) (z2 : St) => ((r1 = (-1 : Int32) → (¬ x1 = 0 ∧ (¬ x1 = (1 : Int32) ∧ (S_B_addWinter (fun (r5 : Int32) (z3 : St) => (B_B_text_v2_61 post r5 z3)) z2)))) ∧ (¬ r1 = (-1 : Int32) → (post (-1 : Int32) z2)))) z1)) x1 z0)
set_option maxHeartbeats 4000000 in
set_option maxRecDepth 100000 in
theorem w_B_text_v2_0 {p : Program} {l : Launch} {e : Env} {R : Room} {s : State} {m : MethodId} {args : Array Value} {below : List Frame} {meth : Method} {c : Code} {Q : State → Prop} {G : GX} {A : Nat → Prop} (S : CallFix p m c cX11_text 4 s args GW RX11) (hE : env G A s s.heap) (hA : ∀ q, s.heap.size ≤ q → A q) (hRf : 7 ≤ R.frames) (hRl : 159 ≤ R.locals) (hRc : 1 ≤ R.cells ∧ 16 ≤ R.slots) {post : Int32 → St → Prop} (hret : RetI p l e R s m args below meth c Q 1 16 wX G A cX11_text post) (x1 : Int32) (z0 : St) (hB : S_B_text_v2 post x1 z0) : Xw p l e R s m args below meth c Q 0 0 wX G A z0 4 [(0, .ref (ad G 0)), (1, .int x1)] 0 [] := by
  intro H locs ls hP hD hS hl
  have hx := S.1
  have hb := S.2.1
  refine lv_aload_n hx hb dX11_text_0 rfl (lv_at hl 0 rfl) ?_
  refine lv_iload_n hx hb dX11_text_1 rfl (lv_at hl 1 rfl) ?_
  refine xcVq [.int x1] S hE hA hP hD hS (c_B_readerOf_v2 l G z0 H.size x1 _) hB (gw_c lk_X11_108 (gw_c wi_X11_readerOf (gw_c we_X11_X11_readerOf_X11_readerOf (gw_c wn_X11 (gw_c wc_X11_readerOf (fun _ h9 => h9)))))) hd_X11_readerOf rfl rfl (Nat.le_trans (Nat.le_of_ble_eq_true rfl) hRf) (Nat.le_trans (Nat.le_of_ble_eq_true rfl) hRl) ⟨Nat.zero_le _, Nat.zero_le _⟩ (va_recv hE.1 hP (ci := 10) (q0 := 0) rfl rfl) rfl hl.1 rfl (Nat.le_of_ble_eq_true rfl) dX11_text_2 rfl (fun z1 H locs hB hP hD hS => ?_)
  refine lv_astore_n (lv' := [(2, .ref (ad G 4)), (0, .ref (ad G 0)), (1, .int x1)]) hx hb dX11_text_5 rfl hl (by decide) rfl (fun ls hl => ?_)
  refine lv_aload_n hx hb dX11_text_6 rfl (lv_at hl 0 rfl) ?_
  refine lv_ifnull hx hb dX11_text_7 ?_
  refine lv_aload_n hx hb dX11_text_10 rfl (lv_at hl 0 rfl) ?_
  refine lv_aload_n hx hb dX11_text_11 rfl (lv_at hl 1 rfl) ?_
  refine xXg_0_tape S hE hP lk_X11_10 dX11_text_12 ?_
  refine xcUi (x := yX5_faultOf) (owner := RX5) (C := RX10) [.ref (ad G 1)] S hE hA hP hD hS (c_Reader_faultOf_4_r1 l G z1 H.size _) hB (gw_c lk_X11_112 (gw_c wm_X5_X5_faultOf_LBottleBefore_Tape__I (gw_c we_X10_X5_faultOf_X5_faultOf (gw_c wi_X5_faultOf (gw_c wn_X5 (gw_c wc_X5_faultOf (fun _ h9 => h9))))))) rfl hu_X5_faultOf rfl rfl (Nat.le_trans (Nat.le_of_ble_eq_true rfl) hRf) (Nat.le_trans (Nat.le_of_ble_eq_true rfl) hRl) ⟨Nat.zero_le _, Nat.zero_le _⟩ (va_recv hE.1 hP (ci := 9) (q0 := 4) rfl rfl) rfl hl.1 rfl (Nat.le_of_ble_eq_true rfl) dX11_text_15 (fun r1 z2 H locs hB hP hD hS => ?_)
  refine lv_iconst (v := -1) hx hb dX11_text_18 (by decide) ?_
  refine lv_icmp_eq (tgt := 24) hx hb dX11_text_19 (by decide) (fun c2 => ?_) (fun c2 => ?_)
  · have hB := hB.1 c2
    refine lv_iload_n hx hb dX11_text_24 rfl (lv_at hl 2 rfl) ?_
    obtain ⟨hc9, hB⟩ := hB
    refine lv_if_ne (tgt := 36) hx hb dX11_text_25 (by decide) (fun _ => ?_) (fun h9 => absurd h9 hc9)
    refine lv_iload_n hx hb dX11_text_36 rfl (lv_at hl 2 rfl) ?_
    refine lv_iconst (v := 1) hx hb dX11_text_37 (by decide) ?_
    obtain ⟨hc9, hB⟩ := hB
    refine lv_icmp_ne (tgt := 56) hx hb dX11_text_38 (by decide) (fun _ => ?_) (fun h9 => absurd h9 hc9)
    refine lv_aload_n hx hb dX11_text_56 rfl (lv_at hl 1 rfl) ?_
    refine xcVj [] S hE hA hP hD hS (c_B_addWinter l G z2 H.size _) hB (gw_c lk_X11_125 (gw_c wi_X11_addWinter (gw_c we_X11_X11_addWinter_X11_addWinter (gw_c wn_X11 (gw_c wc_X11_addWinter (fun _ h9 => h9)))))) hd_X11_addWinter rfl rfl (Nat.le_trans (Nat.le_of_ble_eq_true rfl) hRf) (Nat.le_trans (Nat.le_of_ble_eq_true rfl) hRl) hRc (va_recv hE.1 hP (ci := 10) (q0 := 0) rfl rfl) rfl hl.1 rfl (Nat.le_of_ble_eq_true rfl) dX11_text_57 (fun r5 z3 H locs hB hP hD hS => ?_)
    refine lv_istore_n (lv' := [(3, .int r5), (2, .ref (ad G 4)), (0, .ref (ad G 0)), (1, .int x1)]) hx hb dX11_text_60 rfl hl (by decide) rfl (fun ls hl => ?_)
    exact w_B_text_v2_61 S hE hA hRf hRl hRc hret r5 z3 hB _ _ _ hP hD hS (lv_sub hl [2, 0] rfl)
  · have hB := hB.2 c2
    refine lv_iconst (v := -1) hx hb dX11_text_22 (by decide) ?_
    refine W.widen (k := 1) (n := 16) (Nat.zero_le _) (Nat.zero_le _) ?_
    exact hret _ _ _ _ _ _ dX11_text_23 hB hP hD hS
set_option maxHeartbeats 4000000 in
set_option maxRecDepth 100000 in
theorem c_B_text_v2 (l : Launch) (G : GX) (z0 : St) (sz : Nat) (x1 : Int32) (post : Int32 → St → Prop) : MetJ 1 16 l wX yX11_text cX11_text 4 (some .int) ({ frames := 7, cells := 1, slots := 16, locals := 159 }) [.ref (ad G 0), .int x1] G z0 sz (S_B_text_v2 post x1 z0) post := by
  refine Met.ofW (cc := cX11_text) (maxL := 4) (ret := (some .int)) (by decide) rfl ?_
  intro p e s m args below meth c s₁ B hml hv
  obtain ⟨rfl, hsz, hP, hD0, hE, hB⟩ := hv
  have S : CallFix p m c cX11_text 4 s _ GW RX11 := ⟨B.exec, B.bytes, hml, findClass_of_methodNamed B.named, fun w h => atoms_spec (ws := Cond.code yX11_text cX11_text 4 (some .int) :: GW) B.pre w (List.mem_cons_of_mem _ h)⟩
  have hlocks := B.notSynchronized
  subst hsz
  have hD := hD0.self (sz := s.heap.size)
  generalize hAe : va_A (wX G z0) s.heap.size = A at hD hE ⊢
  have hA : ∀ q : Nat, s.heap.size ≤ q → A q := fun q h => by rw [← hAe]; exact Or.inr h
  have hS : va_S A s.heap s.heap [] := va_S.rf
  have hl := lv_entry ([.ref (ad G 0), .int x1]) (n := 4) (Nat.le_of_ble_eq_true rfl)
  rw [lg_entry_eq]
  generalize (lg_sl ([.ref (ad G 0), .int x1]) ++ List.replicate (4 - (lg_sl ([.ref (ad G 0), .int x1])).length) Slot.unset).toArray = ls at hl ⊢
  have hl : lv_has ls 4 [(0, .ref (ad G 0)), (1, .int x1)] := hl
  refine w_B_text_v2_0 S hE hA (Nat.le_refl _) (Nat.le_refl _) ⟨Nat.le_refl _, Nat.le_refl _⟩ ?_ x1 z0 hB _ _ _ hP hD hS hl
  intro pc ls r σ H locs hd hp hP hD hS
  exact W.iret (v := r) B.exec B.bytes B.returns (fun t ht hW => ⟨⟨r, σ, rfl, hp, by rw [ht]; exact hP, hD⟩, hS.F ht⟩) hS.2.2 hd
def S_B_text_vn (post : Int32 → St → Prop) (x1 : Int32) (z0 : St) : Prop :=
  (S_B_readerOf_vn (fun (z1 : St) => (post (-1 : Int32) z1)) x1 z0)
set_option maxHeartbeats 4000000 in
set_option maxRecDepth 100000 in
theorem w_B_text_vn_0 {p : Program} {l : Launch} {e : Env} {R : Room} {s : State} {m : MethodId} {args : Array Value} {below : List Frame} {meth : Method} {c : Code} {Q : State → Prop} {G : GX} {A : Nat → Prop} (S : CallFix p m c cX11_text 4 s args GW RX11) (hE : env G A s s.heap) (hA : ∀ q, s.heap.size ≤ q → A q) (hRf : 1 ≤ R.frames) (hRl : 21 ≤ R.locals) {post : Int32 → St → Prop} (hret : RetI p l e R s m args below meth c Q 0 0 wX G A cX11_text post) (x1 : Int32) (z0 : St) (hB : S_B_text_vn post x1 z0) : Xw p l e R s m args below meth c Q 0 0 wX G A z0 4 [(0, .ref (ad G 0)), (1, .int x1)] 0 [] := by
  intro H locs ls hP hD hS hl
  have hx := S.1
  have hb := S.2.1
  refine lv_aload_n hx hb dX11_text_0 rfl (lv_at hl 0 rfl) ?_
  refine lv_iload_n hx hb dX11_text_1 rfl (lv_at hl 1 rfl) ?_
  refine xcVq [.int x1] S hE hA hP hD hS (c_B_readerOf_vn l G z0 H.size x1 _) hB (gw_c lk_X11_108 (gw_c wi_X11_readerOf (gw_c we_X11_X11_readerOf_X11_readerOf (gw_c wn_X11 (gw_c wc_X11_readerOf (fun _ h9 => h9)))))) hd_X11_readerOf rfl rfl (Nat.le_trans (Nat.le_of_ble_eq_true rfl) hRf) (Nat.le_trans (Nat.le_of_ble_eq_true rfl) hRl) ⟨Nat.zero_le _, Nat.zero_le _⟩ (va_recv hE.1 hP (ci := 10) (q0 := 0) rfl rfl) rfl hl.1 rfl (Nat.le_of_ble_eq_true rfl) dX11_text_2 rfl (fun z1 H locs hB hP hD hS => ?_)
  refine lv_astore_nN (lv' := [(2, .null), (0, .ref (ad G 0)), (1, .int x1)]) hx hb dX11_text_5 rfl hl (by decide) rfl (fun ls hl => ?_)
  refine lv_aload_nN hx hb dX11_text_6 rfl (lv_at hl 0 rfl) ?_
  refine lv_ifnullN (tgt := 22) hx hb dX11_text_7 (by decide) ?_
  refine lv_iconst (v := -1) hx hb dX11_text_22 (by decide) ?_
  exact hret _ _ _ _ _ _ dX11_text_23 hB hP hD hS
set_option maxHeartbeats 4000000 in
set_option maxRecDepth 100000 in
theorem c_B_text_vn (l : Launch) (G : GX) (z0 : St) (sz : Nat) (x1 : Int32) (post : Int32 → St → Prop) : MetI l wX yX11_text cX11_text 4 (some .int) ({ frames := 1, cells := 0, slots := 0, locals := 21 }) [.ref (ad G 0), .int x1] G z0 sz (S_B_text_vn post x1 z0) post := by
  refine Met.ofW (cc := cX11_text) (maxL := 4) (ret := (some .int)) (by decide) rfl ?_
  intro p e s m args below meth c s₁ B hml hv
  obtain ⟨rfl, hsz, hP, hD0, hE, hB⟩ := hv
  have S : CallFix p m c cX11_text 4 s _ GW RX11 := ⟨B.exec, B.bytes, hml, findClass_of_methodNamed B.named, fun w h => atoms_spec (ws := Cond.code yX11_text cX11_text 4 (some .int) :: GW) B.pre w (List.mem_cons_of_mem _ h)⟩
  have hlocks := B.notSynchronized
  subst hsz
  have hD := hD0.self (sz := s.heap.size)
  generalize hAe : va_A (wX G z0) s.heap.size = A at hD hE ⊢
  have hA : ∀ q : Nat, s.heap.size ≤ q → A q := fun q h => by rw [← hAe]; exact Or.inr h
  have hS : va_S A s.heap s.heap [] := va_S.rf
  have hl := lv_entry ([.ref (ad G 0), .int x1]) (n := 4) (Nat.le_of_ble_eq_true rfl)
  rw [lg_entry_eq]
  generalize (lg_sl ([.ref (ad G 0), .int x1]) ++ List.replicate (4 - (lg_sl ([.ref (ad G 0), .int x1])).length) Slot.unset).toArray = ls at hl ⊢
  have hl : lv_has ls 4 [(0, .ref (ad G 0)), (1, .int x1)] := hl
  refine w_B_text_vn_0 S hE hA (Nat.le_refl _) (Nat.le_refl _) ?_ x1 z0 hB _ _ _ hP hD hS hl
  intro pc ls r σ H locs hd hp hP hD hS
  exact W.iret (v := r) B.exec B.bytes B.returns (fun t ht hW => ⟨⟨r, σ, rfl, hp, by rw [ht]; exact hP, hD⟩, hS.F ht⟩) hS.2.2 hd
