def B_Tape_bytesOf_22 (post : Int32 → St → Prop) (ih5 : Int32 → Int32 → Int32 → St → Prop) (x0 : Int32) (x1 : Int32) (x2 : Int32) (z0 : St) : Prop :=
  (∀ v1 : Int32, v1 = x2 + (-8 : Int32) → (ih5 x0 x1 v1 z0))
set_option maxHeartbeats 4000000 in
set_option maxRecDepth 100000 in
theorem w_Tape_bytesOf_22 {p : Program} {l : Launch} {e : Env} {R : Room} {s : State} {m : MethodId} {args : Array Value} {below : List Frame} {meth : Method} {c : Code} {Q : State → Prop} {G : GX} {A : Nat → Prop} (S : CallFix p m c cX9_bytesOf 3 s args GW RX9) (hE : env G A s s.heap) (hA : ∀ q, s.heap.size ≤ q → A q) (hRf : 0 ≤ R.frames) (hRl : 0 ≤ R.locals) {post : Int32 → St → Prop} (hret : RetI p l e R s m args below meth c Q 0 0 wX G A cX9_bytesOf post) {ih5 : Int32 → Int32 → Int32 → St → Prop} (h5 : ∀ (x0 : Int32) (x1 : Int32) (x2 : Int32) (z0 : St), ih5 x0 x1 x2 z0 → Xw p l e R s m args below meth c Q 0 0 wX G A z0 3 [(0, .int x0), (1, .int x1), (2, .int x2)] 5 []) (x0 : Int32) (x1 : Int32) (x2 : Int32) (z0 : St) (hB : B_Tape_bytesOf_22 post ih5 x0 x1 x2 z0) : Xw p l e R s m args below meth c Q 0 0 wX G A z0 3 [(0, .int x0), (1, .int x1), (2, .int x2)] 22 [] := by
  intro H locs ls hP hD hS hl
  have hx := S.1
  have hb := S.2.1
  obtain ⟨v1, ev1⟩ : ∃ y9, y9 = x2 + (-8 : Int32) := ⟨_, rfl⟩
  have hB := hB v1 ev1
  refine lv_iinc (v := v1) (lv' := [(2, .int v1), (0, .int x0), (1, .int x1)]) hx hb dX9_bytesOf_22 hl (k := 2) rfl (by rw [ev1]; rfl) (by decide) rfl (fun ls hl => ?_)
  refine lv_goto (tgt := 5) hx hb dX9_bytesOf_25 (by decide) ?_
  exact h5 x0 x1 v1 z0 hB _ _ _ hP hD hS (lv_sub hl [1, 2, 0] rfl)
def B_Tape_bytesOf_5 (post : Int32 → St → Prop) (ih5 : Int32 → Int32 → Int32 → St → Prop) (x0 : Int32) (x1 : Int32) (x2 : Int32) (z0 : St) : Prop :=
  ((x2 < 0 → (post x1 z0)) ∧ (¬ x2 < 0 → (((((x0).toUInt32 >>> ((x2).toUInt32 &&& Int32.toUInt32 31)).toInt32 &&& (255 : Int32)) = 0 → (B_Tape_bytesOf_22 post ih5 x0 x1 x2 z0)) ∧ (¬ (((x0).toUInt32 >>> ((x2).toUInt32 &&& Int32.toUInt32 31)).toInt32 &&& (255 : Int32)) = 0 → (∀ v3 : Int32, v3 = x1 + (1 : Int32) → (B_Tape_bytesOf_22 post ih5 x0 v3 x2 z0))))))
set_option maxHeartbeats 4000000 in
set_option maxRecDepth 100000 in
theorem w_Tape_bytesOf_5 {p : Program} {l : Launch} {e : Env} {R : Room} {s : State} {m : MethodId} {args : Array Value} {below : List Frame} {meth : Method} {c : Code} {Q : State → Prop} {G : GX} {A : Nat → Prop} (S : CallFix p m c cX9_bytesOf 3 s args GW RX9) (hE : env G A s s.heap) (hA : ∀ q, s.heap.size ≤ q → A q) (hRf : 0 ≤ R.frames) (hRl : 0 ≤ R.locals) {post : Int32 → St → Prop} (hret : RetI p l e R s m args below meth c Q 0 0 wX G A cX9_bytesOf post) {ih5 : Int32 → Int32 → Int32 → St → Prop} (h5 : ∀ (x0 : Int32) (x1 : Int32) (x2 : Int32) (z0 : St), ih5 x0 x1 x2 z0 → Xw p l e R s m args below meth c Q 0 0 wX G A z0 3 [(0, .int x0), (1, .int x1), (2, .int x2)] 5 []) (x0 : Int32) (x1 : Int32) (x2 : Int32) (z0 : St) (hB : B_Tape_bytesOf_5 post ih5 x0 x1 x2 z0) : Xw p l e R s m args below meth c Q 0 0 wX G A z0 3 [(0, .int x0), (1, .int x1), (2, .int x2)] 5 [] := by
  intro H locs ls hP hD hS hl
  have hx := S.1
  have hb := S.2.1
  refine lv_iload_n hx hb dX9_bytesOf_5 rfl (lv_at hl 2 rfl) ?_
  refine lv_if_lt (tgt := 28) hx hb dX9_bytesOf_6 (by decide) (fun c1 => ?_) (fun c1 => ?_)
  · have hB := hB.1 c1
    refine lv_iload_n hx hb dX9_bytesOf_28 rfl (lv_at hl 1 rfl) ?_
    exact hret _ _ _ _ _ _ dX9_bytesOf_29 hB hP hD hS
  · have hB := hB.2 c1
    refine lv_iload_n hx hb dX9_bytesOf_9 rfl (lv_at hl 0 rfl) ?_
    refine lv_iload_n hx hb dX9_bytesOf_10 rfl (lv_at hl 2 rfl) ?_
    refine lv_iushr hx hb dX9_bytesOf_11 rfl ?_
    refine lv_sipush (v := 255) hx hb dX9_bytesOf_12 (by decide) ?_
    refine lv_iand hx hb dX9_bytesOf_15 ?_
    refine lv_if_eq (tgt := 22) hx hb dX9_bytesOf_16 (by decide) (fun c2 => ?_) (fun c2 => ?_)
    · have hB := hB.1 c2
      exact w_Tape_bytesOf_22 S hE hA hRf hRl hret h5 x0 x1 x2 z0 hB _ _ _ hP hD hS (lv_sub hl [0, 1, 2] rfl)
    · have hB := hB.2 c2
      obtain ⟨v3, ev3⟩ : ∃ y9, y9 = x1 + (1 : Int32) := ⟨_, rfl⟩
      have hB := hB v3 ev3
      refine lv_iinc (v := v3) (lv' := [(1, .int v3), (0, .int x0), (2, .int x2)]) hx hb dX9_bytesOf_19 hl (k := 1) rfl (by rw [ev3]; rfl) (by decide) rfl (fun ls hl => ?_)
      exact w_Tape_bytesOf_22 S hE hA hRf hRl hret h5 x0 v3 x2 z0 hB _ _ _ hP hD hS (lv_sub hl [1, 0, 2] rfl)
def L_Tape_bytesOf_5 (post : Int32 → St → Prop) : Nat → Int32 → Int32 → Int32 → St → Prop
  | 0 => fun _ _ _ _ => False
  | n + 1 => B_Tape_bytesOf_5 post (L_Tape_bytesOf_5 post n)
theorem wl_Tape_bytesOf_5 {p : Program} {l : Launch} {e : Env} {R : Room} {s : State} {m : MethodId} {args : Array Value} {below : List Frame} {meth : Method} {c : Code} {Q : State → Prop} {G : GX} {A : Nat → Prop} (S : CallFix p m c cX9_bytesOf 3 s args GW RX9) (hE : env G A s s.heap) (hA : ∀ q, s.heap.size ≤ q → A q) (hRf : 0 ≤ R.frames) (hRl : 0 ≤ R.locals) {post : Int32 → St → Prop} (hret : RetI p l e R s m args below meth c Q 0 0 wX G A cX9_bytesOf post) : ∀ (n : Nat) (x0 : Int32) (x1 : Int32) (x2 : Int32) (z0 : St), L_Tape_bytesOf_5 post n x0 x1 x2 z0 → Xw p l e R s m args below meth c Q 0 0 wX G A z0 3 [(0, .int x0), (1, .int x1), (2, .int x2)] 5 [] := by
  intro n
  induction n with
  | zero => intro x0 x1 x2 z0 hB; exact absurd hB id
  | succ n ih => exact fun x0 x1 x2 z0 hB => w_Tape_bytesOf_5 S hE hA hRf hRl hret ih x0 x1 x2 z0 hB
def S_Tape_bytesOf (post : Int32 → St → Prop) (x0 : Int32) (z0 : St) : Prop :=
  (∃ n1, L_Tape_bytesOf_5 post n1 x0 (0 : Int32) (24 : Int32) z0)
set_option maxHeartbeats 4000000 in
set_option maxRecDepth 100000 in
theorem w_Tape_bytesOf_0 {p : Program} {l : Launch} {e : Env} {R : Room} {s : State} {m : MethodId} {args : Array Value} {below : List Frame} {meth : Method} {c : Code} {Q : State → Prop} {G : GX} {A : Nat → Prop} (S : CallFix p m c cX9_bytesOf 3 s args GW RX9) (hE : env G A s s.heap) (hA : ∀ q, s.heap.size ≤ q → A q) (hRf : 0 ≤ R.frames) (hRl : 0 ≤ R.locals) {post : Int32 → St → Prop} (hret : RetI p l e R s m args below meth c Q 0 0 wX G A cX9_bytesOf post) (x0 : Int32) (z0 : St) (hB : S_Tape_bytesOf post x0 z0) : Xw p l e R s m args below meth c Q 0 0 wX G A z0 3 [(0, .int x0)] 0 [] := by
  intro H locs ls hP hD hS hl
  have hx := S.1
  have hb := S.2.1
  refine lv_iconst (v := 0) hx hb dX9_bytesOf_0 (by decide) ?_
  refine lv_istore_n (lv' := [(1, .int (0 : Int32)), (0, .int x0)]) hx hb dX9_bytesOf_1 rfl hl (by decide) rfl (fun ls hl => ?_)
  refine lv_bipush (v := 24) hx hb dX9_bytesOf_2 (by decide) ?_
  refine lv_istore_n (lv' := [(2, .int (24 : Int32)), (1, .int (0 : Int32)), (0, .int x0)]) hx hb dX9_bytesOf_4 rfl hl (by decide) rfl (fun ls hl => ?_)
  obtain ⟨n1, hB⟩ := hB
  exact wl_Tape_bytesOf_5 S hE hA hRf hRl hret n1 x0 (0 : Int32) (24 : Int32) z0 hB _ _ _ hP hD hS (lv_sub hl [2, 1, 0] rfl)
set_option maxHeartbeats 4000000 in
set_option maxRecDepth 100000 in
theorem c_Tape_bytesOf (l : Launch) (G : GX) (z0 : St) (sz : Nat) (x0 : Int32) (post : Int32 → St → Prop) : MetI l wX yX9_bytesOf cX9_bytesOf 3 (some .int) ({ frames := 0, cells := 0, slots := 0, locals := 0 }) [.int x0] G z0 sz (S_Tape_bytesOf post x0 z0) post := by
  refine Met.ofW (cc := cX9_bytesOf) (maxL := 3) (ret := (some .int)) (by decide) rfl ?_
  intro p e s m args below meth c s₁ B hml hv
  obtain ⟨rfl, hsz, hP, hD0, hE, hB⟩ := hv
  have S : CallFix p m c cX9_bytesOf 3 s _ GW RX9 := ⟨B.exec, B.bytes, hml, findClass_of_methodNamed B.named, fun w h => atoms_spec (ws := Cond.code yX9_bytesOf cX9_bytesOf 3 (some .int) :: GW) B.pre w (List.mem_cons_of_mem _ h)⟩
  have hlocks := B.notSynchronized
  subst hsz
  have hD := hD0.self (sz := s.heap.size)
  generalize hAe : va_A (wX G z0) s.heap.size = A at hD hE ⊢
  have hA : ∀ q : Nat, s.heap.size ≤ q → A q := fun q h => by rw [← hAe]; exact Or.inr h
  have hS : va_S A s.heap s.heap [] := va_S.rf
  have hl := lv_entry ([.int x0]) (n := 3) (Nat.le_of_ble_eq_true rfl)
  rw [lg_entry_eq]
  generalize (lg_sl ([.int x0]) ++ List.replicate (3 - (lg_sl ([.int x0])).length) Slot.unset).toArray = ls at hl ⊢
  have hl : lv_has ls 3 [(0, .int x0)] := hl
  refine w_Tape_bytesOf_0 S hE hA (Nat.le_refl _) (Nat.le_refl _) ?_ x0 z0 hB _ _ _ hP hD hS hl
  intro pc ls r σ H locs hd hp hP hD hS
  exact W.iret (v := r) B.exec B.bytes B.returns (fun t ht hW => ⟨⟨r, σ, rfl, hp, by rw [ht]; exact hP, hD⟩, hS.F ht⟩) hS.2.2 hd
def B_Tape_add_49 (post : St → Prop) (ih3 : Int32 → Int32 → St → Prop) (x1 : Int32) (x2 : Int32) (z0 : St) : Prop :=
  (∀ v1 : Int32, v1 = x2 + (-8 : Int32) → (ih3 x1 v1 z0))
set_option maxHeartbeats 4000000 in
set_option maxRecDepth 100000 in
theorem w_Tape_add_49 {p : Program} {l : Launch} {e : Env} {R : Room} {s : State} {m : MethodId} {args : Array Value} {below : List Frame} {meth : Method} {c : Code} {Q : State → Prop} {G : GX} {A : Nat → Prop} (S : CallFix p m c cX9_add 4 s args GW RX9) (hE : env G A s s.heap) (hA : ∀ q, s.heap.size ≤ q → A q) (hRf : 0 ≤ R.frames) (hRl : 0 ≤ R.locals) {post : St → Prop} (hret : RetV p l e R s m args below meth c Q 0 0 wX G A cX9_add post) {ih3 : Int32 → Int32 → St → Prop} (h3 : ∀ (x1 : Int32) (x2 : Int32) (z0 : St), ih3 x1 x2 z0 → Xw p l e R s m args below meth c Q 0 0 wX G A z0 4 [(0, .ref (ad G 1)), (1, .int x1), (2, .int x2)] 3 []) (x1 : Int32) (x2 : Int32) (z0 : St) (hB : B_Tape_add_49 post ih3 x1 x2 z0) : Xw p l e R s m args below meth c Q 0 0 wX G A z0 4 [(0, .ref (ad G 1)), (1, .int x1), (2, .int x2)] 49 [] := by
  intro H locs ls hP hD hS hl
  have hx := S.1
  have hb := S.2.1
  obtain ⟨v1, ev1⟩ : ∃ y9, y9 = x2 + (-8 : Int32) := ⟨_, rfl⟩
  have hB := hB v1 ev1
  refine lv_iinc (v := v1) (lv' := [(2, .int v1), (0, .ref (ad G 1)), (1, .int x1)]) hx hb dX9_add_49 hl (k := 2) rfl (by rw [ev1]; rfl) (by decide) rfl (fun ls hl => ?_)
  refine lv_goto (tgt := 3) hx hb dX9_add_52 (by decide) ?_
  exact h3 x1 v1 z0 hB _ _ _ hP hD hS (lv_sub hl [1, 2, 0] rfl)
def B_Tape_add_3 (post : St → Prop) (ih3 : Int32 → Int32 → St → Prop) (x1 : Int32) (x2 : Int32) (z0 : St) : Prop :=
  ((x2 < 0 → (post z0)) ∧ (¬ x2 < 0 → (∀ v2 : Int32, v2 = (((x1).toUInt32 >>> ((x2).toUInt32 &&& Int32.toUInt32 31)).toInt32 &&& (255 : Int32)) → ((v2 = 0 → (B_Tape_add_49 post ih3 x1 x2 z0)) ∧ (¬ v2 = 0 → (((240 : Int32) ≤ (gI z0 2) → (B_Tape_add_49 post ih3 x1 x2 z0)) ∧ (¬ (240 : Int32) ≤ (gI z0 2) → (vp_in (gI z0 2) 240 ∧ (∀ z1 : St, z1 = sA z0 12 (gI z0 2).toNatClampNeg v2 → (∀ z2 : St, z2 = sI z1 2 ((gI z1 2) + (1 : Int32)) → (B_Tape_add_49 post ih3 x1 x2 z2)))))))))))
set_option maxHeartbeats 4000000 in
set_option maxRecDepth 100000 in
theorem w_Tape_add_3 {p : Program} {l : Launch} {e : Env} {R : Room} {s : State} {m : MethodId} {args : Array Value} {below : List Frame} {meth : Method} {c : Code} {Q : State → Prop} {G : GX} {A : Nat → Prop} (S : CallFix p m c cX9_add 4 s args GW RX9) (hE : env G A s s.heap) (hA : ∀ q, s.heap.size ≤ q → A q) (hRf : 0 ≤ R.frames) (hRl : 0 ≤ R.locals) {post : St → Prop} (hret : RetV p l e R s m args below meth c Q 0 0 wX G A cX9_add post) {ih3 : Int32 → Int32 → St → Prop} (h3 : ∀ (x1 : Int32) (x2 : Int32) (z0 : St), ih3 x1 x2 z0 → Xw p l e R s m args below meth c Q 0 0 wX G A z0 4 [(0, .ref (ad G 1)), (1, .int x1), (2, .int x2)] 3 []) (x1 : Int32) (x2 : Int32) (z0 : St) (hB : B_Tape_add_3 post ih3 x1 x2 z0) : Xw p l e R s m args below meth c Q 0 0 wX G A z0 4 [(0, .ref (ad G 1)), (1, .int x1), (2, .int x2)] 3 [] := by
  intro H locs ls hP hD hS hl
  have hx := S.1
  have hb := S.2.1
  refine lv_iload_n hx hb dX9_add_3 rfl (lv_at hl 2 rfl) ?_
  refine lv_if_lt (tgt := 55) hx hb dX9_add_4 (by decide) (fun c1 => ?_) (fun c1 => ?_)
  · have hB := hB.1 c1
    exact hret _ _ _ _ _ dX9_add_55 hB hP hD hS
  · have hB := hB.2 c1
    refine lv_iload_n hx hb dX9_add_7 rfl (lv_at hl 1 rfl) ?_
    refine lv_iload_n hx hb dX9_add_8 rfl (lv_at hl 2 rfl) ?_
    refine lv_iushr hx hb dX9_add_9 rfl ?_
    refine lv_sipush (v := 255) hx hb dX9_add_10 (by decide) ?_
    refine lv_iand hx hb dX9_add_13 ?_
    refine lv_topi (fun v2 ev2 => ?_)
    have hB := hB v2 ev2
    refine lv_istore_n (lv' := [(3, .int v2), (0, .ref (ad G 1)), (1, .int x1), (2, .int x2)]) hx hb dX9_add_14 rfl hl (by decide) rfl (fun ls hl => ?_)
    refine lv_iload_n hx hb dX9_add_15 rfl (lv_at hl 0 rfl) ?_
    refine lv_if_eq (tgt := 49) hx hb dX9_add_16 (by decide) (fun c3 => ?_) (fun c3 => ?_)
    · have hB := hB.1 c3
      exact w_Tape_add_49 S hE hA hRf hRl hret h3 x1 x2 z0 hB _ _ _ hP hD hS (lv_sub hl [1, 2, 3] rfl)
    · have hB := hB.2 c3
      refine lv_aload_n hx hb dX9_add_19 rfl (lv_at hl 1 rfl) ?_
      refine xXg_1_length S hE hP lk_X9_15 dX9_add_20 ?_
      refine lv_sipush (v := 240) hx hb dX9_add_23 (by decide) ?_
      refine lv_icmp_ge (tgt := 49) hx hb dX9_add_26 (by decide) (fun c4 => ?_) (fun c4 => ?_)
      · have hB := hB.1 c4
        exact w_Tape_add_49 S hE hA hRf hRl hret h3 x1 x2 z0 hB _ _ _ hP hD hS (lv_sub hl [1, 2, 3] rfl)
      · have hB := hB.2 c4
        refine lv_aload_n hx hb dX9_add_29 rfl (lv_at hl 1 rfl) ?_
        refine xXg_1_bytes S hE hP lk_X9_11 dX9_add_30 ?_
        refine lv_aload_n hx hb dX9_add_33 rfl (lv_at hl 1 rfl) ?_
        refine xXg_1_length S hE hP lk_X9_15 dX9_add_34 ?_
        refine lv_iload_n hx hb dX9_add_37 rfl (lv_at hl 0 rfl) ?_
        obtain ⟨hi, hB⟩ := hB
        obtain ⟨z1, ez1⟩ : ∃ z9, z9 = sA z0 12 (gI z0 2).toNatClampNeg v2 := ⟨_, rfl⟩
        have hB := hB z1 ez1
        refine xXs_12 S hE hP hD hS _ rfl hi dX9_add_38 (fun H locs hP hD hS => ?_)
        rw [← ez1] at hP hD
        refine lv_aload_n hx hb dX9_add_39 rfl (lv_at hl 1 rfl) ?_
        refine lv_dup hx hb dX9_add_40 rfl ?_
        refine xXg_1_length S hE hP lk_X9_15 dX9_add_41 ?_
        refine lv_iconst (v := 1) hx hb dX9_add_44 (by decide) ?_
        refine lv_iadd hx hb dX9_add_45 ?_
        obtain ⟨z2, ez2⟩ : ∃ z9, z9 = sI z1 2 ((gI z1 2) + (1 : Int32)) := ⟨_, rfl⟩
        have hB := hB z2 ez2
        refine xXp_1_length S hE hP hD hS lk_X9_15 dX9_add_46 (fun H locs hP hD hS => ?_)
        rw [← ez2] at hP hD
        exact w_Tape_add_49 S hE hA hRf hRl hret h3 x1 x2 z2 hB _ _ _ hP hD hS (lv_sub hl [1, 2, 3] rfl)
def L_Tape_add_3 (post : St → Prop) : Nat → Int32 → Int32 → St → Prop
  | 0 => fun _ _ _ => False
  | n + 1 => B_Tape_add_3 post (L_Tape_add_3 post n)
theorem wl_Tape_add_3 {p : Program} {l : Launch} {e : Env} {R : Room} {s : State} {m : MethodId} {args : Array Value} {below : List Frame} {meth : Method} {c : Code} {Q : State → Prop} {G : GX} {A : Nat → Prop} (S : CallFix p m c cX9_add 4 s args GW RX9) (hE : env G A s s.heap) (hA : ∀ q, s.heap.size ≤ q → A q) (hRf : 0 ≤ R.frames) (hRl : 0 ≤ R.locals) {post : St → Prop} (hret : RetV p l e R s m args below meth c Q 0 0 wX G A cX9_add post) : ∀ (n : Nat) (x1 : Int32) (x2 : Int32) (z0 : St), L_Tape_add_3 post n x1 x2 z0 → Xw p l e R s m args below meth c Q 0 0 wX G A z0 4 [(0, .ref (ad G 1)), (1, .int x1), (2, .int x2)] 3 [] := by
  intro n
  induction n with
  | zero => intro x1 x2 z0 hB; exact absurd hB id
  | succ n ih => exact fun x1 x2 z0 hB => w_Tape_add_3 S hE hA hRf hRl hret ih x1 x2 z0 hB
def S_Tape_add (post : St → Prop) (x1 : Int32) (z0 : St) : Prop :=
  (∃ n1, L_Tape_add_3 post n1 x1 (24 : Int32) z0)
set_option maxHeartbeats 4000000 in
set_option maxRecDepth 100000 in
theorem w_Tape_add_0 {p : Program} {l : Launch} {e : Env} {R : Room} {s : State} {m : MethodId} {args : Array Value} {below : List Frame} {meth : Method} {c : Code} {Q : State → Prop} {G : GX} {A : Nat → Prop} (S : CallFix p m c cX9_add 4 s args GW RX9) (hE : env G A s s.heap) (hA : ∀ q, s.heap.size ≤ q → A q) (hRf : 0 ≤ R.frames) (hRl : 0 ≤ R.locals) {post : St → Prop} (hret : RetV p l e R s m args below meth c Q 0 0 wX G A cX9_add post) (x1 : Int32) (z0 : St) (hB : S_Tape_add post x1 z0) : Xw p l e R s m args below meth c Q 0 0 wX G A z0 4 [(0, .ref (ad G 1)), (1, .int x1)] 0 [] := by
  intro H locs ls hP hD hS hl
  have hx := S.1
  have hb := S.2.1
  refine lv_bipush (v := 24) hx hb dX9_add_0 (by decide) ?_
  refine lv_istore_n (lv' := [(2, .int (24 : Int32)), (0, .ref (ad G 1)), (1, .int x1)]) hx hb dX9_add_2 rfl hl (by decide) rfl (fun ls hl => ?_)
  obtain ⟨n1, hB⟩ := hB
  exact wl_Tape_add_3 S hE hA hRf hRl hret n1 x1 (24 : Int32) z0 hB _ _ _ hP hD hS (lv_sub hl [1, 2, 0] rfl)
set_option maxHeartbeats 4000000 in
set_option maxRecDepth 100000 in
theorem c_Tape_add (l : Launch) (G : GX) (z0 : St) (sz : Nat) (x1 : Int32) (post : St → Prop) : MetV l wX yX9_add cX9_add 4 none ({ frames := 0, cells := 0, slots := 0, locals := 0 }) [.ref (ad G 1), .int x1] G z0 sz (S_Tape_add post x1 z0) post := by
  refine Met.ofW (cc := cX9_add) (maxL := 4) (ret := none) (by decide) rfl ?_
  intro p e s m args below meth c s₁ B hml hv
  obtain ⟨rfl, hsz, hP, hD0, hE, hB⟩ := hv
  have S : CallFix p m c cX9_add 4 s _ GW RX9 := ⟨B.exec, B.bytes, hml, findClass_of_methodNamed B.named, fun w h => atoms_spec (ws := Cond.code yX9_add cX9_add 4 none :: GW) B.pre w (List.mem_cons_of_mem _ h)⟩
  have hlocks := B.notSynchronized
  subst hsz
  have hD := hD0.self (sz := s.heap.size)
  generalize hAe : va_A (wX G z0) s.heap.size = A at hD hE ⊢
  have hA : ∀ q : Nat, s.heap.size ≤ q → A q := fun q h => by rw [← hAe]; exact Or.inr h
  have hS : va_S A s.heap s.heap [] := va_S.rf
  have hl := lv_entry ([.ref (ad G 1), .int x1]) (n := 4) (Nat.le_of_ble_eq_true rfl)
  rw [lg_entry_eq]
  generalize (lg_sl ([.ref (ad G 1), .int x1]) ++ List.replicate (4 - (lg_sl ([.ref (ad G 1), .int x1])).length) Slot.unset).toArray = ls at hl ⊢
  have hl : lv_has ls 4 [(0, .ref (ad G 1)), (1, .int x1)] := hl
  refine w_Tape_add_0 S hE hA (Nat.le_refl _) (Nat.le_refl _) ?_ x1 z0 hB _ _ _ hP hD hS hl
  intro pc ls σ H locs hd hp hP hD hS
  exact W.vret B.exec B.bytes B.returns (fun t ht hW => ⟨⟨σ, rfl, hp, by rw [ht]; exact hP, hD⟩, hS.F ht⟩) hS.2.2 hd
def S_B_feed (post : Int32 → St → Prop) (x1 : Int32) (x2 : Int32) (x3 : Int32) (x4 : Int32) (x5 : Int32) (z0 : St) : Prop :=
  (S_Tape_bytesOf (fun (r1 : Int32) (z1 : St) => (S_Tape_bytesOf (fun (r2 : Int32) (z2 : St) => (S_Tape_bytesOf (fun (r3 : Int32) (z3 : St) => (S_Tape_bytesOf (fun (r4 : Int32) (z4 : St) => (S_Tape_bytesOf (fun (r5 : Int32) (z5 : St) => (∀ v6 : Int32, v6 = ((((r1 + r2) + r3) + r4) + r5) → ((((gI z5 2) + v6) ≤ (240 : Int32) → (S_Tape_add (fun (z6 : St) => (S_Tape_add (fun (z7 : St) => (S_Tape_add (fun (z8 : St) => (S_Tape_add (fun (z9 : St) => (S_Tape_add (fun (z10 : St) => (post (gI z10 2) z10)) x5 z9)) x4 z8)) x3 z7)) x2 z6)) x1 z5)) ∧ (¬ ((gI z5 2) + v6) ≤ (240 : Int32) → (post (-1 : Int32) z5))))) x5 z4)) x4 z3)) x3 z2)) x2 z1)) x1 z0)
set_option maxHeartbeats 4000000 in
set_option maxRecDepth 100000 in
theorem w_B_feed_0 {p : Program} {l : Launch} {e : Env} {R : Room} {s : State} {m : MethodId} {args : Array Value} {below : List Frame} {meth : Method} {c : Code} {Q : State → Prop} {G : GX} {A : Nat → Prop} (S : CallFix p m c cX11_feed 7 s args GW RX11) (hE : env G A s s.heap) (hA : ∀ q, s.heap.size ≤ q → A q) (hRf : 1 ≤ R.frames) (hRl : 23 ≤ R.locals) {post : Int32 → St → Prop} (hret : RetI p l e R s m args below meth c Q 0 0 wX G A cX11_feed post) (x1 : Int32) (x2 : Int32) (x3 : Int32) (x4 : Int32) (x5 : Int32) (z0 : St) (hB : S_B_feed post x1 x2 x3 x4 x5 z0) : Xw p l e R s m args below meth c Q 0 0 wX G A z0 7 [(0, .ref (ad G 0)), (1, .int x1), (2, .int x2), (3, .int x3), (4, .int x4), (5, .int x5)] 0 [] := by
  intro H locs ls hP hD hS hl
  have hx := S.1
  have hb := S.2.1
  refine lv_iload_n hx hb dX11_feed_0 rfl (lv_at hl 1 rfl) ?_
  refine xcSi [.int x1] S hE hA hP hD hS (c_Tape_bytesOf l G z0 H.size x1 _) hB (gw_c lk_X11_97 (gw_c wt_X9_bytesOf (gw_c wn_X9 (gw_c wc_X9_bytesOf (fun _ h9 => h9))))) hs_X9_bytesOf rfl rfl (Nat.le_trans (Nat.le_of_ble_eq_true rfl) hRf) (Nat.le_trans (Nat.le_of_ble_eq_true rfl) hRl) ⟨Nat.zero_le _, Nat.zero_le _⟩ rfl hl.1 rfl (Nat.le_of_ble_eq_true rfl) dX11_feed_1 (fun r1 z1 H locs hB hP hD hS => ?_)
  refine lv_iload_n hx hb dX11_feed_4 rfl (lv_at hl 2 rfl) ?_
  refine xcSi [.int x2] S hE hA hP hD hS (c_Tape_bytesOf l G z1 H.size x2 _) hB (gw_c lk_X11_97 (gw_c wt_X9_bytesOf (gw_c wn_X9 (gw_c wc_X9_bytesOf (fun _ h9 => h9))))) hs_X9_bytesOf rfl rfl (Nat.le_trans (Nat.le_of_ble_eq_true rfl) hRf) (Nat.le_trans (Nat.le_of_ble_eq_true rfl) hRl) ⟨Nat.zero_le _, Nat.zero_le _⟩ rfl hl.1 rfl (Nat.le_of_ble_eq_true rfl) dX11_feed_5 (fun r2 z2 H locs hB hP hD hS => ?_)
  refine lv_iadd hx hb dX11_feed_8 ?_
  refine lv_iload_n hx hb dX11_feed_9 rfl (lv_at hl 3 rfl) ?_
  refine xcSi [.int x3] S hE hA hP hD hS (c_Tape_bytesOf l G z2 H.size x3 _) hB (gw_c lk_X11_97 (gw_c wt_X9_bytesOf (gw_c wn_X9 (gw_c wc_X9_bytesOf (fun _ h9 => h9))))) hs_X9_bytesOf rfl rfl (Nat.le_trans (Nat.le_of_ble_eq_true rfl) hRf) (Nat.le_trans (Nat.le_of_ble_eq_true rfl) hRl) ⟨Nat.zero_le _, Nat.zero_le _⟩ rfl hl.1 rfl (Nat.le_of_ble_eq_true rfl) dX11_feed_10 (fun r3 z3 H locs hB hP hD hS => ?_)
  refine lv_iadd hx hb dX11_feed_13 ?_
  refine lv_iload hx hb dX11_feed_14 (lv_at hl 4 rfl) ?_
  refine xcSi [.int x4] S hE hA hP hD hS (c_Tape_bytesOf l G z3 H.size x4 _) hB (gw_c lk_X11_97 (gw_c wt_X9_bytesOf (gw_c wn_X9 (gw_c wc_X9_bytesOf (fun _ h9 => h9))))) hs_X9_bytesOf rfl rfl (Nat.le_trans (Nat.le_of_ble_eq_true rfl) hRf) (Nat.le_trans (Nat.le_of_ble_eq_true rfl) hRl) ⟨Nat.zero_le _, Nat.zero_le _⟩ rfl hl.1 rfl (Nat.le_of_ble_eq_true rfl) dX11_feed_16 (fun r4 z4 H locs hB hP hD hS => ?_)
  refine lv_iadd hx hb dX11_feed_19 ?_
  refine lv_iload hx hb dX11_feed_20 (lv_at hl 5 rfl) ?_
  refine xcSi [.int x5] S hE hA hP hD hS (c_Tape_bytesOf l G z4 H.size x5 _) hB (gw_c lk_X11_97 (gw_c wt_X9_bytesOf (gw_c wn_X9 (gw_c wc_X9_bytesOf (fun _ h9 => h9))))) hs_X9_bytesOf rfl rfl (Nat.le_trans (Nat.le_of_ble_eq_true rfl) hRf) (Nat.le_trans (Nat.le_of_ble_eq_true rfl) hRl) ⟨Nat.zero_le _, Nat.zero_le _⟩ rfl hl.1 rfl (Nat.le_of_ble_eq_true rfl) dX11_feed_22 (fun r5 z5 H locs hB hP hD hS => ?_)
  refine lv_iadd hx hb dX11_feed_25 ?_
  refine lv_topi (fun v6 ev6 => ?_)
  have hB := hB v6 ev6
  refine lv_istore (lv' := [(6, .int v6), (0, .ref (ad G 0)), (1, .int x1), (2, .int x2), (3, .int x3), (4, .int x4), (5, .int x5)]) hx hb dX11_feed_26 hl (by decide) rfl (fun ls hl => ?_)
  refine lv_aload_n hx hb dX11_feed_28 rfl (lv_at hl 1 rfl) ?_
  refine xXg_0_tape S hE hP lk_X11_10 dX11_feed_29 ?_
  refine xXg_1_length S hE hP lk_X11_101 dX11_feed_32 ?_
  refine lv_iload hx hb dX11_feed_35 (lv_at hl 0 rfl) ?_
  refine lv_iadd hx hb dX11_feed_37 ?_
  refine lv_sipush (v := 240) hx hb dX11_feed_38 (by decide) ?_
  refine lv_icmp_le (tgt := 46) hx hb dX11_feed_41 (by decide) (fun c7 => ?_) (fun c7 => ?_)
  · have hB := hB.1 c7
    refine lv_aload_n hx hb dX11_feed_46 rfl (lv_at hl 1 rfl) ?_
    refine xXg_0_tape S hE hP lk_X11_10 dX11_feed_47 ?_
    refine lv_iload_n hx hb dX11_feed_50 rfl (lv_at hl 2 rfl) ?_
    refine xcVv [.int x1] S hE hA hP hD hS (c_Tape_add l G z5 H.size x1 _) hB (gw_c lk_X11_104 (gw_c wi_X9_add (gw_c we_X9_X9_add_X9_add (gw_c wn_X9 (gw_c wc_X9_add (fun _ h9 => h9)))))) hd_X9_add rfl rfl (Nat.le_trans (Nat.le_of_ble_eq_true rfl) hRf) (Nat.le_trans (Nat.le_of_ble_eq_true rfl) hRl) ⟨Nat.zero_le _, Nat.zero_le _⟩ (va_recv hE.1 hP (ci := 8) (q0 := 1) rfl rfl) rfl hl.1 rfl (Nat.le_of_ble_eq_true rfl) dX11_feed_51 (fun z6 H locs hB hP hD hS => ?_)
    refine lv_aload_n hx hb dX11_feed_54 rfl (lv_at hl 1 rfl) ?_
    refine xXg_0_tape S hE hP lk_X11_10 dX11_feed_55 ?_
    refine lv_iload_n hx hb dX11_feed_58 rfl (lv_at hl 3 rfl) ?_
    refine xcVv [.int x2] S hE hA hP hD hS (c_Tape_add l G z6 H.size x2 _) hB (gw_c lk_X11_104 (gw_c wi_X9_add (gw_c we_X9_X9_add_X9_add (gw_c wn_X9 (gw_c wc_X9_add (fun _ h9 => h9)))))) hd_X9_add rfl rfl (Nat.le_trans (Nat.le_of_ble_eq_true rfl) hRf) (Nat.le_trans (Nat.le_of_ble_eq_true rfl) hRl) ⟨Nat.zero_le _, Nat.zero_le _⟩ (va_recv hE.1 hP (ci := 8) (q0 := 1) rfl rfl) rfl hl.1 rfl (Nat.le_of_ble_eq_true rfl) dX11_feed_59 (fun z7 H locs hB hP hD hS => ?_)
    refine lv_aload_n hx hb dX11_feed_62 rfl (lv_at hl 1 rfl) ?_
    refine xXg_0_tape S hE hP lk_X11_10 dX11_feed_63 ?_
    refine lv_iload_n hx hb dX11_feed_66 rfl (lv_at hl 4 rfl) ?_
    refine xcVv [.int x3] S hE hA hP hD hS (c_Tape_add l G z7 H.size x3 _) hB (gw_c lk_X11_104 (gw_c wi_X9_add (gw_c we_X9_X9_add_X9_add (gw_c wn_X9 (gw_c wc_X9_add (fun _ h9 => h9)))))) hd_X9_add rfl rfl (Nat.le_trans (Nat.le_of_ble_eq_true rfl) hRf) (Nat.le_trans (Nat.le_of_ble_eq_true rfl) hRl) ⟨Nat.zero_le _, Nat.zero_le _⟩ (va_recv hE.1 hP (ci := 8) (q0 := 1) rfl rfl) rfl hl.1 rfl (Nat.le_of_ble_eq_true rfl) dX11_feed_67 (fun z8 H locs hB hP hD hS => ?_)
    refine lv_aload_n hx hb dX11_feed_70 rfl (lv_at hl 1 rfl) ?_
    refine xXg_0_tape S hE hP lk_X11_10 dX11_feed_71 ?_
    refine lv_iload hx hb dX11_feed_74 (lv_at hl 5 rfl) ?_
    refine xcVv [.int x4] S hE hA hP hD hS (c_Tape_add l G z8 H.size x4 _) hB (gw_c lk_X11_104 (gw_c wi_X9_add (gw_c we_X9_X9_add_X9_add (gw_c wn_X9 (gw_c wc_X9_add (fun _ h9 => h9)))))) hd_X9_add rfl rfl (Nat.le_trans (Nat.le_of_ble_eq_true rfl) hRf) (Nat.le_trans (Nat.le_of_ble_eq_true rfl) hRl) ⟨Nat.zero_le _, Nat.zero_le _⟩ (va_recv hE.1 hP (ci := 8) (q0 := 1) rfl rfl) rfl hl.1 rfl (Nat.le_of_ble_eq_true rfl) dX11_feed_76 (fun z9 H locs hB hP hD hS => ?_)
    refine lv_aload_n hx hb dX11_feed_79 rfl (lv_at hl 1 rfl) ?_
    refine xXg_0_tape S hE hP lk_X11_10 dX11_feed_80 ?_
    refine lv_iload hx hb dX11_feed_83 (lv_at hl 6 rfl) ?_
    refine xcVv [.int x5] S hE hA hP hD hS (c_Tape_add l G z9 H.size x5 _) hB (gw_c lk_X11_104 (gw_c wi_X9_add (gw_c we_X9_X9_add_X9_add (gw_c wn_X9 (gw_c wc_X9_add (fun _ h9 => h9)))))) hd_X9_add rfl rfl (Nat.le_trans (Nat.le_of_ble_eq_true rfl) hRf) (Nat.le_trans (Nat.le_of_ble_eq_true rfl) hRl) ⟨Nat.zero_le _, Nat.zero_le _⟩ (va_recv hE.1 hP (ci := 8) (q0 := 1) rfl rfl) rfl hl.1 rfl (Nat.le_of_ble_eq_true rfl) dX11_feed_85 (fun z10 H locs hB hP hD hS => ?_)
    refine lv_aload_n hx hb dX11_feed_88 rfl (lv_at hl 1 rfl) ?_
    refine xXg_0_tape S hE hP lk_X11_10 dX11_feed_89 ?_
    refine xXg_1_length S hE hP lk_X11_101 dX11_feed_92 ?_
    exact hret _ _ _ _ _ _ dX11_feed_95 hB hP hD hS
  · have hB := hB.2 c7
    refine lv_iconst (v := -1) hx hb dX11_feed_44 (by decide) ?_
    exact hret _ _ _ _ _ _ dX11_feed_45 hB hP hD hS
set_option maxHeartbeats 4000000 in
set_option maxRecDepth 100000 in
theorem c_B_feed (l : Launch) (G : GX) (z0 : St) (sz : Nat) (x1 : Int32) (x2 : Int32) (x3 : Int32) (x4 : Int32) (x5 : Int32) (post : Int32 → St → Prop) : MetI l wX yX11_feed cX11_feed 7 (some .int) ({ frames := 1, cells := 0, slots := 0, locals := 23 }) [.ref (ad G 0), .int x1, .int x2, .int x3, .int x4, .int x5] G z0 sz (S_B_feed post x1 x2 x3 x4 x5 z0) post := by
  refine Met.ofW (cc := cX11_feed) (maxL := 7) (ret := (some .int)) (by decide) rfl ?_
  intro p e s m args below meth c s₁ B hml hv
  obtain ⟨rfl, hsz, hP, hD0, hE, hB⟩ := hv
  have S : CallFix p m c cX11_feed 7 s _ GW RX11 := ⟨B.exec, B.bytes, hml, findClass_of_methodNamed B.named, fun w h => atoms_spec (ws := Cond.code yX11_feed cX11_feed 7 (some .int) :: GW) B.pre w (List.mem_cons_of_mem _ h)⟩
  have hlocks := B.notSynchronized
  subst hsz
  have hD := hD0.self (sz := s.heap.size)
  generalize hAe : va_A (wX G z0) s.heap.size = A at hD hE ⊢
  have hA : ∀ q : Nat, s.heap.size ≤ q → A q := fun q h => by rw [← hAe]; exact Or.inr h
  have hS : va_S A s.heap s.heap [] := va_S.rf
  have hl := lv_entry ([.ref (ad G 0), .int x1, .int x2, .int x3, .int x4, .int x5]) (n := 7) (Nat.le_of_ble_eq_true rfl)
  rw [lg_entry_eq]
  generalize (lg_sl ([.ref (ad G 0), .int x1, .int x2, .int x3, .int x4, .int x5]) ++ List.replicate (7 - (lg_sl ([.ref (ad G 0), .int x1, .int x2, .int x3, .int x4, .int x5])).length) Slot.unset).toArray = ls at hl ⊢
  have hl : lv_has ls 7 [(0, .ref (ad G 0)), (1, .int x1), (2, .int x2), (3, .int x3), (4, .int x4), (5, .int x5)] := hl
  refine w_B_feed_0 S hE hA (Nat.le_refl _) (Nat.le_refl _) ?_ x1 x2 x3 x4 x5 z0 hB _ _ _ hP hD hS hl
  intro pc ls r σ H locs hd hp hP hD hS
  exact W.iret (v := r) B.exec B.bytes B.returns (fun t ht hW => ⟨⟨r, σ, rfl, hp, by rw [ht]; exact hP, hD⟩, hS.F ht⟩) hS.2.2 hd
def S_B_end (post : Int32 → St → Prop) (x1 : Int32) (z0 : St) : Prop :=
  ((x1 < 0 → (post (0 : Int32) z0)) ∧ (¬ x1 < 0 → ((x1 ≤ (gI z0 2) → (∀ z1 : St, z1 = sI z0 2 x1 → (post (1 : Int32) z1))) ∧ (¬ x1 ≤ (gI z0 2) → (post (0 : Int32) z0)))))
set_option maxHeartbeats 4000000 in
set_option maxRecDepth 100000 in
theorem w_B_end_0 {p : Program} {l : Launch} {e : Env} {R : Room} {s : State} {m : MethodId} {args : Array Value} {below : List Frame} {meth : Method} {c : Code} {Q : State → Prop} {G : GX} {A : Nat → Prop} (S : CallFix p m c cX11_end 2 s args GW RX11) (hE : env G A s s.heap) (hA : ∀ q, s.heap.size ≤ q → A q) (hRf : 0 ≤ R.frames) (hRl : 0 ≤ R.locals) {post : Int32 → St → Prop} (hret : RetZ p l e R s m args below meth c Q 0 0 wX G A cX11_end post) (x1 : Int32) (z0 : St) (hB : S_B_end post x1 z0) : Xw p l e R s m args below meth c Q 0 0 wX G A z0 2 [(0, .ref (ad G 0)), (1, .int x1)] 0 [] := by
  intro H locs ls hP hD hS hl
  have hx := S.1
  have hb := S.2.1
  refine lv_iload_n hx hb dX11_end_0 rfl (lv_at hl 1 rfl) ?_
  refine lv_if_lt (tgt := 15) hx hb dX11_end_1 (by decide) (fun c1 => ?_) (fun c1 => ?_)
  · have hB := hB.1 c1
    refine lv_iconst (v := 0) hx hb dX11_end_15 (by decide) ?_
    exact hret _ _ _ _ _ _ dX11_end_16 ⟨by decide, hB⟩ hP hD hS
  · have hB := hB.2 c1
    refine lv_iload_n hx hb dX11_end_4 rfl (lv_at hl 1 rfl) ?_
    refine lv_aload_n hx hb dX11_end_5 rfl (lv_at hl 0 rfl) ?_
    refine xXg_0_tape S hE hP lk_X11_10 dX11_end_6 ?_
    refine xXg_1_length S hE hP lk_X11_101 dX11_end_9 ?_
    refine lv_icmp_le (tgt := 17) hx hb dX11_end_12 (by decide) (fun c2 => ?_) (fun c2 => ?_)
    · have hB := hB.1 c2
      refine lv_aload_n hx hb dX11_end_17 rfl (lv_at hl 0 rfl) ?_
      refine xXg_0_tape S hE hP lk_X11_10 dX11_end_18 ?_
      refine lv_iload_n hx hb dX11_end_21 rfl (lv_at hl 1 rfl) ?_
      obtain ⟨z1, ez1⟩ : ∃ z9, z9 = sI z0 2 x1 := ⟨_, rfl⟩
      have hB := hB z1 ez1
      refine xXp_1_length S hE hP hD hS lk_X11_101 dX11_end_22 (fun H locs hP hD hS => ?_)
      rw [← ez1] at hP hD
      refine lv_iconst (v := 1) hx hb dX11_end_25 (by decide) ?_
      exact hret _ _ _ _ _ _ dX11_end_26 ⟨by decide, hB⟩ hP hD hS
    · have hB := hB.2 c2
      refine lv_iconst (v := 0) hx hb dX11_end_15 (by decide) ?_
      exact hret _ _ _ _ _ _ dX11_end_16 ⟨by decide, hB⟩ hP hD hS
set_option maxHeartbeats 4000000 in
set_option maxRecDepth 100000 in
theorem c_B_end (l : Launch) (G : GX) (z0 : St) (sz : Nat) (x1 : Int32) (post : Int32 → St → Prop) : MetI l wX yX11_end cX11_end 2 (some .boolean) ({ frames := 0, cells := 0, slots := 0, locals := 0 }) [.ref (ad G 0), .int x1] G z0 sz (S_B_end post x1 z0) post := by
  refine Met.ofW (cc := cX11_end) (maxL := 2) (ret := (some .boolean)) (by decide) rfl ?_
  intro p e s m args below meth c s₁ B hml hv
  obtain ⟨rfl, hsz, hP, hD0, hE, hB⟩ := hv
  have S : CallFix p m c cX11_end 2 s _ GW RX11 := ⟨B.exec, B.bytes, hml, findClass_of_methodNamed B.named, fun w h => atoms_spec (ws := Cond.code yX11_end cX11_end 2 (some .boolean) :: GW) B.pre w (List.mem_cons_of_mem _ h)⟩
  have hlocks := B.notSynchronized
  subst hsz
  have hD := hD0.self (sz := s.heap.size)
  generalize hAe : va_A (wX G z0) s.heap.size = A at hD hE ⊢
  have hA : ∀ q : Nat, s.heap.size ≤ q → A q := fun q h => by rw [← hAe]; exact Or.inr h
  have hS : va_S A s.heap s.heap [] := va_S.rf
  have hl := lv_entry ([.ref (ad G 0), .int x1]) (n := 2) (Nat.le_of_ble_eq_true rfl)
  rw [lg_entry_eq]
  generalize (lg_sl ([.ref (ad G 0), .int x1]) ++ List.replicate (2 - (lg_sl ([.ref (ad G 0), .int x1])).length) Slot.unset).toArray = ls at hl ⊢
  have hl : lv_has ls 2 [(0, .ref (ad G 0)), (1, .int x1)] := hl
  refine w_B_end_0 S hE hA (Nat.le_refl _) (Nat.le_refl _) ?_ x1 z0 hB _ _ _ hP hD hS hl
  intro pc ls r σ H locs hd hp hP hD hS
  exact W.zret (v := r) B.exec B.bytes B.returns (xboolc r hp.1) (fun t ht hW => ⟨⟨r, σ, rfl, hp.2, by rw [ht]; exact hP, hD⟩, hS.F ht⟩) hS.2.2 hd
def S_House_isTold (post : Int32 → St → Prop) (z0 : St) : Prop :=
  (((gI z0 27) ≤ 0 → (post (0 : Int32) z0)) ∧ (¬ (gI z0 27) ≤ 0 → (post (1 : Int32) z0)))
set_option maxHeartbeats 4000000 in
set_option maxRecDepth 100000 in
theorem w_House_isTold_0 {p : Program} {l : Launch} {e : Env} {R : Room} {s : State} {m : MethodId} {args : Array Value} {below : List Frame} {meth : Method} {c : Code} {Q : State → Prop} {G : GX} {A : Nat → Prop} (S : CallFix p m c cX0_isTold 1 s args GW RX0) (hE : env G A s s.heap) (hA : ∀ q, s.heap.size ≤ q → A q) (hRf : 0 ≤ R.frames) (hRl : 0 ≤ R.locals) {post : Int32 → St → Prop} (hret : RetZ p l e R s m args below meth c Q 0 0 wX G A cX0_isTold post) (z0 : St) (hB : S_House_isTold post z0) : Xw p l e R s m args below meth c Q 0 0 wX G A z0 1 [(0, .ref (ad G 6))] 0 [] := by
  intro H locs ls hP hD hS hl
  have hx := S.1
  have hb := S.2.1
  refine lv_aload_n hx hb dX0_isTold_0 rfl (lv_at hl 0 rfl) ?_
  refine xXg_6_guests S hE hP lk_X0_30 dX0_isTold_1 ?_
  refine lv_if_le (tgt := 11) hx hb dX0_isTold_4 (by decide) (fun c1 => ?_) (fun c1 => ?_)
  · have hB := hB.1 c1
    refine lv_iconst (v := 0) hx hb dX0_isTold_11 (by decide) ?_
    exact hret _ _ _ _ _ _ dX0_isTold_12 ⟨by decide, hB⟩ hP hD hS
  · have hB := hB.2 c1
    refine lv_iconst (v := 1) hx hb dX0_isTold_7 (by decide) ?_
    refine lv_goto (tgt := 12) hx hb dX0_isTold_8 (by decide) ?_
    exact hret _ _ _ _ _ _ dX0_isTold_12 ⟨by decide, hB⟩ hP hD hS
set_option maxHeartbeats 4000000 in
set_option maxRecDepth 100000 in
theorem c_House_isTold (l : Launch) (G : GX) (z0 : St) (sz : Nat) (post : Int32 → St → Prop) : MetI l wX yX0_isTold cX0_isTold 1 (some .boolean) ({ frames := 0, cells := 0, slots := 0, locals := 0 }) [.ref (ad G 6)] G z0 sz (S_House_isTold post z0) post := by
  refine Met.ofW (cc := cX0_isTold) (maxL := 1) (ret := (some .boolean)) (by decide) rfl ?_
  intro p e s m args below meth c s₁ B hml hv
  obtain ⟨rfl, hsz, hP, hD0, hE, hB⟩ := hv
  have S : CallFix p m c cX0_isTold 1 s _ GW RX0 := ⟨B.exec, B.bytes, hml, findClass_of_methodNamed B.named, fun w h => atoms_spec (ws := Cond.code yX0_isTold cX0_isTold 1 (some .boolean) :: GW) B.pre w (List.mem_cons_of_mem _ h)⟩
  have hlocks := B.notSynchronized
  subst hsz
  have hD := hD0.self (sz := s.heap.size)
  generalize hAe : va_A (wX G z0) s.heap.size = A at hD hE ⊢
  have hA : ∀ q : Nat, s.heap.size ≤ q → A q := fun q h => by rw [← hAe]; exact Or.inr h
  have hS : va_S A s.heap s.heap [] := va_S.rf
  have hl := lv_entry ([.ref (ad G 6)]) (n := 1) (Nat.le_of_ble_eq_true rfl)
  rw [lg_entry_eq]
  generalize (lg_sl ([.ref (ad G 6)]) ++ List.replicate (1 - (lg_sl ([.ref (ad G 6)])).length) Slot.unset).toArray = ls at hl ⊢
  have hl : lv_has ls 1 [(0, .ref (ad G 6))] := hl
  refine w_House_isTold_0 S hE hA (Nat.le_refl _) (Nat.le_refl _) ?_  z0 hB _ _ _ hP hD hS hl
  intro pc ls r σ H locs hd hp hP hD hS
  exact W.zret (v := r) B.exec B.bytes B.returns (xboolc r hp.1) (fun t ht hW => ⟨⟨r, σ, rfl, hp.2, by rw [ht]; exact hP, hD⟩, hS.F ht⟩) hS.2.2 hd
def S_Table_bottle_8 (post : Int32 → St → Prop) (z0 : St) : Prop :=
  (post (gA z0 23 0) z0)
set_option maxHeartbeats 4000000 in
set_option maxRecDepth 100000 in
theorem w_Table_bottle_8_0 {p : Program} {l : Launch} {e : Env} {R : Room} {s : State} {m : MethodId} {args : Array Value} {below : List Frame} {meth : Method} {c : Code} {Q : State → Prop} {G : GX} {A : Nat → Prop} (S : CallFix p m c cX8_bottle 1 s args GW RX8) (hE : env G A s s.heap) (hA : ∀ q, s.heap.size ≤ q → A q) (hRf : 0 ≤ R.frames) (hRl : 0 ≤ R.locals) {post : Int32 → St → Prop} (hret : RetI p l e R s m args below meth c Q 0 0 wX G A cX8_bottle post) (z0 : St) (hB : S_Table_bottle_8 post z0) : Xw p l e R s m args below meth c Q 0 0 wX G A z0 1 [(0, .ref (ad G 8))] 0 [] := by
  intro H locs ls hP hD hS hl
  have hx := S.1
  have hb := S.2.1
  refine lv_aload_n hx hb dX8_bottle_0 rfl (lv_at hl 0 rfl) ?_
  refine xXg_8_cells S hE hP lk_X8_11 dX8_bottle_1 ?_
  refine lv_iconst (v := 0) hx hb dX8_bottle_4 (by decide) ?_
  refine xXk_23 S hE hP 0 (by decide) (by unfold vp_in; decide) dX8_bottle_5 ?_
  exact hret _ _ _ _ _ _ dX8_bottle_6 hB hP hD hS
set_option maxHeartbeats 4000000 in
set_option maxRecDepth 100000 in
theorem c_Table_bottle_8 (l : Launch) (G : GX) (z0 : St) (sz : Nat) (post : Int32 → St → Prop) : MetI l wX yX8_bottle cX8_bottle 1 (some .int) ({ frames := 0, cells := 0, slots := 0, locals := 0 }) [.ref (ad G 8)] G z0 sz (S_Table_bottle_8 post z0) post := by
  refine Met.ofW (cc := cX8_bottle) (maxL := 1) (ret := (some .int)) (by decide) rfl ?_
  intro p e s m args below meth c s₁ B hml hv
  obtain ⟨rfl, hsz, hP, hD0, hE, hB⟩ := hv
  have S : CallFix p m c cX8_bottle 1 s _ GW RX8 := ⟨B.exec, B.bytes, hml, findClass_of_methodNamed B.named, fun w h => atoms_spec (ws := Cond.code yX8_bottle cX8_bottle 1 (some .int) :: GW) B.pre w (List.mem_cons_of_mem _ h)⟩
  have hlocks := B.notSynchronized
  subst hsz
  have hD := hD0.self (sz := s.heap.size)
  generalize hAe : va_A (wX G z0) s.heap.size = A at hD hE ⊢
  have hA : ∀ q : Nat, s.heap.size ≤ q → A q := fun q h => by rw [← hAe]; exact Or.inr h
  have hS : va_S A s.heap s.heap [] := va_S.rf
  have hl := lv_entry ([.ref (ad G 8)]) (n := 1) (Nat.le_of_ble_eq_true rfl)
  rw [lg_entry_eq]
  generalize (lg_sl ([.ref (ad G 8)]) ++ List.replicate (1 - (lg_sl ([.ref (ad G 8)])).length) Slot.unset).toArray = ls at hl ⊢
  have hl : lv_has ls 1 [(0, .ref (ad G 8))] := hl
  refine w_Table_bottle_8_0 S hE hA (Nat.le_refl _) (Nat.le_refl _) ?_  z0 hB _ _ _ hP hD hS hl
  intro pc ls r σ H locs hd hp hP hD hS
  exact W.iret (v := r) B.exec B.bytes B.returns (fun t ht hW => ⟨⟨r, σ, rfl, hp, by rw [ht]; exact hP, hD⟩, hS.F ht⟩) hS.2.2 hd
def S_B_rule (post : Int32 → St → Prop) (x1 : Int32) (z0 : St) : Prop :=
  (S_House_isTold (fun (r1 : Int32) (z1 : St) => ((r1 = 0 → (post (-1 : Int32) z1)) ∧ (¬ r1 = 0 → ((x1 = (0 : Int32) → (S_Table_bottle_8 (fun (r3 : Int32) (z2 : St) => (post r3 z2)) z1)) ∧ (¬ x1 = (0 : Int32) → ((x1 = (1 : Int32) → (post (gI z1 28) z1)) ∧ (¬ x1 = (1 : Int32) → ((x1 = (2 : Int32) → (post (gI z1 29) z1)) ∧ (¬ x1 = (2 : Int32) → (post (-1 : Int32) z1)))))))))) z0)
set_option maxHeartbeats 4000000 in
set_option maxRecDepth 100000 in
theorem w_B_rule_0 {p : Program} {l : Launch} {e : Env} {R : Room} {s : State} {m : MethodId} {args : Array Value} {below : List Frame} {meth : Method} {c : Code} {Q : State → Prop} {G : GX} {A : Nat → Prop} (S : CallFix p m c cX11_rule 2 s args GW RX11) (hE : env G A s s.heap) (hA : ∀ q, s.heap.size ≤ q → A q) (hRf : 1 ≤ R.frames) (hRl : 20 ≤ R.locals) {post : Int32 → St → Prop} (hret : RetI p l e R s m args below meth c Q 0 0 wX G A cX11_rule post) (x1 : Int32) (z0 : St) (hB : S_B_rule post x1 z0) : Xw p l e R s m args below meth c Q 0 0 wX G A z0 2 [(0, .ref (ad G 0)), (1, .int x1)] 0 [] := by
  intro H locs ls hP hD hS hl
  have hx := S.1
  have hb := S.2.1
  refine lv_aload_n hx hb dX11_rule_0 rfl (lv_at hl 0 rfl) ?_
  refine xXg_0_house S hE hP lk_X11_64 dX11_rule_1 ?_
  refine xcVi [] S hE hA hP hD hS (c_House_isTold l G z0 H.size _) hB (gw_c lk_X11_147 (gw_c wi_X0_isTold (gw_c we_X0_X0_isTold_X0_isTold (gw_c wn_X0 (gw_c wc_X0_isTold (fun _ h9 => h9)))))) hd_X0_isTold rfl rfl (Nat.le_trans (Nat.le_of_ble_eq_true rfl) hRf) (Nat.le_trans (Nat.le_of_ble_eq_true rfl) hRl) ⟨Nat.zero_le _, Nat.zero_le _⟩ (va_recv hE.1 hP (ci := 0) (q0 := 6) rfl rfl) rfl hl.1 rfl (Nat.le_of_ble_eq_true rfl) dX11_rule_4 (fun r1 z1 H locs hB hP hD hS => ?_)
  refine lv_if_ne (tgt := 12) hx hb dX11_rule_7 (by decide) (fun c2 => ?_) (fun c2 => ?_)
  · have hB := hB.2 c2
    refine lv_iload_n hx hb dX11_rule_12 rfl (lv_at hl 1 rfl) ?_
    -- switch
    by_cases q0 : x1 = (0 : Int32)
    · have hB := hB.1 q0
      refine lv_tableIn (tgt := 40) (off := 27) hx hb dX11_rule_13 (by rw [q0]; decide) (by rw [q0]; decide) (by rw [q0]; decide) (by decide) ?_
      refine lv_aload_n hx hb dX11_rule_40 rfl (lv_at hl 0 rfl) ?_
      refine xXg_0_table S hE hP lk_X11_72 dX11_rule_41 ?_
      refine xcVi [] S hE hA hP hD hS (c_Table_bottle_8 l G z1 H.size _) hB (gw_c lk_X11_151 (gw_c wi_X8_bottle (gw_c we_X8_X8_bottle_X8_bottle (gw_c wn_X8 (gw_c wc_X8_bottle (fun _ h9 => h9)))))) hd_X8_bottle rfl rfl (Nat.le_trans (Nat.le_of_ble_eq_true rfl) hRf) (Nat.le_trans (Nat.le_of_ble_eq_true rfl) hRl) ⟨Nat.zero_le _, Nat.zero_le _⟩ (va_recv hE.1 hP (ci := 7) (q0 := 8) rfl rfl) rfl hl.1 rfl (Nat.le_of_ble_eq_true rfl) dX11_rule_44 (fun r3 z2 H locs hB hP hD hS => ?_)
      exact hret _ _ _ _ _ _ dX11_rule_47 hB hP hD hS
    have hB := hB.2 q0
    by_cases q1 : x1 = (1 : Int32)
    · have hB := hB.1 q1
      refine lv_tableIn (tgt := 48) (off := 35) hx hb dX11_rule_13 (by rw [q1]; decide) (by rw [q1]; decide) (by rw [q1]; decide) (by decide) ?_
      refine lv_aload_n hx hb dX11_rule_48 rfl (lv_at hl 0 rfl) ?_
      refine xXg_0_house S hE hP lk_X11_64 dX11_rule_49 ?_
      refine xXg_6_wages S hE hP lk_X11_154 dX11_rule_52 ?_
      exact hret _ _ _ _ _ _ dX11_rule_55 hB hP hD hS
    have hB := hB.2 q1
    by_cases q2 : x1 = (2 : Int32)
    · have hB := hB.1 q2
      refine lv_tableIn (tgt := 56) (off := 43) hx hb dX11_rule_13 (by rw [q2]; decide) (by rw [q2]; decide) (by rw [q2]; decide) (by decide) ?_
      refine lv_aload_n hx hb dX11_rule_56 rfl (lv_at hl 0 rfl) ?_
      refine xXg_0_house S hE hP lk_X11_64 dX11_rule_57 ?_
      refine xXg_6_more S hE hP lk_X11_157 dX11_rule_60 ?_
      exact hret _ _ _ _ _ _ dX11_rule_63 hB hP hD hS
    have hB := hB.2 q2
    have t0 := lv_neT q0 (show ((0 : Int32)).toInt = 0 by decide)
    have t1 := lv_neT q1 (show ((1 : Int32)).toInt = 1 by decide)
    have t2 := lv_neT q2 (show ((2 : Int32)).toInt = 2 by decide)
    refine lv_tableOut (tgt := 64) hx hb dX11_rule_13 (by omega) (by decide) ?_
    refine lv_iconst (v := -1) hx hb dX11_rule_64 (by decide) ?_
    exact hret _ _ _ _ _ _ dX11_rule_65 hB hP hD hS
  · have hB := hB.1 c2
    refine lv_iconst (v := -1) hx hb dX11_rule_10 (by decide) ?_
    exact hret _ _ _ _ _ _ dX11_rule_11 hB hP hD hS
set_option maxHeartbeats 4000000 in
set_option maxRecDepth 100000 in
theorem c_B_rule (l : Launch) (G : GX) (z0 : St) (sz : Nat) (x1 : Int32) (post : Int32 → St → Prop) : MetI l wX yX11_rule cX11_rule 2 (some .int) ({ frames := 1, cells := 0, slots := 0, locals := 20 }) [.ref (ad G 0), .int x1] G z0 sz (S_B_rule post x1 z0) post := by
  refine Met.ofW (cc := cX11_rule) (maxL := 2) (ret := (some .int)) (by decide) rfl ?_
  intro p e s m args below meth c s₁ B hml hv
  obtain ⟨rfl, hsz, hP, hD0, hE, hB⟩ := hv
  have S : CallFix p m c cX11_rule 2 s _ GW RX11 := ⟨B.exec, B.bytes, hml, findClass_of_methodNamed B.named, fun w h => atoms_spec (ws := Cond.code yX11_rule cX11_rule 2 (some .int) :: GW) B.pre w (List.mem_cons_of_mem _ h)⟩
  have hlocks := B.notSynchronized
  subst hsz
  have hD := hD0.self (sz := s.heap.size)
  generalize hAe : va_A (wX G z0) s.heap.size = A at hD hE ⊢
  have hA : ∀ q : Nat, s.heap.size ≤ q → A q := fun q h => by rw [← hAe]; exact Or.inr h
  have hS : va_S A s.heap s.heap [] := va_S.rf
  have hl := lv_entry ([.ref (ad G 0), .int x1]) (n := 2) (Nat.le_of_ble_eq_true rfl)
  rw [lg_entry_eq]
  generalize (lg_sl ([.ref (ad G 0), .int x1]) ++ List.replicate (2 - (lg_sl ([.ref (ad G 0), .int x1])).length) Slot.unset).toArray = ls at hl ⊢
  have hl : lv_has ls 2 [(0, .ref (ad G 0)), (1, .int x1)] := hl
  refine w_B_rule_0 S hE hA (Nat.le_refl _) (Nat.le_refl _) ?_ x1 z0 hB _ _ _ hP hD hS hl
  intro pc ls r σ H locs hd hp hP hD hS
  exact W.iret (v := r) B.exec B.bytes B.returns (fun t ht hW => ⟨⟨r, σ, rfl, hp, by rw [ht]; exact hP, hD⟩, hS.F ht⟩) hS.2.2 hd
def S_House_hasDrink (post : Int32 → St → Prop) (x1 : Int32) (z0 : St) : Prop :=
  ((x1 < 0 → (post (0 : Int32) z0)) ∧ (¬ x1 < 0 → (((gI z0 26) ≤ x1 → (post (0 : Int32) z0)) ∧ (¬ (gI z0 26) ≤ x1 → (post (1 : Int32) z0)))))
set_option maxHeartbeats 4000000 in
set_option maxRecDepth 100000 in
theorem w_House_hasDrink_0 {p : Program} {l : Launch} {e : Env} {R : Room} {s : State} {m : MethodId} {args : Array Value} {below : List Frame} {meth : Method} {c : Code} {Q : State → Prop} {G : GX} {A : Nat → Prop} (S : CallFix p m c cX0_hasDrink 2 s args GW RX0) (hE : env G A s s.heap) (hA : ∀ q, s.heap.size ≤ q → A q) (hRf : 0 ≤ R.frames) (hRl : 0 ≤ R.locals) {post : Int32 → St → Prop} (hret : RetZ p l e R s m args below meth c Q 0 0 wX G A cX0_hasDrink post) (x1 : Int32) (z0 : St) (hB : S_House_hasDrink post x1 z0) : Xw p l e R s m args below meth c Q 0 0 wX G A z0 2 [(0, .ref (ad G 6)), (1, .int x1)] 0 [] := by
  intro H locs ls hP hD hS hl
  have hx := S.1
  have hb := S.2.1
  refine lv_iload_n hx hb dX0_hasDrink_0 rfl (lv_at hl 1 rfl) ?_
  refine lv_if_lt (tgt := 16) hx hb dX0_hasDrink_1 (by decide) (fun c1 => ?_) (fun c1 => ?_)
  · have hB := hB.1 c1
    refine lv_iconst (v := 0) hx hb dX0_hasDrink_16 (by decide) ?_
    exact hret _ _ _ _ _ _ dX0_hasDrink_17 ⟨by decide, hB⟩ hP hD hS
  · have hB := hB.2 c1
    refine lv_iload_n hx hb dX0_hasDrink_4 rfl (lv_at hl 1 rfl) ?_
    refine lv_aload_n hx hb dX0_hasDrink_5 rfl (lv_at hl 0 rfl) ?_
    refine xXg_6_drinks S hE hP lk_X0_24 dX0_hasDrink_6 ?_
    refine lv_icmp_ge (tgt := 16) hx hb dX0_hasDrink_9 (by decide) (fun c2 => ?_) (fun c2 => ?_)
    · have hB := hB.1 c2
      refine lv_iconst (v := 0) hx hb dX0_hasDrink_16 (by decide) ?_
      exact hret _ _ _ _ _ _ dX0_hasDrink_17 ⟨by decide, hB⟩ hP hD hS
    · have hB := hB.2 c2
      refine lv_iconst (v := 1) hx hb dX0_hasDrink_12 (by decide) ?_
      refine lv_goto (tgt := 17) hx hb dX0_hasDrink_13 (by decide) ?_
      exact hret _ _ _ _ _ _ dX0_hasDrink_17 ⟨by decide, hB⟩ hP hD hS
set_option maxHeartbeats 4000000 in
set_option maxRecDepth 100000 in
theorem c_House_hasDrink (l : Launch) (G : GX) (z0 : St) (sz : Nat) (x1 : Int32) (post : Int32 → St → Prop) : MetI l wX yX0_hasDrink cX0_hasDrink 2 (some .boolean) ({ frames := 0, cells := 0, slots := 0, locals := 0 }) [.ref (ad G 6), .int x1] G z0 sz (S_House_hasDrink post x1 z0) post := by
  refine Met.ofW (cc := cX0_hasDrink) (maxL := 2) (ret := (some .boolean)) (by decide) rfl ?_
  intro p e s m args below meth c s₁ B hml hv
  obtain ⟨rfl, hsz, hP, hD0, hE, hB⟩ := hv
  have S : CallFix p m c cX0_hasDrink 2 s _ GW RX0 := ⟨B.exec, B.bytes, hml, findClass_of_methodNamed B.named, fun w h => atoms_spec (ws := Cond.code yX0_hasDrink cX0_hasDrink 2 (some .boolean) :: GW) B.pre w (List.mem_cons_of_mem _ h)⟩
  have hlocks := B.notSynchronized
  subst hsz
  have hD := hD0.self (sz := s.heap.size)
  generalize hAe : va_A (wX G z0) s.heap.size = A at hD hE ⊢
  have hA : ∀ q : Nat, s.heap.size ≤ q → A q := fun q h => by rw [← hAe]; exact Or.inr h
  have hS : va_S A s.heap s.heap [] := va_S.rf
  have hl := lv_entry ([.ref (ad G 6), .int x1]) (n := 2) (Nat.le_of_ble_eq_true rfl)
  rw [lg_entry_eq]
  generalize (lg_sl ([.ref (ad G 6), .int x1]) ++ List.replicate (2 - (lg_sl ([.ref (ad G 6), .int x1])).length) Slot.unset).toArray = ls at hl ⊢
  have hl : lv_has ls 2 [(0, .ref (ad G 6)), (1, .int x1)] := hl
  refine w_House_hasDrink_0 S hE hA (Nat.le_refl _) (Nat.le_refl _) ?_ x1 z0 hB _ _ _ hP hD hS hl
  intro pc ls r σ H locs hd hp hP hD hS
  exact W.zret (v := r) B.exec B.bytes B.returns (xboolc r hp.1) (fun t ht hW => ⟨⟨r, σ, rfl, hp.2, by rw [ht]; exact hP, hD⟩, hS.F ht⟩) hS.2.2 hd
def S_Table_priceOf_8 (post : Int32 → St → Prop) (x1 : Int32) (z0 : St) : Prop :=
  (vp_in ((22 : Int32) + x1) 28 ∧ (post (gA z0 23 ((22 : Int32) + x1).toNatClampNeg) z0))
set_option maxHeartbeats 4000000 in
set_option maxRecDepth 100000 in
theorem w_Table_priceOf_8_0 {p : Program} {l : Launch} {e : Env} {R : Room} {s : State} {m : MethodId} {args : Array Value} {below : List Frame} {meth : Method} {c : Code} {Q : State → Prop} {G : GX} {A : Nat → Prop} (S : CallFix p m c cX8_priceOf 2 s args GW RX8) (hE : env G A s s.heap) (hA : ∀ q, s.heap.size ≤ q → A q) (hRf : 0 ≤ R.frames) (hRl : 0 ≤ R.locals) {post : Int32 → St → Prop} (hret : RetI p l e R s m args below meth c Q 0 0 wX G A cX8_priceOf post) (x1 : Int32) (z0 : St) (hB : S_Table_priceOf_8 post x1 z0) : Xw p l e R s m args below meth c Q 0 0 wX G A z0 2 [(0, .ref (ad G 8)), (1, .int x1)] 0 [] := by
  intro H locs ls hP hD hS hl
  have hx := S.1
  have hb := S.2.1
  refine lv_aload_n hx hb dX8_priceOf_0 rfl (lv_at hl 0 rfl) ?_
  refine xXg_8_cells S hE hP lk_X8_11 dX8_priceOf_1 ?_
  refine lv_bipush (v := 22) hx hb dX8_priceOf_4 (by decide) ?_
  refine lv_iload_n hx hb dX8_priceOf_6 rfl (lv_at hl 1 rfl) ?_
  refine lv_iadd hx hb dX8_priceOf_7 ?_
  obtain ⟨hi, hB⟩ := hB
  refine xXl_23 S hE hP hi dX8_priceOf_8 ?_
  exact hret _ _ _ _ _ _ dX8_priceOf_9 hB hP hD hS
set_option maxHeartbeats 4000000 in
set_option maxRecDepth 100000 in
theorem c_Table_priceOf_8 (l : Launch) (G : GX) (z0 : St) (sz : Nat) (x1 : Int32) (post : Int32 → St → Prop) : MetI l wX yX8_priceOf cX8_priceOf 2 (some .int) ({ frames := 0, cells := 0, slots := 0, locals := 0 }) [.ref (ad G 8), .int x1] G z0 sz (S_Table_priceOf_8 post x1 z0) post := by
  refine Met.ofW (cc := cX8_priceOf) (maxL := 2) (ret := (some .int)) (by decide) rfl ?_
  intro p e s m args below meth c s₁ B hml hv
  obtain ⟨rfl, hsz, hP, hD0, hE, hB⟩ := hv
  have S : CallFix p m c cX8_priceOf 2 s _ GW RX8 := ⟨B.exec, B.bytes, hml, findClass_of_methodNamed B.named, fun w h => atoms_spec (ws := Cond.code yX8_priceOf cX8_priceOf 2 (some .int) :: GW) B.pre w (List.mem_cons_of_mem _ h)⟩
  have hlocks := B.notSynchronized
  subst hsz
  have hD := hD0.self (sz := s.heap.size)
  generalize hAe : va_A (wX G z0) s.heap.size = A at hD hE ⊢
  have hA : ∀ q : Nat, s.heap.size ≤ q → A q := fun q h => by rw [← hAe]; exact Or.inr h
  have hS : va_S A s.heap s.heap [] := va_S.rf
  have hl := lv_entry ([.ref (ad G 8), .int x1]) (n := 2) (Nat.le_of_ble_eq_true rfl)
  rw [lg_entry_eq]
  generalize (lg_sl ([.ref (ad G 8), .int x1]) ++ List.replicate (2 - (lg_sl ([.ref (ad G 8), .int x1])).length) Slot.unset).toArray = ls at hl ⊢
  have hl : lv_has ls 2 [(0, .ref (ad G 8)), (1, .int x1)] := hl
  refine w_Table_priceOf_8_0 S hE hA (Nat.le_refl _) (Nat.le_refl _) ?_ x1 z0 hB _ _ _ hP hD hS hl
  intro pc ls r σ H locs hd hp hP hD hS
  exact W.iret (v := r) B.exec B.bytes B.returns (fun t ht hW => ⟨⟨r, σ, rfl, hp, by rw [ht]; exact hP, hD⟩, hS.F ht⟩) hS.2.2 hd
def S_B_drink (post : Int32 → St → Prop) (x1 : Int32) (x2 : Int32) (z0 : St) : Prop :=
  (S_House_hasDrink (fun (r1 : Int32) (z1 : St) => ((r1 = 0 → (post (-1 : Int32) z1)) ∧ (¬ r1 = 0 → ((x2 = 0 → (vp_in x1 6 ∧ (post (gA z1 18 x1.toNatClampNeg) z1))) ∧ (¬ x2 = 0 → ((x2 = (1 : Int32) → (S_Table_priceOf_8 (fun (r5 : Int32) (z2 : St) => (post r5 z2)) x1 z1)) ∧ (¬ x2 = (1 : Int32) → (post (-1 : Int32) z1)))))))) x1 z0)
set_option maxHeartbeats 4000000 in
set_option maxRecDepth 100000 in
theorem w_B_drink_0 {p : Program} {l : Launch} {e : Env} {R : Room} {s : State} {m : MethodId} {args : Array Value} {below : List Frame} {meth : Method} {c : Code} {Q : State → Prop} {G : GX} {A : Nat → Prop} (S : CallFix p m c cX11_drink 3 s args GW RX11) (hE : env G A s s.heap) (hA : ∀ q, s.heap.size ≤ q → A q) (hRf : 1 ≤ R.frames) (hRl : 21 ≤ R.locals) {post : Int32 → St → Prop} (hret : RetI p l e R s m args below meth c Q 0 0 wX G A cX11_drink post) (x1 : Int32) (x2 : Int32) (z0 : St) (hB : S_B_drink post x1 x2 z0) : Xw p l e R s m args below meth c Q 0 0 wX G A z0 3 [(0, .ref (ad G 0)), (1, .int x1), (2, .int x2)] 0 [] := by
  intro H locs ls hP hD hS hl
  have hx := S.1
  have hb := S.2.1
  refine lv_aload_n hx hb dX11_drink_0 rfl (lv_at hl 0 rfl) ?_
  refine xXg_0_house S hE hP lk_X11_64 dX11_drink_1 ?_
  refine lv_iload_n hx hb dX11_drink_4 rfl (lv_at hl 1 rfl) ?_
  refine xcVi [.int x1] S hE hA hP hD hS (c_House_hasDrink l G z0 H.size x1 _) hB (gw_c lk_X11_160 (gw_c wi_X0_hasDrink (gw_c we_X0_X0_hasDrink_X0_hasDrink (gw_c wn_X0 (gw_c wc_X0_hasDrink (fun _ h9 => h9)))))) hd_X0_hasDrink rfl rfl (Nat.le_trans (Nat.le_of_ble_eq_true rfl) hRf) (Nat.le_trans (Nat.le_of_ble_eq_true rfl) hRl) ⟨Nat.zero_le _, Nat.zero_le _⟩ (va_recv hE.1 hP (ci := 0) (q0 := 6) rfl rfl) rfl hl.1 rfl (Nat.le_of_ble_eq_true rfl) dX11_drink_5 (fun r1 z1 H locs hB hP hD hS => ?_)
  refine lv_if_ne (tgt := 13) hx hb dX11_drink_8 (by decide) (fun c2 => ?_) (fun c2 => ?_)
  · have hB := hB.2 c2
    refine lv_iload_n hx hb dX11_drink_13 rfl (lv_at hl 2 rfl) ?_
    refine lv_if_ne (tgt := 27) hx hb dX11_drink_14 (by decide) (fun c3 => ?_) (fun c3 => ?_)
    · have hB := hB.2 c3
      refine lv_iload_n hx hb dX11_drink_27 rfl (lv_at hl 2 rfl) ?_
      refine lv_iconst (v := 1) hx hb dX11_drink_28 (by decide) ?_
      refine lv_icmp_ne (tgt := 43) hx hb dX11_drink_29 (by decide) (fun c4 => ?_) (fun c4 => ?_)
      · have hB := hB.2 c4
        refine lv_iconst (v := -1) hx hb dX11_drink_43 (by decide) ?_
        exact hret _ _ _ _ _ _ dX11_drink_44 hB hP hD hS
      · have hB := hB.1 c4
        refine lv_aload_n hx hb dX11_drink_32 rfl (lv_at hl 0 rfl) ?_
        refine xXg_0_table S hE hP lk_X11_72 dX11_drink_33 ?_
        refine lv_iload_n hx hb dX11_drink_36 rfl (lv_at hl 1 rfl) ?_
        refine xcVi [.int x1] S hE hA hP hD hS (c_Table_priceOf_8 l G z1 H.size x1 _) hB (gw_c lk_X11_168 (gw_c wi_X8_priceOf (gw_c we_X8_X8_priceOf_X8_priceOf (gw_c wn_X8 (gw_c wc_X8_priceOf (fun _ h9 => h9)))))) hd_X8_priceOf rfl rfl (Nat.le_trans (Nat.le_of_ble_eq_true rfl) hRf) (Nat.le_trans (Nat.le_of_ble_eq_true rfl) hRl) ⟨Nat.zero_le _, Nat.zero_le _⟩ (va_recv hE.1 hP (ci := 7) (q0 := 8) rfl rfl) rfl hl.1 rfl (Nat.le_of_ble_eq_true rfl) dX11_drink_37 (fun r5 z2 H locs hB hP hD hS => ?_)
        refine lv_goto (tgt := 44) hx hb dX11_drink_40 (by decide) ?_
        exact hret _ _ _ _ _ _ dX11_drink_44 hB hP hD hS
    · have hB := hB.1 c3
      refine lv_aload_n hx hb dX11_drink_17 rfl (lv_at hl 0 rfl) ?_
      refine xXg_0_house S hE hP lk_X11_64 dX11_drink_18 ?_
      refine xXg_6_quality S hE hP lk_X11_164 dX11_drink_21 ?_
      refine lv_iload_n hx hb dX11_drink_24 rfl (lv_at hl 1 rfl) ?_
      obtain ⟨hi, hB⟩ := hB
      refine xXl_18 S hE hP hi dX11_drink_25 ?_
      exact hret _ _ _ _ _ _ dX11_drink_26 hB hP hD hS
  · have hB := hB.1 c2
    refine lv_iconst (v := -1) hx hb dX11_drink_11 (by decide) ?_
    exact hret _ _ _ _ _ _ dX11_drink_12 hB hP hD hS
set_option maxHeartbeats 4000000 in
set_option maxRecDepth 100000 in
theorem c_B_drink (l : Launch) (G : GX) (z0 : St) (sz : Nat) (x1 : Int32) (x2 : Int32) (post : Int32 → St → Prop) : MetI l wX yX11_drink cX11_drink 3 (some .int) ({ frames := 1, cells := 0, slots := 0, locals := 21 }) [.ref (ad G 0), .int x1, .int x2] G z0 sz (S_B_drink post x1 x2 z0) post := by
  refine Met.ofW (cc := cX11_drink) (maxL := 3) (ret := (some .int)) (by decide) rfl ?_
  intro p e s m args below meth c s₁ B hml hv
  obtain ⟨rfl, hsz, hP, hD0, hE, hB⟩ := hv
  have S : CallFix p m c cX11_drink 3 s _ GW RX11 := ⟨B.exec, B.bytes, hml, findClass_of_methodNamed B.named, fun w h => atoms_spec (ws := Cond.code yX11_drink cX11_drink 3 (some .int) :: GW) B.pre w (List.mem_cons_of_mem _ h)⟩
  have hlocks := B.notSynchronized
  subst hsz
  have hD := hD0.self (sz := s.heap.size)
  generalize hAe : va_A (wX G z0) s.heap.size = A at hD hE ⊢
  have hA : ∀ q : Nat, s.heap.size ≤ q → A q := fun q h => by rw [← hAe]; exact Or.inr h
  have hS : va_S A s.heap s.heap [] := va_S.rf
  have hl := lv_entry ([.ref (ad G 0), .int x1, .int x2]) (n := 3) (Nat.le_of_ble_eq_true rfl)
  rw [lg_entry_eq]
  generalize (lg_sl ([.ref (ad G 0), .int x1, .int x2]) ++ List.replicate (3 - (lg_sl ([.ref (ad G 0), .int x1, .int x2])).length) Slot.unset).toArray = ls at hl ⊢
  have hl : lv_has ls 3 [(0, .ref (ad G 0)), (1, .int x1), (2, .int x2)] := hl
  refine w_B_drink_0 S hE hA (Nat.le_refl _) (Nat.le_refl _) ?_ x1 x2 z0 hB _ _ _ hP hD hS hl
  intro pc ls r σ H locs hd hp hP hD hS
  exact W.iret (v := r) B.exec B.bytes B.returns (fun t ht hW => ⟨⟨r, σ, rfl, hp, by rw [ht]; exact hP, hD⟩, hS.F ht⟩) hS.2.2 hd
def S_House_hasGuest (post : Int32 → St → Prop) (x1 : Int32) (z0 : St) : Prop :=
  ((x1 < 0 → (post (0 : Int32) z0)) ∧ (¬ x1 < 0 → (((gI z0 27) ≤ x1 → (post (0 : Int32) z0)) ∧ (¬ (gI z0 27) ≤ x1 → (post (1 : Int32) z0)))))
set_option maxHeartbeats 4000000 in
set_option maxRecDepth 100000 in
theorem w_House_hasGuest_0 {p : Program} {l : Launch} {e : Env} {R : Room} {s : State} {m : MethodId} {args : Array Value} {below : List Frame} {meth : Method} {c : Code} {Q : State → Prop} {G : GX} {A : Nat → Prop} (S : CallFix p m c cX0_hasGuest 2 s args GW RX0) (hE : env G A s s.heap) (hA : ∀ q, s.heap.size ≤ q → A q) (hRf : 0 ≤ R.frames) (hRl : 0 ≤ R.locals) {post : Int32 → St → Prop} (hret : RetZ p l e R s m args below meth c Q 0 0 wX G A cX0_hasGuest post) (x1 : Int32) (z0 : St) (hB : S_House_hasGuest post x1 z0) : Xw p l e R s m args below meth c Q 0 0 wX G A z0 2 [(0, .ref (ad G 6)), (1, .int x1)] 0 [] := by
  intro H locs ls hP hD hS hl
  have hx := S.1
  have hb := S.2.1
  refine lv_iload_n hx hb dX0_hasGuest_0 rfl (lv_at hl 1 rfl) ?_
  refine lv_if_lt (tgt := 16) hx hb dX0_hasGuest_1 (by decide) (fun c1 => ?_) (fun c1 => ?_)
  · have hB := hB.1 c1
    refine lv_iconst (v := 0) hx hb dX0_hasGuest_16 (by decide) ?_
    exact hret _ _ _ _ _ _ dX0_hasGuest_17 ⟨by decide, hB⟩ hP hD hS
  · have hB := hB.2 c1
    refine lv_iload_n hx hb dX0_hasGuest_4 rfl (lv_at hl 1 rfl) ?_
    refine lv_aload_n hx hb dX0_hasGuest_5 rfl (lv_at hl 0 rfl) ?_
    refine xXg_6_guests S hE hP lk_X0_30 dX0_hasGuest_6 ?_
    refine lv_icmp_ge (tgt := 16) hx hb dX0_hasGuest_9 (by decide) (fun c2 => ?_) (fun c2 => ?_)
    · have hB := hB.1 c2
      refine lv_iconst (v := 0) hx hb dX0_hasGuest_16 (by decide) ?_
      exact hret _ _ _ _ _ _ dX0_hasGuest_17 ⟨by decide, hB⟩ hP hD hS
    · have hB := hB.2 c2
      refine lv_iconst (v := 1) hx hb dX0_hasGuest_12 (by decide) ?_
      refine lv_goto (tgt := 17) hx hb dX0_hasGuest_13 (by decide) ?_
      exact hret _ _ _ _ _ _ dX0_hasGuest_17 ⟨by decide, hB⟩ hP hD hS
set_option maxHeartbeats 4000000 in
set_option maxRecDepth 100000 in
theorem c_House_hasGuest (l : Launch) (G : GX) (z0 : St) (sz : Nat) (x1 : Int32) (post : Int32 → St → Prop) : MetI l wX yX0_hasGuest cX0_hasGuest 2 (some .boolean) ({ frames := 0, cells := 0, slots := 0, locals := 0 }) [.ref (ad G 6), .int x1] G z0 sz (S_House_hasGuest post x1 z0) post := by
  refine Met.ofW (cc := cX0_hasGuest) (maxL := 2) (ret := (some .boolean)) (by decide) rfl ?_
  intro p e s m args below meth c s₁ B hml hv
  obtain ⟨rfl, hsz, hP, hD0, hE, hB⟩ := hv
  have S : CallFix p m c cX0_hasGuest 2 s _ GW RX0 := ⟨B.exec, B.bytes, hml, findClass_of_methodNamed B.named, fun w h => atoms_spec (ws := Cond.code yX0_hasGuest cX0_hasGuest 2 (some .boolean) :: GW) B.pre w (List.mem_cons_of_mem _ h)⟩
  have hlocks := B.notSynchronized
  subst hsz
  have hD := hD0.self (sz := s.heap.size)
  generalize hAe : va_A (wX G z0) s.heap.size = A at hD hE ⊢
  have hA : ∀ q : Nat, s.heap.size ≤ q → A q := fun q h => by rw [← hAe]; exact Or.inr h
  have hS : va_S A s.heap s.heap [] := va_S.rf
  have hl := lv_entry ([.ref (ad G 6), .int x1]) (n := 2) (Nat.le_of_ble_eq_true rfl)
  rw [lg_entry_eq]
  generalize (lg_sl ([.ref (ad G 6), .int x1]) ++ List.replicate (2 - (lg_sl ([.ref (ad G 6), .int x1])).length) Slot.unset).toArray = ls at hl ⊢
  have hl : lv_has ls 2 [(0, .ref (ad G 6)), (1, .int x1)] := hl
  refine w_House_hasGuest_0 S hE hA (Nat.le_refl _) (Nat.le_refl _) ?_ x1 z0 hB _ _ _ hP hD hS hl
  intro pc ls r σ H locs hd hp hP hD hS
  exact W.zret (v := r) B.exec B.bytes B.returns (xboolc r hp.1) (fun t ht hW => ⟨⟨r, σ, rfl, hp.2, by rw [ht]; exact hP, hD⟩, hS.F ht⟩) hS.2.2 hd
def S_Table_moneyOf_8 (post : Int32 → St → Prop) (x1 : Int32) (z0 : St) : Prop :=
  (vp_in ((4 : Int32) + x1) 28 ∧ (post (gA z0 23 ((4 : Int32) + x1).toNatClampNeg) z0))
set_option maxHeartbeats 4000000 in
set_option maxRecDepth 100000 in
theorem w_Table_moneyOf_8_0 {p : Program} {l : Launch} {e : Env} {R : Room} {s : State} {m : MethodId} {args : Array Value} {below : List Frame} {meth : Method} {c : Code} {Q : State → Prop} {G : GX} {A : Nat → Prop} (S : CallFix p m c cX8_moneyOf 2 s args GW RX8) (hE : env G A s s.heap) (hA : ∀ q, s.heap.size ≤ q → A q) (hRf : 0 ≤ R.frames) (hRl : 0 ≤ R.locals) {post : Int32 → St → Prop} (hret : RetI p l e R s m args below meth c Q 0 0 wX G A cX8_moneyOf post) (x1 : Int32) (z0 : St) (hB : S_Table_moneyOf_8 post x1 z0) : Xw p l e R s m args below meth c Q 0 0 wX G A z0 2 [(0, .ref (ad G 8)), (1, .int x1)] 0 [] := by
  intro H locs ls hP hD hS hl
  have hx := S.1
  have hb := S.2.1
  refine lv_aload_n hx hb dX8_moneyOf_0 rfl (lv_at hl 0 rfl) ?_
  refine xXg_8_cells S hE hP lk_X8_11 dX8_moneyOf_1 ?_
  refine lv_iconst (v := 4) hx hb dX8_moneyOf_4 (by decide) ?_
  refine lv_iload_n hx hb dX8_moneyOf_5 rfl (lv_at hl 1 rfl) ?_
  refine lv_iadd hx hb dX8_moneyOf_6 ?_
  obtain ⟨hi, hB⟩ := hB
  refine xXl_23 S hE hP hi dX8_moneyOf_7 ?_
  exact hret _ _ _ _ _ _ dX8_moneyOf_8 hB hP hD hS
set_option maxHeartbeats 4000000 in
set_option maxRecDepth 100000 in
theorem c_Table_moneyOf_8 (l : Launch) (G : GX) (z0 : St) (sz : Nat) (x1 : Int32) (post : Int32 → St → Prop) : MetI l wX yX8_moneyOf cX8_moneyOf 2 (some .int) ({ frames := 0, cells := 0, slots := 0, locals := 0 }) [.ref (ad G 8), .int x1] G z0 sz (S_Table_moneyOf_8 post x1 z0) post := by
  refine Met.ofW (cc := cX8_moneyOf) (maxL := 2) (ret := (some .int)) (by decide) rfl ?_
  intro p e s m args below meth c s₁ B hml hv
  obtain ⟨rfl, hsz, hP, hD0, hE, hB⟩ := hv
  have S : CallFix p m c cX8_moneyOf 2 s _ GW RX8 := ⟨B.exec, B.bytes, hml, findClass_of_methodNamed B.named, fun w h => atoms_spec (ws := Cond.code yX8_moneyOf cX8_moneyOf 2 (some .int) :: GW) B.pre w (List.mem_cons_of_mem _ h)⟩
  have hlocks := B.notSynchronized
  subst hsz
  have hD := hD0.self (sz := s.heap.size)
  generalize hAe : va_A (wX G z0) s.heap.size = A at hD hE ⊢
  have hA : ∀ q : Nat, s.heap.size ≤ q → A q := fun q h => by rw [← hAe]; exact Or.inr h
  have hS : va_S A s.heap s.heap [] := va_S.rf
  have hl := lv_entry ([.ref (ad G 8), .int x1]) (n := 2) (Nat.le_of_ble_eq_true rfl)
  rw [lg_entry_eq]
  generalize (lg_sl ([.ref (ad G 8), .int x1]) ++ List.replicate (2 - (lg_sl ([.ref (ad G 8), .int x1])).length) Slot.unset).toArray = ls at hl ⊢
  have hl : lv_has ls 2 [(0, .ref (ad G 8)), (1, .int x1)] := hl
  refine w_Table_moneyOf_8_0 S hE hA (Nat.le_refl _) (Nat.le_refl _) ?_ x1 z0 hB _ _ _ hP hD hS hl
  intro pc ls r σ H locs hd hp hP hD hS
  exact W.iret (v := r) B.exec B.bytes B.returns (fun t ht hW => ⟨⟨r, σ, rfl, hp, by rw [ht]; exact hP, hD⟩, hS.F ht⟩) hS.2.2 hd
def S_Table_moodOf_8 (post : Int32 → St → Prop) (x1 : Int32) (z0 : St) : Prop :=
  (vp_in ((10 : Int32) + x1) 28 ∧ (post (gA z0 23 ((10 : Int32) + x1).toNatClampNeg) z0))
set_option maxHeartbeats 4000000 in
set_option maxRecDepth 100000 in
theorem w_Table_moodOf_8_0 {p : Program} {l : Launch} {e : Env} {R : Room} {s : State} {m : MethodId} {args : Array Value} {below : List Frame} {meth : Method} {c : Code} {Q : State → Prop} {G : GX} {A : Nat → Prop} (S : CallFix p m c cX8_moodOf 2 s args GW RX8) (hE : env G A s s.heap) (hA : ∀ q, s.heap.size ≤ q → A q) (hRf : 0 ≤ R.frames) (hRl : 0 ≤ R.locals) {post : Int32 → St → Prop} (hret : RetI p l e R s m args below meth c Q 0 0 wX G A cX8_moodOf post) (x1 : Int32) (z0 : St) (hB : S_Table_moodOf_8 post x1 z0) : Xw p l e R s m args below meth c Q 0 0 wX G A z0 2 [(0, .ref (ad G 8)), (1, .int x1)] 0 [] := by
  intro H locs ls hP hD hS hl
  have hx := S.1
  have hb := S.2.1
  refine lv_aload_n hx hb dX8_moodOf_0 rfl (lv_at hl 0 rfl) ?_
  refine xXg_8_cells S hE hP lk_X8_11 dX8_moodOf_1 ?_
  refine lv_bipush (v := 10) hx hb dX8_moodOf_4 (by decide) ?_
  refine lv_iload_n hx hb dX8_moodOf_6 rfl (lv_at hl 1 rfl) ?_
  refine lv_iadd hx hb dX8_moodOf_7 ?_
  obtain ⟨hi, hB⟩ := hB
  refine xXl_23 S hE hP hi dX8_moodOf_8 ?_
  exact hret _ _ _ _ _ _ dX8_moodOf_9 hB hP hD hS
set_option maxHeartbeats 4000000 in
set_option maxRecDepth 100000 in
theorem c_Table_moodOf_8 (l : Launch) (G : GX) (z0 : St) (sz : Nat) (x1 : Int32) (post : Int32 → St → Prop) : MetI l wX yX8_moodOf cX8_moodOf 2 (some .int) ({ frames := 0, cells := 0, slots := 0, locals := 0 }) [.ref (ad G 8), .int x1] G z0 sz (S_Table_moodOf_8 post x1 z0) post := by
  refine Met.ofW (cc := cX8_moodOf) (maxL := 2) (ret := (some .int)) (by decide) rfl ?_
  intro p e s m args below meth c s₁ B hml hv
  obtain ⟨rfl, hsz, hP, hD0, hE, hB⟩ := hv
  have S : CallFix p m c cX8_moodOf 2 s _ GW RX8 := ⟨B.exec, B.bytes, hml, findClass_of_methodNamed B.named, fun w h => atoms_spec (ws := Cond.code yX8_moodOf cX8_moodOf 2 (some .int) :: GW) B.pre w (List.mem_cons_of_mem _ h)⟩
  have hlocks := B.notSynchronized
  subst hsz
  have hD := hD0.self (sz := s.heap.size)
  generalize hAe : va_A (wX G z0) s.heap.size = A at hD hE ⊢
  have hA : ∀ q : Nat, s.heap.size ≤ q → A q := fun q h => by rw [← hAe]; exact Or.inr h
  have hS : va_S A s.heap s.heap [] := va_S.rf
  have hl := lv_entry ([.ref (ad G 8), .int x1]) (n := 2) (Nat.le_of_ble_eq_true rfl)
  rw [lg_entry_eq]
  generalize (lg_sl ([.ref (ad G 8), .int x1]) ++ List.replicate (2 - (lg_sl ([.ref (ad G 8), .int x1])).length) Slot.unset).toArray = ls at hl ⊢
  have hl : lv_has ls 2 [(0, .ref (ad G 8)), (1, .int x1)] := hl
  refine w_Table_moodOf_8_0 S hE hA (Nat.le_refl _) (Nat.le_refl _) ?_ x1 z0 hB _ _ _ hP hD hS hl
  intro pc ls r σ H locs hd hp hP hD hS
  exact W.iret (v := r) B.exec B.bytes B.returns (fun t ht hW => ⟨⟨r, σ, rfl, hp, by rw [ht]; exact hP, hD⟩, hS.F ht⟩) hS.2.2 hd
def S_Table_joyOf_8 (post : Int32 → St → Prop) (x1 : Int32) (z0 : St) : Prop :=
  (vp_in ((16 : Int32) + x1) 28 ∧ (post (gA z0 23 ((16 : Int32) + x1).toNatClampNeg) z0))
set_option maxHeartbeats 4000000 in
set_option maxRecDepth 100000 in
theorem w_Table_joyOf_8_0 {p : Program} {l : Launch} {e : Env} {R : Room} {s : State} {m : MethodId} {args : Array Value} {below : List Frame} {meth : Method} {c : Code} {Q : State → Prop} {G : GX} {A : Nat → Prop} (S : CallFix p m c cX8_joyOf 2 s args GW RX8) (hE : env G A s s.heap) (hA : ∀ q, s.heap.size ≤ q → A q) (hRf : 0 ≤ R.frames) (hRl : 0 ≤ R.locals) {post : Int32 → St → Prop} (hret : RetI p l e R s m args below meth c Q 0 0 wX G A cX8_joyOf post) (x1 : Int32) (z0 : St) (hB : S_Table_joyOf_8 post x1 z0) : Xw p l e R s m args below meth c Q 0 0 wX G A z0 2 [(0, .ref (ad G 8)), (1, .int x1)] 0 [] := by
  intro H locs ls hP hD hS hl
  have hx := S.1
  have hb := S.2.1
  refine lv_aload_n hx hb dX8_joyOf_0 rfl (lv_at hl 0 rfl) ?_
  refine xXg_8_cells S hE hP lk_X8_11 dX8_joyOf_1 ?_
  refine lv_bipush (v := 16) hx hb dX8_joyOf_4 (by decide) ?_
  refine lv_iload_n hx hb dX8_joyOf_6 rfl (lv_at hl 1 rfl) ?_
  refine lv_iadd hx hb dX8_joyOf_7 ?_
  obtain ⟨hi, hB⟩ := hB
  refine xXl_23 S hE hP hi dX8_joyOf_8 ?_
  exact hret _ _ _ _ _ _ dX8_joyOf_9 hB hP hD hS
set_option maxHeartbeats 4000000 in
set_option maxRecDepth 100000 in
theorem c_Table_joyOf_8 (l : Launch) (G : GX) (z0 : St) (sz : Nat) (x1 : Int32) (post : Int32 → St → Prop) : MetI l wX yX8_joyOf cX8_joyOf 2 (some .int) ({ frames := 0, cells := 0, slots := 0, locals := 0 }) [.ref (ad G 8), .int x1] G z0 sz (S_Table_joyOf_8 post x1 z0) post := by
  refine Met.ofW (cc := cX8_joyOf) (maxL := 2) (ret := (some .int)) (by decide) rfl ?_
  intro p e s m args below meth c s₁ B hml hv
  obtain ⟨rfl, hsz, hP, hD0, hE, hB⟩ := hv
  have S : CallFix p m c cX8_joyOf 2 s _ GW RX8 := ⟨B.exec, B.bytes, hml, findClass_of_methodNamed B.named, fun w h => atoms_spec (ws := Cond.code yX8_joyOf cX8_joyOf 2 (some .int) :: GW) B.pre w (List.mem_cons_of_mem _ h)⟩
  have hlocks := B.notSynchronized
  subst hsz
  have hD := hD0.self (sz := s.heap.size)
  generalize hAe : va_A (wX G z0) s.heap.size = A at hD hE ⊢
  have hA : ∀ q : Nat, s.heap.size ≤ q → A q := fun q h => by rw [← hAe]; exact Or.inr h
  have hS : va_S A s.heap s.heap [] := va_S.rf
  have hl := lv_entry ([.ref (ad G 8), .int x1]) (n := 2) (Nat.le_of_ble_eq_true rfl)
  rw [lg_entry_eq]
  generalize (lg_sl ([.ref (ad G 8), .int x1]) ++ List.replicate (2 - (lg_sl ([.ref (ad G 8), .int x1])).length) Slot.unset).toArray = ls at hl ⊢
  have hl : lv_has ls 2 [(0, .ref (ad G 8)), (1, .int x1)] := hl
  refine w_Table_joyOf_8_0 S hE hA (Nat.le_refl _) (Nat.le_refl _) ?_ x1 z0 hB _ _ _ hP hD hS hl
  intro pc ls r σ H locs hd hp hP hD hS
  exact W.iret (v := r) B.exec B.bytes B.returns (fun t ht hW => ⟨⟨r, σ, rfl, hp, by rw [ht]; exact hP, hD⟩, hS.F ht⟩) hS.2.2 hd
def B_B_guest_20 (post : Int32 → St → Prop) (px : St → Prop) (z0 : St) : Prop :=
  (px z0)
set_option maxHeartbeats 4000000 in
set_option maxRecDepth 100000 in
theorem w_B_guest_20 {p : Program} {l : Launch} {e : Env} {R : Room} {s : State} {m : MethodId} {args : Array Value} {below : List Frame} {meth : Method} {c : Code} {Q : State → Prop} {G : GX} {A : Nat → Prop} (S : CallFix p m c cX11_guest 3 s args GW RX11) (hE : env G A s s.heap) (hA : ∀ q, s.heap.size ≤ q → A q) (hRf : 6 ≤ R.frames) (hRl : 82 ≤ R.locals) {post : Int32 → St → Prop} (hret : RetI p l e R s m args below meth c Q 0 0 wX G A cX11_guest post) {px : St → Prop} (hthr : ThrX p l e R s m args below meth c Q wX G A 20 3 px) (z0 : St) (hB : B_B_guest_20 post px z0) : Xw p l e R s m args below meth c Q 0 0 wX G A z0 3 [] 20 [] := by
  intro H locs ls hP hD hS hl
  have hx := S.1
  have hb := S.2.1
  exact hthr _ _ _ _ hB hP hD hS hl.1
def S_B_guest (post : Int32 → St → Prop) (px : St → Prop) (x1 : Int32) (x2 : Int32) (z0 : St) : Prop :=
  (S_House_hasGuest (fun (r1 : Int32) (z1 : St) => ((r1 = 0 → (B_B_guest_20 post px z1)) ∧ (¬ r1 = 0 → ((x2 < 0 → (B_B_guest_20 post px z1)) ∧ (¬ x2 < 0 → ((x2 ≤ (3 : Int32) → ((x2 = (0 : Int32) → (vp_in x1 6 ∧ (post (gA z1 19 x1.toNatClampNeg) z1))) ∧ (¬ x2 = (0 : Int32) → ((x2 = (1 : Int32) → (S_Table_moneyOf_8 (fun (r5 : Int32) (z2 : St) => (post r5 z2)) x1 z1)) ∧ (¬ x2 = (1 : Int32) → ((x2 = (2 : Int32) → (S_Table_moodOf_8 (fun (r6 : Int32) (z3 : St) => (post r6 z3)) x1 z1)) ∧ (¬ x2 = (2 : Int32) → (S_Table_joyOf_8 (fun (r7 : Int32) (z4 : St) => (post r7 z4)) x1 z1)))))))) ∧ (¬ x2 ≤ (3 : Int32) → (B_B_guest_20 post px z1)))))))) x1 z0)
set_option maxHeartbeats 4000000 in
set_option maxRecDepth 100000 in
theorem w_B_guest_0 {p : Program} {l : Launch} {e : Env} {R : Room} {s : State} {m : MethodId} {args : Array Value} {below : List Frame} {meth : Method} {c : Code} {Q : State → Prop} {G : GX} {A : Nat → Prop} (S : CallFix p m c cX11_guest 3 s args GW RX11) (hE : env G A s s.heap) (hA : ∀ q, s.heap.size ≤ q → A q) (hRf : 6 ≤ R.frames) (hRl : 82 ≤ R.locals) {post : Int32 → St → Prop} (hret : RetI p l e R s m args below meth c Q 0 0 wX G A cX11_guest post) {px : St → Prop} (hthr : ThrX p l e R s m args below meth c Q wX G A 20 3 px) (x1 : Int32) (x2 : Int32) (z0 : St) (hB : S_B_guest post px x1 x2 z0) : Xw p l e R s m args below meth c Q 0 0 wX G A z0 3 [(0, .ref (ad G 0)), (1, .int x1), (2, .int x2)] 0 [] := by
  intro H locs ls hP hD hS hl
  have hx := S.1
  have hb := S.2.1
  refine lv_aload_n hx hb dX11_guest_0 rfl (lv_at hl 0 rfl) ?_
  refine xXg_0_house S hE hP lk_X11_64 dX11_guest_1 ?_
  refine lv_iload_n hx hb dX11_guest_4 rfl (lv_at hl 1 rfl) ?_
  refine xcVi [.int x1] S hE hA hP hD hS (c_House_hasGuest l G z0 H.size x1 _) hB (gw_c lk_X11_171 (gw_c wi_X0_hasGuest (gw_c we_X0_X0_hasGuest_X0_hasGuest (gw_c wn_X0 (gw_c wc_X0_hasGuest (fun _ h9 => h9)))))) hd_X0_hasGuest rfl rfl (Nat.le_trans (Nat.le_of_ble_eq_true rfl) hRf) (Nat.le_trans (Nat.le_of_ble_eq_true rfl) hRl) ⟨Nat.zero_le _, Nat.zero_le _⟩ (va_recv hE.1 hP (ci := 0) (q0 := 6) rfl rfl) rfl hl.1 rfl (Nat.le_of_ble_eq_true rfl) dX11_guest_5 (fun r1 z1 H locs hB hP hD hS => ?_)
  refine lv_if_eq (tgt := 20) hx hb dX11_guest_8 (by decide) (fun c2 => ?_) (fun c2 => ?_)
  · have hB := hB.1 c2
    exact w_B_guest_20 S hE hA hRf hRl hret hthr z1 hB _ _ _ hP hD hS (lv_sub hl [] rfl)
  · have hB := hB.2 c2
    refine lv_iload_n hx hb dX11_guest_11 rfl (lv_at hl 2 rfl) ?_
    refine lv_if_lt (tgt := 20) hx hb dX11_guest_12 (by decide) (fun c3 => ?_) (fun c3 => ?_)
    · have hB := hB.1 c3
      exact w_B_guest_20 S hE hA hRf hRl hret hthr z1 hB _ _ _ hP hD hS (lv_sub hl [] rfl)
    · have hB := hB.2 c3
      refine lv_iload_n hx hb dX11_guest_15 rfl (lv_at hl 2 rfl) ?_
      refine lv_iconst (v := 3) hx hb dX11_guest_16 (by decide) ?_
      refine lv_icmp_le (tgt := 30) hx hb dX11_guest_17 (by decide) (fun c4 => ?_) (fun c4 => ?_)
      · have hB := hB.1 c4
        refine lv_iload_n hx hb dX11_guest_30 rfl (lv_at hl 2 rfl) ?_
        -- switch
        by_cases q0 : x2 = (0 : Int32)
        · have hB := hB.1 q0
          refine lv_tableIn (tgt := 56) (off := 25) hx hb dX11_guest_31 (by rw [q0]; decide) (by rw [q0]; decide) (by rw [q0]; decide) (by decide) ?_
          refine lv_aload_n hx hb dX11_guest_56 rfl (lv_at hl 0 rfl) ?_
          refine xXg_0_house S hE hP lk_X11_64 dX11_guest_57 ?_
          refine xXg_6_likes S hE hP lk_X11_181 dX11_guest_60 ?_
          refine lv_iload_n hx hb dX11_guest_63 rfl (lv_at hl 1 rfl) ?_
          obtain ⟨hi, hB⟩ := hB
          refine xXl_19 S hE hP hi dX11_guest_64 ?_
          exact hret _ _ _ _ _ _ dX11_guest_65 hB hP hD hS
        have hB := hB.2 q0
        by_cases q1 : x2 = (1 : Int32)
        · have hB := hB.1 q1
          refine lv_tableIn (tgt := 66) (off := 35) hx hb dX11_guest_31 (by rw [q1]; decide) (by rw [q1]; decide) (by rw [q1]; decide) (by decide) ?_
          refine lv_aload_n hx hb dX11_guest_66 rfl (lv_at hl 0 rfl) ?_
          refine xXg_0_table S hE hP lk_X11_72 dX11_guest_67 ?_
          refine lv_iload_n hx hb dX11_guest_70 rfl (lv_at hl 1 rfl) ?_
          refine xcVi [.int x1] S hE hA hP hD hS (c_Table_moneyOf_8 l G z1 H.size x1 _) hB (gw_c lk_X11_184 (gw_c wi_X8_moneyOf (gw_c we_X8_X8_moneyOf_X8_moneyOf (gw_c wn_X8 (gw_c wc_X8_moneyOf (fun _ h9 => h9)))))) hd_X8_moneyOf rfl rfl (Nat.le_trans (Nat.le_of_ble_eq_true rfl) hRf) (Nat.le_trans (Nat.le_of_ble_eq_true rfl) hRl) ⟨Nat.zero_le _, Nat.zero_le _⟩ (va_recv hE.1 hP (ci := 7) (q0 := 8) rfl rfl) rfl hl.1 rfl (Nat.le_of_ble_eq_true rfl) dX11_guest_71 (fun r5 z2 H locs hB hP hD hS => ?_)
          exact hret _ _ _ _ _ _ dX11_guest_74 hB hP hD hS
        have hB := hB.2 q1
        by_cases q2 : x2 = (2 : Int32)
        · have hB := hB.1 q2
          refine lv_tableIn (tgt := 75) (off := 44) hx hb dX11_guest_31 (by rw [q2]; decide) (by rw [q2]; decide) (by rw [q2]; decide) (by decide) ?_
          refine lv_aload_n hx hb dX11_guest_75 rfl (lv_at hl 0 rfl) ?_
          refine xXg_0_table S hE hP lk_X11_72 dX11_guest_76 ?_
          refine lv_iload_n hx hb dX11_guest_79 rfl (lv_at hl 1 rfl) ?_
          refine xcVi [.int x1] S hE hA hP hD hS (c_Table_moodOf_8 l G z1 H.size x1 _) hB (gw_c lk_X11_187 (gw_c wi_X8_moodOf (gw_c we_X8_X8_moodOf_X8_moodOf (gw_c wn_X8 (gw_c wc_X8_moodOf (fun _ h9 => h9)))))) hd_X8_moodOf rfl rfl (Nat.le_trans (Nat.le_of_ble_eq_true rfl) hRf) (Nat.le_trans (Nat.le_of_ble_eq_true rfl) hRl) ⟨Nat.zero_le _, Nat.zero_le _⟩ (va_recv hE.1 hP (ci := 7) (q0 := 8) rfl rfl) rfl hl.1 rfl (Nat.le_of_ble_eq_true rfl) dX11_guest_80 (fun r6 z3 H locs hB hP hD hS => ?_)
          exact hret _ _ _ _ _ _ dX11_guest_83 hB hP hD hS
        have hB := hB.2 q2
        have t0 := lv_neT q0 (show ((0 : Int32)).toInt = 0 by decide)
        have t1 := lv_neT q1 (show ((1 : Int32)).toInt = 1 by decide)
        have t2 := lv_neT q2 (show ((2 : Int32)).toInt = 2 by decide)
        refine lv_tableOut (tgt := 84) hx hb dX11_guest_31 (by omega) (by decide) ?_
        refine lv_aload_n hx hb dX11_guest_84 rfl (lv_at hl 0 rfl) ?_
        refine xXg_0_table S hE hP lk_X11_72 dX11_guest_85 ?_
        refine lv_iload_n hx hb dX11_guest_88 rfl (lv_at hl 1 rfl) ?_
        refine xcVi [.int x1] S hE hA hP hD hS (c_Table_joyOf_8 l G z1 H.size x1 _) hB (gw_c lk_X11_190 (gw_c wi_X8_joyOf (gw_c we_X8_X8_joyOf_X8_joyOf (gw_c wn_X8 (gw_c wc_X8_joyOf (fun _ h9 => h9)))))) hd_X8_joyOf rfl rfl (Nat.le_trans (Nat.le_of_ble_eq_true rfl) hRf) (Nat.le_trans (Nat.le_of_ble_eq_true rfl) hRl) ⟨Nat.zero_le _, Nat.zero_le _⟩ (va_recv hE.1 hP (ci := 7) (q0 := 8) rfl rfl) rfl hl.1 rfl (Nat.le_of_ble_eq_true rfl) dX11_guest_89 (fun r7 z4 H locs hB hP hD hS => ?_)
        exact hret _ _ _ _ _ _ dX11_guest_92 hB hP hD hS
      · have hB := hB.2 c4
        exact w_B_guest_20 S hE hA hRf hRl hret hthr z1 hB _ _ _ hP hD hS (lv_sub hl [] rfl)
set_option maxHeartbeats 4000000 in
set_option maxRecDepth 100000 in
theorem c_B_guest (l : Launch) (hlt : l.stackTraces = false) (G : GX) (z0 : St) (sz : Nat) (x1 : Int32) (x2 : Int32) (post : Int32 → St → Prop) (px : St → Prop) : MetX l wX yX11_guest cX11_guest 3 (some .int) ({ frames := 6, cells := 1, slots := 6, locals := 82 }) [.ref (ad G 0), .int x1, .int x2] G z0 sz (S_B_guest post px x1 x2 z0) post px := by
  refine vx_ofW (cc := cX11_guest) (maxL := 3) (ret := (some .int)) (by decide) rfl ?_
  intro p e s m args below meth c s₁ B hml hnoh hv
  obtain ⟨rfl, hsz, hP, hD0, hE, hB⟩ := hv
  have S : CallFix p m c cX11_guest 3 s _ GW RX11 := ⟨B.exec, B.bytes, hml, findClass_of_methodNamed B.named, fun w h => atoms_spec (ws := Cond.code yX11_guest cX11_guest 3 (some .int) :: GW) B.pre w (List.mem_cons_of_mem _ h)⟩
  have hlocks := B.notSynchronized
  subst hsz
  have hD := hD0.self (sz := s.heap.size)
  generalize hAe : va_A (wX G z0) s.heap.size = A at hD hE ⊢
  have hA : ∀ q : Nat, s.heap.size ≤ q → A q := fun q h => by rw [← hAe]; exact Or.inr h
  have hS : va_S A s.heap s.heap [] := va_S.rf
  have hl := lv_entry ([.ref (ad G 0), .int x1, .int x2]) (n := 3) (Nat.le_of_ble_eq_true rfl)
  rw [lg_entry_eq]
  generalize (lg_sl ([.ref (ad G 0), .int x1, .int x2]) ++ List.replicate (3 - (lg_sl ([.ref (ad G 0), .int x1, .int x2])).length) Slot.unset).toArray = ls at hl ⊢
  have hl : lv_has ls 3 [(0, .ref (ad G 0)), (1, .int x1), (2, .int x2)] := hl
  refine w_B_guest_0 S hE hA (Nat.le_refl _) (Nat.le_refl _) ?_ ?_ x1 x2 z0 hB _ _ _ hP hD hS hl
  · intro pc ls r σ H locs hd hp hP hD hS
    exact vx_ret (W.widen (k := 1) (n := 6) (Nat.zero_le _) (Nat.zero_le _) (W.iret (v := r) B.exec B.bytes B.returns (fun t ht hW => ⟨⟨r, σ, rfl, hp, by rw [ht]; exact hP, hD⟩, hS.F ht⟩) hS.2.2 hd))
  · intro ls σ H locs hp hP hD hS hsz
    refine xt_throwS (own := RX11) (cls := xtN) (Y1 := "java/lang/RuntimeException") (names := ["java/lang/Exception"]) (ik := 174) (is := 176) (ic := 178) (idx := 13) (sa := tx G 6) (A := A) B.exec B.bytes hlt S.2.2.2.1 (by decide +kernel) (by decide +kernel) xt_b0 xt_b1 xt_b2 xt_b5 (by decide +kernel) (S.2.2.2.2 _ xt_ck) (S.2.2.2.2 _ xt_in) (es_X11_176 hE.2) (xtL_all S.2.2.2.2 hE) xtL_ot (e_ZU hE.2) (e_ZS hE.2) hS (hsz.trans hml.symm) dX11_guest_20 dX11_guest_23 dX11_guest_24 dX11_guest_26 dX11_guest_29 (fun x hx => absurd (hnoh x hx) id) (Nat.le_of_ble_eq_true rfl) (Nat.le_of_ble_eq_true rfl) (Nat.le_of_ble_eq_true rfl) (Nat.le_of_ble_eq_true rfl) hlocks (fun t hvm hsz hk => ?_) (fun z hz => hS.2.2 z hz) (Nat.le_refl _) (Nat.le_refl _)
    exact ⟨σ, hp, ⟨rfl, hP.kept (fun k q hq => hk q.1 (vx_lt hP hq)), hD⟩, Nat.le_trans hS.1 hsz, fun q h1 h2 => (hk q (Nat.lt_of_lt_of_le h1 hS.1)).trans (hS.2.1 q h1 h2)⟩
def S_B_law (post : Int32 → St → Prop) (x1 : Int32) (z0 : St) : Prop :=
  ((x1 < (-1 : Int32) → (post (0 : Int32) z0)) ∧ (¬ x1 < (-1 : Int32) → ((x1 < (gI z0 30) → (∀ z1 : St, z1 = sI z0 31 x1 → (post (1 : Int32) z1))) ∧ (¬ x1 < (gI z0 30) → (post (0 : Int32) z0)))))
set_option maxHeartbeats 4000000 in
set_option maxRecDepth 100000 in
theorem w_B_law_0 {p : Program} {l : Launch} {e : Env} {R : Room} {s : State} {m : MethodId} {args : Array Value} {below : List Frame} {meth : Method} {c : Code} {Q : State → Prop} {G : GX} {A : Nat → Prop} (S : CallFix p m c cX11_law 2 s args GW RX11) (hE : env G A s s.heap) (hA : ∀ q, s.heap.size ≤ q → A q) (hRf : 0 ≤ R.frames) (hRl : 0 ≤ R.locals) {post : Int32 → St → Prop} (hret : RetZ p l e R s m args below meth c Q 0 0 wX G A cX11_law post) (x1 : Int32) (z0 : St) (hB : S_B_law post x1 z0) : Xw p l e R s m args below meth c Q 0 0 wX G A z0 2 [(0, .ref (ad G 0)), (1, .int x1)] 0 [] := by
  intro H locs ls hP hD hS hl
  have hx := S.1
  have hb := S.2.1
  refine lv_iload_n hx hb dX11_law_0 rfl (lv_at hl 1 rfl) ?_
  refine lv_iconst (v := -1) hx hb dX11_law_1 (by decide) ?_
  refine lv_icmp_lt (tgt := 16) hx hb dX11_law_2 (by decide) (fun c1 => ?_) (fun c1 => ?_)
  · have hB := hB.1 c1
    refine lv_iconst (v := 0) hx hb dX11_law_16 (by decide) ?_
    exact hret _ _ _ _ _ _ dX11_law_17 ⟨by decide, hB⟩ hP hD hS
  · have hB := hB.2 c1
    refine lv_iload_n hx hb dX11_law_5 rfl (lv_at hl 1 rfl) ?_
    refine lv_aload_n hx hb dX11_law_6 rfl (lv_at hl 0 rfl) ?_
    refine xXg_0_laws S hE hP lk_X11_68 dX11_law_7 ?_
    refine xXg_7_told S hE hP lk_X11_193 dX11_law_10 ?_
    refine lv_icmp_lt (tgt := 18) hx hb dX11_law_13 (by decide) (fun c2 => ?_) (fun c2 => ?_)
    · have hB := hB.1 c2
      refine lv_aload_n hx hb dX11_law_18 rfl (lv_at hl 0 rfl) ?_
      refine xXg_0_laws S hE hP lk_X11_68 dX11_law_19 ?_
      refine lv_iload_n hx hb dX11_law_22 rfl (lv_at hl 1 rfl) ?_
      obtain ⟨z1, ez1⟩ : ∃ z9, z9 = sI z0 31 x1 := ⟨_, rfl⟩
      have hB := hB z1 ez1
      refine xXp_7_holding S hE hP hD hS lk_X11_196 dX11_law_23 (fun H locs hP hD hS => ?_)
      rw [← ez1] at hP hD
      refine lv_iconst (v := 1) hx hb dX11_law_26 (by decide) ?_
      exact hret _ _ _ _ _ _ dX11_law_27 ⟨by decide, hB⟩ hP hD hS
    · have hB := hB.2 c2
      refine lv_iconst (v := 0) hx hb dX11_law_16 (by decide) ?_
      exact hret _ _ _ _ _ _ dX11_law_17 ⟨by decide, hB⟩ hP hD hS
set_option maxHeartbeats 4000000 in
set_option maxRecDepth 100000 in
theorem c_B_law (l : Launch) (G : GX) (z0 : St) (sz : Nat) (x1 : Int32) (post : Int32 → St → Prop) : MetI l wX yX11_law cX11_law 2 (some .boolean) ({ frames := 0, cells := 0, slots := 0, locals := 0 }) [.ref (ad G 0), .int x1] G z0 sz (S_B_law post x1 z0) post := by
  refine Met.ofW (cc := cX11_law) (maxL := 2) (ret := (some .boolean)) (by decide) rfl ?_
  intro p e s m args below meth c s₁ B hml hv
  obtain ⟨rfl, hsz, hP, hD0, hE, hB⟩ := hv
  have S : CallFix p m c cX11_law 2 s _ GW RX11 := ⟨B.exec, B.bytes, hml, findClass_of_methodNamed B.named, fun w h => atoms_spec (ws := Cond.code yX11_law cX11_law 2 (some .boolean) :: GW) B.pre w (List.mem_cons_of_mem _ h)⟩
  have hlocks := B.notSynchronized
  subst hsz
  have hD := hD0.self (sz := s.heap.size)
  generalize hAe : va_A (wX G z0) s.heap.size = A at hD hE ⊢
  have hA : ∀ q : Nat, s.heap.size ≤ q → A q := fun q h => by rw [← hAe]; exact Or.inr h
  have hS : va_S A s.heap s.heap [] := va_S.rf
  have hl := lv_entry ([.ref (ad G 0), .int x1]) (n := 2) (Nat.le_of_ble_eq_true rfl)
  rw [lg_entry_eq]
  generalize (lg_sl ([.ref (ad G 0), .int x1]) ++ List.replicate (2 - (lg_sl ([.ref (ad G 0), .int x1])).length) Slot.unset).toArray = ls at hl ⊢
  have hl : lv_has ls 2 [(0, .ref (ad G 0)), (1, .int x1)] := hl
  refine w_B_law_0 S hE hA (Nat.le_refl _) (Nat.le_refl _) ?_ x1 z0 hB _ _ _ hP hD hS hl
  intro pc ls r σ H locs hd hp hP hD hS
  exact W.zret (v := r) B.exec B.bytes B.returns (xboolc r hp.1) (fun t ht hW => ⟨⟨r, σ, rfl, hp.2, by rw [ht]; exact hP, hD⟩, hS.F ht⟩) hS.2.2 hd
def S_B_snow (post : Int32 → St → Prop) (x1 : Int32) (z0 : St) : Prop :=
  ((x1 < 0 → (post (0 : Int32) z0)) ∧ (¬ x1 < 0 → (((9 : Int32) < x1 → (post (0 : Int32) z0)) ∧ (¬ (9 : Int32) < x1 → ((x1 = (gI z0 1) → (post (0 : Int32) z0)) ∧ (¬ x1 = (gI z0 1) → (∀ z1 : St, z1 = sI z0 1 x1 → (post (1 : Int32) z1))))))))
set_option maxHeartbeats 4000000 in
set_option maxRecDepth 100000 in
theorem w_B_snow_0 {p : Program} {l : Launch} {e : Env} {R : Room} {s : State} {m : MethodId} {args : Array Value} {below : List Frame} {meth : Method} {c : Code} {Q : State → Prop} {G : GX} {A : Nat → Prop} (S : CallFix p m c cX11_snow 2 s args GW RX11) (hE : env G A s s.heap) (hA : ∀ q, s.heap.size ≤ q → A q) (hRf : 0 ≤ R.frames) (hRl : 0 ≤ R.locals) {post : Int32 → St → Prop} (hret : RetZ p l e R s m args below meth c Q 0 0 wX G A cX11_snow post) (x1 : Int32) (z0 : St) (hB : S_B_snow post x1 z0) : Xw p l e R s m args below meth c Q 0 0 wX G A z0 2 [(0, .ref (ad G 0)), (1, .int x1)] 0 [] := by
  intro H locs ls hP hD hS hl
  have hx := S.1
  have hb := S.2.1
  refine lv_iload_n hx hb dX11_snow_0 rfl (lv_at hl 1 rfl) ?_
  refine lv_if_lt (tgt := 18) hx hb dX11_snow_1 (by decide) (fun c1 => ?_) (fun c1 => ?_)
  · have hB := hB.1 c1
    refine lv_iconst (v := 0) hx hb dX11_snow_18 (by decide) ?_
    exact hret _ _ _ _ _ _ dX11_snow_19 ⟨by decide, hB⟩ hP hD hS
  · have hB := hB.2 c1
    refine lv_iload_n hx hb dX11_snow_4 rfl (lv_at hl 1 rfl) ?_
    refine lv_bipush (v := 9) hx hb dX11_snow_5 (by decide) ?_
    refine lv_icmp_gt (tgt := 18) hx hb dX11_snow_7 (by decide) (fun c2 => ?_) (fun c2 => ?_)
    · have hB := hB.1 c2
      refine lv_iconst (v := 0) hx hb dX11_snow_18 (by decide) ?_
      exact hret _ _ _ _ _ _ dX11_snow_19 ⟨by decide, hB⟩ hP hD hS
    · have hB := hB.2 c2
      refine lv_iload_n hx hb dX11_snow_10 rfl (lv_at hl 1 rfl) ?_
      refine lv_aload_n hx hb dX11_snow_11 rfl (lv_at hl 0 rfl) ?_
      refine xXg_0_snowiness S hE hP lk_X11_49 dX11_snow_12 ?_
      refine lv_icmp_ne (tgt := 20) hx hb dX11_snow_15 (by decide) (fun c3 => ?_) (fun c3 => ?_)
      · have hB := hB.2 c3
        refine lv_aload_n hx hb dX11_snow_20 rfl (lv_at hl 0 rfl) ?_
        refine lv_iload_n hx hb dX11_snow_21 rfl (lv_at hl 1 rfl) ?_
        obtain ⟨z1, ez1⟩ : ∃ z9, z9 = sI z0 1 x1 := ⟨_, rfl⟩
        have hB := hB z1 ez1
        refine xXp_0_snowiness S hE hP hD hS lk_X11_49 dX11_snow_22 (fun H locs hP hD hS => ?_)
        rw [← ez1] at hP hD
        refine lv_iconst (v := 1) hx hb dX11_snow_25 (by decide) ?_
        exact hret _ _ _ _ _ _ dX11_snow_26 ⟨by decide, hB⟩ hP hD hS
      · have hB := hB.1 c3
        refine lv_iconst (v := 0) hx hb dX11_snow_18 (by decide) ?_
        exact hret _ _ _ _ _ _ dX11_snow_19 ⟨by decide, hB⟩ hP hD hS
set_option maxHeartbeats 4000000 in
set_option maxRecDepth 100000 in
theorem c_B_snow (l : Launch) (G : GX) (z0 : St) (sz : Nat) (x1 : Int32) (post : Int32 → St → Prop) : MetI l wX yX11_snow cX11_snow 2 (some .boolean) ({ frames := 0, cells := 0, slots := 0, locals := 0 }) [.ref (ad G 0), .int x1] G z0 sz (S_B_snow post x1 z0) post := by
  refine Met.ofW (cc := cX11_snow) (maxL := 2) (ret := (some .boolean)) (by decide) rfl ?_
  intro p e s m args below meth c s₁ B hml hv
  obtain ⟨rfl, hsz, hP, hD0, hE, hB⟩ := hv
  have S : CallFix p m c cX11_snow 2 s _ GW RX11 := ⟨B.exec, B.bytes, hml, findClass_of_methodNamed B.named, fun w h => atoms_spec (ws := Cond.code yX11_snow cX11_snow 2 (some .boolean) :: GW) B.pre w (List.mem_cons_of_mem _ h)⟩
  have hlocks := B.notSynchronized
  subst hsz
  have hD := hD0.self (sz := s.heap.size)
  generalize hAe : va_A (wX G z0) s.heap.size = A at hD hE ⊢
  have hA : ∀ q : Nat, s.heap.size ≤ q → A q := fun q h => by rw [← hAe]; exact Or.inr h
  have hS : va_S A s.heap s.heap [] := va_S.rf
  have hl := lv_entry ([.ref (ad G 0), .int x1]) (n := 2) (Nat.le_of_ble_eq_true rfl)
  rw [lg_entry_eq]
  generalize (lg_sl ([.ref (ad G 0), .int x1]) ++ List.replicate (2 - (lg_sl ([.ref (ad G 0), .int x1])).length) Slot.unset).toArray = ls at hl ⊢
  have hl : lv_has ls 2 [(0, .ref (ad G 0)), (1, .int x1)] := hl
  refine w_B_snow_0 S hE hA (Nat.le_refl _) (Nat.le_refl _) ?_ x1 z0 hB _ _ _ hP hD hS hl
  intro pc ls r σ H locs hd hp hP hD hS
  exact W.zret (v := r) B.exec B.bytes B.returns (xboolc r hp.1) (fun t ht hW => ⟨⟨r, σ, rfl, hp.2, by rw [ht]; exact hP, hD⟩, hS.F ht⟩) hS.2.2 hd
def S_Table_canBe_8 (post : Int32 → St → Prop) (x1 : Int32) (x2 : Int32) (z0 : St) : Prop :=
  ((x1 = 0 → (S_House_hasGuest (fun (r10 : Int32) (z3 : St) => ((r10 = 0 ∨ r10 = 1) ∧ post r10 z3)) x2 z0)) ∧ (¬ x1 = 0 → ((x1 = (1 : Int32) → (S_House_isTold (fun (r7 : Int32) (z2 : St) => ((r7 = 0 → (post (0 : Int32) z2)) ∧ (¬ r7 = 0 → (((999 : Int32) ≤ (gA z2 23 1) → (post (0 : Int32) z2)) ∧ (¬ (999 : Int32) ≤ (gA z2 23 1) → (post (1 : Int32) z2)))))) z0)) ∧ (¬ x1 = (1 : Int32) → (S_House_hasDrink (fun (r3 : Int32) (z1 : St) => ((r3 = 0 → (post (0 : Int32) z1)) ∧ (¬ r3 = 0 → ((x2 = (gA z1 23 0) → (post (0 : Int32) z1)) ∧ (¬ x2 = (gA z1 23 0) → (((gA z1 23 2) = 0 → (post (1 : Int32) z1)) ∧ (¬ (gA z1 23 2) = 0 → (post (0 : Int32) z1)))))))) x2 z0)))))
set_option maxHeartbeats 4000000 in
set_option maxRecDepth 100000 in
theorem w_Table_canBe_8_0 {p : Program} {l : Launch} {e : Env} {R : Room} {s : State} {m : MethodId} {args : Array Value} {below : List Frame} {meth : Method} {c : Code} {Q : State → Prop} {G : GX} {A : Nat → Prop} (S : CallFix p m c cX8_canBe 3 s args GW RX8) (hE : env G A s s.heap) (hA : ∀ q, s.heap.size ≤ q → A q) (hRf : 1 ≤ R.frames) (hRl : 21 ≤ R.locals) {post : Int32 → St → Prop} (hret : RetZ p l e R s m args below meth c Q 0 0 wX G A cX8_canBe post) (x1 : Int32) (x2 : Int32) (z0 : St) (hB : S_Table_canBe_8 post x1 x2 z0) : Xw p l e R s m args below meth c Q 0 0 wX G A z0 3 [(0, .ref (ad G 8)), (1, .int x1), (2, .int x2)] 0 [] := by
  intro H locs ls hP hD hS hl
  have hx := S.1
  have hb := S.2.1
  refine lv_iload_n hx hb dX8_canBe_0 rfl (lv_at hl 1 rfl) ?_
  refine lv_if_ne (tgt := 13) hx hb dX8_canBe_1 (by decide) (fun c1 => ?_) (fun c1 => ?_)
  · have hB := hB.2 c1
    refine lv_iload_n hx hb dX8_canBe_13 rfl (lv_at hl 1 rfl) ?_
    refine lv_iconst (v := 1) hx hb dX8_canBe_14 (by decide) ?_
    refine lv_icmp_ne (tgt := 46) hx hb dX8_canBe_15 (by decide) (fun c2 => ?_) (fun c2 => ?_)
    · have hB := hB.2 c2
      refine lv_aload_n hx hb dX8_canBe_46 rfl (lv_at hl 0 rfl) ?_
      refine xXg_8_house S hE hP lk_X8_15 dX8_canBe_47 ?_
      refine lv_iload_n hx hb dX8_canBe_50 rfl (lv_at hl 2 rfl) ?_
      refine xcVi [.int x2] S hE hA hP hD hS (c_House_hasDrink l G z0 H.size x2 _) hB (gw_c lk_X8_74 (gw_c wi_X0_hasDrink (gw_c we_X0_X0_hasDrink_X0_hasDrink (gw_c wn_X0 (gw_c wc_X0_hasDrink (fun _ h9 => h9)))))) hd_X0_hasDrink rfl rfl (Nat.le_trans (Nat.le_of_ble_eq_true rfl) hRf) (Nat.le_trans (Nat.le_of_ble_eq_true rfl) hRl) ⟨Nat.zero_le _, Nat.zero_le _⟩ (va_recv hE.1 hP (ci := 0) (q0 := 6) rfl rfl) rfl hl.1 rfl (Nat.le_of_ble_eq_true rfl) dX8_canBe_51 (fun r3 z1 H locs hB hP hD hS => ?_)
      refine lv_if_eq (tgt := 80) hx hb dX8_canBe_54 (by decide) (fun c4 => ?_) (fun c4 => ?_)
      · have hB := hB.1 c4
        refine lv_iconst (v := 0) hx hb dX8_canBe_80 (by decide) ?_
        exact hret _ _ _ _ _ _ dX8_canBe_81 ⟨by decide, hB⟩ hP hD hS
      · have hB := hB.2 c4
        refine lv_iload_n hx hb dX8_canBe_57 rfl (lv_at hl 2 rfl) ?_
        refine lv_aload_n hx hb dX8_canBe_58 rfl (lv_at hl 0 rfl) ?_
        refine xXg_8_cells S hE hP lk_X8_11 dX8_canBe_59 ?_
        refine lv_iconst (v := 0) hx hb dX8_canBe_62 (by decide) ?_
        refine xXk_23 S hE hP 0 (by decide) (by unfold vp_in; decide) dX8_canBe_63 ?_
        refine lv_icmp_eq (tgt := 80) hx hb dX8_canBe_64 (by decide) (fun c5 => ?_) (fun c5 => ?_)
        · have hB := hB.1 c5
          refine lv_iconst (v := 0) hx hb dX8_canBe_80 (by decide) ?_
          exact hret _ _ _ _ _ _ dX8_canBe_81 ⟨by decide, hB⟩ hP hD hS
        · have hB := hB.2 c5
          refine lv_aload_n hx hb dX8_canBe_67 rfl (lv_at hl 0 rfl) ?_
          refine xXg_8_cells S hE hP lk_X8_11 dX8_canBe_68 ?_
          refine lv_iconst (v := 2) hx hb dX8_canBe_71 (by decide) ?_
          refine xXk_23 S hE hP 2 (by decide) (by unfold vp_in; decide) dX8_canBe_72 ?_
          refine lv_if_ne (tgt := 80) hx hb dX8_canBe_73 (by decide) (fun c6 => ?_) (fun c6 => ?_)
          · have hB := hB.2 c6
            refine lv_iconst (v := 0) hx hb dX8_canBe_80 (by decide) ?_
            exact hret _ _ _ _ _ _ dX8_canBe_81 ⟨by decide, hB⟩ hP hD hS
          · have hB := hB.1 c6
            refine lv_iconst (v := 1) hx hb dX8_canBe_76 (by decide) ?_
            refine lv_goto (tgt := 81) hx hb dX8_canBe_77 (by decide) ?_
            exact hret _ _ _ _ _ _ dX8_canBe_81 ⟨by decide, hB⟩ hP hD hS
    · have hB := hB.1 c2
      refine lv_aload_n hx hb dX8_canBe_18 rfl (lv_at hl 0 rfl) ?_
      refine xXg_8_house S hE hP lk_X8_15 dX8_canBe_19 ?_
      refine xcVi [] S hE hA hP hD hS (c_House_isTold l G z0 H.size _) hB (gw_c lk_X8_70 (gw_c wi_X0_isTold (gw_c we_X0_X0_isTold_X0_isTold (gw_c wn_X0 (gw_c wc_X0_isTold (fun _ h9 => h9)))))) hd_X0_isTold rfl rfl (Nat.le_trans (Nat.le_of_ble_eq_true rfl) hRf) (Nat.le_trans (Nat.le_of_ble_eq_true rfl) hRl) ⟨Nat.zero_le _, Nat.zero_le _⟩ (va_recv hE.1 hP (ci := 0) (q0 := 6) rfl rfl) rfl hl.1 rfl (Nat.le_of_ble_eq_true rfl) dX8_canBe_22 (fun r7 z2 H locs hB hP hD hS => ?_)
      refine lv_if_eq (tgt := 44) hx hb dX8_canBe_25 (by decide) (fun c8 => ?_) (fun c8 => ?_)
      · have hB := hB.1 c8
        refine lv_iconst (v := 0) hx hb dX8_canBe_44 (by decide) ?_
        exact hret _ _ _ _ _ _ dX8_canBe_45 ⟨by decide, hB⟩ hP hD hS
      · have hB := hB.2 c8
        refine lv_aload_n hx hb dX8_canBe_28 rfl (lv_at hl 0 rfl) ?_
        refine xXg_8_cells S hE hP lk_X8_11 dX8_canBe_29 ?_
        refine lv_iconst (v := 1) hx hb dX8_canBe_32 (by decide) ?_
        refine xXk_23 S hE hP 1 (by decide) (by unfold vp_in; decide) dX8_canBe_33 ?_
        refine lv_sipush (v := 999) hx hb dX8_canBe_34 (by decide) ?_
        refine lv_icmp_ge (tgt := 44) hx hb dX8_canBe_37 (by decide) (fun c9 => ?_) (fun c9 => ?_)
        · have hB := hB.1 c9
          refine lv_iconst (v := 0) hx hb dX8_canBe_44 (by decide) ?_
          exact hret _ _ _ _ _ _ dX8_canBe_45 ⟨by decide, hB⟩ hP hD hS
        · have hB := hB.2 c9
          refine lv_iconst (v := 1) hx hb dX8_canBe_40 (by decide) ?_
          refine lv_goto (tgt := 45) hx hb dX8_canBe_41 (by decide) ?_
          exact hret _ _ _ _ _ _ dX8_canBe_45 ⟨by decide, hB⟩ hP hD hS
  · have hB := hB.1 c1
    refine lv_aload_n hx hb dX8_canBe_4 rfl (lv_at hl 0 rfl) ?_
    refine xXg_8_house S hE hP lk_X8_15 dX8_canBe_5 ?_
    refine lv_iload_n hx hb dX8_canBe_8 rfl (lv_at hl 2 rfl) ?_
    refine xcVi [.int x2] S hE hA hP hD hS (c_House_hasGuest l G z0 H.size x2 _) hB (gw_c lk_X8_66 (gw_c wi_X0_hasGuest (gw_c we_X0_X0_hasGuest_X0_hasGuest (gw_c wn_X0 (gw_c wc_X0_hasGuest (fun _ h9 => h9)))))) hd_X0_hasGuest rfl rfl (Nat.le_trans (Nat.le_of_ble_eq_true rfl) hRf) (Nat.le_trans (Nat.le_of_ble_eq_true rfl) hRl) ⟨Nat.zero_le _, Nat.zero_le _⟩ (va_recv hE.1 hP (ci := 0) (q0 := 6) rfl rfl) rfl hl.1 rfl (Nat.le_of_ble_eq_true rfl) dX8_canBe_9 (fun r10 z3 H locs hB hP hD hS => ?_)
    exact hret _ _ _ _ _ _ dX8_canBe_12 hB hP hD hS
set_option maxHeartbeats 4000000 in
set_option maxRecDepth 100000 in
theorem c_Table_canBe_8 (l : Launch) (G : GX) (z0 : St) (sz : Nat) (x1 : Int32) (x2 : Int32) (post : Int32 → St → Prop) : MetI l wX yX8_canBe cX8_canBe 3 (some .boolean) ({ frames := 1, cells := 0, slots := 0, locals := 21 }) [.ref (ad G 8), .int x1, .int x2] G z0 sz (S_Table_canBe_8 post x1 x2 z0) post := by
  refine Met.ofW (cc := cX8_canBe) (maxL := 3) (ret := (some .boolean)) (by decide) rfl ?_
  intro p e s m args below meth c s₁ B hml hv
  obtain ⟨rfl, hsz, hP, hD0, hE, hB⟩ := hv
  have S : CallFix p m c cX8_canBe 3 s _ GW RX8 := ⟨B.exec, B.bytes, hml, findClass_of_methodNamed B.named, fun w h => atoms_spec (ws := Cond.code yX8_canBe cX8_canBe 3 (some .boolean) :: GW) B.pre w (List.mem_cons_of_mem _ h)⟩
  have hlocks := B.notSynchronized
  subst hsz
  have hD := hD0.self (sz := s.heap.size)
  generalize hAe : va_A (wX G z0) s.heap.size = A at hD hE ⊢
  have hA : ∀ q : Nat, s.heap.size ≤ q → A q := fun q h => by rw [← hAe]; exact Or.inr h
  have hS : va_S A s.heap s.heap [] := va_S.rf
  have hl := lv_entry ([.ref (ad G 8), .int x1, .int x2]) (n := 3) (Nat.le_of_ble_eq_true rfl)
  rw [lg_entry_eq]
  generalize (lg_sl ([.ref (ad G 8), .int x1, .int x2]) ++ List.replicate (3 - (lg_sl ([.ref (ad G 8), .int x1, .int x2])).length) Slot.unset).toArray = ls at hl ⊢
  have hl : lv_has ls 3 [(0, .ref (ad G 8)), (1, .int x1), (2, .int x2)] := hl
  refine w_Table_canBe_8_0 S hE hA (Nat.le_refl _) (Nat.le_refl _) ?_ x1 x2 z0 hB _ _ _ hP hD hS hl
  intro pc ls r σ H locs hd hp hP hD hS
  exact W.zret (v := r) B.exec B.bytes B.returns (xboolc r hp.1) (fun t ht hW => ⟨⟨r, σ, rfl, hp.2, by rw [ht]; exact hP, hD⟩, hS.F ht⟩) hS.2.2 hd
def S_Math_min_7cf53_X (post : Int32 → St → Prop) (x0 : Int32) (x1 : Int32) (z0 : St) : Prop :=
  ((x1 < x0 → (post x1 z0)) ∧ (¬ x1 < x0 → (post x0 z0)))
set_option maxHeartbeats 4000000 in
set_option maxRecDepth 100000 in
theorem w_Math_min_7cf53_X_0 {p : Program} {l : Launch} {e : Env} {R : Room} {s : State} {m : MethodId} {args : Array Value} {below : List Frame} {meth : Method} {c : Code} {Q : State → Prop} {G : GX} {A : Nat → Prop} (S : CallFix p m c cJ9_min_7cf53 2 s args GW RJ9) (hE : env G A s s.heap) (hA : ∀ q, s.heap.size ≤ q → A q) (hRf : 0 ≤ R.frames) (hRl : 0 ≤ R.locals) {post : Int32 → St → Prop} (hret : RetI p l e R s m args below meth c Q 0 0 wX G A cJ9_min_7cf53 post) (x0 : Int32) (x1 : Int32) (z0 : St) (hB : S_Math_min_7cf53_X post x0 x1 z0) : Xw p l e R s m args below meth c Q 0 0 wX G A z0 2 [(0, .int x0), (1, .int x1)] 0 [] := by
  intro H locs ls hP hD hS hl
  have hx := S.1
  have hb := S.2.1
  refine lv_iload_n hx hb dJ9_min_7cf53_0 rfl (lv_at hl 0 rfl) ?_
  refine lv_iload_n hx hb dJ9_min_7cf53_1 rfl (lv_at hl 1 rfl) ?_
  refine lv_icmp_gt (tgt := 9) hx hb dJ9_min_7cf53_2 (by decide) (fun c1 => ?_) (fun c1 => ?_)
  · have hB := hB.1 c1
    refine lv_iload_n hx hb dJ9_min_7cf53_9 rfl (lv_at hl 1 rfl) ?_
    exact hret _ _ _ _ _ _ dJ9_min_7cf53_10 hB hP hD hS
  · have hB := hB.2 c1
    refine lv_iload_n hx hb dJ9_min_7cf53_5 rfl (lv_at hl 0 rfl) ?_
    refine lv_goto (tgt := 10) hx hb dJ9_min_7cf53_6 (by decide) ?_
    exact hret _ _ _ _ _ _ dJ9_min_7cf53_10 hB hP hD hS
set_option maxHeartbeats 4000000 in
set_option maxRecDepth 100000 in
theorem c_Math_min_7cf53_X (l : Launch) (G : GX) (z0 : St) (sz : Nat) (x0 : Int32) (x1 : Int32) (post : Int32 → St → Prop) : MetI l wX yJ9_min_7cf53 cJ9_min_7cf53 2 (some .int) ({ frames := 0, cells := 0, slots := 0, locals := 0 }) [.int x0, .int x1] G z0 sz (S_Math_min_7cf53_X post x0 x1 z0) post := by
  refine Met.ofWF (cc := cJ9_min_7cf53) (maxL := 2) (ret := (some .int)) (by decide +kernel) rfl ?_
  intro p e s m args below meth c s₁ B hml hv
  obtain ⟨rfl, hsz, hP, hD0, hE, hB⟩ := hv
  have S : CallFix p m c cJ9_min_7cf53 2 s _ GW RJ9 := ⟨B.exec, B.bytes, hml, findClass_of_methodNamed B.named, fun w h => atoms_spec (ws := Cond.code yJ9_min_7cf53 cJ9_min_7cf53 2 (some .int) :: GW) B.pre w (List.mem_cons_of_mem _ h)⟩
  have hlocks := B.notSynchronized
  subst hsz
  have hD := hD0.self (sz := s.heap.size)
  generalize hAe : va_A (wX G z0) s.heap.size = A at hD hE ⊢
  have hA : ∀ q : Nat, s.heap.size ≤ q → A q := fun q h => by rw [← hAe]; exact Or.inr h
  have hS : va_S A s.heap s.heap [] := va_S.rf
  have hl := lv_entry ([.int x0, .int x1]) (n := 2) (Nat.le_of_ble_eq_true rfl)
  rw [lg_entry_eq]
  generalize (lg_sl ([.int x0, .int x1]) ++ List.replicate (2 - (lg_sl ([.int x0, .int x1])).length) Slot.unset).toArray = ls at hl ⊢
  have hl : lv_has ls 2 [(0, .int x0), (1, .int x1)] := hl
  refine w_Math_min_7cf53_X_0 S hE hA (Nat.le_refl _) (Nat.le_refl _) ?_ x0 x1 z0 hB _ _ _ hP hD hS hl
  intro pc ls r σ H locs hd hp hP hD hS
  exact W.iret (v := r) B.exec B.bytes B.returns (fun t ht hW => ⟨⟨r, σ, rfl, hp, by rw [ht]; exact hP, hD⟩, hS.F ht⟩) hS.2.2 hd
def S_Memory_keep_r23 (post : St → Prop) (z0 : St) : Prop :=
  (¬ (0 : Int32) < 0 ∧ ¬ ((gI z0 24) * (28 : Int32)) < 0 ∧ ¬ (28 : Int32) < 0 ∧ (0 : Int32).toNatClampNeg + (28 : Int32).toNatClampNeg ≤ 28 ∧ ((gI z0 24) * (28 : Int32)).toNatClampNeg + (28 : Int32).toNatClampNeg ≤ 1120 ∧ (∀ z1 : St, z1 = sF z0 25 (va_cpy (gA z0 23) (gA z0 25) (0 : Int32).toNatClampNeg ((gI z0 24) * (28 : Int32)).toNatClampNeg (28 : Int32).toNatClampNeg) → (∀ z2 : St, z2 = sI z1 24 (((gI z1 24) + (1 : Int32)) - ((gI z1 24) + (1 : Int32)) / (40 : Int32) * (40 : Int32)) → (S_Math_min_7cf53_X (fun (r1 : Int32) (z3 : St) => (∀ z4 : St, z4 = sI z3 25 r1 → (post z4))) (40 : Int32) ((gI z2 25) + (1 : Int32)) z2))))
set_option maxHeartbeats 4000000 in
set_option maxRecDepth 100000 in
theorem w_Memory_keep_r23_0 {p : Program} {l : Launch} {e : Env} {R : Room} {s : State} {m : MethodId} {args : Array Value} {below : List Frame} {meth : Method} {c : Code} {Q : State → Prop} {G : GX} {A : Nat → Prop} (S : CallFix p m c cX4_keep 2 s args GW RX4) (hE : env G A s s.heap) (hA : ∀ q, s.heap.size ≤ q → A q) (hRf : 1 ≤ R.frames) (hRl : 80 ≤ R.locals) {post : St → Prop} (hret : RetV p l e R s m args below meth c Q 0 0 wX G A cX4_keep post) (z0 : St) (hB : S_Memory_keep_r23 post z0) : Xw p l e R s m args below meth c Q 0 0 wX G A z0 2 [(0, .ref (ad G 5)), (1, .ref (ad G 23))] 0 [] := by
  intro H locs ls hP hD hS hl
  have hx := S.1
  have hb := S.2.1
  refine lv_aload_n hx hb dX4_keep_0 rfl (lv_at hl 1 rfl) ?_
  refine lv_iconst (v := 0) hx hb dX4_keep_1 (by decide) ?_
  refine lv_aload_n hx hb dX4_keep_2 rfl (lv_at hl 0 rfl) ?_
  refine xXg_5_past S hE hP lk_X4_11 dX4_keep_3 ?_
  refine lv_aload_n hx hb dX4_keep_6 rfl (lv_at hl 0 rfl) ?_
  refine xXg_5_next S hE hP lk_X4_32 dX4_keep_7 ?_
  refine lv_bipush (v := 28) hx hb dX4_keep_10 (by decide) ?_
  refine lv_imul hx hb dX4_keep_12 ?_
  refine lv_bipush (v := 28) hx hb dX4_keep_13 (by decide) ?_
  obtain ⟨h91, h92, h93, h94, h95, hB⟩ := hB
  obtain ⟨z1, ez1⟩ : ∃ z9, z9 = sF z0 25 (va_cpy (gA z0 23) (gA z0 25) (0 : Int32).toNatClampNeg ((gI z0 24) * (28 : Int32)).toNatClampNeg (28 : Int32).toNatClampNeg) := ⟨_, rfl⟩
  have hB := hB z1 ez1
  refine xcp (w := wX) S hE hl.1 hP hD hS (sa := 23) (da := 25) 23 25 (z1 := sF z0 25 (va_cpy (gA z0 23) (gA z0 25) (0 : Int32).toNatClampNeg ((gI z0 24) * (28 : Int32)).toNatClampNeg (28 : Int32).toNatClampNeg)) rfl rfl rfl h91 h92 h93 h94 h95 (Nat.le_trans (Nat.le_of_ble_eq_true rfl) hRf) (Nat.le_trans (Nat.le_of_ble_eq_true rfl) hRl) lk_X4_35 dX4_keep_15 (fun H locs hP hD hS => ?_)
  rw [← ez1] at hP hD
  refine lv_aload_n hx hb dX4_keep_18 rfl (lv_at hl 0 rfl) ?_
  refine lv_aload_n hx hb dX4_keep_19 rfl (lv_at hl 0 rfl) ?_
  refine xXg_5_next S hE hP lk_X4_32 dX4_keep_20 ?_
  refine lv_iconst (v := 1) hx hb dX4_keep_23 (by decide) ?_
  refine lv_iadd hx hb dX4_keep_24 ?_
  refine lv_bipush (v := 40) hx hb dX4_keep_25 (by decide) ?_
  refine lv_irem hx hb dX4_keep_27 (by decide) ?_
  obtain ⟨z2, ez2⟩ : ∃ z9, z9 = sI z1 24 (((gI z1 24) + (1 : Int32)) - ((gI z1 24) + (1 : Int32)) / (40 : Int32) * (40 : Int32)) := ⟨_, rfl⟩
  have hB := hB z2 ez2
  refine xXp_5_next S hE hP hD hS lk_X4_32 dX4_keep_28 (fun H locs hP hD hS => ?_)
  rw [← ez2] at hP hD
  refine lv_aload_n hx hb dX4_keep_31 rfl (lv_at hl 0 rfl) ?_
  refine lv_bipush (v := 40) hx hb dX4_keep_32 (by decide) ?_
  refine lv_aload_n hx hb dX4_keep_34 rfl (lv_at hl 0 rfl) ?_
  refine xXg_5_kept S hE hP lk_X4_24 dX4_keep_35 ?_
  refine lv_iconst (v := 1) hx hb dX4_keep_38 (by decide) ?_
  refine lv_iadd hx hb dX4_keep_39 ?_
  refine xcSi [.int (40 : Int32), .int ((gI z2 25) + (1 : Int32))] S hE hA hP hD hS (c_Math_min_7cf53_X l G z2 H.size (40 : Int32) ((gI z2 25) + (1 : Int32)) _) hB (gw_c lk_X4_41 (gw_c wt_J9_min_7cf53 (gw_c wn_J9 (gw_c wc_J9_min_7cf53 (fun _ h9 => h9))))) hs_J9_min_7cf53 rfl rfl (Nat.le_trans (Nat.le_of_ble_eq_true rfl) hRf) (Nat.le_trans (Nat.le_of_ble_eq_true rfl) hRl) ⟨Nat.zero_le _, Nat.zero_le _⟩ rfl hl.1 rfl (Nat.le_of_ble_eq_true rfl) dX4_keep_40 (fun r1 z3 H locs hB hP hD hS => ?_)
  obtain ⟨z4, ez4⟩ : ∃ z9, z9 = sI z3 25 r1 := ⟨_, rfl⟩
  have hB := hB z4 ez4
  refine xXp_5_kept S hE hP hD hS lk_X4_24 dX4_keep_43 (fun H locs hP hD hS => ?_)
  rw [← ez4] at hP hD
  exact hret _ _ _ _ _ dX4_keep_46 hB hP hD hS
set_option maxHeartbeats 4000000 in
set_option maxRecDepth 100000 in
theorem c_Memory_keep_r23 (l : Launch) (G : GX) (z0 : St) (sz : Nat) (post : St → Prop) : MetV l wX yX4_keep cX4_keep 2 none ({ frames := 1, cells := 0, slots := 0, locals := 80 }) [.ref (ad G 5), .ref (ad G 23)] G z0 sz (S_Memory_keep_r23 post z0) post := by
  refine Met.ofW (cc := cX4_keep) (maxL := 2) (ret := none) (by decide) rfl ?_
  intro p e s m args below meth c s₁ B hml hv
  obtain ⟨rfl, hsz, hP, hD0, hE, hB⟩ := hv
  have S : CallFix p m c cX4_keep 2 s _ GW RX4 := ⟨B.exec, B.bytes, hml, findClass_of_methodNamed B.named, fun w h => atoms_spec (ws := Cond.code yX4_keep cX4_keep 2 none :: GW) B.pre w (List.mem_cons_of_mem _ h)⟩
  have hlocks := B.notSynchronized
  subst hsz
  have hD := hD0.self (sz := s.heap.size)
  generalize hAe : va_A (wX G z0) s.heap.size = A at hD hE ⊢
  have hA : ∀ q : Nat, s.heap.size ≤ q → A q := fun q h => by rw [← hAe]; exact Or.inr h
  have hS : va_S A s.heap s.heap [] := va_S.rf
  have hl := lv_entry ([.ref (ad G 5), .ref (ad G 23)]) (n := 2) (Nat.le_of_ble_eq_true rfl)
  rw [lg_entry_eq]
  generalize (lg_sl ([.ref (ad G 5), .ref (ad G 23)]) ++ List.replicate (2 - (lg_sl ([.ref (ad G 5), .ref (ad G 23)])).length) Slot.unset).toArray = ls at hl ⊢
  have hl : lv_has ls 2 [(0, .ref (ad G 5)), (1, .ref (ad G 23))] := hl
  refine w_Memory_keep_r23_0 S hE hA (Nat.le_refl _) (Nat.le_refl _) ?_  z0 hB _ _ _ hP hD hS hl
  intro pc ls σ H locs hd hp hP hD hS
  exact W.vret B.exec B.bytes B.returns (fun t ht hW => ⟨⟨σ, rfl, hp, by rw [ht]; exact hP, hD⟩, hS.F ht⟩) hS.2.2 hd
def S_Table_give_8 (post : St → Prop) (x1 : Int32) (x2 : Int32) (z0 : St) : Prop :=
  (vp_in ((4 : Int32) + x1) 28 ∧ (S_Math_min_7cf53_X (fun (r1 : Int32) (z1 : St) => (vp_in ((4 : Int32) + x1) 28 ∧ (∀ z2 : St, z2 = sA z1 23 ((4 : Int32) + x1).toNatClampNeg r1 → (post z2)))) (99 : Int32) ((gA z0 23 ((4 : Int32) + x1).toNatClampNeg) + x2) z0))
set_option maxHeartbeats 4000000 in
set_option maxRecDepth 100000 in
theorem w_Table_give_8_0 {p : Program} {l : Launch} {e : Env} {R : Room} {s : State} {m : MethodId} {args : Array Value} {below : List Frame} {meth : Method} {c : Code} {Q : State → Prop} {G : GX} {A : Nat → Prop} (S : CallFix p m c cX8_give 3 s args GW RX8) (hE : env G A s s.heap) (hA : ∀ q, s.heap.size ≤ q → A q) (hRf : 1 ≤ R.frames) (hRl : 21 ≤ R.locals) {post : St → Prop} (hret : RetV p l e R s m args below meth c Q 0 0 wX G A cX8_give post) (x1 : Int32) (x2 : Int32) (z0 : St) (hB : S_Table_give_8 post x1 x2 z0) : Xw p l e R s m args below meth c Q 0 0 wX G A z0 3 [(0, .ref (ad G 8)), (1, .int x1), (2, .int x2)] 0 [] := by
  intro H locs ls hP hD hS hl
  have hx := S.1
  have hb := S.2.1
  refine lv_aload_n hx hb dX8_give_0 rfl (lv_at hl 0 rfl) ?_
  refine xXg_8_cells S hE hP lk_X8_11 dX8_give_1 ?_
  refine lv_iconst (v := 4) hx hb dX8_give_4 (by decide) ?_
  refine lv_iload_n hx hb dX8_give_5 rfl (lv_at hl 1 rfl) ?_
  refine lv_iadd hx hb dX8_give_6 ?_
  refine lv_bipush (v := 99) hx hb dX8_give_7 (by decide) ?_
  refine lv_aload_n hx hb dX8_give_9 rfl (lv_at hl 0 rfl) ?_
  refine xXg_8_cells S hE hP lk_X8_11 dX8_give_10 ?_
  refine lv_iconst (v := 4) hx hb dX8_give_13 (by decide) ?_
  refine lv_iload_n hx hb dX8_give_14 rfl (lv_at hl 1 rfl) ?_
  refine lv_iadd hx hb dX8_give_15 ?_
  obtain ⟨hi, hB⟩ := hB
  refine xXl_23 S hE hP hi dX8_give_16 ?_
  refine lv_iload_n hx hb dX8_give_17 rfl (lv_at hl 2 rfl) ?_
  refine lv_iadd hx hb dX8_give_18 ?_
  refine xcSi [.int (99 : Int32), .int ((gA z0 23 ((4 : Int32) + x1).toNatClampNeg) + x2)] S hE hA hP hD hS (c_Math_min_7cf53_X l G z0 H.size (99 : Int32) ((gA z0 23 ((4 : Int32) + x1).toNatClampNeg) + x2) _) hB (gw_c lk_X8_60 (gw_c wt_J9_min_7cf53 (gw_c wn_J9 (gw_c wc_J9_min_7cf53 (fun _ h9 => h9))))) hs_J9_min_7cf53 rfl rfl (Nat.le_trans (Nat.le_of_ble_eq_true rfl) hRf) (Nat.le_trans (Nat.le_of_ble_eq_true rfl) hRl) ⟨Nat.zero_le _, Nat.zero_le _⟩ rfl hl.1 rfl (Nat.le_of_ble_eq_true rfl) dX8_give_19 (fun r1 z1 H locs hB hP hD hS => ?_)
  obtain ⟨hi, hB⟩ := hB
  obtain ⟨z2, ez2⟩ : ∃ z9, z9 = sA z1 23 ((4 : Int32) + x1).toNatClampNeg r1 := ⟨_, rfl⟩
  have hB := hB z2 ez2
  refine xXs_23 S hE hP hD hS _ rfl hi dX8_give_22 (fun H locs hP hD hS => ?_)
  rw [← ez2] at hP hD
  exact hret _ _ _ _ _ dX8_give_23 hB hP hD hS
set_option maxHeartbeats 4000000 in
set_option maxRecDepth 100000 in
theorem c_Table_give_8 (l : Launch) (G : GX) (z0 : St) (sz : Nat) (x1 : Int32) (x2 : Int32) (post : St → Prop) : MetV l wX yX8_give cX8_give 3 none ({ frames := 1, cells := 0, slots := 0, locals := 21 }) [.ref (ad G 8), .int x1, .int x2] G z0 sz (S_Table_give_8 post x1 x2 z0) post := by
  refine Met.ofW (cc := cX8_give) (maxL := 3) (ret := none) (by decide) rfl ?_
  intro p e s m args below meth c s₁ B hml hv
  obtain ⟨rfl, hsz, hP, hD0, hE, hB⟩ := hv
  have S : CallFix p m c cX8_give 3 s _ GW RX8 := ⟨B.exec, B.bytes, hml, findClass_of_methodNamed B.named, fun w h => atoms_spec (ws := Cond.code yX8_give cX8_give 3 none :: GW) B.pre w (List.mem_cons_of_mem _ h)⟩
  have hlocks := B.notSynchronized
  subst hsz
  have hD := hD0.self (sz := s.heap.size)
  generalize hAe : va_A (wX G z0) s.heap.size = A at hD hE ⊢
  have hA : ∀ q : Nat, s.heap.size ≤ q → A q := fun q h => by rw [← hAe]; exact Or.inr h
  have hS : va_S A s.heap s.heap [] := va_S.rf
  have hl := lv_entry ([.ref (ad G 8), .int x1, .int x2]) (n := 3) (Nat.le_of_ble_eq_true rfl)
  rw [lg_entry_eq]
  generalize (lg_sl ([.ref (ad G 8), .int x1, .int x2]) ++ List.replicate (3 - (lg_sl ([.ref (ad G 8), .int x1, .int x2])).length) Slot.unset).toArray = ls at hl ⊢
  have hl : lv_has ls 3 [(0, .ref (ad G 8)), (1, .int x1), (2, .int x2)] := hl
  refine w_Table_give_8_0 S hE hA (Nat.le_refl _) (Nat.le_refl _) ?_ x1 x2 z0 hB _ _ _ hP hD hS hl
  intro pc ls σ H locs hd hp hP hD hS
  exact W.vret B.exec B.bytes B.returns (fun t ht hW => ⟨⟨σ, rfl, hp, by rw [ht]; exact hP, hD⟩, hS.F ht⟩) hS.2.2 hd
def B_Table_passMonth_8_19 (post : St → Prop) (ih19 : Int32 → St → Prop) (x1 : Int32) (z0 : St) : Prop :=
  (((gI z0 27) ≤ x1 → (post z0)) ∧ (¬ (gI z0 27) ≤ x1 → (S_Table_give_8 (fun (z1 : St) => (∀ v2 : Int32, v2 = x1 + (1 : Int32) → (ih19 v2 z1))) x1 (gI z0 28) z0)))
set_option maxHeartbeats 4000000 in
set_option maxRecDepth 100000 in
theorem w_Table_passMonth_8_19 {p : Program} {l : Launch} {e : Env} {R : Room} {s : State} {m : MethodId} {args : Array Value} {below : List Frame} {meth : Method} {c : Code} {Q : State → Prop} {G : GX} {A : Nat → Prop} (S : CallFix p m c cX8_passMonth 2 s args GW RX8) (hE : env G A s s.heap) (hA : ∀ q, s.heap.size ≤ q → A q) (hRf : 2 ≤ R.frames) (hRl : 43 ≤ R.locals) {post : St → Prop} (hret : RetV p l e R s m args below meth c Q 0 0 wX G A cX8_passMonth post) {ih19 : Int32 → St → Prop} (h19 : ∀ (x1 : Int32) (z0 : St), ih19 x1 z0 → Xw p l e R s m args below meth c Q 0 0 wX G A z0 2 [(0, .ref (ad G 8)), (1, .int x1)] 19 []) (x1 : Int32) (z0 : St) (hB : B_Table_passMonth_8_19 post ih19 x1 z0) : Xw p l e R s m args below meth c Q 0 0 wX G A z0 2 [(0, .ref (ad G 8)), (1, .int x1)] 19 [] := by
  intro H locs ls hP hD hS hl
  have hx := S.1
  have hb := S.2.1
  refine lv_iload_n hx hb dX8_passMonth_19 rfl (lv_at hl 1 rfl) ?_
  refine lv_aload_n hx hb dX8_passMonth_20 rfl (lv_at hl 0 rfl) ?_
  refine xXg_8_house S hE hP lk_X8_15 dX8_passMonth_21 ?_
  refine xXg_6_guests S hE hP lk_X8_45 dX8_passMonth_24 ?_
  refine lv_icmp_ge (tgt := 48) hx hb dX8_passMonth_27 (by decide) (fun c1 => ?_) (fun c1 => ?_)
  · have hB := hB.1 c1
    exact hret _ _ _ _ _ dX8_passMonth_48 hB hP hD hS
  · have hB := hB.2 c1
    refine lv_aload_n hx hb dX8_passMonth_30 rfl (lv_at hl 0 rfl) ?_
    refine lv_iload_n hx hb dX8_passMonth_31 rfl (lv_at hl 1 rfl) ?_
    refine lv_aload_n hx hb dX8_passMonth_32 rfl (lv_at hl 0 rfl) ?_
    refine xXg_8_house S hE hP lk_X8_15 dX8_passMonth_33 ?_
    refine xXg_6_wages S hE hP lk_X8_91 dX8_passMonth_36 ?_
    refine xcVv [.int x1, .int (gI z0 28)] S hE hA hP hD hS (c_Table_give_8 l G z0 H.size x1 (gI z0 28) _) hB (gw_c lk_X8_94 (gw_c wi_X8_give (gw_c we_X8_X8_give_X8_give (gw_c wn_X8 (gw_c wc_X8_give (fun _ h9 => h9)))))) hd_X8_give rfl rfl (Nat.le_trans (Nat.le_of_ble_eq_true rfl) hRf) (Nat.le_trans (Nat.le_of_ble_eq_true rfl) hRl) ⟨Nat.zero_le _, Nat.zero_le _⟩ (va_recv hE.1 hP (ci := 7) (q0 := 8) rfl rfl) rfl hl.1 rfl (Nat.le_of_ble_eq_true rfl) dX8_passMonth_39 (fun z1 H locs hB hP hD hS => ?_)
    obtain ⟨v2, ev2⟩ : ∃ y9, y9 = x1 + (1 : Int32) := ⟨_, rfl⟩
    have hB := hB v2 ev2
    refine lv_iinc (v := v2) (lv' := [(1, .int v2), (0, .ref (ad G 8))]) hx hb dX8_passMonth_42 hl (k := 1) rfl (by rw [ev2]; rfl) (by decide) rfl (fun ls hl => ?_)
    refine lv_goto (tgt := 19) hx hb dX8_passMonth_45 (by decide) ?_
    exact h19 v2 z1 hB _ _ _ hP hD hS (lv_sub hl [1, 0] rfl)
def L_Table_passMonth_8_19 (post : St → Prop) : Nat → Int32 → St → Prop
  | 0 => fun _ _ => False
  | n + 1 => B_Table_passMonth_8_19 post (L_Table_passMonth_8_19 post n)
theorem wl_Table_passMonth_8_19 {p : Program} {l : Launch} {e : Env} {R : Room} {s : State} {m : MethodId} {args : Array Value} {below : List Frame} {meth : Method} {c : Code} {Q : State → Prop} {G : GX} {A : Nat → Prop} (S : CallFix p m c cX8_passMonth 2 s args GW RX8) (hE : env G A s s.heap) (hA : ∀ q, s.heap.size ≤ q → A q) (hRf : 2 ≤ R.frames) (hRl : 43 ≤ R.locals) {post : St → Prop} (hret : RetV p l e R s m args below meth c Q 0 0 wX G A cX8_passMonth post) : ∀ (n : Nat) (x1 : Int32) (z0 : St), L_Table_passMonth_8_19 post n x1 z0 → Xw p l e R s m args below meth c Q 0 0 wX G A z0 2 [(0, .ref (ad G 8)), (1, .int x1)] 19 [] := by
  intro n
  induction n with
  | zero => intro x1 z0 hB; exact absurd hB id
  | succ n ih => exact fun x1 z0 hB => w_Table_passMonth_8_19 S hE hA hRf hRl hret ih x1 z0 hB
def S_Table_passMonth_8 (post : St → Prop) (z0 : St) : Prop :=
  (∀ z1 : St, z1 = sA z0 23 1 ((gA z0 23 1) + (1 : Int32)) → (∀ z2 : St, z2 = sA z1 23 2 (0 : Int32) → (∃ n1, L_Table_passMonth_8_19 post n1 (0 : Int32) z2)))
set_option maxHeartbeats 4000000 in
set_option maxRecDepth 100000 in
theorem w_Table_passMonth_8_0 {p : Program} {l : Launch} {e : Env} {R : Room} {s : State} {m : MethodId} {args : Array Value} {below : List Frame} {meth : Method} {c : Code} {Q : State → Prop} {G : GX} {A : Nat → Prop} (S : CallFix p m c cX8_passMonth 2 s args GW RX8) (hE : env G A s s.heap) (hA : ∀ q, s.heap.size ≤ q → A q) (hRf : 2 ≤ R.frames) (hRl : 43 ≤ R.locals) {post : St → Prop} (hret : RetV p l e R s m args below meth c Q 0 0 wX G A cX8_passMonth post) (z0 : St) (hB : S_Table_passMonth_8 post z0) : Xw p l e R s m args below meth c Q 0 0 wX G A z0 2 [(0, .ref (ad G 8))] 0 [] := by
  intro H locs ls hP hD hS hl
  have hx := S.1
  have hb := S.2.1
  refine lv_aload_n hx hb dX8_passMonth_0 rfl (lv_at hl 0 rfl) ?_
  refine xXg_8_cells S hE hP lk_X8_11 dX8_passMonth_1 ?_
  refine lv_iconst (v := 1) hx hb dX8_passMonth_4 (by decide) ?_
  refine lv_dup2_11 hx hb dX8_passMonth_5 rfl rfl ?_
  refine xXk_23 S hE hP 1 (by decide) (by unfold vp_in; decide) dX8_passMonth_6 ?_
  refine lv_iconst (v := 1) hx hb dX8_passMonth_7 (by decide) ?_
  refine lv_iadd hx hb dX8_passMonth_8 ?_
  obtain ⟨z1, ez1⟩ : ∃ z9, z9 = sA z0 23 1 ((gA z0 23 1) + (1 : Int32)) := ⟨_, rfl⟩
  have hB := hB z1 ez1
  refine xXs_23 S hE hP hD hS 1 (by decide) (by unfold vp_in; decide) dX8_passMonth_9 (fun H locs hP hD hS => ?_)
  rw [← ez1] at hP hD
  refine lv_aload_n hx hb dX8_passMonth_10 rfl (lv_at hl 0 rfl) ?_
  refine xXg_8_cells S hE hP lk_X8_11 dX8_passMonth_11 ?_
  refine lv_iconst (v := 2) hx hb dX8_passMonth_14 (by decide) ?_
  refine lv_iconst (v := 0) hx hb dX8_passMonth_15 (by decide) ?_
  obtain ⟨z2, ez2⟩ : ∃ z9, z9 = sA z1 23 2 (0 : Int32) := ⟨_, rfl⟩
  have hB := hB z2 ez2
  refine xXs_23 S hE hP hD hS 2 (by decide) (by unfold vp_in; decide) dX8_passMonth_16 (fun H locs hP hD hS => ?_)
  rw [← ez2] at hP hD
  refine lv_iconst (v := 0) hx hb dX8_passMonth_17 (by decide) ?_
  refine lv_istore_n (lv' := [(1, .int (0 : Int32)), (0, .ref (ad G 8))]) hx hb dX8_passMonth_18 rfl hl (by decide) rfl (fun ls hl => ?_)
  obtain ⟨n1, hB⟩ := hB
  exact wl_Table_passMonth_8_19 S hE hA hRf hRl hret n1 (0 : Int32) z2 hB _ _ _ hP hD hS (lv_sub hl [1, 0] rfl)
set_option maxHeartbeats 4000000 in
set_option maxRecDepth 100000 in
theorem c_Table_passMonth_8 (l : Launch) (G : GX) (z0 : St) (sz : Nat) (post : St → Prop) : MetV l wX yX8_passMonth cX8_passMonth 2 none ({ frames := 2, cells := 0, slots := 0, locals := 43 }) [.ref (ad G 8)] G z0 sz (S_Table_passMonth_8 post z0) post := by
  refine Met.ofW (cc := cX8_passMonth) (maxL := 2) (ret := none) (by decide) rfl ?_
  intro p e s m args below meth c s₁ B hml hv
  obtain ⟨rfl, hsz, hP, hD0, hE, hB⟩ := hv
  have S : CallFix p m c cX8_passMonth 2 s _ GW RX8 := ⟨B.exec, B.bytes, hml, findClass_of_methodNamed B.named, fun w h => atoms_spec (ws := Cond.code yX8_passMonth cX8_passMonth 2 none :: GW) B.pre w (List.mem_cons_of_mem _ h)⟩
  have hlocks := B.notSynchronized
  subst hsz
  have hD := hD0.self (sz := s.heap.size)
  generalize hAe : va_A (wX G z0) s.heap.size = A at hD hE ⊢
  have hA : ∀ q : Nat, s.heap.size ≤ q → A q := fun q h => by rw [← hAe]; exact Or.inr h
  have hS : va_S A s.heap s.heap [] := va_S.rf
  have hl := lv_entry ([.ref (ad G 8)]) (n := 2) (Nat.le_of_ble_eq_true rfl)
  rw [lg_entry_eq]
  generalize (lg_sl ([.ref (ad G 8)]) ++ List.replicate (2 - (lg_sl ([.ref (ad G 8)])).length) Slot.unset).toArray = ls at hl ⊢
  have hl : lv_has ls 2 [(0, .ref (ad G 8))] := hl
  refine w_Table_passMonth_8_0 S hE hA (Nat.le_refl _) (Nat.le_refl _) ?_  z0 hB _ _ _ hP hD hS hl
  intro pc ls σ H locs hd hp hP hD hS
  exact W.vret B.exec B.bytes B.returns (fun t ht hW => ⟨⟨σ, rfl, hp, by rw [ht]; exact hP, hD⟩, hS.F ht⟩) hS.2.2 hd
def S_House_joyBy (post : Int32 → St → Prop) (x1 : Int32) (x2 : Int32) (z0 : St) : Prop :=
  ((x1 = x2 → (vp_in x2 6 ∧ (post ((gA z0 18 x2.toNatClampNeg) + (gI z0 29)) z0))) ∧ (¬ x1 = x2 → (vp_in x2 6 ∧ (post (gA z0 18 x2.toNatClampNeg) z0))))
set_option maxHeartbeats 4000000 in
set_option maxRecDepth 100000 in
theorem w_House_joyBy_0 {p : Program} {l : Launch} {e : Env} {R : Room} {s : State} {m : MethodId} {args : Array Value} {below : List Frame} {meth : Method} {c : Code} {Q : State → Prop} {G : GX} {A : Nat → Prop} (S : CallFix p m c cX0_joyBy 3 s args GW RX0) (hE : env G A s s.heap) (hA : ∀ q, s.heap.size ≤ q → A q) (hRf : 0 ≤ R.frames) (hRl : 0 ≤ R.locals) {post : Int32 → St → Prop} (hret : RetI p l e R s m args below meth c Q 0 0 wX G A cX0_joyBy post) (x1 : Int32) (x2 : Int32) (z0 : St) (hB : S_House_joyBy post x1 x2 z0) : Xw p l e R s m args below meth c Q 0 0 wX G A z0 3 [(0, .ref (ad G 6)), (1, .int x1), (2, .int x2)] 0 [] := by
  intro H locs ls hP hD hS hl
  have hx := S.1
  have hb := S.2.1
  refine lv_iload_n hx hb dX0_joyBy_0 rfl (lv_at hl 1 rfl) ?_
  refine lv_iload_n hx hb dX0_joyBy_1 rfl (lv_at hl 2 rfl) ?_
  refine lv_icmp_ne (tgt := 19) hx hb dX0_joyBy_2 (by decide) (fun c1 => ?_) (fun c1 => ?_)
  · have hB := hB.2 c1
    refine lv_aload_n hx hb dX0_joyBy_19 rfl (lv_at hl 0 rfl) ?_
    refine xXg_6_quality S hE hP lk_X0_9 dX0_joyBy_20 ?_
    refine lv_iload_n hx hb dX0_joyBy_23 rfl (lv_at hl 2 rfl) ?_
    obtain ⟨hi, hB⟩ := hB
    refine xXl_18 S hE hP hi dX0_joyBy_24 ?_
    exact hret _ _ _ _ _ _ dX0_joyBy_25 hB hP hD hS
  · have hB := hB.1 c1
    refine lv_aload_n hx hb dX0_joyBy_5 rfl (lv_at hl 0 rfl) ?_
    refine xXg_6_quality S hE hP lk_X0_9 dX0_joyBy_6 ?_
    refine lv_iload_n hx hb dX0_joyBy_9 rfl (lv_at hl 2 rfl) ?_
    obtain ⟨hi, hB⟩ := hB
    refine xXl_18 S hE hP hi dX0_joyBy_10 ?_
    refine lv_aload_n hx hb dX0_joyBy_11 rfl (lv_at hl 0 rfl) ?_
    refine xXg_6_more S hE hP lk_X0_43 dX0_joyBy_12 ?_
    refine lv_iadd hx hb dX0_joyBy_15 ?_
    refine lv_goto (tgt := 25) hx hb dX0_joyBy_16 (by decide) ?_
    exact hret _ _ _ _ _ _ dX0_joyBy_25 hB hP hD hS
set_option maxHeartbeats 4000000 in
set_option maxRecDepth 100000 in
theorem c_House_joyBy (l : Launch) (G : GX) (z0 : St) (sz : Nat) (x1 : Int32) (x2 : Int32) (post : Int32 → St → Prop) : MetI l wX yX0_joyBy cX0_joyBy 3 (some .int) ({ frames := 0, cells := 0, slots := 0, locals := 0 }) [.ref (ad G 6), .int x1, .int x2] G z0 sz (S_House_joyBy post x1 x2 z0) post := by
  refine Met.ofW (cc := cX0_joyBy) (maxL := 3) (ret := (some .int)) (by decide) rfl ?_
  intro p e s m args below meth c s₁ B hml hv
  obtain ⟨rfl, hsz, hP, hD0, hE, hB⟩ := hv
  have S : CallFix p m c cX0_joyBy 3 s _ GW RX0 := ⟨B.exec, B.bytes, hml, findClass_of_methodNamed B.named, fun w h => atoms_spec (ws := Cond.code yX0_joyBy cX0_joyBy 3 (some .int) :: GW) B.pre w (List.mem_cons_of_mem _ h)⟩
  have hlocks := B.notSynchronized
  subst hsz
  have hD := hD0.self (sz := s.heap.size)
  generalize hAe : va_A (wX G z0) s.heap.size = A at hD hE ⊢
  have hA : ∀ q : Nat, s.heap.size ≤ q → A q := fun q h => by rw [← hAe]; exact Or.inr h
  have hS : va_S A s.heap s.heap [] := va_S.rf
  have hl := lv_entry ([.ref (ad G 6), .int x1, .int x2]) (n := 3) (Nat.le_of_ble_eq_true rfl)
  rw [lg_entry_eq]
  generalize (lg_sl ([.ref (ad G 6), .int x1, .int x2]) ++ List.replicate (3 - (lg_sl ([.ref (ad G 6), .int x1, .int x2])).length) Slot.unset).toArray = ls at hl ⊢
  have hl : lv_has ls 3 [(0, .ref (ad G 6)), (1, .int x1), (2, .int x2)] := hl
  refine w_House_joyBy_0 S hE hA (Nat.le_refl _) (Nat.le_refl _) ?_ x1 x2 z0 hB _ _ _ hP hD hS hl
  intro pc ls r σ H locs hd hp hP hD hS
  exact W.iret (v := r) B.exec B.bytes B.returns (fun t ht hW => ⟨⟨r, σ, rfl, hp, by rw [ht]; exact hP, hD⟩, hS.F ht⟩) hS.2.2 hd
def S_Math_max_7cf53_X (post : Int32 → St → Prop) (x0 : Int32) (x1 : Int32) (z0 : St) : Prop :=
  ((x0 < x1 → (post x1 z0)) ∧ (¬ x0 < x1 → (post x0 z0)))
set_option maxHeartbeats 4000000 in
set_option maxRecDepth 100000 in
theorem w_Math_max_7cf53_X_0 {p : Program} {l : Launch} {e : Env} {R : Room} {s : State} {m : MethodId} {args : Array Value} {below : List Frame} {meth : Method} {c : Code} {Q : State → Prop} {G : GX} {A : Nat → Prop} (S : CallFix p m c cJ9_max_7cf53 2 s args GW RJ9) (hE : env G A s s.heap) (hA : ∀ q, s.heap.size ≤ q → A q) (hRf : 0 ≤ R.frames) (hRl : 0 ≤ R.locals) {post : Int32 → St → Prop} (hret : RetI p l e R s m args below meth c Q 0 0 wX G A cJ9_max_7cf53 post) (x0 : Int32) (x1 : Int32) (z0 : St) (hB : S_Math_max_7cf53_X post x0 x1 z0) : Xw p l e R s m args below meth c Q 0 0 wX G A z0 2 [(0, .int x0), (1, .int x1)] 0 [] := by
  intro H locs ls hP hD hS hl
  have hx := S.1
  have hb := S.2.1
  refine lv_iload_n hx hb dJ9_max_7cf53_0 rfl (lv_at hl 0 rfl) ?_
  refine lv_iload_n hx hb dJ9_max_7cf53_1 rfl (lv_at hl 1 rfl) ?_
  refine lv_icmp_lt (tgt := 9) hx hb dJ9_max_7cf53_2 (by decide) (fun c1 => ?_) (fun c1 => ?_)
  · have hB := hB.1 c1
    refine lv_iload_n hx hb dJ9_max_7cf53_9 rfl (lv_at hl 1 rfl) ?_
    exact hret _ _ _ _ _ _ dJ9_max_7cf53_10 hB hP hD hS
  · have hB := hB.2 c1
    refine lv_iload_n hx hb dJ9_max_7cf53_5 rfl (lv_at hl 0 rfl) ?_
    refine lv_goto (tgt := 10) hx hb dJ9_max_7cf53_6 (by decide) ?_
    exact hret _ _ _ _ _ _ dJ9_max_7cf53_10 hB hP hD hS
set_option maxHeartbeats 4000000 in
set_option maxRecDepth 100000 in
theorem c_Math_max_7cf53_X (l : Launch) (G : GX) (z0 : St) (sz : Nat) (x0 : Int32) (x1 : Int32) (post : Int32 → St → Prop) : MetI l wX yJ9_max_7cf53 cJ9_max_7cf53 2 (some .int) ({ frames := 0, cells := 0, slots := 0, locals := 0 }) [.int x0, .int x1] G z0 sz (S_Math_max_7cf53_X post x0 x1 z0) post := by
  refine Met.ofWF (cc := cJ9_max_7cf53) (maxL := 2) (ret := (some .int)) (by decide +kernel) rfl ?_
  intro p e s m args below meth c s₁ B hml hv
  obtain ⟨rfl, hsz, hP, hD0, hE, hB⟩ := hv
  have S : CallFix p m c cJ9_max_7cf53 2 s _ GW RJ9 := ⟨B.exec, B.bytes, hml, findClass_of_methodNamed B.named, fun w h => atoms_spec (ws := Cond.code yJ9_max_7cf53 cJ9_max_7cf53 2 (some .int) :: GW) B.pre w (List.mem_cons_of_mem _ h)⟩
  have hlocks := B.notSynchronized
  subst hsz
  have hD := hD0.self (sz := s.heap.size)
  generalize hAe : va_A (wX G z0) s.heap.size = A at hD hE ⊢
  have hA : ∀ q : Nat, s.heap.size ≤ q → A q := fun q h => by rw [← hAe]; exact Or.inr h
  have hS : va_S A s.heap s.heap [] := va_S.rf
  have hl := lv_entry ([.int x0, .int x1]) (n := 2) (Nat.le_of_ble_eq_true rfl)
  rw [lg_entry_eq]
  generalize (lg_sl ([.int x0, .int x1]) ++ List.replicate (2 - (lg_sl ([.int x0, .int x1])).length) Slot.unset).toArray = ls at hl ⊢
  have hl : lv_has ls 2 [(0, .int x0), (1, .int x1)] := hl
  refine w_Math_max_7cf53_X_0 S hE hA (Nat.le_refl _) (Nat.le_refl _) ?_ x0 x1 z0 hB _ _ _ hP hD hS hl
  intro pc ls r σ H locs hd hp hP hD hS
  exact W.iret (v := r) B.exec B.bytes B.returns (fun t ht hW => ⟨⟨r, σ, rfl, hp, by rw [ht]; exact hP, hD⟩, hS.F ht⟩) hS.2.2 hd
def S_Table_moodBehind (post : Int32 → St → Prop) (x0 : Int32) (x1 : Int32) (z0 : St) : Prop :=
  ((x1 < (6 : Int32) → (((4 : Int32) ≤ x1 → (post x0 z0)) ∧ (¬ (4 : Int32) ≤ x1 → (S_Math_max_7cf53_X (fun (r3 : Int32) (z1 : St) => (post r3 z1)) (0 : Int32) (x0 - (1 : Int32)) z0)))) ∧ (¬ x1 < (6 : Int32) → (S_Math_min_7cf53_X (fun (r4 : Int32) (z2 : St) => (post r4 z2)) (9 : Int32) (x0 + (1 : Int32)) z0)))
set_option maxHeartbeats 4000000 in
set_option maxRecDepth 100000 in
theorem w_Table_moodBehind_0 {p : Program} {l : Launch} {e : Env} {R : Room} {s : State} {m : MethodId} {args : Array Value} {below : List Frame} {meth : Method} {c : Code} {Q : State → Prop} {G : GX} {A : Nat → Prop} (S : CallFix p m c cX8_moodBehind 2 s args GW RX8) (hE : env G A s s.heap) (hA : ∀ q, s.heap.size ≤ q → A q) (hRf : 1 ≤ R.frames) (hRl : 21 ≤ R.locals) {post : Int32 → St → Prop} (hret : RetI p l e R s m args below meth c Q 0 0 wX G A cX8_moodBehind post) (x0 : Int32) (x1 : Int32) (z0 : St) (hB : S_Table_moodBehind post x0 x1 z0) : Xw p l e R s m args below meth c Q 0 0 wX G A z0 2 [(0, .int x0), (1, .int x1)] 0 [] := by
  intro H locs ls hP hD hS hl
  have hx := S.1
  have hb := S.2.1
  refine lv_iload_n hx hb dX8_moodBehind_0 rfl (lv_at hl 1 rfl) ?_
  refine lv_bipush (v := 6) hx hb dX8_moodBehind_1 (by decide) ?_
  refine lv_icmp_lt (tgt := 15) hx hb dX8_moodBehind_3 (by decide) (fun c1 => ?_) (fun c1 => ?_)
  · have hB := hB.1 c1
    refine lv_iload_n hx hb dX8_moodBehind_15 rfl (lv_at hl 1 rfl) ?_
    refine lv_iconst (v := 4) hx hb dX8_moodBehind_16 (by decide) ?_
    refine lv_icmp_ge (tgt := 30) hx hb dX8_moodBehind_17 (by decide) (fun c2 => ?_) (fun c2 => ?_)
    · have hB := hB.1 c2
      refine lv_iload_n hx hb dX8_moodBehind_30 rfl (lv_at hl 0 rfl) ?_
      exact hret _ _ _ _ _ _ dX8_moodBehind_31 hB hP hD hS
    · have hB := hB.2 c2
      refine lv_iconst (v := 0) hx hb dX8_moodBehind_20 (by decide) ?_
      refine lv_iload_n hx hb dX8_moodBehind_21 rfl (lv_at hl 0 rfl) ?_
      refine lv_iconst (v := 1) hx hb dX8_moodBehind_22 (by decide) ?_
      refine lv_isub hx hb dX8_moodBehind_23 ?_
      refine xcSi [.int (0 : Int32), .int (x0 - (1 : Int32))] S hE hA hP hD hS (c_Math_max_7cf53_X l G z0 H.size (0 : Int32) (x0 - (1 : Int32)) _) hB (gw_c lk_X8_131 (gw_c wt_J9_max_7cf53 (gw_c wn_J9 (gw_c wc_J9_max_7cf53 (fun _ h9 => h9))))) hs_J9_max_7cf53 rfl rfl (Nat.le_trans (Nat.le_of_ble_eq_true rfl) hRf) (Nat.le_trans (Nat.le_of_ble_eq_true rfl) hRl) ⟨Nat.zero_le _, Nat.zero_le _⟩ rfl hl.1 rfl (Nat.le_of_ble_eq_true rfl) dX8_moodBehind_24 (fun r3 z1 H locs hB hP hD hS => ?_)
      refine lv_goto (tgt := 31) hx hb dX8_moodBehind_27 (by decide) ?_
      exact hret _ _ _ _ _ _ dX8_moodBehind_31 hB hP hD hS
  · have hB := hB.2 c1
    refine lv_bipush (v := 9) hx hb dX8_moodBehind_6 (by decide) ?_
    refine lv_iload_n hx hb dX8_moodBehind_8 rfl (lv_at hl 0 rfl) ?_
    refine lv_iconst (v := 1) hx hb dX8_moodBehind_9 (by decide) ?_
    refine lv_iadd hx hb dX8_moodBehind_10 ?_
    refine xcSi [.int (9 : Int32), .int (x0 + (1 : Int32))] S hE hA hP hD hS (c_Math_min_7cf53_X l G z0 H.size (9 : Int32) (x0 + (1 : Int32)) _) hB (gw_c lk_X8_60 (gw_c wt_J9_min_7cf53 (gw_c wn_J9 (gw_c wc_J9_min_7cf53 (fun _ h9 => h9))))) hs_J9_min_7cf53 rfl rfl (Nat.le_trans (Nat.le_of_ble_eq_true rfl) hRf) (Nat.le_trans (Nat.le_of_ble_eq_true rfl) hRl) ⟨Nat.zero_le _, Nat.zero_le _⟩ rfl hl.1 rfl (Nat.le_of_ble_eq_true rfl) dX8_moodBehind_11 (fun r4 z2 H locs hB hP hD hS => ?_)
    exact hret _ _ _ _ _ _ dX8_moodBehind_14 hB hP hD hS
set_option maxHeartbeats 4000000 in
set_option maxRecDepth 100000 in
theorem c_Table_moodBehind (l : Launch) (G : GX) (z0 : St) (sz : Nat) (x0 : Int32) (x1 : Int32) (post : Int32 → St → Prop) : MetI l wX yX8_moodBehind cX8_moodBehind 2 (some .int) ({ frames := 1, cells := 0, slots := 0, locals := 21 }) [.int x0, .int x1] G z0 sz (S_Table_moodBehind post x0 x1 z0) post := by
  refine Met.ofW (cc := cX8_moodBehind) (maxL := 2) (ret := (some .int)) (by decide) rfl ?_
  intro p e s m args below meth c s₁ B hml hv
  obtain ⟨rfl, hsz, hP, hD0, hE, hB⟩ := hv
  have S : CallFix p m c cX8_moodBehind 2 s _ GW RX8 := ⟨B.exec, B.bytes, hml, findClass_of_methodNamed B.named, fun w h => atoms_spec (ws := Cond.code yX8_moodBehind cX8_moodBehind 2 (some .int) :: GW) B.pre w (List.mem_cons_of_mem _ h)⟩
  have hlocks := B.notSynchronized
  subst hsz
  have hD := hD0.self (sz := s.heap.size)
  generalize hAe : va_A (wX G z0) s.heap.size = A at hD hE ⊢
  have hA : ∀ q : Nat, s.heap.size ≤ q → A q := fun q h => by rw [← hAe]; exact Or.inr h
  have hS : va_S A s.heap s.heap [] := va_S.rf
  have hl := lv_entry ([.int x0, .int x1]) (n := 2) (Nat.le_of_ble_eq_true rfl)
  rw [lg_entry_eq]
  generalize (lg_sl ([.int x0, .int x1]) ++ List.replicate (2 - (lg_sl ([.int x0, .int x1])).length) Slot.unset).toArray = ls at hl ⊢
  have hl : lv_has ls 2 [(0, .int x0), (1, .int x1)] := hl
  refine w_Table_moodBehind_0 S hE hA (Nat.le_refl _) (Nat.le_refl _) ?_ x0 x1 z0 hB _ _ _ hP hD hS hl
  intro pc ls r σ H locs hd hp hP hD hS
  exact W.iret (v := r) B.exec B.bytes B.returns (fun t ht hW => ⟨⟨r, σ, rfl, hp, by rw [ht]; exact hP, hD⟩, hS.F ht⟩) hS.2.2 hd
def S_Laws_hear (post : St → Prop) (x1 : Int32) (x2 : Int32) (x3 : Int32) (x4 : Int32) (x5 : Int32) (x6 : Int32) (z0 : St) : Prop :=
  (∀ z1 : St, z1 = sA z0 21 0 x1 → (∀ z2 : St, z2 = sA z1 21 1 x2 → (∀ z3 : St, z3 = sA z2 21 2 x3 → (∀ z4 : St, z4 = sA z3 21 3 x4 → (∀ z5 : St, z5 = sA z4 21 4 x5 → (∀ z6 : St, z6 = sA z5 21 5 x6 → (post z6)))))))
set_option maxHeartbeats 4000000 in
set_option maxRecDepth 100000 in
theorem w_Laws_hear_0 {p : Program} {l : Launch} {e : Env} {R : Room} {s : State} {m : MethodId} {args : Array Value} {below : List Frame} {meth : Method} {c : Code} {Q : State → Prop} {G : GX} {A : Nat → Prop} (S : CallFix p m c cX3_hear 7 s args GW RX3) (hE : env G A s s.heap) (hA : ∀ q, s.heap.size ≤ q → A q) (hRf : 0 ≤ R.frames) (hRl : 0 ≤ R.locals) {post : St → Prop} (hret : RetV p l e R s m args below meth c Q 0 0 wX G A cX3_hear post) (x1 : Int32) (x2 : Int32) (x3 : Int32) (x4 : Int32) (x5 : Int32) (x6 : Int32) (z0 : St) (hB : S_Laws_hear post x1 x2 x3 x4 x5 x6 z0) : Xw p l e R s m args below meth c Q 0 0 wX G A z0 7 [(0, .ref (ad G 7)), (1, .int x1), (2, .int x2), (3, .int x3), (4, .int x4), (5, .int x5), (6, .int x6)] 0 [] := by
  intro H locs ls hP hD hS hl
  have hx := S.1
  have hb := S.2.1
  refine lv_aload_n hx hb dX3_hear_0 rfl (lv_at hl 0 rfl) ?_
  refine xXg_7_letters S hE hP lk_X3_24 dX3_hear_1 ?_
  refine lv_iconst (v := 0) hx hb dX3_hear_4 (by decide) ?_
  refine lv_iload_n hx hb dX3_hear_5 rfl (lv_at hl 1 rfl) ?_
  obtain ⟨z1, ez1⟩ : ∃ z9, z9 = sA z0 21 0 x1 := ⟨_, rfl⟩
  have hB := hB z1 ez1
  refine xXs_21 S hE hP hD hS 0 (by decide) (by unfold vp_in; decide) dX3_hear_6 (fun H locs hP hD hS => ?_)
  rw [← ez1] at hP hD
  refine lv_aload_n hx hb dX3_hear_7 rfl (lv_at hl 0 rfl) ?_
  refine xXg_7_letters S hE hP lk_X3_24 dX3_hear_8 ?_
  refine lv_iconst (v := 1) hx hb dX3_hear_11 (by decide) ?_
  refine lv_iload_n hx hb dX3_hear_12 rfl (lv_at hl 2 rfl) ?_
  obtain ⟨z2, ez2⟩ : ∃ z9, z9 = sA z1 21 1 x2 := ⟨_, rfl⟩
  have hB := hB z2 ez2
  refine xXs_21 S hE hP hD hS 1 (by decide) (by unfold vp_in; decide) dX3_hear_13 (fun H locs hP hD hS => ?_)
  rw [← ez2] at hP hD
  refine lv_aload_n hx hb dX3_hear_14 rfl (lv_at hl 0 rfl) ?_
  refine xXg_7_letters S hE hP lk_X3_24 dX3_hear_15 ?_
  refine lv_iconst (v := 2) hx hb dX3_hear_18 (by decide) ?_
  refine lv_iload_n hx hb dX3_hear_19 rfl (lv_at hl 3 rfl) ?_
  obtain ⟨z3, ez3⟩ : ∃ z9, z9 = sA z2 21 2 x3 := ⟨_, rfl⟩
  have hB := hB z3 ez3
  refine xXs_21 S hE hP hD hS 2 (by decide) (by unfold vp_in; decide) dX3_hear_20 (fun H locs hP hD hS => ?_)
  rw [← ez3] at hP hD
  refine lv_aload_n hx hb dX3_hear_21 rfl (lv_at hl 0 rfl) ?_
  refine xXg_7_letters S hE hP lk_X3_24 dX3_hear_22 ?_
  refine lv_iconst (v := 3) hx hb dX3_hear_25 (by decide) ?_
  refine lv_iload hx hb dX3_hear_26 (lv_at hl 4 rfl) ?_
  obtain ⟨z4, ez4⟩ : ∃ z9, z9 = sA z3 21 3 x4 := ⟨_, rfl⟩
  have hB := hB z4 ez4
  refine xXs_21 S hE hP hD hS 3 (by decide) (by unfold vp_in; decide) dX3_hear_28 (fun H locs hP hD hS => ?_)
  rw [← ez4] at hP hD
  refine lv_aload_n hx hb dX3_hear_29 rfl (lv_at hl 0 rfl) ?_
  refine xXg_7_letters S hE hP lk_X3_24 dX3_hear_30 ?_
  refine lv_iconst (v := 4) hx hb dX3_hear_33 (by decide) ?_
  refine lv_iload hx hb dX3_hear_34 (lv_at hl 5 rfl) ?_
  obtain ⟨z5, ez5⟩ : ∃ z9, z9 = sA z4 21 4 x5 := ⟨_, rfl⟩
  have hB := hB z5 ez5
  refine xXs_21 S hE hP hD hS 4 (by decide) (by unfold vp_in; decide) dX3_hear_36 (fun H locs hP hD hS => ?_)
  rw [← ez5] at hP hD
  refine lv_aload_n hx hb dX3_hear_37 rfl (lv_at hl 0 rfl) ?_
  refine xXg_7_letters S hE hP lk_X3_24 dX3_hear_38 ?_
  refine lv_iconst (v := 5) hx hb dX3_hear_41 (by decide) ?_
  refine lv_iload hx hb dX3_hear_42 (lv_at hl 6 rfl) ?_
  obtain ⟨z6, ez6⟩ : ∃ z9, z9 = sA z5 21 5 x6 := ⟨_, rfl⟩
  have hB := hB z6 ez6
  refine xXs_21 S hE hP hD hS 5 (by decide) (by unfold vp_in; decide) dX3_hear_44 (fun H locs hP hD hS => ?_)
  rw [← ez6] at hP hD
  exact hret _ _ _ _ _ dX3_hear_45 hB hP hD hS
set_option maxHeartbeats 4000000 in
set_option maxRecDepth 100000 in
theorem c_Laws_hear (l : Launch) (G : GX) (z0 : St) (sz : Nat) (x1 : Int32) (x2 : Int32) (x3 : Int32) (x4 : Int32) (x5 : Int32) (x6 : Int32) (post : St → Prop) : MetV l wX yX3_hear cX3_hear 7 none ({ frames := 0, cells := 0, slots := 0, locals := 0 }) [.ref (ad G 7), .int x1, .int x2, .int x3, .int x4, .int x5, .int x6] G z0 sz (S_Laws_hear post x1 x2 x3 x4 x5 x6 z0) post := by
  refine Met.ofW (cc := cX3_hear) (maxL := 7) (ret := none) (by decide) rfl ?_
  intro p e s m args below meth c s₁ B hml hv
  obtain ⟨rfl, hsz, hP, hD0, hE, hB⟩ := hv
  have S : CallFix p m c cX3_hear 7 s _ GW RX3 := ⟨B.exec, B.bytes, hml, findClass_of_methodNamed B.named, fun w h => atoms_spec (ws := Cond.code yX3_hear cX3_hear 7 none :: GW) B.pre w (List.mem_cons_of_mem _ h)⟩
  have hlocks := B.notSynchronized
  subst hsz
  have hD := hD0.self (sz := s.heap.size)
  generalize hAe : va_A (wX G z0) s.heap.size = A at hD hE ⊢
  have hA : ∀ q : Nat, s.heap.size ≤ q → A q := fun q h => by rw [← hAe]; exact Or.inr h
  have hS : va_S A s.heap s.heap [] := va_S.rf
  have hl := lv_entry ([.ref (ad G 7), .int x1, .int x2, .int x3, .int x4, .int x5, .int x6]) (n := 7) (Nat.le_of_ble_eq_true rfl)
  rw [lg_entry_eq]
  generalize (lg_sl ([.ref (ad G 7), .int x1, .int x2, .int x3, .int x4, .int x5, .int x6]) ++ List.replicate (7 - (lg_sl ([.ref (ad G 7), .int x1, .int x2, .int x3, .int x4, .int x5, .int x6])).length) Slot.unset).toArray = ls at hl ⊢
  have hl : lv_has ls 7 [(0, .ref (ad G 7)), (1, .int x1), (2, .int x2), (3, .int x3), (4, .int x4), (5, .int x5), (6, .int x6)] := hl
  refine w_Laws_hear_0 S hE hA (Nat.le_refl _) (Nat.le_refl _) ?_ x1 x2 x3 x4 x5 x6 z0 hB _ _ _ hP hD hS hl
  intro pc ls σ H locs hd hp hP hD hS
  exact W.vret B.exec B.bytes B.returns (fun t ht hW => ⟨⟨σ, rfl, hp, by rw [ht]; exact hP, hD⟩, hS.F ht⟩) hS.2.2 hd
def B_Laws_joined_214 (post : Int32 → St → Prop) (x3 : Int64) (z0 : St) : Prop :=
  (((lg_cmp x3 (1000000 : Int64)) ≤ 0 → ((0 ≤ (lg_cmp x3 (-1000000 : Int64)) → (post ((x3).toInt32) z0)) ∧ (¬ 0 ≤ (lg_cmp x3 (-1000000 : Int64)) → (post (-1000000 : Int32) z0)))) ∧ (¬ (lg_cmp x3 (1000000 : Int64)) ≤ 0 → (post (1000000 : Int32) z0)))
set_option maxHeartbeats 4000000 in
set_option maxRecDepth 100000 in
theorem w_Laws_joined_214 {p : Program} {l : Launch} {e : Env} {R : Room} {s : State} {m : MethodId} {args : Array Value} {below : List Frame} {meth : Method} {c : Code} {Q : State → Prop} {G : GX} {A : Nat → Prop} (S : CallFix p m c cX3_joined 5 s args GW RX3) (hE : env G A s s.heap) (hA : ∀ q, s.heap.size ≤ q → A q) (hRf : 0 ≤ R.frames) (hRl : 0 ≤ R.locals) {post : Int32 → St → Prop} (hret : RetI p l e R s m args below meth c Q 0 0 wX G A cX3_joined post) (x3 : Int64) (z0 : St) (hB : B_Laws_joined_214 post x3 z0) : Xw p l e R s m args below meth c Q 0 0 wX G A z0 5 [(3, .long x3)] 214 [] := by
  intro H locs ls hP hD hS hl
  have hx := S.1
  have hb := S.2.1
  refine lv_lload_n hx hb dX3_joined_214 rfl (lv_at hl 0 rfl) ?_
  refine lv_ldc2 hx hb S.2.2.2.1 (S.2.2.2.2 _ lk_X3_48) dX3_joined_215 ?_
  refine W.lcmp hx hb dX3_joined_218 ?_
  refine lv_if_le (tgt := 225) hx hb dX3_joined_219 (by decide) (fun c1 => ?_) (fun c1 => ?_)
  · have hB := hB.1 c1
    refine lv_lload_n hx hb dX3_joined_225 rfl (lv_at hl 0 rfl) ?_
    refine lv_ldc2 hx hb S.2.2.2.1 (S.2.2.2.2 _ lk_X3_51) dX3_joined_226 ?_
    refine W.lcmp hx hb dX3_joined_229 ?_
    refine lv_if_ge (tgt := 238) hx hb dX3_joined_230 (by decide) (fun c2 => ?_) (fun c2 => ?_)
    · have hB := hB.1 c2
      refine lv_lload_n hx hb dX3_joined_238 rfl (lv_at hl 0 rfl) ?_
      refine lv_l2i hx hb dX3_joined_239 rfl ?_
      exact hret _ _ _ _ _ _ dX3_joined_240 hB hP hD hS
    · have hB := hB.2 c2
      refine lv_ldc hx hb S.2.2.2.1 (S.2.2.2.2 _ lk_X3_53) dX3_joined_233 ?_
      refine lv_goto (tgt := 240) hx hb dX3_joined_235 (by decide) ?_
      exact hret _ _ _ _ _ _ dX3_joined_240 hB hP hD hS
  · have hB := hB.2 c1
    refine lv_ldc hx hb S.2.2.2.1 (S.2.2.2.2 _ lk_X3_50) dX3_joined_222 ?_
    exact hret _ _ _ _ _ _ dX3_joined_224 hB hP hD hS
def B_Laws_joined_155 (post : Int32 → St → Prop) (s0 : Int64) (z0 : St) : Prop :=
  (B_Laws_joined_214 post s0 z0)
set_option maxHeartbeats 4000000 in
set_option maxRecDepth 100000 in
theorem w_Laws_joined_155 {p : Program} {l : Launch} {e : Env} {R : Room} {s : State} {m : MethodId} {args : Array Value} {below : List Frame} {meth : Method} {c : Code} {Q : State → Prop} {G : GX} {A : Nat → Prop} (S : CallFix p m c cX3_joined 5 s args GW RX3) (hE : env G A s s.heap) (hA : ∀ q, s.heap.size ≤ q → A q) (hRf : 0 ≤ R.frames) (hRl : 0 ≤ R.locals) {post : Int32 → St → Prop} (hret : RetI p l e R s m args below meth c Q 0 0 wX G A cX3_joined post) (s0 : Int64) (z0 : St) (hB : B_Laws_joined_155 post s0 z0) : Xw p l e R s m args below meth c Q 0 0 wX G A z0 5 [] 155 [.long s0] := by
  intro H locs ls hP hD hS hl
  have hx := S.1
  have hb := S.2.1
  refine lv_lstore_n (lv' := [(3, .long s0)]) hx hb dX3_joined_155 rfl hl (by decide) rfl (fun ls hl => ?_)
  refine lv_goto (tgt := 214) hx hb dX3_joined_156 (by decide) ?_
  exact w_Laws_joined_214 S hE hA hRf hRl hret s0 z0 hB _ _ _ hP hD hS (lv_sub hl [0] rfl)
def B_Laws_joined_183 (post : Int32 → St → Prop) (s0 : Int64) (z0 : St) : Prop :=
  (B_Laws_joined_214 post s0 z0)
set_option maxHeartbeats 4000000 in
set_option maxRecDepth 100000 in
theorem w_Laws_joined_183 {p : Program} {l : Launch} {e : Env} {R : Room} {s : State} {m : MethodId} {args : Array Value} {below : List Frame} {meth : Method} {c : Code} {Q : State → Prop} {G : GX} {A : Nat → Prop} (S : CallFix p m c cX3_joined 5 s args GW RX3) (hE : env G A s s.heap) (hA : ∀ q, s.heap.size ≤ q → A q) (hRf : 0 ≤ R.frames) (hRl : 0 ≤ R.locals) {post : Int32 → St → Prop} (hret : RetI p l e R s m args below meth c Q 0 0 wX G A cX3_joined post) (s0 : Int64) (z0 : St) (hB : B_Laws_joined_183 post s0 z0) : Xw p l e R s m args below meth c Q 0 0 wX G A z0 5 [] 183 [.long s0] := by
  intro H locs ls hP hD hS hl
  have hx := S.1
  have hb := S.2.1
  refine lv_lstore_n (lv' := [(3, .long s0)]) hx hb dX3_joined_183 rfl hl (by decide) rfl (fun ls hl => ?_)
  refine lv_goto (tgt := 214) hx hb dX3_joined_184 (by decide) ?_
  exact w_Laws_joined_214 S hE hA hRf hRl hret s0 z0 hB _ _ _ hP hD hS (lv_sub hl [0] rfl)
def B_Laws_joined_169 (post : Int32 → St → Prop) (s0 : Int64) (z0 : St) : Prop :=
  (B_Laws_joined_214 post s0 z0)
set_option maxHeartbeats 4000000 in
set_option maxRecDepth 100000 in
theorem w_Laws_joined_169 {p : Program} {l : Launch} {e : Env} {R : Room} {s : State} {m : MethodId} {args : Array Value} {below : List Frame} {meth : Method} {c : Code} {Q : State → Prop} {G : GX} {A : Nat → Prop} (S : CallFix p m c cX3_joined 5 s args GW RX3) (hE : env G A s s.heap) (hA : ∀ q, s.heap.size ≤ q → A q) (hRf : 0 ≤ R.frames) (hRl : 0 ≤ R.locals) {post : Int32 → St → Prop} (hret : RetI p l e R s m args below meth c Q 0 0 wX G A cX3_joined post) (s0 : Int64) (z0 : St) (hB : B_Laws_joined_169 post s0 z0) : Xw p l e R s m args below meth c Q 0 0 wX G A z0 5 [] 169 [.long s0] := by
  intro H locs ls hP hD hS hl
  have hx := S.1
  have hb := S.2.1
  refine lv_lstore_n (lv' := [(3, .long s0)]) hx hb dX3_joined_169 rfl hl (by decide) rfl (fun ls hl => ?_)
  refine lv_goto (tgt := 214) hx hb dX3_joined_170 (by decide) ?_
  exact w_Laws_joined_214 S hE hA hRf hRl hret s0 z0 hB _ _ _ hP hD hS (lv_sub hl [0] rfl)
def B_Laws_joined_197 (post : Int32 → St → Prop) (s0 : Int64) (z0 : St) : Prop :=
  (B_Laws_joined_214 post s0 z0)
set_option maxHeartbeats 4000000 in
set_option maxRecDepth 100000 in
theorem w_Laws_joined_197 {p : Program} {l : Launch} {e : Env} {R : Room} {s : State} {m : MethodId} {args : Array Value} {below : List Frame} {meth : Method} {c : Code} {Q : State → Prop} {G : GX} {A : Nat → Prop} (S : CallFix p m c cX3_joined 5 s args GW RX3) (hE : env G A s s.heap) (hA : ∀ q, s.heap.size ≤ q → A q) (hRf : 0 ≤ R.frames) (hRl : 0 ≤ R.locals) {post : Int32 → St → Prop} (hret : RetI p l e R s m args below meth c Q 0 0 wX G A cX3_joined post) (s0 : Int64) (z0 : St) (hB : B_Laws_joined_197 post s0 z0) : Xw p l e R s m args below meth c Q 0 0 wX G A z0 5 [] 197 [.long s0] := by
  intro H locs ls hP hD hS hl
  have hx := S.1
  have hb := S.2.1
  refine lv_lstore_n (lv' := [(3, .long s0)]) hx hb dX3_joined_197 rfl hl (by decide) rfl (fun ls hl => ?_)
  refine lv_goto (tgt := 214) hx hb dX3_joined_198 (by decide) ?_
  exact w_Laws_joined_214 S hE hA hRf hRl hret s0 z0 hB _ _ _ hP hD hS (lv_sub hl [0] rfl)
def S_Laws_joined (post : Int32 → St → Prop) (x0 : Int32) (x1 : Int32) (x2 : Int32) (z0 : St) : Prop :=
  ((x0 = (38 : Int32) → (∀ v1 : Int64, v1 = ((x1 &&& x2)).toInt64 → (B_Laws_joined_214 post v1 z0))) ∧ (¬ x0 = (38 : Int32) → ((x0 = (39 : Int32) → (∀ v2 : Int64, v2 = ((x1 ||| x2)).toInt64 → (B_Laws_joined_214 post v2 z0))) ∧ (¬ x0 = (39 : Int32) → ((x0 = (40 : Int32) → (∀ v3 : Int64, v3 = ((x1 ||| x2)).toInt64 → (B_Laws_joined_214 post v3 z0))) ∧ (¬ x0 = (40 : Int32) → ((x0 = (41 : Int32) → (∀ v4 : Int64, v4 = ((x1 ||| x2)).toInt64 → (B_Laws_joined_214 post v4 z0))) ∧ (¬ x0 = (41 : Int32) → ((x0 = (42 : Int32) → (∀ v5 : Int64, v5 = ((x1).toInt64 * (x2).toInt64) → (B_Laws_joined_214 post v5 z0))) ∧ (¬ x0 = (42 : Int32) → ((x0 = (43 : Int32) → (∀ v6 : Int64, v6 = ((x1).toInt64 + (x2).toInt64) → (B_Laws_joined_214 post v6 z0))) ∧ (¬ x0 = (43 : Int32) → ((x0 = (44 : Int32) → (∀ v7 : Int64, v7 = ((x1 ||| x2)).toInt64 → (B_Laws_joined_214 post v7 z0))) ∧ (¬ x0 = (44 : Int32) → ((x0 = (45 : Int32) → (∀ v8 : Int64, v8 = ((x1).toInt64 - (x2).toInt64) → (B_Laws_joined_214 post v8 z0))) ∧ (¬ x0 = (45 : Int32) → ((x0 = (46 : Int32) → (∀ v9 : Int64, v9 = ((x1 ||| x2)).toInt64 → (B_Laws_joined_214 post v9 z0))) ∧ (¬ x0 = (46 : Int32) → ((x0 = (47 : Int32) → ((x2 = 0 → (B_Laws_joined_155 post (0 : Int64) z0)) ∧ (¬ x2 = 0 → (¬ x2 = 0 ∧ (B_Laws_joined_155 post (((x1 / x2)).toInt64) z0))))) ∧ (¬ x0 = (47 : Int32) → ((x0 = (48 : Int32) → (∀ v11 : Int64, v11 = ((x1 ||| x2)).toInt64 → (B_Laws_joined_214 post v11 z0))) ∧ (¬ x0 = (48 : Int32) → ((x0 = (49 : Int32) → (∀ v12 : Int64, v12 = ((x1 ||| x2)).toInt64 → (B_Laws_joined_214 post v12 z0))) ∧ (¬ x0 = (49 : Int32) → ((x0 = (50 : Int32) → (∀ v13 : Int64, v13 = ((x1 ||| x2)).toInt64 → (B_Laws_joined_214 post v13 z0))) ∧ (¬ x0 = (50 : Int32) → ((x0 = (51 : Int32) → (∀ v14 : Int64, v14 = ((x1 ||| x2)).toInt64 → (B_Laws_joined_214 post v14 z0))) ∧ (¬ x0 = (51 : Int32) → ((x0 = (52 : Int32) → (∀ v15 : Int64, v15 = ((x1 ||| x2)).toInt64 → (B_Laws_joined_214 post v15 z0))) ∧ (¬ x0 = (52 : Int32) → ((x0 = (53 : Int32) → (∀ v16 : Int64, v16 = ((x1 ||| x2)).toInt64 → (B_Laws_joined_214 post v16 z0))) ∧ (¬ x0 = (53 : Int32) → ((x0 = (54 : Int32) → (∀ v17 : Int64, v17 = ((x1 ||| x2)).toInt64 → (B_Laws_joined_214 post v17 z0))) ∧ (¬ x0 = (54 : Int32) → ((x0 = (55 : Int32) → (∀ v18 : Int64, v18 = ((x1 ||| x2)).toInt64 → (B_Laws_joined_214 post v18 z0))) ∧ (¬ x0 = (55 : Int32) → ((x0 = (56 : Int32) → (∀ v19 : Int64, v19 = ((x1 ||| x2)).toInt64 → (B_Laws_joined_214 post v19 z0))) ∧ (¬ x0 = (56 : Int32) → ((x0 = (57 : Int32) → (∀ v20 : Int64, v20 = ((x1 ||| x2)).toInt64 → (B_Laws_joined_214 post v20 z0))) ∧ (¬ x0 = (57 : Int32) → ((x0 = (58 : Int32) → (∀ v21 : Int64, v21 = ((x1 ||| x2)).toInt64 → (B_Laws_joined_214 post v21 z0))) ∧ (¬ x0 = (58 : Int32) → ((x0 = (59 : Int32) → (∀ v22 : Int64, v22 = ((x1 ||| x2)).toInt64 → (B_Laws_joined_214 post v22 z0))) ∧ (¬ x0 = (59 : Int32) → ((x0 = (60 : Int32) → ((x2 ≤ x1 → (B_Laws_joined_183 post (0 : Int64) z0)) ∧ (¬ x2 ≤ x1 → (B_Laws_joined_183 post (1 : Int64) z0)))) ∧ (¬ x0 = (60 : Int32) → ((x0 = (61 : Int32) → ((x1 = x2 → (B_Laws_joined_169 post (1 : Int64) z0)) ∧ (¬ x1 = x2 → (B_Laws_joined_169 post (0 : Int64) z0)))) ∧ (¬ x0 = (61 : Int32) → ((x0 = (62 : Int32) → ((x1 ≤ x2 → (B_Laws_joined_197 post (0 : Int64) z0)) ∧ (¬ x1 ≤ x2 → (B_Laws_joined_197 post (1 : Int64) z0)))) ∧ (¬ x0 = (62 : Int32) → (∀ v26 : Int64, v26 = ((x1 ||| x2)).toInt64 → (B_Laws_joined_214 post v26 z0))))))))))))))))))))))))))))))))))))))))))))))))))))
set_option maxHeartbeats 4000000 in
set_option maxRecDepth 100000 in
theorem w_Laws_joined_0 {p : Program} {l : Launch} {e : Env} {R : Room} {s : State} {m : MethodId} {args : Array Value} {below : List Frame} {meth : Method} {c : Code} {Q : State → Prop} {G : GX} {A : Nat → Prop} (S : CallFix p m c cX3_joined 5 s args GW RX3) (hE : env G A s s.heap) (hA : ∀ q, s.heap.size ≤ q → A q) (hRf : 0 ≤ R.frames) (hRl : 0 ≤ R.locals) {post : Int32 → St → Prop} (hret : RetI p l e R s m args below meth c Q 0 0 wX G A cX3_joined post) (x0 : Int32) (x1 : Int32) (x2 : Int32) (z0 : St) (hB : S_Laws_joined post x0 x1 x2 z0) : Xw p l e R s m args below meth c Q 0 0 wX G A z0 5 [(0, .int x0), (1, .int x1), (2, .int x2)] 0 [] := by
  intro H locs ls hP hD hS hl
  have hx := S.1
  have hb := S.2.1
  refine lv_iload_n hx hb dX3_joined_0 rfl (lv_at hl 0 rfl) ?_
  -- switch
  by_cases q38 : x0 = (38 : Int32)
  · have hB := hB.1 q38
    refine lv_tableIn (tgt := 201) (off := 200) hx hb dX3_joined_1 (by rw [q38]; decide) (by rw [q38]; decide) (by rw [q38]; decide) (by decide) ?_
    refine lv_iload_n hx hb dX3_joined_201 rfl (lv_at hl 1 rfl) ?_
    refine lv_iload_n hx hb dX3_joined_202 rfl (lv_at hl 2 rfl) ?_
    refine lv_iand hx hb dX3_joined_203 ?_
    refine lv_i2l hx hb dX3_joined_204 rfl ?_
    refine lv_topl (fun v1 ev1 => ?_)
    have hB := hB v1 ev1
    refine lv_lstore_n (lv' := [(3, .long v1), (0, .int x0), (1, .int x1), (2, .int x2)]) hx hb dX3_joined_205 rfl hl (by decide) rfl (fun ls hl => ?_)
    refine lv_goto (tgt := 214) hx hb dX3_joined_206 (by decide) ?_
    exact w_Laws_joined_214 S hE hA hRf hRl hret v1 z0 hB _ _ _ hP hD hS (lv_sub hl [0] rfl)
  have hB := hB.2 q38
  by_cases q39 : x0 = (39 : Int32)
  · have hB := hB.1 q39
    refine lv_tableIn (tgt := 209) (off := 208) hx hb dX3_joined_1 (by rw [q39]; decide) (by rw [q39]; decide) (by rw [q39]; decide) (by decide) ?_
    refine lv_iload_n hx hb dX3_joined_209 rfl (lv_at hl 1 rfl) ?_
    refine lv_iload_n hx hb dX3_joined_210 rfl (lv_at hl 2 rfl) ?_
    refine lv_ior hx hb dX3_joined_211 ?_
    refine lv_i2l hx hb dX3_joined_212 rfl ?_
    refine lv_topl (fun v2 ev2 => ?_)
    have hB := hB v2 ev2
    refine lv_lstore_n (lv' := [(3, .long v2), (0, .int x0), (1, .int x1), (2, .int x2)]) hx hb dX3_joined_213 rfl hl (by decide) rfl (fun ls hl => ?_)
    exact w_Laws_joined_214 S hE hA hRf hRl hret v2 z0 hB _ _ _ hP hD hS (lv_sub hl [0] rfl)
  have hB := hB.2 q39
  by_cases q40 : x0 = (40 : Int32)
  · have hB := hB.1 q40
    refine lv_tableIn (tgt := 209) (off := 208) hx hb dX3_joined_1 (by rw [q40]; decide) (by rw [q40]; decide) (by rw [q40]; decide) (by decide) ?_
    refine lv_iload_n hx hb dX3_joined_209 rfl (lv_at hl 1 rfl) ?_
    refine lv_iload_n hx hb dX3_joined_210 rfl (lv_at hl 2 rfl) ?_
    refine lv_ior hx hb dX3_joined_211 ?_
    refine lv_i2l hx hb dX3_joined_212 rfl ?_
    refine lv_topl (fun v3 ev3 => ?_)
    have hB := hB v3 ev3
    refine lv_lstore_n (lv' := [(3, .long v3), (0, .int x0), (1, .int x1), (2, .int x2)]) hx hb dX3_joined_213 rfl hl (by decide) rfl (fun ls hl => ?_)
    exact w_Laws_joined_214 S hE hA hRf hRl hret v3 z0 hB _ _ _ hP hD hS (lv_sub hl [0] rfl)
  have hB := hB.2 q40
  by_cases q41 : x0 = (41 : Int32)
  · have hB := hB.1 q41
    refine lv_tableIn (tgt := 209) (off := 208) hx hb dX3_joined_1 (by rw [q41]; decide) (by rw [q41]; decide) (by rw [q41]; decide) (by decide) ?_
    refine lv_iload_n hx hb dX3_joined_209 rfl (lv_at hl 1 rfl) ?_
    refine lv_iload_n hx hb dX3_joined_210 rfl (lv_at hl 2 rfl) ?_
    refine lv_ior hx hb dX3_joined_211 ?_
    refine lv_i2l hx hb dX3_joined_212 rfl ?_
    refine lv_topl (fun v4 ev4 => ?_)
    have hB := hB v4 ev4
    refine lv_lstore_n (lv' := [(3, .long v4), (0, .int x0), (1, .int x1), (2, .int x2)]) hx hb dX3_joined_213 rfl hl (by decide) rfl (fun ls hl => ?_)
    exact w_Laws_joined_214 S hE hA hRf hRl hret v4 z0 hB _ _ _ hP hD hS (lv_sub hl [0] rfl)
  have hB := hB.2 q41
  by_cases q42 : x0 = (42 : Int32)
  · have hB := hB.1 q42
    refine lv_tableIn (tgt := 134) (off := 133) hx hb dX3_joined_1 (by rw [q42]; decide) (by rw [q42]; decide) (by rw [q42]; decide) (by decide) ?_
    refine lv_iload_n hx hb dX3_joined_134 rfl (lv_at hl 1 rfl) ?_
    refine lv_i2l hx hb dX3_joined_135 rfl ?_
    refine lv_iload_n hx hb dX3_joined_136 rfl (lv_at hl 2 rfl) ?_
    refine lv_i2l hx hb dX3_joined_137 rfl ?_
    refine lv_lmul hx hb dX3_joined_138 ?_
    refine lv_topl (fun v5 ev5 => ?_)
    have hB := hB v5 ev5
    refine lv_lstore_n (lv' := [(3, .long v5), (0, .int x0), (1, .int x1), (2, .int x2)]) hx hb dX3_joined_139 rfl hl (by decide) rfl (fun ls hl => ?_)
    refine lv_goto (tgt := 214) hx hb dX3_joined_140 (by decide) ?_
    exact w_Laws_joined_214 S hE hA hRf hRl hret v5 z0 hB _ _ _ hP hD hS (lv_sub hl [0] rfl)
  have hB := hB.2 q42
  by_cases q43 : x0 = (43 : Int32)
  · have hB := hB.1 q43
    refine lv_tableIn (tgt := 116) (off := 115) hx hb dX3_joined_1 (by rw [q43]; decide) (by rw [q43]; decide) (by rw [q43]; decide) (by decide) ?_
    refine lv_iload_n hx hb dX3_joined_116 rfl (lv_at hl 1 rfl) ?_
    refine lv_i2l hx hb dX3_joined_117 rfl ?_
    refine lv_iload_n hx hb dX3_joined_118 rfl (lv_at hl 2 rfl) ?_
    refine lv_i2l hx hb dX3_joined_119 rfl ?_
    refine lv_ladd hx hb dX3_joined_120 ?_
    refine lv_topl (fun v6 ev6 => ?_)
    have hB := hB v6 ev6
    refine lv_lstore_n (lv' := [(3, .long v6), (0, .int x0), (1, .int x1), (2, .int x2)]) hx hb dX3_joined_121 rfl hl (by decide) rfl (fun ls hl => ?_)
    refine lv_goto (tgt := 214) hx hb dX3_joined_122 (by decide) ?_
    exact w_Laws_joined_214 S hE hA hRf hRl hret v6 z0 hB _ _ _ hP hD hS (lv_sub hl [0] rfl)
  have hB := hB.2 q43
  by_cases q44 : x0 = (44 : Int32)
  · have hB := hB.1 q44
    refine lv_tableIn (tgt := 209) (off := 208) hx hb dX3_joined_1 (by rw [q44]; decide) (by rw [q44]; decide) (by rw [q44]; decide) (by decide) ?_
    refine lv_iload_n hx hb dX3_joined_209 rfl (lv_at hl 1 rfl) ?_
    refine lv_iload_n hx hb dX3_joined_210 rfl (lv_at hl 2 rfl) ?_
    refine lv_ior hx hb dX3_joined_211 ?_
    refine lv_i2l hx hb dX3_joined_212 rfl ?_
    refine lv_topl (fun v7 ev7 => ?_)
    have hB := hB v7 ev7
    refine lv_lstore_n (lv' := [(3, .long v7), (0, .int x0), (1, .int x1), (2, .int x2)]) hx hb dX3_joined_213 rfl hl (by decide) rfl (fun ls hl => ?_)
    exact w_Laws_joined_214 S hE hA hRf hRl hret v7 z0 hB _ _ _ hP hD hS (lv_sub hl [0] rfl)
  have hB := hB.2 q44
  by_cases q45 : x0 = (45 : Int32)
  · have hB := hB.1 q45
    refine lv_tableIn (tgt := 125) (off := 124) hx hb dX3_joined_1 (by rw [q45]; decide) (by rw [q45]; decide) (by rw [q45]; decide) (by decide) ?_
    refine lv_iload_n hx hb dX3_joined_125 rfl (lv_at hl 1 rfl) ?_
    refine lv_i2l hx hb dX3_joined_126 rfl ?_
    refine lv_iload_n hx hb dX3_joined_127 rfl (lv_at hl 2 rfl) ?_
    refine lv_i2l hx hb dX3_joined_128 rfl ?_
    refine lv_lsub hx hb dX3_joined_129 ?_
    refine lv_topl (fun v8 ev8 => ?_)
    have hB := hB v8 ev8
    refine lv_lstore_n (lv' := [(3, .long v8), (0, .int x0), (1, .int x1), (2, .int x2)]) hx hb dX3_joined_130 rfl hl (by decide) rfl (fun ls hl => ?_)
    refine lv_goto (tgt := 214) hx hb dX3_joined_131 (by decide) ?_
    exact w_Laws_joined_214 S hE hA hRf hRl hret v8 z0 hB _ _ _ hP hD hS (lv_sub hl [0] rfl)
  have hB := hB.2 q45
  by_cases q46 : x0 = (46 : Int32)
  · have hB := hB.1 q46
    refine lv_tableIn (tgt := 209) (off := 208) hx hb dX3_joined_1 (by rw [q46]; decide) (by rw [q46]; decide) (by rw [q46]; decide) (by decide) ?_
    refine lv_iload_n hx hb dX3_joined_209 rfl (lv_at hl 1 rfl) ?_
    refine lv_iload_n hx hb dX3_joined_210 rfl (lv_at hl 2 rfl) ?_
    refine lv_ior hx hb dX3_joined_211 ?_
    refine lv_i2l hx hb dX3_joined_212 rfl ?_
    refine lv_topl (fun v9 ev9 => ?_)
    have hB := hB v9 ev9
    refine lv_lstore_n (lv' := [(3, .long v9), (0, .int x0), (1, .int x1), (2, .int x2)]) hx hb dX3_joined_213 rfl hl (by decide) rfl (fun ls hl => ?_)
    exact w_Laws_joined_214 S hE hA hRf hRl hret v9 z0 hB _ _ _ hP hD hS (lv_sub hl [0] rfl)
  have hB := hB.2 q46
  by_cases q47 : x0 = (47 : Int32)
  · have hB := hB.1 q47
    refine lv_tableIn (tgt := 143) (off := 142) hx hb dX3_joined_1 (by rw [q47]; decide) (by rw [q47]; decide) (by rw [q47]; decide) (by decide) ?_
    refine lv_iload_n hx hb dX3_joined_143 rfl (lv_at hl 2 rfl) ?_
    refine lv_if_ne (tgt := 151) hx hb dX3_joined_144 (by decide) (fun c10 => ?_) (fun c10 => ?_)
    · have hB := hB.2 c10
      refine lv_iload_n hx hb dX3_joined_151 rfl (lv_at hl 1 rfl) ?_
      refine lv_iload_n hx hb dX3_joined_152 rfl (lv_at hl 2 rfl) ?_
      obtain ⟨hne, hB⟩ := hB
      refine lv_idiv hx hb dX3_joined_153 hne ?_
      refine lv_i2l hx hb dX3_joined_154 rfl ?_
      exact w_Laws_joined_155 S hE hA hRf hRl hret (((x1 / x2)).toInt64) z0 hB _ _ _ hP hD hS (lv_sub hl [] rfl)
    · have hB := hB.1 c10
      refine lv_lconst (v := 0) hx hb dX3_joined_147 (by decide) ?_
      refine lv_goto (tgt := 155) hx hb dX3_joined_148 (by decide) ?_
      exact w_Laws_joined_155 S hE hA hRf hRl hret (0 : Int64) z0 hB _ _ _ hP hD hS (lv_sub hl [] rfl)
  have hB := hB.2 q47
  by_cases q48 : x0 = (48 : Int32)
  · have hB := hB.1 q48
    refine lv_tableIn (tgt := 209) (off := 208) hx hb dX3_joined_1 (by rw [q48]; decide) (by rw [q48]; decide) (by rw [q48]; decide) (by decide) ?_
    refine lv_iload_n hx hb dX3_joined_209 rfl (lv_at hl 1 rfl) ?_
    refine lv_iload_n hx hb dX3_joined_210 rfl (lv_at hl 2 rfl) ?_
    refine lv_ior hx hb dX3_joined_211 ?_
    refine lv_i2l hx hb dX3_joined_212 rfl ?_
    refine lv_topl (fun v11 ev11 => ?_)
    have hB := hB v11 ev11
    refine lv_lstore_n (lv' := [(3, .long v11), (0, .int x0), (1, .int x1), (2, .int x2)]) hx hb dX3_joined_213 rfl hl (by decide) rfl (fun ls hl => ?_)
    exact w_Laws_joined_214 S hE hA hRf hRl hret v11 z0 hB _ _ _ hP hD hS (lv_sub hl [0] rfl)
  have hB := hB.2 q48
  by_cases q49 : x0 = (49 : Int32)
  · have hB := hB.1 q49
    refine lv_tableIn (tgt := 209) (off := 208) hx hb dX3_joined_1 (by rw [q49]; decide) (by rw [q49]; decide) (by rw [q49]; decide) (by decide) ?_
    refine lv_iload_n hx hb dX3_joined_209 rfl (lv_at hl 1 rfl) ?_
    refine lv_iload_n hx hb dX3_joined_210 rfl (lv_at hl 2 rfl) ?_
    refine lv_ior hx hb dX3_joined_211 ?_
    refine lv_i2l hx hb dX3_joined_212 rfl ?_
    refine lv_topl (fun v12 ev12 => ?_)
    have hB := hB v12 ev12
    refine lv_lstore_n (lv' := [(3, .long v12), (0, .int x0), (1, .int x1), (2, .int x2)]) hx hb dX3_joined_213 rfl hl (by decide) rfl (fun ls hl => ?_)
    exact w_Laws_joined_214 S hE hA hRf hRl hret v12 z0 hB _ _ _ hP hD hS (lv_sub hl [0] rfl)
  have hB := hB.2 q49
  by_cases q50 : x0 = (50 : Int32)
  · have hB := hB.1 q50
    refine lv_tableIn (tgt := 209) (off := 208) hx hb dX3_joined_1 (by rw [q50]; decide) (by rw [q50]; decide) (by rw [q50]; decide) (by decide) ?_
    refine lv_iload_n hx hb dX3_joined_209 rfl (lv_at hl 1 rfl) ?_
    refine lv_iload_n hx hb dX3_joined_210 rfl (lv_at hl 2 rfl) ?_
    refine lv_ior hx hb dX3_joined_211 ?_
    refine lv_i2l hx hb dX3_joined_212 rfl ?_
    refine lv_topl (fun v13 ev13 => ?_)
    have hB := hB v13 ev13
    refine lv_lstore_n (lv' := [(3, .long v13), (0, .int x0), (1, .int x1), (2, .int x2)]) hx hb dX3_joined_213 rfl hl (by decide) rfl (fun ls hl => ?_)
    exact w_Laws_joined_214 S hE hA hRf hRl hret v13 z0 hB _ _ _ hP hD hS (lv_sub hl [0] rfl)
  have hB := hB.2 q50
  by_cases q51 : x0 = (51 : Int32)
  · have hB := hB.1 q51
    refine lv_tableIn (tgt := 209) (off := 208) hx hb dX3_joined_1 (by rw [q51]; decide) (by rw [q51]; decide) (by rw [q51]; decide) (by decide) ?_
    refine lv_iload_n hx hb dX3_joined_209 rfl (lv_at hl 1 rfl) ?_
    refine lv_iload_n hx hb dX3_joined_210 rfl (lv_at hl 2 rfl) ?_
    refine lv_ior hx hb dX3_joined_211 ?_
    refine lv_i2l hx hb dX3_joined_212 rfl ?_
    refine lv_topl (fun v14 ev14 => ?_)
    have hB := hB v14 ev14
    refine lv_lstore_n (lv' := [(3, .long v14), (0, .int x0), (1, .int x1), (2, .int x2)]) hx hb dX3_joined_213 rfl hl (by decide) rfl (fun ls hl => ?_)
    exact w_Laws_joined_214 S hE hA hRf hRl hret v14 z0 hB _ _ _ hP hD hS (lv_sub hl [0] rfl)
  have hB := hB.2 q51
  by_cases q52 : x0 = (52 : Int32)
  · have hB := hB.1 q52
    refine lv_tableIn (tgt := 209) (off := 208) hx hb dX3_joined_1 (by rw [q52]; decide) (by rw [q52]; decide) (by rw [q52]; decide) (by decide) ?_
    refine lv_iload_n hx hb dX3_joined_209 rfl (lv_at hl 1 rfl) ?_
    refine lv_iload_n hx hb dX3_joined_210 rfl (lv_at hl 2 rfl) ?_
    refine lv_ior hx hb dX3_joined_211 ?_
    refine lv_i2l hx hb dX3_joined_212 rfl ?_
    refine lv_topl (fun v15 ev15 => ?_)
    have hB := hB v15 ev15
    refine lv_lstore_n (lv' := [(3, .long v15), (0, .int x0), (1, .int x1), (2, .int x2)]) hx hb dX3_joined_213 rfl hl (by decide) rfl (fun ls hl => ?_)
    exact w_Laws_joined_214 S hE hA hRf hRl hret v15 z0 hB _ _ _ hP hD hS (lv_sub hl [0] rfl)
  have hB := hB.2 q52
  by_cases q53 : x0 = (53 : Int32)
  · have hB := hB.1 q53
    refine lv_tableIn (tgt := 209) (off := 208) hx hb dX3_joined_1 (by rw [q53]; decide) (by rw [q53]; decide) (by rw [q53]; decide) (by decide) ?_
    refine lv_iload_n hx hb dX3_joined_209 rfl (lv_at hl 1 rfl) ?_
    refine lv_iload_n hx hb dX3_joined_210 rfl (lv_at hl 2 rfl) ?_
    refine lv_ior hx hb dX3_joined_211 ?_
    refine lv_i2l hx hb dX3_joined_212 rfl ?_
    refine lv_topl (fun v16 ev16 => ?_)
    have hB := hB v16 ev16
    refine lv_lstore_n (lv' := [(3, .long v16), (0, .int x0), (1, .int x1), (2, .int x2)]) hx hb dX3_joined_213 rfl hl (by decide) rfl (fun ls hl => ?_)
    exact w_Laws_joined_214 S hE hA hRf hRl hret v16 z0 hB _ _ _ hP hD hS (lv_sub hl [0] rfl)
  have hB := hB.2 q53
  by_cases q54 : x0 = (54 : Int32)
  · have hB := hB.1 q54
    refine lv_tableIn (tgt := 209) (off := 208) hx hb dX3_joined_1 (by rw [q54]; decide) (by rw [q54]; decide) (by rw [q54]; decide) (by decide) ?_
    refine lv_iload_n hx hb dX3_joined_209 rfl (lv_at hl 1 rfl) ?_
    refine lv_iload_n hx hb dX3_joined_210 rfl (lv_at hl 2 rfl) ?_
    refine lv_ior hx hb dX3_joined_211 ?_
    refine lv_i2l hx hb dX3_joined_212 rfl ?_
    refine lv_topl (fun v17 ev17 => ?_)
    have hB := hB v17 ev17
    refine lv_lstore_n (lv' := [(3, .long v17), (0, .int x0), (1, .int x1), (2, .int x2)]) hx hb dX3_joined_213 rfl hl (by decide) rfl (fun ls hl => ?_)
    exact w_Laws_joined_214 S hE hA hRf hRl hret v17 z0 hB _ _ _ hP hD hS (lv_sub hl [0] rfl)
  have hB := hB.2 q54
  by_cases q55 : x0 = (55 : Int32)
  · have hB := hB.1 q55
    refine lv_tableIn (tgt := 209) (off := 208) hx hb dX3_joined_1 (by rw [q55]; decide) (by rw [q55]; decide) (by rw [q55]; decide) (by decide) ?_
    refine lv_iload_n hx hb dX3_joined_209 rfl (lv_at hl 1 rfl) ?_
    refine lv_iload_n hx hb dX3_joined_210 rfl (lv_at hl 2 rfl) ?_
    refine lv_ior hx hb dX3_joined_211 ?_
    refine lv_i2l hx hb dX3_joined_212 rfl ?_
    refine lv_topl (fun v18 ev18 => ?_)
    have hB := hB v18 ev18
    refine lv_lstore_n (lv' := [(3, .long v18), (0, .int x0), (1, .int x1), (2, .int x2)]) hx hb dX3_joined_213 rfl hl (by decide) rfl (fun ls hl => ?_)
    exact w_Laws_joined_214 S hE hA hRf hRl hret v18 z0 hB _ _ _ hP hD hS (lv_sub hl [0] rfl)
  have hB := hB.2 q55
  by_cases q56 : x0 = (56 : Int32)
  · have hB := hB.1 q56
    refine lv_tableIn (tgt := 209) (off := 208) hx hb dX3_joined_1 (by rw [q56]; decide) (by rw [q56]; decide) (by rw [q56]; decide) (by decide) ?_
    refine lv_iload_n hx hb dX3_joined_209 rfl (lv_at hl 1 rfl) ?_
    refine lv_iload_n hx hb dX3_joined_210 rfl (lv_at hl 2 rfl) ?_
    refine lv_ior hx hb dX3_joined_211 ?_
    refine lv_i2l hx hb dX3_joined_212 rfl ?_
    refine lv_topl (fun v19 ev19 => ?_)
    have hB := hB v19 ev19
    refine lv_lstore_n (lv' := [(3, .long v19), (0, .int x0), (1, .int x1), (2, .int x2)]) hx hb dX3_joined_213 rfl hl (by decide) rfl (fun ls hl => ?_)
    exact w_Laws_joined_214 S hE hA hRf hRl hret v19 z0 hB _ _ _ hP hD hS (lv_sub hl [0] rfl)
  have hB := hB.2 q56
  by_cases q57 : x0 = (57 : Int32)
  · have hB := hB.1 q57
    refine lv_tableIn (tgt := 209) (off := 208) hx hb dX3_joined_1 (by rw [q57]; decide) (by rw [q57]; decide) (by rw [q57]; decide) (by decide) ?_
    refine lv_iload_n hx hb dX3_joined_209 rfl (lv_at hl 1 rfl) ?_
    refine lv_iload_n hx hb dX3_joined_210 rfl (lv_at hl 2 rfl) ?_
    refine lv_ior hx hb dX3_joined_211 ?_
    refine lv_i2l hx hb dX3_joined_212 rfl ?_
    refine lv_topl (fun v20 ev20 => ?_)
    have hB := hB v20 ev20
    refine lv_lstore_n (lv' := [(3, .long v20), (0, .int x0), (1, .int x1), (2, .int x2)]) hx hb dX3_joined_213 rfl hl (by decide) rfl (fun ls hl => ?_)
    exact w_Laws_joined_214 S hE hA hRf hRl hret v20 z0 hB _ _ _ hP hD hS (lv_sub hl [0] rfl)
  have hB := hB.2 q57
  by_cases q58 : x0 = (58 : Int32)
  · have hB := hB.1 q58
    refine lv_tableIn (tgt := 209) (off := 208) hx hb dX3_joined_1 (by rw [q58]; decide) (by rw [q58]; decide) (by rw [q58]; decide) (by decide) ?_
    refine lv_iload_n hx hb dX3_joined_209 rfl (lv_at hl 1 rfl) ?_
    refine lv_iload_n hx hb dX3_joined_210 rfl (lv_at hl 2 rfl) ?_
    refine lv_ior hx hb dX3_joined_211 ?_
    refine lv_i2l hx hb dX3_joined_212 rfl ?_
    refine lv_topl (fun v21 ev21 => ?_)
    have hB := hB v21 ev21
    refine lv_lstore_n (lv' := [(3, .long v21), (0, .int x0), (1, .int x1), (2, .int x2)]) hx hb dX3_joined_213 rfl hl (by decide) rfl (fun ls hl => ?_)
    exact w_Laws_joined_214 S hE hA hRf hRl hret v21 z0 hB _ _ _ hP hD hS (lv_sub hl [0] rfl)
  have hB := hB.2 q58
  by_cases q59 : x0 = (59 : Int32)
  · have hB := hB.1 q59
    refine lv_tableIn (tgt := 209) (off := 208) hx hb dX3_joined_1 (by rw [q59]; decide) (by rw [q59]; decide) (by rw [q59]; decide) (by decide) ?_
    refine lv_iload_n hx hb dX3_joined_209 rfl (lv_at hl 1 rfl) ?_
    refine lv_iload_n hx hb dX3_joined_210 rfl (lv_at hl 2 rfl) ?_
    refine lv_ior hx hb dX3_joined_211 ?_
    refine lv_i2l hx hb dX3_joined_212 rfl ?_
    refine lv_topl (fun v22 ev22 => ?_)
    have hB := hB v22 ev22
    refine lv_lstore_n (lv' := [(3, .long v22), (0, .int x0), (1, .int x1), (2, .int x2)]) hx hb dX3_joined_213 rfl hl (by decide) rfl (fun ls hl => ?_)
    exact w_Laws_joined_214 S hE hA hRf hRl hret v22 z0 hB _ _ _ hP hD hS (lv_sub hl [0] rfl)
  have hB := hB.2 q59
  by_cases q60 : x0 = (60 : Int32)
  · have hB := hB.1 q60
    refine lv_tableIn (tgt := 173) (off := 172) hx hb dX3_joined_1 (by rw [q60]; decide) (by rw [q60]; decide) (by rw [q60]; decide) (by decide) ?_
    refine lv_iload_n hx hb dX3_joined_173 rfl (lv_at hl 1 rfl) ?_
    refine lv_iload_n hx hb dX3_joined_174 rfl (lv_at hl 2 rfl) ?_
    refine lv_icmp_ge (tgt := 182) hx hb dX3_joined_175 (by decide) (fun c23 => ?_) (fun c23 => ?_)
    · have hB := hB.1 c23
      refine lv_lconst (v := 0) hx hb dX3_joined_182 (by decide) ?_
      exact w_Laws_joined_183 S hE hA hRf hRl hret (0 : Int64) z0 hB _ _ _ hP hD hS (lv_sub hl [] rfl)
    · have hB := hB.2 c23
      refine lv_lconst (v := 1) hx hb dX3_joined_178 (by decide) ?_
      refine lv_goto (tgt := 183) hx hb dX3_joined_179 (by decide) ?_
      exact w_Laws_joined_183 S hE hA hRf hRl hret (1 : Int64) z0 hB _ _ _ hP hD hS (lv_sub hl [] rfl)
  have hB := hB.2 q60
  by_cases q61 : x0 = (61 : Int32)
  · have hB := hB.1 q61
    refine lv_tableIn (tgt := 159) (off := 158) hx hb dX3_joined_1 (by rw [q61]; decide) (by rw [q61]; decide) (by rw [q61]; decide) (by decide) ?_
    refine lv_iload_n hx hb dX3_joined_159 rfl (lv_at hl 1 rfl) ?_
    refine lv_iload_n hx hb dX3_joined_160 rfl (lv_at hl 2 rfl) ?_
    refine lv_icmp_ne (tgt := 168) hx hb dX3_joined_161 (by decide) (fun c24 => ?_) (fun c24 => ?_)
    · have hB := hB.2 c24
      refine lv_lconst (v := 0) hx hb dX3_joined_168 (by decide) ?_
      exact w_Laws_joined_169 S hE hA hRf hRl hret (0 : Int64) z0 hB _ _ _ hP hD hS (lv_sub hl [] rfl)
    · have hB := hB.1 c24
      refine lv_lconst (v := 1) hx hb dX3_joined_164 (by decide) ?_
      refine lv_goto (tgt := 169) hx hb dX3_joined_165 (by decide) ?_
      exact w_Laws_joined_169 S hE hA hRf hRl hret (1 : Int64) z0 hB _ _ _ hP hD hS (lv_sub hl [] rfl)
  have hB := hB.2 q61
  by_cases q62 : x0 = (62 : Int32)
  · have hB := hB.1 q62
    refine lv_tableIn (tgt := 187) (off := 186) hx hb dX3_joined_1 (by rw [q62]; decide) (by rw [q62]; decide) (by rw [q62]; decide) (by decide) ?_
    refine lv_iload_n hx hb dX3_joined_187 rfl (lv_at hl 1 rfl) ?_
    refine lv_iload_n hx hb dX3_joined_188 rfl (lv_at hl 2 rfl) ?_
    refine lv_icmp_le (tgt := 196) hx hb dX3_joined_189 (by decide) (fun c25 => ?_) (fun c25 => ?_)
    · have hB := hB.1 c25
      refine lv_lconst (v := 0) hx hb dX3_joined_196 (by decide) ?_
      exact w_Laws_joined_197 S hE hA hRf hRl hret (0 : Int64) z0 hB _ _ _ hP hD hS (lv_sub hl [] rfl)
    · have hB := hB.2 c25
      refine lv_lconst (v := 1) hx hb dX3_joined_192 (by decide) ?_
      refine lv_goto (tgt := 197) hx hb dX3_joined_193 (by decide) ?_
      exact w_Laws_joined_197 S hE hA hRf hRl hret (1 : Int64) z0 hB _ _ _ hP hD hS (lv_sub hl [] rfl)
  have hB := hB.2 q62
  have t38 := lv_neT q38 (show ((38 : Int32)).toInt = 38 by decide)
  have t39 := lv_neT q39 (show ((39 : Int32)).toInt = 39 by decide)
  have t40 := lv_neT q40 (show ((40 : Int32)).toInt = 40 by decide)
  have t41 := lv_neT q41 (show ((41 : Int32)).toInt = 41 by decide)
  have t42 := lv_neT q42 (show ((42 : Int32)).toInt = 42 by decide)
  have t43 := lv_neT q43 (show ((43 : Int32)).toInt = 43 by decide)
  have t44 := lv_neT q44 (show ((44 : Int32)).toInt = 44 by decide)
  have t45 := lv_neT q45 (show ((45 : Int32)).toInt = 45 by decide)
  have t46 := lv_neT q46 (show ((46 : Int32)).toInt = 46 by decide)
  have t47 := lv_neT q47 (show ((47 : Int32)).toInt = 47 by decide)
  have t48 := lv_neT q48 (show ((48 : Int32)).toInt = 48 by decide)
  have t49 := lv_neT q49 (show ((49 : Int32)).toInt = 49 by decide)
  have t50 := lv_neT q50 (show ((50 : Int32)).toInt = 50 by decide)
  have t51 := lv_neT q51 (show ((51 : Int32)).toInt = 51 by decide)
  have t52 := lv_neT q52 (show ((52 : Int32)).toInt = 52 by decide)
  have t53 := lv_neT q53 (show ((53 : Int32)).toInt = 53 by decide)
  have t54 := lv_neT q54 (show ((54 : Int32)).toInt = 54 by decide)
  have t55 := lv_neT q55 (show ((55 : Int32)).toInt = 55 by decide)
  have t56 := lv_neT q56 (show ((56 : Int32)).toInt = 56 by decide)
  have t57 := lv_neT q57 (show ((57 : Int32)).toInt = 57 by decide)
  have t58 := lv_neT q58 (show ((58 : Int32)).toInt = 58 by decide)
  have t59 := lv_neT q59 (show ((59 : Int32)).toInt = 59 by decide)
  have t60 := lv_neT q60 (show ((60 : Int32)).toInt = 60 by decide)
  have t61 := lv_neT q61 (show ((61 : Int32)).toInt = 61 by decide)
  have t62 := lv_neT q62 (show ((62 : Int32)).toInt = 62 by decide)
  refine lv_tableOut (tgt := 209) hx hb dX3_joined_1 (by omega) (by decide) ?_
  refine lv_iload_n hx hb dX3_joined_209 rfl (lv_at hl 1 rfl) ?_
  refine lv_iload_n hx hb dX3_joined_210 rfl (lv_at hl 2 rfl) ?_
  refine lv_ior hx hb dX3_joined_211 ?_
  refine lv_i2l hx hb dX3_joined_212 rfl ?_
  refine lv_topl (fun v26 ev26 => ?_)
  have hB := hB v26 ev26
  refine lv_lstore_n (lv' := [(3, .long v26), (0, .int x0), (1, .int x1), (2, .int x2)]) hx hb dX3_joined_213 rfl hl (by decide) rfl (fun ls hl => ?_)
  exact w_Laws_joined_214 S hE hA hRf hRl hret v26 z0 hB _ _ _ hP hD hS (lv_sub hl [0] rfl)
set_option maxHeartbeats 4000000 in
set_option maxRecDepth 100000 in
theorem c_Laws_joined (l : Launch) (G : GX) (z0 : St) (sz : Nat) (x0 : Int32) (x1 : Int32) (x2 : Int32) (post : Int32 → St → Prop) : MetI l wX yX3_joined cX3_joined 5 (some .int) ({ frames := 0, cells := 0, slots := 0, locals := 0 }) [.int x0, .int x1, .int x2] G z0 sz (S_Laws_joined post x0 x1 x2 z0) post := by
  refine Met.ofW (cc := cX3_joined) (maxL := 5) (ret := (some .int)) (by decide) rfl ?_
  intro p e s m args below meth c s₁ B hml hv
  obtain ⟨rfl, hsz, hP, hD0, hE, hB⟩ := hv
  have S : CallFix p m c cX3_joined 5 s _ GW RX3 := ⟨B.exec, B.bytes, hml, findClass_of_methodNamed B.named, fun w h => atoms_spec (ws := Cond.code yX3_joined cX3_joined 5 (some .int) :: GW) B.pre w (List.mem_cons_of_mem _ h)⟩
  have hlocks := B.notSynchronized
  subst hsz
  have hD := hD0.self (sz := s.heap.size)
  generalize hAe : va_A (wX G z0) s.heap.size = A at hD hE ⊢
  have hA : ∀ q : Nat, s.heap.size ≤ q → A q := fun q h => by rw [← hAe]; exact Or.inr h
  have hS : va_S A s.heap s.heap [] := va_S.rf
  have hl := lv_entry ([.int x0, .int x1, .int x2]) (n := 5) (Nat.le_of_ble_eq_true rfl)
  rw [lg_entry_eq]
  generalize (lg_sl ([.int x0, .int x1, .int x2]) ++ List.replicate (5 - (lg_sl ([.int x0, .int x1, .int x2])).length) Slot.unset).toArray = ls at hl ⊢
  have hl : lv_has ls 5 [(0, .int x0), (1, .int x1), (2, .int x2)] := hl
  refine w_Laws_joined_0 S hE hA (Nat.le_refl _) (Nat.le_refl _) ?_ x0 x1 x2 z0 hB _ _ _ hP hD hS hl
  intro pc ls r σ H locs hd hp hP hD hS
  exact W.iret (v := r) B.exec B.bytes B.returns (fun t ht hW => ⟨⟨r, σ, rfl, hp, by rw [ht]; exact hP, hD⟩, hS.F ht⟩) hS.2.2 hd
def B_Laws_worth_130 (post : Int32 → St → Prop) (x2 : Int32) (z0 : St) : Prop :=
  (((1 : Int32) ≤ x2 → (vp_in (x2 - (1 : Int32)) 64 ∧ (post (gA z0 22 (x2 - (1 : Int32)).toNatClampNeg) z0))) ∧ (¬ (1 : Int32) ≤ x2 → (post (0 : Int32) z0)))
set_option maxHeartbeats 4000000 in
set_option maxRecDepth 100000 in
theorem w_Laws_worth_130 {p : Program} {l : Launch} {e : Env} {R : Room} {s : State} {m : MethodId} {args : Array Value} {below : List Frame} {meth : Method} {c : Code} {Q : State → Prop} {G : GX} {A : Nat → Prop} (S : CallFix p m c cX3_worth 6 s args GW RX3) (hE : env G A s s.heap) (hA : ∀ q, s.heap.size ≤ q → A q) (hRf : 1 ≤ R.frames) (hRl : 24 ≤ R.locals) {post : Int32 → St → Prop} (hret : RetI p l e R s m args below meth c Q 0 0 wX G A cX3_worth post) (x2 : Int32) (z0 : St) (hB : B_Laws_worth_130 post x2 z0) : Xw p l e R s m args below meth c Q 0 0 wX G A z0 6 [(0, .ref (ad G 7)), (2, .int x2)] 130 [] := by
  intro H locs ls hP hD hS hl
  have hx := S.1
  have hb := S.2.1
  refine lv_iload_n hx hb dX3_worth_130 rfl (lv_at hl 1 rfl) ?_
  refine lv_iconst (v := 1) hx hb dX3_worth_131 (by decide) ?_
  refine lv_icmp_ge (tgt := 139) hx hb dX3_worth_132 (by decide) (fun c1 => ?_) (fun c1 => ?_)
  · have hB := hB.1 c1
    refine lv_aload_n hx hb dX3_worth_139 rfl (lv_at hl 0 rfl) ?_
    refine xXg_7_stack S hE hP lk_X3_28 dX3_worth_140 ?_
    refine lv_iload_n hx hb dX3_worth_143 rfl (lv_at hl 1 rfl) ?_
    refine lv_iconst (v := 1) hx hb dX3_worth_144 (by decide) ?_
    refine lv_isub hx hb dX3_worth_145 ?_
    obtain ⟨hi, hB⟩ := hB
    refine xXl_22 S hE hP hi dX3_worth_146 ?_
    exact hret _ _ _ _ _ _ dX3_worth_147 hB hP hD hS
  · have hB := hB.2 c1
    refine lv_iconst (v := 0) hx hb dX3_worth_135 (by decide) ?_
    refine lv_goto (tgt := 147) hx hb dX3_worth_136 (by decide) ?_
    exact hret _ _ _ _ _ _ dX3_worth_147 hB hP hD hS
def B_Laws_worth_240 (post : Int32 → St → Prop) (ih37 : Nat → Int32 → Int32 → Int32 → Int32 → St → Prop) (x1 : Nat) (x1j : Int32) (x2 : Int32) (x3 : Int32) (x4 : Int32) (z0 : St) : Prop :=
  (∀ v1 : Int32, v1 = x4 + (1 : Int32) → (ih37 x1 x1j x2 x3 v1 z0))
set_option maxHeartbeats 4000000 in
set_option maxRecDepth 100000 in
theorem w_Laws_worth_240 {p : Program} {l : Launch} {e : Env} {R : Room} {s : State} {m : MethodId} {args : Array Value} {below : List Frame} {meth : Method} {c : Code} {Q : State → Prop} {G : GX} {A : Nat → Prop} (S : CallFix p m c cX3_worth 6 s args GW RX3) (hE : env G A s s.heap) (hA : ∀ q, s.heap.size ≤ q → A q) (hRf : 1 ≤ R.frames) (hRl : 24 ≤ R.locals) {post : Int32 → St → Prop} (hret : RetI p l e R s m args below meth c Q 0 0 wX G A cX3_worth post) {ih37 : Nat → Int32 → Int32 → Int32 → Int32 → St → Prop} (h37 : ∀ (x1 : Nat) (x1j : Int32) (x2 : Int32) (x3 : Int32) (x4 : Int32) (z0 : St), ih37 x1 x1j x2 x3 x4 z0 → Xw p l e R s m args below meth c Q 0 0 wX G A z0 6 [(0, .ref (ad G 7)), (1, .ref x1), (2, .int x2), (3, .int x3), (4, .int x4)] 37 []) (x1 : Nat) (x1j : Int32) (x2 : Int32) (x3 : Int32) (x4 : Int32) (z0 : St) (hB : B_Laws_worth_240 post ih37 x1 x1j x2 x3 x4 z0) : Xw p l e R s m args below meth c Q 0 0 wX G A z0 6 [(0, .ref (ad G 7)), (1, .ref x1), (2, .int x2), (3, .int x3), (4, .int x4)] 240 [] := by
  intro H locs ls hP hD hS hl
  have hx := S.1
  have hb := S.2.1
  obtain ⟨v1, ev1⟩ : ∃ y9, y9 = x4 + (1 : Int32) := ⟨_, rfl⟩
  have hB := hB v1 ev1
  refine lv_iinc (v := v1) (lv' := [(4, .int v1), (0, .ref (ad G 7)), (1, .ref x1), (2, .int x2), (3, .int x3)]) hx hb dX3_worth_240 hl (k := 4) rfl (by rw [ev1]; rfl) (by decide) rfl (fun ls hl => ?_)
  refine lv_goto (tgt := 37) hx hb dX3_worth_243 (by decide) ?_
  exact h37 x1 x1j x2 x3 v1 z0 hB _ _ _ hP hD hS (lv_sub hl [1, 2, 3, 4, 0] rfl)
def B_Laws_worth_200 (post : Int32 → St → Prop) (ih37 : Nat → Int32 → Int32 → Int32 → Int32 → St → Prop) (x1 : Nat) (x1j : Int32) (x2 : Int32) (x4 : Int32) (s0 : Int32) (z0 : St) : Prop :=
  (B_Laws_worth_240 post ih37 x1 x1j x2 s0 x4 z0)
set_option maxHeartbeats 4000000 in
set_option maxRecDepth 100000 in
theorem w_Laws_worth_200 {p : Program} {l : Launch} {e : Env} {R : Room} {s : State} {m : MethodId} {args : Array Value} {below : List Frame} {meth : Method} {c : Code} {Q : State → Prop} {G : GX} {A : Nat → Prop} (S : CallFix p m c cX3_worth 6 s args GW RX3) (hE : env G A s s.heap) (hA : ∀ q, s.heap.size ≤ q → A q) (hRf : 1 ≤ R.frames) (hRl : 24 ≤ R.locals) {post : Int32 → St → Prop} (hret : RetI p l e R s m args below meth c Q 0 0 wX G A cX3_worth post) {ih37 : Nat → Int32 → Int32 → Int32 → Int32 → St → Prop} (h37 : ∀ (x1 : Nat) (x1j : Int32) (x2 : Int32) (x3 : Int32) (x4 : Int32) (z0 : St), ih37 x1 x1j x2 x3 x4 z0 → Xw p l e R s m args below meth c Q 0 0 wX G A z0 6 [(0, .ref (ad G 7)), (1, .ref x1), (2, .int x2), (3, .int x3), (4, .int x4)] 37 []) (x1 : Nat) (x1j : Int32) (x2 : Int32) (x4 : Int32) (s0 : Int32) (z0 : St) (hB : B_Laws_worth_200 post ih37 x1 x1j x2 x4 s0 z0) : Xw p l e R s m args below meth c Q 0 0 wX G A z0 6 [(0, .ref (ad G 7)), (1, .ref x1), (2, .int x2), (4, .int x4)] 200 [.int s0] := by
  intro H locs ls hP hD hS hl
  have hx := S.1
  have hb := S.2.1
  refine lv_istore_n (lv' := [(3, .int s0), (0, .ref (ad G 7)), (1, .ref x1), (2, .int x2), (4, .int x4)]) hx hb dX3_worth_200 rfl hl (by decide) rfl (fun ls hl => ?_)
  refine lv_goto (tgt := 240) hx hb dX3_worth_201 (by decide) ?_
  exact w_Laws_worth_240 S hE hA hRf hRl hret h37 x1 x1j x2 s0 x4 z0 hB _ _ _ hP hD hS (lv_sub hl [1, 2, 3, 0, 4] rfl)
def B_Laws_worth_111 (post : Int32 → St → Prop) (ih37 : Nat → Int32 → Int32 → Int32 → Int32 → St → Prop) (x1 : Nat) (x1j : Int32) (x2 : Int32) (x3 : Int32) (x4 : Int32) (s0 : Int32) (s1 : Int32) (z0 : St) : Prop :=
  (vp_in s1 64 ∧ (∀ z1 : St, z1 = sA z0 22 s1.toNatClampNeg s0 → (∀ v1 : Int32, v1 = x2 + (1 : Int32) → (B_Laws_worth_240 post ih37 x1 x1j v1 x3 x4 z1))))
set_option maxHeartbeats 4000000 in
set_option maxRecDepth 100000 in
theorem w_Laws_worth_111 {p : Program} {l : Launch} {e : Env} {R : Room} {s : State} {m : MethodId} {args : Array Value} {below : List Frame} {meth : Method} {c : Code} {Q : State → Prop} {G : GX} {A : Nat → Prop} (S : CallFix p m c cX3_worth 6 s args GW RX3) (hE : env G A s s.heap) (hA : ∀ q, s.heap.size ≤ q → A q) (hRf : 1 ≤ R.frames) (hRl : 24 ≤ R.locals) {post : Int32 → St → Prop} (hret : RetI p l e R s m args below meth c Q 0 0 wX G A cX3_worth post) {ih37 : Nat → Int32 → Int32 → Int32 → Int32 → St → Prop} (h37 : ∀ (x1 : Nat) (x1j : Int32) (x2 : Int32) (x3 : Int32) (x4 : Int32) (z0 : St), ih37 x1 x1j x2 x3 x4 z0 → Xw p l e R s m args below meth c Q 0 0 wX G A z0 6 [(0, .ref (ad G 7)), (1, .ref x1), (2, .int x2), (3, .int x3), (4, .int x4)] 37 []) (x1 : Nat) (x1j : Int32) (x2 : Int32) (x3 : Int32) (x4 : Int32) (s0 : Int32) (s1 : Int32) (z0 : St) (hB : B_Laws_worth_111 post ih37 x1 x1j x2 x3 x4 s0 s1 z0) : Xw p l e R s m args below meth c Q 0 0 wX G A z0 6 [(0, .ref (ad G 7)), (1, .ref x1), (2, .int x2), (3, .int x3), (4, .int x4)] 111 [.int s0, .int s1, .ref (ad G 22)] := by
  intro H locs ls hP hD hS hl
  have hx := S.1
  have hb := S.2.1
  obtain ⟨hi, hB⟩ := hB
  obtain ⟨z1, ez1⟩ : ∃ z9, z9 = sA z0 22 s1.toNatClampNeg s0 := ⟨_, rfl⟩
  have hB := hB z1 ez1
  refine xXs_22 S hE hP hD hS _ rfl hi dX3_worth_111 (fun H locs hP hD hS => ?_)
  rw [← ez1] at hP hD
  obtain ⟨v1, ev1⟩ : ∃ y9, y9 = x2 + (1 : Int32) := ⟨_, rfl⟩
  have hB := hB v1 ev1
  refine lv_iinc (v := v1) (lv' := [(2, .int v1), (0, .ref (ad G 7)), (1, .ref x1), (3, .int x3), (4, .int x4)]) hx hb dX3_worth_112 hl (k := 2) rfl (by rw [ev1]; rfl) (by decide) rfl (fun ls hl => ?_)
  refine lv_goto (tgt := 240) hx hb dX3_worth_115 (by decide) ?_
  exact w_Laws_worth_240 S hE hA hRf hRl hret h37 x1 x1j v1 x3 x4 z1 hB _ _ _ hP hD hS (lv_sub hl [1, 2, 0, 3, 4] rfl)
def B_Laws_worth_66 (post : Int32 → St → Prop) (ih37 : Nat → Int32 → Int32 → Int32 → Int32 → St → Prop) (x1 : Nat) (x1j : Int32) (x2 : Int32) (x4 : Int32) (s0 : Int32) (z0 : St) : Prop :=
  (B_Laws_worth_240 post ih37 x1 x1j x2 s0 x4 z0)
set_option maxHeartbeats 4000000 in
set_option maxRecDepth 100000 in
theorem w_Laws_worth_66 {p : Program} {l : Launch} {e : Env} {R : Room} {s : State} {m : MethodId} {args : Array Value} {below : List Frame} {meth : Method} {c : Code} {Q : State → Prop} {G : GX} {A : Nat → Prop} (S : CallFix p m c cX3_worth 6 s args GW RX3) (hE : env G A s s.heap) (hA : ∀ q, s.heap.size ≤ q → A q) (hRf : 1 ≤ R.frames) (hRl : 24 ≤ R.locals) {post : Int32 → St → Prop} (hret : RetI p l e R s m args below meth c Q 0 0 wX G A cX3_worth post) {ih37 : Nat → Int32 → Int32 → Int32 → Int32 → St → Prop} (h37 : ∀ (x1 : Nat) (x1j : Int32) (x2 : Int32) (x3 : Int32) (x4 : Int32) (z0 : St), ih37 x1 x1j x2 x3 x4 z0 → Xw p l e R s m args below meth c Q 0 0 wX G A z0 6 [(0, .ref (ad G 7)), (1, .ref x1), (2, .int x2), (3, .int x3), (4, .int x4)] 37 []) (x1 : Nat) (x1j : Int32) (x2 : Int32) (x4 : Int32) (s0 : Int32) (z0 : St) (hB : B_Laws_worth_66 post ih37 x1 x1j x2 x4 s0 z0) : Xw p l e R s m args below meth c Q 0 0 wX G A z0 6 [(0, .ref (ad G 7)), (1, .ref x1), (2, .int x2), (4, .int x4)] 66 [.int s0] := by
  intro H locs ls hP hD hS hl
  have hx := S.1
  have hb := S.2.1
  refine lv_istore_n (lv' := [(3, .int s0), (0, .ref (ad G 7)), (1, .ref x1), (2, .int x2), (4, .int x4)]) hx hb dX3_worth_66 rfl hl (by decide) rfl (fun ls hl => ?_)
  refine lv_goto (tgt := 240) hx hb dX3_worth_67 (by decide) ?_
  exact w_Laws_worth_240 S hE hA hRf hRl hret h37 x1 x1j x2 s0 x4 z0 hB _ _ _ hP hD hS (lv_sub hl [1, 2, 3, 0, 4] rfl)
def B_Laws_worth_37 (post : Int32 → St → Prop) (ih37 : Nat → Int32 → Int32 → Int32 → Int32 → St → Prop) (x1 : Nat) (x1j : Int32) (x2 : Int32) (x3 : Int32) (x4 : Int32) (z0 : St) : Prop :=
  (vp_in x1j 4 ∧ x1 = gZ z0 (4 + x1j.toNatClampNeg) ∧ (((Int32.ofNat (gZ z0 (8 + (4 + x1j.toNatClampNeg)))) ≤ x4 → (post (0 : Int32) z0)) ∧ (¬ (Int32.ofNat (gZ z0 (8 + (4 + x1j.toNatClampNeg)))) ≤ x4 → (vp_in x1j 4 ∧ x1 = gZ z0 (4 + x1j.toNatClampNeg) ∧ vp_in x4 (gZ z0 (8 + (4 + x1j.toNatClampNeg))) ∧ (∀ v2 : Int32, v2 = (gA z0 (32 + (4 + x1j.toNatClampNeg)) x4.toNatClampNeg) → ((x3 = 0 → ((v2 < (-(6 : Int32)) → ((v2 = (-59 : Int32) → (B_Laws_worth_130 post x2 z0)) ∧ (¬ v2 = (-59 : Int32) → (((1 : Int32) ≤ x2 → ((v2 = (-33 : Int32) → (vp_in (x2 - (1 : Int32)) 64 ∧ (vp_in (x2 - (1 : Int32)) 64 ∧ (∀ z3 : St, z3 = sA z0 22 (x2 - (1 : Int32)).toNatClampNeg ((1 : Int32) - (gA z0 22 (x2 - (1 : Int32)).toNatClampNeg)) → (B_Laws_worth_240 post ih37 x1 x1j x2 x3 x4 z3))))) ∧ (¬ v2 = (-33 : Int32) → ((v2 = (-63 : Int32) → (∀ v12 : Int32, v12 = x2 + (-1 : Int32) → (vp_in v12 64 ∧ (((gA z0 22 v12.toNatClampNeg) = 0 → (B_Laws_worth_200 post ih37 x1 x1j v12 x4 (1 : Int32) z0)) ∧ (¬ (gA z0 22 v12.toNatClampNeg) = 0 → (B_Laws_worth_200 post ih37 x1 x1j v12 x4 (0 : Int32) z0)))))) ∧ (¬ v2 = (-63 : Int32) → ((x2 ≤ (1 : Int32) → (B_Laws_worth_240 post ih37 x1 x1j x2 x3 x4 z0)) ∧ (¬ x2 ≤ (1 : Int32) → (∀ v10 : Int32, v10 = x2 + (-1 : Int32) → (vp_in (v10 - (1 : Int32)) 64 ∧ (vp_in v10 64 ∧ (S_Laws_joined (fun (r11 : Int32) (z1 : St) => (vp_in (v10 - (1 : Int32)) 64 ∧ (∀ z2 : St, z2 = sA z1 22 (v10 - (1 : Int32)).toNatClampNeg r11 → (B_Laws_worth_240 post ih37 x1 x1j v10 x3 x4 z2)))) (-v2) (gA z0 22 (v10 - (1 : Int32)).toNatClampNeg) (gA z0 22 v10.toNatClampNeg) z0))))))))))) ∧ (¬ (1 : Int32) ≤ x2 → (B_Laws_worth_130 post x2 z0)))))) ∧ (¬ v2 < (-(6 : Int32)) → (((64 : Int32) ≤ x2 → (B_Laws_worth_240 post ih37 x1 x1j x2 x3 x4 z0)) ∧ (¬ (64 : Int32) ≤ x2 → ((v2 < 0 → (vp_in ((-1 : Int32) - v2) 6 ∧ (B_Laws_worth_111 post ih37 x1 x1j x2 x3 x4 (gA z0 21 ((-1 : Int32) - v2).toNatClampNeg) x2 z0))) ∧ (¬ v2 < 0 → (B_Laws_worth_111 post ih37 x1 x1j x2 x3 x4 v2 x2 z0)))))))) ∧ (¬ x3 = 0 → ((v2 = (-59 : Int32) → (B_Laws_worth_66 post ih37 x1 x1j x2 x4 (0 : Int32) z0)) ∧ (¬ v2 = (-59 : Int32) → (B_Laws_worth_66 post ih37 x1 x1j x2 x4 (1 : Int32) z0))))))))))
set_option maxHeartbeats 4000000 in
set_option maxRecDepth 100000 in
theorem w_Laws_worth_37 {p : Program} {l : Launch} {e : Env} {R : Room} {s : State} {m : MethodId} {args : Array Value} {below : List Frame} {meth : Method} {c : Code} {Q : State → Prop} {G : GX} {A : Nat → Prop} (S : CallFix p m c cX3_worth 6 s args GW RX3) (hE : env G A s s.heap) (hA : ∀ q, s.heap.size ≤ q → A q) (hRf : 1 ≤ R.frames) (hRl : 24 ≤ R.locals) {post : Int32 → St → Prop} (hret : RetI p l e R s m args below meth c Q 0 0 wX G A cX3_worth post) {ih37 : Nat → Int32 → Int32 → Int32 → Int32 → St → Prop} (h37 : ∀ (x1 : Nat) (x1j : Int32) (x2 : Int32) (x3 : Int32) (x4 : Int32) (z0 : St), ih37 x1 x1j x2 x3 x4 z0 → Xw p l e R s m args below meth c Q 0 0 wX G A z0 6 [(0, .ref (ad G 7)), (1, .ref x1), (2, .int x2), (3, .int x3), (4, .int x4)] 37 []) (x1 : Nat) (x1j : Int32) (x2 : Int32) (x3 : Int32) (x4 : Int32) (z0 : St) (hB : B_Laws_worth_37 post ih37 x1 x1j x2 x3 x4 z0) : Xw p l e R s m args below meth c Q 0 0 wX G A z0 6 [(0, .ref (ad G 7)), (1, .ref x1), (2, .int x2), (3, .int x3), (4, .int x4)] 37 [] := by
  intro H locs ls hP hD hS hl
  have hx := S.1
  have hb := S.2.1
  refine lv_iload hx hb dX3_worth_37 (lv_at hl 4 rfl) ?_
  refine lv_aload_n hx hb dX3_worth_39 rfl (lv_at hl 1 rfl) ?_
  obtain ⟨hj, ha9, hB⟩ := hB
  refine xXdn S hE hP (show 4 + x1j.toNatClampNeg < 8 by have := vin_lt hj; omega) ha9 dX3_worth_40 ?_
  refine lv_icmp_ge (tgt := 246) hx hb dX3_worth_41 (by decide) (fun c1 => ?_) (fun c1 => ?_)
  · have hB := hB.1 c1
    refine lv_iconst (v := 0) hx hb dX3_worth_246 (by decide) ?_
    exact hret _ _ _ _ _ _ dX3_worth_247 hB hP hD hS
  · have hB := hB.2 c1
    refine lv_aload_n hx hb dX3_worth_44 rfl (lv_at hl 1 rfl) ?_
    refine lv_iload hx hb dX3_worth_45 (lv_at hl 4 rfl) ?_
    obtain ⟨hj, ha9, hi, hB⟩ := hB
    refine xXd S hE hP (show 4 + x1j.toNatClampNeg < 8 by have := vin_lt hj; omega) ha9 hi dX3_worth_47 ?_
    refine lv_topi (fun v2 ev2 => ?_)
    have hB := hB v2 ev2
    refine lv_istore (lv' := [(5, .int v2), (0, .ref (ad G 7)), (1, .ref x1), (2, .int x2), (3, .int x3), (4, .int x4)]) hx hb dX3_worth_48 hl (by decide) rfl (fun ls hl => ?_)
    refine lv_iload_n hx hb dX3_worth_50 rfl (lv_at hl 4 rfl) ?_
    refine lv_if_eq (tgt := 70) hx hb dX3_worth_51 (by decide) (fun c3 => ?_) (fun c3 => ?_)
    · have hB := hB.1 c3
      refine lv_iload hx hb dX3_worth_70 (lv_at hl 0 rfl) ?_
      refine lv_aload_n hx hb dX3_worth_72 rfl (lv_at hl 1 rfl) ?_
      refine xXg_7_letters S hE hP lk_X3_24 dX3_worth_73 ?_
      refine xXn_21 S hE hP dX3_worth_76 ?_
      refine lv_ineg hx hb dX3_worth_77 ?_
      refine lv_icmp_lt (tgt := 118) hx hb dX3_worth_78 (by decide) (fun c4 => ?_) (fun c4 => ?_)
      · have hB := hB.1 c4
        refine lv_iload hx hb dX3_worth_118 (lv_at hl 0 rfl) ?_
        refine lv_bipush (v := -59) hx hb dX3_worth_120 (by decide) ?_
        refine lv_icmp_eq (tgt := 130) hx hb dX3_worth_122 (by decide) (fun c5 => ?_) (fun c5 => ?_)
        · have hB := hB.1 c5
          exact w_Laws_worth_130 S hE hA hRf hRl hret x2 z0 hB _ _ _ hP hD hS (lv_sub hl [1, 3] rfl)
        · have hB := hB.2 c5
          refine lv_iload_n hx hb dX3_worth_125 rfl (lv_at hl 3 rfl) ?_
          refine lv_iconst (v := 1) hx hb dX3_worth_126 (by decide) ?_
          refine lv_icmp_ge (tgt := 148) hx hb dX3_worth_127 (by decide) (fun c6 => ?_) (fun c6 => ?_)
          · have hB := hB.1 c6
            refine lv_iload hx hb dX3_worth_148 (lv_at hl 0 rfl) ?_
            refine lv_bipush (v := -33) hx hb dX3_worth_150 (by decide) ?_
            refine lv_icmp_ne (tgt := 176) hx hb dX3_worth_152 (by decide) (fun c7 => ?_) (fun c7 => ?_)
            · have hB := hB.2 c7
              refine lv_iload hx hb dX3_worth_176 (lv_at hl 0 rfl) ?_
              refine lv_bipush (v := -63) hx hb dX3_worth_178 (by decide) ?_
              refine lv_icmp_ne (tgt := 204) hx hb dX3_worth_180 (by decide) (fun c8 => ?_) (fun c8 => ?_)
              · have hB := hB.2 c8
                refine lv_iload_n hx hb dX3_worth_204 rfl (lv_at hl 3 rfl) ?_
                refine lv_iconst (v := 1) hx hb dX3_worth_205 (by decide) ?_
                refine lv_icmp_le (tgt := 240) hx hb dX3_worth_206 (by decide) (fun c9 => ?_) (fun c9 => ?_)
                · have hB := hB.1 c9
                  exact w_Laws_worth_240 S hE hA hRf hRl hret h37 x1 x1j x2 x3 x4 z0 hB _ _ _ hP hD hS (lv_sub hl [1, 2, 3, 4, 5] rfl)
                · have hB := hB.2 c9
                  obtain ⟨v10, ev10⟩ : ∃ y9, y9 = x2 + (-1 : Int32) := ⟨_, rfl⟩
                  have hB := hB v10 ev10
                  refine lv_iinc (v := v10) (lv' := [(2, .int v10), (5, .int v2), (0, .ref (ad G 7)), (1, .ref x1), (3, .int x3), (4, .int x4)]) hx hb dX3_worth_209 hl (k := 3) rfl (by rw [ev10]; rfl) (by decide) rfl (fun ls hl => ?_)
                  refine lv_aload_n hx hb dX3_worth_212 rfl (lv_at hl 2 rfl) ?_
                  refine xXg_7_stack S hE hP lk_X3_28 dX3_worth_213 ?_
                  refine lv_iload_n hx hb dX3_worth_216 rfl (lv_at hl 0 rfl) ?_
                  refine lv_iconst (v := 1) hx hb dX3_worth_217 (by decide) ?_
                  refine lv_isub hx hb dX3_worth_218 ?_
                  refine lv_iload hx hb dX3_worth_219 (lv_at hl 1 rfl) ?_
                  refine lv_ineg hx hb dX3_worth_221 ?_
                  refine lv_aload_n hx hb dX3_worth_222 rfl (lv_at hl 2 rfl) ?_
                  refine xXg_7_stack S hE hP lk_X3_28 dX3_worth_223 ?_
                  refine lv_iload_n hx hb dX3_worth_226 rfl (lv_at hl 0 rfl) ?_
                  refine lv_iconst (v := 1) hx hb dX3_worth_227 (by decide) ?_
                  refine lv_isub hx hb dX3_worth_228 ?_
                  obtain ⟨hi, hB⟩ := hB
                  refine xXl_22 S hE hP hi dX3_worth_229 ?_
                  refine lv_aload_n hx hb dX3_worth_230 rfl (lv_at hl 2 rfl) ?_
                  refine xXg_7_stack S hE hP lk_X3_28 dX3_worth_231 ?_
                  refine lv_iload_n hx hb dX3_worth_234 rfl (lv_at hl 0 rfl) ?_
                  obtain ⟨hi, hB⟩ := hB
                  refine xXl_22 S hE hP hi dX3_worth_235 ?_
                  refine xcSi [.int (-v2), .int (gA z0 22 (v10 - (1 : Int32)).toNatClampNeg), .int (gA z0 22 v10.toNatClampNeg)] S hE hA hP hD hS (c_Laws_joined l G z0 H.size (-v2) (gA z0 22 (v10 - (1 : Int32)).toNatClampNeg) (gA z0 22 v10.toNatClampNeg) _) hB (gw_c lk_X3_44 (gw_c wt_X3_joined (gw_c wn_X3 (gw_c wc_X3_joined (fun _ h9 => h9))))) hs_X3_joined rfl rfl (Nat.le_trans (Nat.le_of_ble_eq_true rfl) hRf) (Nat.le_trans (Nat.le_of_ble_eq_true rfl) hRl) ⟨Nat.zero_le _, Nat.zero_le _⟩ rfl hl.1 rfl (Nat.le_of_ble_eq_true rfl) dX3_worth_236 (fun r11 z1 H locs hB hP hD hS => ?_)
                  obtain ⟨hi, hB⟩ := hB
                  obtain ⟨z2, ez2⟩ : ∃ z9, z9 = sA z1 22 (v10 - (1 : Int32)).toNatClampNeg r11 := ⟨_, rfl⟩
                  have hB := hB z2 ez2
                  refine xXs_22 S hE hP hD hS _ rfl hi dX3_worth_239 (fun H locs hP hD hS => ?_)
                  rw [← ez2] at hP hD
                  exact w_Laws_worth_240 S hE hA hRf hRl hret h37 x1 x1j v10 x3 x4 z2 hB _ _ _ hP hD hS (lv_sub hl [2, 3, 0, 4, 5] rfl)
              · have hB := hB.1 c8
                obtain ⟨v12, ev12⟩ : ∃ y9, y9 = x2 + (-1 : Int32) := ⟨_, rfl⟩
                have hB := hB v12 ev12
                refine lv_iinc (v := v12) (lv' := [(2, .int v12), (5, .int v2), (0, .ref (ad G 7)), (1, .ref x1), (3, .int x3), (4, .int x4)]) hx hb dX3_worth_183 hl (k := 3) rfl (by rw [ev12]; rfl) (by decide) rfl (fun ls hl => ?_)
                refine lv_aload_n hx hb dX3_worth_186 rfl (lv_at hl 2 rfl) ?_
                refine xXg_7_stack S hE hP lk_X3_28 dX3_worth_187 ?_
                refine lv_iload_n hx hb dX3_worth_190 rfl (lv_at hl 0 rfl) ?_
                obtain ⟨hi, hB⟩ := hB
                refine xXl_22 S hE hP hi dX3_worth_191 ?_
                refine lv_if_ne (tgt := 199) hx hb dX3_worth_192 (by decide) (fun c13 => ?_) (fun c13 => ?_)
                · have hB := hB.2 c13
                  refine lv_iconst (v := 0) hx hb dX3_worth_199 (by decide) ?_
                  exact w_Laws_worth_200 S hE hA hRf hRl hret h37 x1 x1j v12 x4 (0 : Int32) z0 hB _ _ _ hP hD hS (lv_sub hl [2, 3, 0, 5] rfl)
                · have hB := hB.1 c13
                  refine lv_iconst (v := 1) hx hb dX3_worth_195 (by decide) ?_
                  refine lv_goto (tgt := 200) hx hb dX3_worth_196 (by decide) ?_
                  exact w_Laws_worth_200 S hE hA hRf hRl hret h37 x1 x1j v12 x4 (1 : Int32) z0 hB _ _ _ hP hD hS (lv_sub hl [2, 3, 0, 5] rfl)
            · have hB := hB.1 c7
              refine lv_aload_n hx hb dX3_worth_155 rfl (lv_at hl 1 rfl) ?_
              refine xXg_7_stack S hE hP lk_X3_28 dX3_worth_156 ?_
              refine lv_iload_n hx hb dX3_worth_159 rfl (lv_at hl 3 rfl) ?_
              refine lv_iconst (v := 1) hx hb dX3_worth_160 (by decide) ?_
              refine lv_isub hx hb dX3_worth_161 ?_
              refine lv_iconst (v := 1) hx hb dX3_worth_162 (by decide) ?_
              refine lv_aload_n hx hb dX3_worth_163 rfl (lv_at hl 1 rfl) ?_
              refine xXg_7_stack S hE hP lk_X3_28 dX3_worth_164 ?_
              refine lv_iload_n hx hb dX3_worth_167 rfl (lv_at hl 3 rfl) ?_
              refine lv_iconst (v := 1) hx hb dX3_worth_168 (by decide) ?_
              refine lv_isub hx hb dX3_worth_169 ?_
              obtain ⟨hi, hB⟩ := hB
              refine xXl_22 S hE hP hi dX3_worth_170 ?_
              refine lv_isub hx hb dX3_worth_171 ?_
              obtain ⟨hi, hB⟩ := hB
              obtain ⟨z3, ez3⟩ : ∃ z9, z9 = sA z0 22 (x2 - (1 : Int32)).toNatClampNeg ((1 : Int32) - (gA z0 22 (x2 - (1 : Int32)).toNatClampNeg)) := ⟨_, rfl⟩
              have hB := hB z3 ez3
              refine xXs_22 S hE hP hD hS _ rfl hi dX3_worth_172 (fun H locs hP hD hS => ?_)
              rw [← ez3] at hP hD
              refine lv_goto (tgt := 240) hx hb dX3_worth_173 (by decide) ?_
              exact w_Laws_worth_240 S hE hA hRf hRl hret h37 x1 x1j x2 x3 x4 z3 hB _ _ _ hP hD hS (lv_sub hl [1, 2, 3, 4, 5] rfl)
          · have hB := hB.2 c6
            exact w_Laws_worth_130 S hE hA hRf hRl hret x2 z0 hB _ _ _ hP hD hS (lv_sub hl [1, 3] rfl)
      · have hB := hB.2 c4
        refine lv_iload_n hx hb dX3_worth_81 rfl (lv_at hl 3 rfl) ?_
        refine lv_bipush (v := 64) hx hb dX3_worth_82 (by decide) ?_
        refine lv_icmp_ge (tgt := 240) hx hb dX3_worth_84 (by decide) (fun c14 => ?_) (fun c14 => ?_)
        · have hB := hB.1 c14
          exact w_Laws_worth_240 S hE hA hRf hRl hret h37 x1 x1j x2 x3 x4 z0 hB _ _ _ hP hD hS (lv_sub hl [1, 2, 3, 4, 5] rfl)
        · have hB := hB.2 c14
          refine lv_aload_n hx hb dX3_worth_87 rfl (lv_at hl 1 rfl) ?_
          refine xXg_7_stack S hE hP lk_X3_28 dX3_worth_88 ?_
          refine lv_iload_n hx hb dX3_worth_91 rfl (lv_at hl 3 rfl) ?_
          refine lv_iload hx hb dX3_worth_92 (lv_at hl 0 rfl) ?_
          refine lv_if_lt (tgt := 102) hx hb dX3_worth_94 (by decide) (fun c15 => ?_) (fun c15 => ?_)
          · have hB := hB.1 c15
            refine lv_aload_n hx hb dX3_worth_102 rfl (lv_at hl 1 rfl) ?_
            refine xXg_7_letters S hE hP lk_X3_24 dX3_worth_103 ?_
            refine lv_iconst (v := -1) hx hb dX3_worth_106 (by decide) ?_
            refine lv_iload hx hb dX3_worth_107 (lv_at hl 0 rfl) ?_
            refine lv_isub hx hb dX3_worth_109 ?_
            obtain ⟨hi, hB⟩ := hB
            refine xXl_21 S hE hP hi dX3_worth_110 ?_
            exact w_Laws_worth_111 S hE hA hRf hRl hret h37 x1 x1j x2 x3 x4 (gA z0 21 ((-1 : Int32) - v2).toNatClampNeg) x2 z0 hB _ _ _ hP hD hS (lv_sub hl [1, 2, 3, 4, 5] rfl)
          · have hB := hB.2 c15
            refine lv_iload hx hb dX3_worth_97 (lv_at hl 0 rfl) ?_
            refine lv_goto (tgt := 111) hx hb dX3_worth_99 (by decide) ?_
            exact w_Laws_worth_111 S hE hA hRf hRl hret h37 x1 x1j x2 x3 x4 v2 x2 z0 hB _ _ _ hP hD hS (lv_sub hl [1, 2, 3, 4, 5] rfl)
    · have hB := hB.2 c3
      refine lv_iload hx hb dX3_worth_54 (lv_at hl 0 rfl) ?_
      refine lv_bipush (v := -59) hx hb dX3_worth_56 (by decide) ?_
      refine lv_icmp_eq (tgt := 65) hx hb dX3_worth_58 (by decide) (fun c16 => ?_) (fun c16 => ?_)
      · have hB := hB.1 c16
        refine lv_iconst (v := 0) hx hb dX3_worth_65 (by decide) ?_
        exact w_Laws_worth_66 S hE hA hRf hRl hret h37 x1 x1j x2 x4 (0 : Int32) z0 hB _ _ _ hP hD hS (lv_sub hl [1, 2, 3, 5] rfl)
      · have hB := hB.2 c16
        refine lv_iconst (v := 1) hx hb dX3_worth_61 (by decide) ?_
        refine lv_goto (tgt := 66) hx hb dX3_worth_62 (by decide) ?_
        exact w_Laws_worth_66 S hE hA hRf hRl hret h37 x1 x1j x2 x4 (1 : Int32) z0 hB _ _ _ hP hD hS (lv_sub hl [1, 2, 3, 5] rfl)
def L_Laws_worth_37 (post : Int32 → St → Prop) : Nat → Nat → Int32 → Int32 → Int32 → Int32 → St → Prop
  | 0 => fun _ _ _ _ _ _ => False
  | n + 1 => B_Laws_worth_37 post (L_Laws_worth_37 post n)
theorem wl_Laws_worth_37 {p : Program} {l : Launch} {e : Env} {R : Room} {s : State} {m : MethodId} {args : Array Value} {below : List Frame} {meth : Method} {c : Code} {Q : State → Prop} {G : GX} {A : Nat → Prop} (S : CallFix p m c cX3_worth 6 s args GW RX3) (hE : env G A s s.heap) (hA : ∀ q, s.heap.size ≤ q → A q) (hRf : 1 ≤ R.frames) (hRl : 24 ≤ R.locals) {post : Int32 → St → Prop} (hret : RetI p l e R s m args below meth c Q 0 0 wX G A cX3_worth post) : ∀ (n : Nat) (x1 : Nat) (x1j : Int32) (x2 : Int32) (x3 : Int32) (x4 : Int32) (z0 : St), L_Laws_worth_37 post n x1 x1j x2 x3 x4 z0 → Xw p l e R s m args below meth c Q 0 0 wX G A z0 6 [(0, .ref (ad G 7)), (1, .ref x1), (2, .int x2), (3, .int x3), (4, .int x4)] 37 [] := by
  intro n
  induction n with
  | zero => intro x1 x1j x2 x3 x4 z0 hB; exact absurd hB id
  | succ n ih => exact fun x1 x1j x2 x3 x4 z0 hB => w_Laws_worth_37 S hE hA hRf hRl hret ih x1 x1j x2 x3 x4 z0 hB
def S_Laws_worth (post : Int32 → St → Prop) (z0 : St) : Prop :=
  (((gI z0 31) < 0 → (post (0 : Int32) z0)) ∧ (¬ (gI z0 31) < 0 → (((gI z0 31) < (gI z0 30) → (vp_in (gI z0 31) 4 ∧ ∀ a3 : Nat, a3 = gZ z0 (4 + (gI z0 31).toNatClampNeg) → (∃ n4, L_Laws_worth_37 post n4 a3 (gI z0 31) (0 : Int32) (0 : Int32) (0 : Int32) z0))) ∧ (¬ (gI z0 31) < (gI z0 30) → (post (0 : Int32) z0)))))
set_option maxHeartbeats 4000000 in
set_option maxRecDepth 100000 in
theorem w_Laws_worth_0 {p : Program} {l : Launch} {e : Env} {R : Room} {s : State} {m : MethodId} {args : Array Value} {below : List Frame} {meth : Method} {c : Code} {Q : State → Prop} {G : GX} {A : Nat → Prop} (S : CallFix p m c cX3_worth 6 s args GW RX3) (hE : env G A s s.heap) (hA : ∀ q, s.heap.size ≤ q → A q) (hRf : 1 ≤ R.frames) (hRl : 24 ≤ R.locals) {post : Int32 → St → Prop} (hret : RetI p l e R s m args below meth c Q 0 0 wX G A cX3_worth post) (z0 : St) (hB : S_Laws_worth post z0) : Xw p l e R s m args below meth c Q 0 0 wX G A z0 6 [(0, .ref (ad G 7))] 0 [] := by
  intro H locs ls hP hD hS hl
  have hx := S.1
  have hb := S.2.1
  refine lv_aload_n hx hb dX3_worth_0 rfl (lv_at hl 0 rfl) ?_
  refine xXg_7_holding S hE hP lk_X3_31 dX3_worth_1 ?_
  refine lv_if_lt (tgt := 18) hx hb dX3_worth_4 (by decide) (fun c1 => ?_) (fun c1 => ?_)
  · have hB := hB.1 c1
    refine lv_iconst (v := 0) hx hb dX3_worth_18 (by decide) ?_
    exact hret _ _ _ _ _ _ dX3_worth_19 hB hP hD hS
  · have hB := hB.2 c1
    refine lv_aload_n hx hb dX3_worth_7 rfl (lv_at hl 0 rfl) ?_
    refine xXg_7_holding S hE hP lk_X3_31 dX3_worth_8 ?_
    refine lv_aload_n hx hb dX3_worth_11 rfl (lv_at hl 0 rfl) ?_
    refine xXg_7_told S hE hP lk_X3_35 dX3_worth_12 ?_
    refine lv_icmp_lt (tgt := 20) hx hb dX3_worth_15 (by decide) (fun c2 => ?_) (fun c2 => ?_)
    · have hB := hB.1 c2
      refine lv_aload_n hx hb dX3_worth_20 rfl (lv_at hl 0 rfl) ?_
      refine xXg_7_codes S hE hP lk_X3_11 dX3_worth_21 ?_
      refine lv_aload_n hx hb dX3_worth_24 rfl (lv_at hl 0 rfl) ?_
      refine xXg_7_holding S hE hP lk_X3_31 dX3_worth_25 ?_
      obtain ⟨hi, hB⟩ := hB
      refine xXo_20 S hE hP hi dX3_worth_28 ?_
      obtain ⟨a3, ea3⟩ : ∃ y9, y9 = gZ z0 (4 + (gI z0 31).toNatClampNeg) := ⟨_, rfl⟩
      have hB := hB a3 ea3
      rw [← ea3]
      refine lv_astore_n (lv' := [(1, .ref a3), (0, .ref (ad G 7))]) hx hb dX3_worth_29 rfl hl (by decide) rfl (fun ls hl => ?_)
      refine lv_iconst (v := 0) hx hb dX3_worth_30 (by decide) ?_
      refine lv_istore_n (lv' := [(2, .int (0 : Int32)), (1, .ref a3), (0, .ref (ad G 7))]) hx hb dX3_worth_31 rfl hl (by decide) rfl (fun ls hl => ?_)
      refine lv_iconst (v := 0) hx hb dX3_worth_32 (by decide) ?_
      refine lv_istore_n (lv' := [(3, .int (0 : Int32)), (2, .int (0 : Int32)), (1, .ref a3), (0, .ref (ad G 7))]) hx hb dX3_worth_33 rfl hl (by decide) rfl (fun ls hl => ?_)
      refine lv_iconst (v := 0) hx hb dX3_worth_34 (by decide) ?_
      refine lv_istore (lv' := [(4, .int (0 : Int32)), (3, .int (0 : Int32)), (2, .int (0 : Int32)), (1, .ref a3), (0, .ref (ad G 7))]) hx hb dX3_worth_35 hl (by decide) rfl (fun ls hl => ?_)
      obtain ⟨n4, hB⟩ := hB
      exact wl_Laws_worth_37 S hE hA hRf hRl hret n4 a3 (gI z0 31) (0 : Int32) (0 : Int32) (0 : Int32) z0 hB _ _ _ hP hD hS (lv_sub hl [4, 3, 2, 1, 0] rfl)
    · have hB := hB.2 c2
      refine lv_iconst (v := 0) hx hb dX3_worth_18 (by decide) ?_
      exact hret _ _ _ _ _ _ dX3_worth_19 hB hP hD hS
set_option maxHeartbeats 4000000 in
set_option maxRecDepth 100000 in
theorem c_Laws_worth (l : Launch) (G : GX) (z0 : St) (sz : Nat) (post : Int32 → St → Prop) : MetI l wX yX3_worth cX3_worth 6 (some .int) ({ frames := 1, cells := 0, slots := 0, locals := 24 }) [.ref (ad G 7)] G z0 sz (S_Laws_worth post z0) post := by
  refine Met.ofW (cc := cX3_worth) (maxL := 6) (ret := (some .int)) (by decide) rfl ?_
  intro p e s m args below meth c s₁ B hml hv
  obtain ⟨rfl, hsz, hP, hD0, hE, hB⟩ := hv
  have S : CallFix p m c cX3_worth 6 s _ GW RX3 := ⟨B.exec, B.bytes, hml, findClass_of_methodNamed B.named, fun w h => atoms_spec (ws := Cond.code yX3_worth cX3_worth 6 (some .int) :: GW) B.pre w (List.mem_cons_of_mem _ h)⟩
  have hlocks := B.notSynchronized
  subst hsz
  have hD := hD0.self (sz := s.heap.size)
  generalize hAe : va_A (wX G z0) s.heap.size = A at hD hE ⊢
  have hA : ∀ q : Nat, s.heap.size ≤ q → A q := fun q h => by rw [← hAe]; exact Or.inr h
  have hS : va_S A s.heap s.heap [] := va_S.rf
  have hl := lv_entry ([.ref (ad G 7)]) (n := 6) (Nat.le_of_ble_eq_true rfl)
  rw [lg_entry_eq]
  generalize (lg_sl ([.ref (ad G 7)]) ++ List.replicate (6 - (lg_sl ([.ref (ad G 7)])).length) Slot.unset).toArray = ls at hl ⊢
  have hl : lv_has ls 6 [(0, .ref (ad G 7))] := hl
  refine w_Laws_worth_0 S hE hA (Nat.le_refl _) (Nat.le_refl _) ?_  z0 hB _ _ _ hP hD hS hl
  intro pc ls r σ H locs hd hp hP hD hS
  exact W.iret (v := r) B.exec B.bytes B.returns (fun t ht hW => ⟨⟨r, σ, rfl, hp, by rw [ht]; exact hP, hD⟩, hS.F ht⟩) hS.2.2 hd
def S_Math_abs_0f7a4_X (post : Int32 → St → Prop) (x0 : Int32) (z0 : St) : Prop :=
  ((0 ≤ x0 → (post x0 z0)) ∧ (¬ 0 ≤ x0 → (post (-x0) z0)))
set_option maxHeartbeats 4000000 in
set_option maxRecDepth 100000 in
theorem w_Math_abs_0f7a4_X_0 {p : Program} {l : Launch} {e : Env} {R : Room} {s : State} {m : MethodId} {args : Array Value} {below : List Frame} {meth : Method} {c : Code} {Q : State → Prop} {G : GX} {A : Nat → Prop} (S : CallFix p m c cJ9_abs_0f7a4 1 s args GW RJ9) (hE : env G A s s.heap) (hA : ∀ q, s.heap.size ≤ q → A q) (hRf : 0 ≤ R.frames) (hRl : 0 ≤ R.locals) {post : Int32 → St → Prop} (hret : RetI p l e R s m args below meth c Q 0 0 wX G A cJ9_abs_0f7a4 post) (x0 : Int32) (z0 : St) (hB : S_Math_abs_0f7a4_X post x0 z0) : Xw p l e R s m args below meth c Q 0 0 wX G A z0 1 [(0, .int x0)] 0 [] := by
  intro H locs ls hP hD hS hl
  have hx := S.1
  have hb := S.2.1
  refine lv_iload_n hx hb dJ9_abs_0f7a4_0 rfl (lv_at hl 0 rfl) ?_
  refine lv_if_ge (tgt := 9) hx hb dJ9_abs_0f7a4_1 (by decide) (fun c1 => ?_) (fun c1 => ?_)
  · have hB := hB.1 c1
    refine lv_iload_n hx hb dJ9_abs_0f7a4_9 rfl (lv_at hl 0 rfl) ?_
    exact hret _ _ _ _ _ _ dJ9_abs_0f7a4_10 hB hP hD hS
  · have hB := hB.2 c1
    refine lv_iload_n hx hb dJ9_abs_0f7a4_4 rfl (lv_at hl 0 rfl) ?_
    refine lv_ineg hx hb dJ9_abs_0f7a4_5 ?_
    refine lv_goto (tgt := 10) hx hb dJ9_abs_0f7a4_6 (by decide) ?_
    exact hret _ _ _ _ _ _ dJ9_abs_0f7a4_10 hB hP hD hS
set_option maxHeartbeats 4000000 in
set_option maxRecDepth 100000 in
theorem c_Math_abs_0f7a4_X (l : Launch) (G : GX) (z0 : St) (sz : Nat) (x0 : Int32) (post : Int32 → St → Prop) : MetI l wX yJ9_abs_0f7a4 cJ9_abs_0f7a4 1 (some .int) ({ frames := 0, cells := 0, slots := 0, locals := 0 }) [.int x0] G z0 sz (S_Math_abs_0f7a4_X post x0 z0) post := by
  refine Met.ofWF (cc := cJ9_abs_0f7a4) (maxL := 1) (ret := (some .int)) (by decide +kernel) rfl ?_
  intro p e s m args below meth c s₁ B hml hv
  obtain ⟨rfl, hsz, hP, hD0, hE, hB⟩ := hv
  have S : CallFix p m c cJ9_abs_0f7a4 1 s _ GW RJ9 := ⟨B.exec, B.bytes, hml, findClass_of_methodNamed B.named, fun w h => atoms_spec (ws := Cond.code yJ9_abs_0f7a4 cJ9_abs_0f7a4 1 (some .int) :: GW) B.pre w (List.mem_cons_of_mem _ h)⟩
  have hlocks := B.notSynchronized
  subst hsz
  have hD := hD0.self (sz := s.heap.size)
  generalize hAe : va_A (wX G z0) s.heap.size = A at hD hE ⊢
  have hA : ∀ q : Nat, s.heap.size ≤ q → A q := fun q h => by rw [← hAe]; exact Or.inr h
  have hS : va_S A s.heap s.heap [] := va_S.rf
  have hl := lv_entry ([.int x0]) (n := 1) (Nat.le_of_ble_eq_true rfl)
  rw [lg_entry_eq]
  generalize (lg_sl ([.int x0]) ++ List.replicate (1 - (lg_sl ([.int x0])).length) Slot.unset).toArray = ls at hl ⊢
  have hl : lv_has ls 1 [(0, .int x0)] := hl
  refine w_Math_abs_0f7a4_X_0 S hE hA (Nat.le_refl _) (Nat.le_refl _) ?_ x0 z0 hB _ _ _ hP hD hS hl
  intro pc ls r σ H locs hd hp hP hD hS
  exact W.iret (v := r) B.exec B.bytes B.returns (fun t ht hW => ⟨⟨r, σ, rfl, hp, by rw [ht]; exact hP, hD⟩, hS.F ht⟩) hS.2.2 hd
def B_Table_nearest_8_107 (post : Int32 → St → Prop) (ih8 : Int32 → Int32 → Int32 → Int32 → Int32 → St → Prop) (x1 : Int32) (x2 : Int32) (x3 : Int32) (x4 : Int32) (x5 : Int32) (z0 : St) : Prop :=
  (∀ v1 : Int32, v1 = x5 + (1 : Int32) → (ih8 x1 x2 x3 x4 v1 z0))
set_option maxHeartbeats 4000000 in
set_option maxRecDepth 100000 in
theorem w_Table_nearest_8_107 {p : Program} {l : Launch} {e : Env} {R : Room} {s : State} {m : MethodId} {args : Array Value} {below : List Frame} {meth : Method} {c : Code} {Q : State → Prop} {G : GX} {A : Nat → Prop} (S : CallFix p m c cX8_nearest 9 s args GW RX8) (hE : env G A s s.heap) (hA : ∀ q, s.heap.size ≤ q → A q) (hRf : 1 ≤ R.frames) (hRl : 20 ≤ R.locals) {post : Int32 → St → Prop} (hret : RetI p l e R s m args below meth c Q 0 0 wX G A cX8_nearest post) {ih8 : Int32 → Int32 → Int32 → Int32 → Int32 → St → Prop} (h8 : ∀ (x1 : Int32) (x2 : Int32) (x3 : Int32) (x4 : Int32) (x5 : Int32) (z0 : St), ih8 x1 x2 x3 x4 x5 z0 → Xw p l e R s m args below meth c Q 0 0 wX G A z0 9 [(0, .ref (ad G 8)), (1, .int x1), (2, .int x2), (3, .int x3), (4, .int x4), (5, .int x5)] 8 []) (x1 : Int32) (x2 : Int32) (x3 : Int32) (x4 : Int32) (x5 : Int32) (z0 : St) (hB : B_Table_nearest_8_107 post ih8 x1 x2 x3 x4 x5 z0) : Xw p l e R s m args below meth c Q 0 0 wX G A z0 9 [(0, .ref (ad G 8)), (1, .int x1), (2, .int x2), (3, .int x3), (4, .int x4), (5, .int x5)] 107 [] := by
  intro H locs ls hP hD hS hl
  have hx := S.1
  have hb := S.2.1
  obtain ⟨v1, ev1⟩ : ∃ y9, y9 = x5 + (1 : Int32) := ⟨_, rfl⟩
  have hB := hB v1 ev1
  refine lv_iinc (v := v1) (lv' := [(5, .int v1), (0, .ref (ad G 8)), (1, .int x1), (2, .int x2), (3, .int x3), (4, .int x4)]) hx hb dX8_nearest_107 hl (k := 5) rfl (by rw [ev1]; rfl) (by decide) rfl (fun ls hl => ?_)
  refine lv_goto (tgt := 8) hx hb dX8_nearest_110 (by decide) ?_
  exact h8 x1 x2 x3 x4 v1 z0 hB _ _ _ hP hD hS (lv_sub hl [1, 2, 3, 4, 5, 0] rfl)
def B_Table_nearest_8_87 (post : Int32 → St → Prop) (ih8 : Int32 → Int32 → Int32 → Int32 → Int32 → St → Prop) (x1 : Int32) (x2 : Int32) (x3 : Int32) (x4 : Int32) (x5 : Int32) (x6 : Int32) (x7 : Int32) (s0 : Int32) (z0 : St) : Prop :=
  ((x2 < x6 → (B_Table_nearest_8_107 post ih8 x1 x2 x3 x4 x5 z0)) ∧ (¬ x2 < x6 → ((s0 = 0 → (B_Table_nearest_8_107 post ih8 x1 x2 x3 x4 x5 z0)) ∧ (¬ s0 = 0 → (B_Table_nearest_8_107 post ih8 x1 x2 x5 x7 x5 z0)))))
set_option maxHeartbeats 4000000 in
set_option maxRecDepth 100000 in
theorem w_Table_nearest_8_87 {p : Program} {l : Launch} {e : Env} {R : Room} {s : State} {m : MethodId} {args : Array Value} {below : List Frame} {meth : Method} {c : Code} {Q : State → Prop} {G : GX} {A : Nat → Prop} (S : CallFix p m c cX8_nearest 9 s args GW RX8) (hE : env G A s s.heap) (hA : ∀ q, s.heap.size ≤ q → A q) (hRf : 1 ≤ R.frames) (hRl : 20 ≤ R.locals) {post : Int32 → St → Prop} (hret : RetI p l e R s m args below meth c Q 0 0 wX G A cX8_nearest post) {ih8 : Int32 → Int32 → Int32 → Int32 → Int32 → St → Prop} (h8 : ∀ (x1 : Int32) (x2 : Int32) (x3 : Int32) (x4 : Int32) (x5 : Int32) (z0 : St), ih8 x1 x2 x3 x4 x5 z0 → Xw p l e R s m args below meth c Q 0 0 wX G A z0 9 [(0, .ref (ad G 8)), (1, .int x1), (2, .int x2), (3, .int x3), (4, .int x4), (5, .int x5)] 8 []) (x1 : Int32) (x2 : Int32) (x3 : Int32) (x4 : Int32) (x5 : Int32) (x6 : Int32) (x7 : Int32) (s0 : Int32) (z0 : St) (hB : B_Table_nearest_8_87 post ih8 x1 x2 x3 x4 x5 x6 x7 s0 z0) : Xw p l e R s m args below meth c Q 0 0 wX G A z0 9 [(0, .ref (ad G 8)), (1, .int x1), (2, .int x2), (3, .int x3), (4, .int x4), (5, .int x5), (6, .int x6), (7, .int x7)] 87 [.int s0] := by
  intro H locs ls hP hD hS hl
  have hx := S.1
  have hb := S.2.1
  refine lv_istore (lv' := [(8, .int s0), (0, .ref (ad G 8)), (1, .int x1), (2, .int x2), (3, .int x3), (4, .int x4), (5, .int x5), (6, .int x6), (7, .int x7)]) hx hb dX8_nearest_87 hl (by decide) rfl (fun ls hl => ?_)
  refine lv_iload hx hb dX8_nearest_89 (lv_at hl 7 rfl) ?_
  refine lv_iload_n hx hb dX8_nearest_91 rfl (lv_at hl 3 rfl) ?_
  refine lv_icmp_gt (tgt := 107) hx hb dX8_nearest_92 (by decide) (fun c1 => ?_) (fun c1 => ?_)
  · have hB := hB.1 c1
    exact w_Table_nearest_8_107 S hE hA hRf hRl hret h8 x1 x2 x3 x4 x5 z0 hB _ _ _ hP hD hS (lv_sub hl [1, 2, 3, 4, 5, 6] rfl)
  · have hB := hB.2 c1
    refine lv_iload hx hb dX8_nearest_95 (lv_at hl 0 rfl) ?_
    refine lv_if_eq (tgt := 107) hx hb dX8_nearest_97 (by decide) (fun c2 => ?_) (fun c2 => ?_)
    · have hB := hB.1 c2
      exact w_Table_nearest_8_107 S hE hA hRf hRl hret h8 x1 x2 x3 x4 x5 z0 hB _ _ _ hP hD hS (lv_sub hl [1, 2, 3, 4, 5, 6] rfl)
    · have hB := hB.2 c2
      refine lv_iload hx hb dX8_nearest_100 (lv_at hl 6 rfl) ?_
      refine lv_istore_n (lv' := [(3, .int x5), (8, .int s0), (0, .ref (ad G 8)), (1, .int x1), (2, .int x2), (4, .int x4), (5, .int x5), (6, .int x6), (7, .int x7)]) hx hb dX8_nearest_102 rfl hl (by decide) rfl (fun ls hl => ?_)
      refine lv_iload hx hb dX8_nearest_103 (lv_at hl 8 rfl) ?_
      refine lv_istore (lv' := [(4, .int x7), (3, .int x5), (8, .int s0), (0, .ref (ad G 8)), (1, .int x1), (2, .int x2), (5, .int x5), (6, .int x6), (7, .int x7)]) hx hb dX8_nearest_105 hl (by decide) rfl (fun ls hl => ?_)
      exact w_Table_nearest_8_107 S hE hA hRf hRl hret h8 x1 x2 x5 x7 x5 z0 hB _ _ _ hP hD hS (lv_sub hl [3, 4, 5, 1, 0, 6] rfl)
def B_Table_nearest_8_82 (post : Int32 → St → Prop) (ih8 : Int32 → Int32 → Int32 → Int32 → Int32 → St → Prop) (x1 : Int32) (x2 : Int32) (x3 : Int32) (x4 : Int32) (x5 : Int32) (x6 : Int32) (x7 : Int32) (z0 : St) : Prop :=
  (B_Table_nearest_8_87 post ih8 x1 x2 x3 x4 x5 x6 x7 (1 : Int32) z0)
set_option maxHeartbeats 4000000 in
set_option maxRecDepth 100000 in
theorem w_Table_nearest_8_82 {p : Program} {l : Launch} {e : Env} {R : Room} {s : State} {m : MethodId} {args : Array Value} {below : List Frame} {meth : Method} {c : Code} {Q : State → Prop} {G : GX} {A : Nat → Prop} (S : CallFix p m c cX8_nearest 9 s args GW RX8) (hE : env G A s s.heap) (hA : ∀ q, s.heap.size ≤ q → A q) (hRf : 1 ≤ R.frames) (hRl : 20 ≤ R.locals) {post : Int32 → St → Prop} (hret : RetI p l e R s m args below meth c Q 0 0 wX G A cX8_nearest post) {ih8 : Int32 → Int32 → Int32 → Int32 → Int32 → St → Prop} (h8 : ∀ (x1 : Int32) (x2 : Int32) (x3 : Int32) (x4 : Int32) (x5 : Int32) (z0 : St), ih8 x1 x2 x3 x4 x5 z0 → Xw p l e R s m args below meth c Q 0 0 wX G A z0 9 [(0, .ref (ad G 8)), (1, .int x1), (2, .int x2), (3, .int x3), (4, .int x4), (5, .int x5)] 8 []) (x1 : Int32) (x2 : Int32) (x3 : Int32) (x4 : Int32) (x5 : Int32) (x6 : Int32) (x7 : Int32) (z0 : St) (hB : B_Table_nearest_8_82 post ih8 x1 x2 x3 x4 x5 x6 x7 z0) : Xw p l e R s m args below meth c Q 0 0 wX G A z0 9 [(0, .ref (ad G 8)), (1, .int x1), (2, .int x2), (3, .int x3), (4, .int x4), (5, .int x5), (6, .int x6), (7, .int x7)] 82 [] := by
  intro H locs ls hP hD hS hl
  have hx := S.1
  have hb := S.2.1
  refine lv_iconst (v := 1) hx hb dX8_nearest_82 (by decide) ?_
  refine lv_goto (tgt := 87) hx hb dX8_nearest_83 (by decide) ?_
  exact w_Table_nearest_8_87 S hE hA hRf hRl hret h8 x1 x2 x3 x4 x5 x6 x7 (1 : Int32) z0 hB _ _ _ hP hD hS (lv_sub hl [0, 1, 2, 3, 4, 5, 6, 7] rfl)
def B_Table_nearest_8_86 (post : Int32 → St → Prop) (ih8 : Int32 → Int32 → Int32 → Int32 → Int32 → St → Prop) (x1 : Int32) (x2 : Int32) (x3 : Int32) (x4 : Int32) (x5 : Int32) (x6 : Int32) (x7 : Int32) (z0 : St) : Prop :=
  (B_Table_nearest_8_87 post ih8 x1 x2 x3 x4 x5 x6 x7 (0 : Int32) z0)
set_option maxHeartbeats 4000000 in
set_option maxRecDepth 100000 in
theorem w_Table_nearest_8_86 {p : Program} {l : Launch} {e : Env} {R : Room} {s : State} {m : MethodId} {args : Array Value} {below : List Frame} {meth : Method} {c : Code} {Q : State → Prop} {G : GX} {A : Nat → Prop} (S : CallFix p m c cX8_nearest 9 s args GW RX8) (hE : env G A s s.heap) (hA : ∀ q, s.heap.size ≤ q → A q) (hRf : 1 ≤ R.frames) (hRl : 20 ≤ R.locals) {post : Int32 → St → Prop} (hret : RetI p l e R s m args below meth c Q 0 0 wX G A cX8_nearest post) {ih8 : Int32 → Int32 → Int32 → Int32 → Int32 → St → Prop} (h8 : ∀ (x1 : Int32) (x2 : Int32) (x3 : Int32) (x4 : Int32) (x5 : Int32) (z0 : St), ih8 x1 x2 x3 x4 x5 z0 → Xw p l e R s m args below meth c Q 0 0 wX G A z0 9 [(0, .ref (ad G 8)), (1, .int x1), (2, .int x2), (3, .int x3), (4, .int x4), (5, .int x5)] 8 []) (x1 : Int32) (x2 : Int32) (x3 : Int32) (x4 : Int32) (x5 : Int32) (x6 : Int32) (x7 : Int32) (z0 : St) (hB : B_Table_nearest_8_86 post ih8 x1 x2 x3 x4 x5 x6 x7 z0) : Xw p l e R s m args below meth c Q 0 0 wX G A z0 9 [(0, .ref (ad G 8)), (1, .int x1), (2, .int x2), (3, .int x3), (4, .int x4), (5, .int x5), (6, .int x6), (7, .int x7)] 86 [] := by
  intro H locs ls hP hD hS hl
  have hx := S.1
  have hb := S.2.1
  refine lv_iconst (v := 0) hx hb dX8_nearest_86 (by decide) ?_
  exact w_Table_nearest_8_87 S hE hA hRf hRl hret h8 x1 x2 x3 x4 x5 x6 x7 (0 : Int32) z0 hB _ _ _ hP hD hS (lv_sub hl [0, 1, 2, 3, 4, 5, 6, 7] rfl)
def B_Table_nearest_8_8 (post : Int32 → St → Prop) (ih8 : Int32 → Int32 → Int32 → Int32 → Int32 → St → Prop) (x1 : Int32) (x2 : Int32) (x3 : Int32) (x4 : Int32) (x5 : Int32) (z0 : St) : Prop :=
  (((gI z0 26) ≤ x5 → (post x3 z0)) ∧ (¬ (gI z0 26) ≤ x5 → (vp_in ((22 : Int32) + x5) 28 ∧ (∀ v2 : Int32, v2 = (gA z0 23 ((22 : Int32) + x5).toNatClampNeg) → (vp_in x5 6 ∧ (S_Math_abs_0f7a4_X (fun (r3 : Int32) (z1 : St) => ((x3 = (-1 : Int32) → (B_Table_nearest_8_82 post ih8 x1 x2 x3 x4 x5 v2 r3 z1)) ∧ (¬ x3 = (-1 : Int32) → ((r3 < x4 → (B_Table_nearest_8_82 post ih8 x1 x2 x3 x4 x5 v2 r3 z1)) ∧ (¬ r3 < x4 → ((r3 = x4 → (vp_in ((22 : Int32) + x3) 28 ∧ (((gA z1 23 ((22 : Int32) + x3).toNatClampNeg) ≤ v2 → (B_Table_nearest_8_86 post ih8 x1 x2 x3 x4 x5 v2 r3 z1)) ∧ (¬ (gA z1 23 ((22 : Int32) + x3).toNatClampNeg) ≤ v2 → (B_Table_nearest_8_82 post ih8 x1 x2 x3 x4 x5 v2 r3 z1))))) ∧ (¬ r3 = x4 → (B_Table_nearest_8_86 post ih8 x1 x2 x3 x4 x5 v2 r3 z1)))))))) ((gA z0 18 x5.toNatClampNeg) - x1) z0))))))
set_option maxHeartbeats 4000000 in
set_option maxRecDepth 100000 in
theorem w_Table_nearest_8_8 {p : Program} {l : Launch} {e : Env} {R : Room} {s : State} {m : MethodId} {args : Array Value} {below : List Frame} {meth : Method} {c : Code} {Q : State → Prop} {G : GX} {A : Nat → Prop} (S : CallFix p m c cX8_nearest 9 s args GW RX8) (hE : env G A s s.heap) (hA : ∀ q, s.heap.size ≤ q → A q) (hRf : 1 ≤ R.frames) (hRl : 20 ≤ R.locals) {post : Int32 → St → Prop} (hret : RetI p l e R s m args below meth c Q 0 0 wX G A cX8_nearest post) {ih8 : Int32 → Int32 → Int32 → Int32 → Int32 → St → Prop} (h8 : ∀ (x1 : Int32) (x2 : Int32) (x3 : Int32) (x4 : Int32) (x5 : Int32) (z0 : St), ih8 x1 x2 x3 x4 x5 z0 → Xw p l e R s m args below meth c Q 0 0 wX G A z0 9 [(0, .ref (ad G 8)), (1, .int x1), (2, .int x2), (3, .int x3), (4, .int x4), (5, .int x5)] 8 []) (x1 : Int32) (x2 : Int32) (x3 : Int32) (x4 : Int32) (x5 : Int32) (z0 : St) (hB : B_Table_nearest_8_8 post ih8 x1 x2 x3 x4 x5 z0) : Xw p l e R s m args below meth c Q 0 0 wX G A z0 9 [(0, .ref (ad G 8)), (1, .int x1), (2, .int x2), (3, .int x3), (4, .int x4), (5, .int x5)] 8 [] := by
  intro H locs ls hP hD hS hl
  have hx := S.1
  have hb := S.2.1
  refine lv_iload hx hb dX8_nearest_8 (lv_at hl 5 rfl) ?_
  refine lv_aload_n hx hb dX8_nearest_10 rfl (lv_at hl 0 rfl) ?_
  refine xXg_8_house S hE hP lk_X8_15 dX8_nearest_11 ?_
  refine xXg_6_drinks S hE hP lk_X8_35 dX8_nearest_14 ?_
  refine lv_icmp_ge (tgt := 113) hx hb dX8_nearest_17 (by decide) (fun c1 => ?_) (fun c1 => ?_)
  · have hB := hB.1 c1
    refine lv_iload_n hx hb dX8_nearest_113 rfl (lv_at hl 3 rfl) ?_
    exact hret _ _ _ _ _ _ dX8_nearest_114 hB hP hD hS
  · have hB := hB.2 c1
    refine lv_aload_n hx hb dX8_nearest_20 rfl (lv_at hl 0 rfl) ?_
    refine xXg_8_cells S hE hP lk_X8_11 dX8_nearest_21 ?_
    refine lv_bipush (v := 22) hx hb dX8_nearest_24 (by decide) ?_
    refine lv_iload hx hb dX8_nearest_26 (lv_at hl 5 rfl) ?_
    refine lv_iadd hx hb dX8_nearest_28 ?_
    obtain ⟨hi, hB⟩ := hB
    refine xXl_23 S hE hP hi dX8_nearest_29 ?_
    refine lv_topi (fun v2 ev2 => ?_)
    have hB := hB v2 ev2
    refine lv_istore (lv' := [(6, .int v2), (0, .ref (ad G 8)), (1, .int x1), (2, .int x2), (3, .int x3), (4, .int x4), (5, .int x5)]) hx hb dX8_nearest_30 hl (by decide) rfl (fun ls hl => ?_)
    refine lv_aload_n hx hb dX8_nearest_32 rfl (lv_at hl 1 rfl) ?_
    refine xXg_8_house S hE hP lk_X8_15 dX8_nearest_33 ?_
    refine xXg_6_quality S hE hP lk_X8_113 dX8_nearest_36 ?_
    refine lv_iload hx hb dX8_nearest_39 (lv_at hl 6 rfl) ?_
    obtain ⟨hi, hB⟩ := hB
    refine xXl_18 S hE hP hi dX8_nearest_41 ?_
    refine lv_iload_n hx hb dX8_nearest_42 rfl (lv_at hl 2 rfl) ?_
    refine lv_isub hx hb dX8_nearest_43 ?_
    refine xcSi [.int ((gA z0 18 x5.toNatClampNeg) - x1)] S hE hA hP hD hS (c_Math_abs_0f7a4_X l G z0 H.size ((gA z0 18 x5.toNatClampNeg) - x1) _) hB (gw_c lk_X8_134 (gw_c wt_J9_abs_0f7a4 (gw_c wn_J9 (gw_c wc_J9_abs_0f7a4 (fun _ h9 => h9))))) hs_J9_abs_0f7a4 rfl rfl (Nat.le_trans (Nat.le_of_ble_eq_true rfl) hRf) (Nat.le_trans (Nat.le_of_ble_eq_true rfl) hRl) ⟨Nat.zero_le _, Nat.zero_le _⟩ rfl hl.1 rfl (Nat.le_of_ble_eq_true rfl) dX8_nearest_44 (fun r3 z1 H locs hB hP hD hS => ?_)
    refine lv_istore (lv' := [(7, .int r3), (6, .int v2), (0, .ref (ad G 8)), (1, .int x1), (2, .int x2), (3, .int x3), (4, .int x4), (5, .int x5)]) hx hb dX8_nearest_47 hl (by decide) rfl (fun ls hl => ?_)
    refine lv_iload_n hx hb dX8_nearest_49 rfl (lv_at hl 5 rfl) ?_
    refine lv_iconst (v := -1) hx hb dX8_nearest_50 (by decide) ?_
    refine lv_icmp_eq (tgt := 82) hx hb dX8_nearest_51 (by decide) (fun c4 => ?_) (fun c4 => ?_)
    · have hB := hB.1 c4
      exact w_Table_nearest_8_82 S hE hA hRf hRl hret h8 x1 x2 x3 x4 x5 v2 r3 z1 hB _ _ _ hP hD hS (lv_sub hl [2, 3, 4, 5, 6, 7, 1, 0] rfl)
    · have hB := hB.2 c4
      refine lv_iload hx hb dX8_nearest_54 (lv_at hl 0 rfl) ?_
      refine lv_iload hx hb dX8_nearest_56 (lv_at hl 6 rfl) ?_
      refine lv_icmp_lt (tgt := 82) hx hb dX8_nearest_58 (by decide) (fun c5 => ?_) (fun c5 => ?_)
      · have hB := hB.1 c5
        exact w_Table_nearest_8_82 S hE hA hRf hRl hret h8 x1 x2 x3 x4 x5 v2 r3 z1 hB _ _ _ hP hD hS (lv_sub hl [2, 3, 4, 5, 6, 7, 1, 0] rfl)
      · have hB := hB.2 c5
        refine lv_iload hx hb dX8_nearest_61 (lv_at hl 0 rfl) ?_
        refine lv_iload hx hb dX8_nearest_63 (lv_at hl 6 rfl) ?_
        refine lv_icmp_ne (tgt := 86) hx hb dX8_nearest_65 (by decide) (fun c6 => ?_) (fun c6 => ?_)
        · have hB := hB.2 c6
          exact w_Table_nearest_8_86 S hE hA hRf hRl hret h8 x1 x2 x3 x4 x5 v2 r3 z1 hB _ _ _ hP hD hS (lv_sub hl [2, 3, 4, 5, 6, 7, 1, 0] rfl)
        · have hB := hB.1 c6
          refine lv_iload hx hb dX8_nearest_68 (lv_at hl 1 rfl) ?_
          refine lv_aload_n hx hb dX8_nearest_70 rfl (lv_at hl 2 rfl) ?_
          refine xXg_8_cells S hE hP lk_X8_11 dX8_nearest_71 ?_
          refine lv_bipush (v := 22) hx hb dX8_nearest_74 (by decide) ?_
          refine lv_iload_n hx hb dX8_nearest_76 rfl (lv_at hl 5 rfl) ?_
          refine lv_iadd hx hb dX8_nearest_77 ?_
          obtain ⟨hi, hB⟩ := hB
          refine xXl_23 S hE hP hi dX8_nearest_78 ?_
          refine lv_icmp_ge (tgt := 86) hx hb dX8_nearest_79 (by decide) (fun c7 => ?_) (fun c7 => ?_)
          · have hB := hB.1 c7
            exact w_Table_nearest_8_86 S hE hA hRf hRl hret h8 x1 x2 x3 x4 x5 v2 r3 z1 hB _ _ _ hP hD hS (lv_sub hl [2, 3, 4, 5, 6, 7, 1, 0] rfl)
          · have hB := hB.2 c7
            exact w_Table_nearest_8_82 S hE hA hRf hRl hret h8 x1 x2 x3 x4 x5 v2 r3 z1 hB _ _ _ hP hD hS (lv_sub hl [2, 3, 4, 5, 6, 7, 1, 0] rfl)
def L_Table_nearest_8_8 (post : Int32 → St → Prop) : Nat → Int32 → Int32 → Int32 → Int32 → Int32 → St → Prop
  | 0 => fun _ _ _ _ _ _ => False
  | n + 1 => B_Table_nearest_8_8 post (L_Table_nearest_8_8 post n)
theorem wl_Table_nearest_8_8 {p : Program} {l : Launch} {e : Env} {R : Room} {s : State} {m : MethodId} {args : Array Value} {below : List Frame} {meth : Method} {c : Code} {Q : State → Prop} {G : GX} {A : Nat → Prop} (S : CallFix p m c cX8_nearest 9 s args GW RX8) (hE : env G A s s.heap) (hA : ∀ q, s.heap.size ≤ q → A q) (hRf : 1 ≤ R.frames) (hRl : 20 ≤ R.locals) {post : Int32 → St → Prop} (hret : RetI p l e R s m args below meth c Q 0 0 wX G A cX8_nearest post) : ∀ (n : Nat) (x1 : Int32) (x2 : Int32) (x3 : Int32) (x4 : Int32) (x5 : Int32) (z0 : St), L_Table_nearest_8_8 post n x1 x2 x3 x4 x5 z0 → Xw p l e R s m args below meth c Q 0 0 wX G A z0 9 [(0, .ref (ad G 8)), (1, .int x1), (2, .int x2), (3, .int x3), (4, .int x4), (5, .int x5)] 8 [] := by
  intro n
  induction n with
  | zero => intro x1 x2 x3 x4 x5 z0 hB; exact absurd hB id
  | succ n ih => exact fun x1 x2 x3 x4 x5 z0 hB => w_Table_nearest_8_8 S hE hA hRf hRl hret ih x1 x2 x3 x4 x5 z0 hB
def S_Table_nearest_8 (post : Int32 → St → Prop) (x1 : Int32) (x2 : Int32) (z0 : St) : Prop :=
  (∃ n1, L_Table_nearest_8_8 post n1 x1 x2 (-1 : Int32) (0 : Int32) (0 : Int32) z0)
set_option maxHeartbeats 4000000 in
set_option maxRecDepth 100000 in
theorem w_Table_nearest_8_0 {p : Program} {l : Launch} {e : Env} {R : Room} {s : State} {m : MethodId} {args : Array Value} {below : List Frame} {meth : Method} {c : Code} {Q : State → Prop} {G : GX} {A : Nat → Prop} (S : CallFix p m c cX8_nearest 9 s args GW RX8) (hE : env G A s s.heap) (hA : ∀ q, s.heap.size ≤ q → A q) (hRf : 1 ≤ R.frames) (hRl : 20 ≤ R.locals) {post : Int32 → St → Prop} (hret : RetI p l e R s m args below meth c Q 0 0 wX G A cX8_nearest post) (x1 : Int32) (x2 : Int32) (z0 : St) (hB : S_Table_nearest_8 post x1 x2 z0) : Xw p l e R s m args below meth c Q 0 0 wX G A z0 9 [(0, .ref (ad G 8)), (1, .int x1), (2, .int x2)] 0 [] := by
  intro H locs ls hP hD hS hl
  have hx := S.1
  have hb := S.2.1
  refine lv_iconst (v := -1) hx hb dX8_nearest_0 (by decide) ?_
  refine lv_istore_n (lv' := [(3, .int (-1 : Int32)), (0, .ref (ad G 8)), (1, .int x1), (2, .int x2)]) hx hb dX8_nearest_1 rfl hl (by decide) rfl (fun ls hl => ?_)
  refine lv_iconst (v := 0) hx hb dX8_nearest_2 (by decide) ?_
  refine lv_istore (lv' := [(4, .int (0 : Int32)), (3, .int (-1 : Int32)), (0, .ref (ad G 8)), (1, .int x1), (2, .int x2)]) hx hb dX8_nearest_3 hl (by decide) rfl (fun ls hl => ?_)
  refine lv_iconst (v := 0) hx hb dX8_nearest_5 (by decide) ?_
  refine lv_istore (lv' := [(5, .int (0 : Int32)), (4, .int (0 : Int32)), (3, .int (-1 : Int32)), (0, .ref (ad G 8)), (1, .int x1), (2, .int x2)]) hx hb dX8_nearest_6 hl (by decide) rfl (fun ls hl => ?_)
  obtain ⟨n1, hB⟩ := hB
  exact wl_Table_nearest_8_8 S hE hA hRf hRl hret n1 x1 x2 (-1 : Int32) (0 : Int32) (0 : Int32) z0 hB _ _ _ hP hD hS (lv_sub hl [3, 4, 5, 2, 1, 0] rfl)
set_option maxHeartbeats 4000000 in
set_option maxRecDepth 100000 in
theorem c_Table_nearest_8 (l : Launch) (G : GX) (z0 : St) (sz : Nat) (x1 : Int32) (x2 : Int32) (post : Int32 → St → Prop) : MetI l wX yX8_nearest cX8_nearest 9 (some .int) ({ frames := 1, cells := 0, slots := 0, locals := 20 }) [.ref (ad G 8), .int x1, .int x2] G z0 sz (S_Table_nearest_8 post x1 x2 z0) post := by
  refine Met.ofW (cc := cX8_nearest) (maxL := 9) (ret := (some .int)) (by decide) rfl ?_
  intro p e s m args below meth c s₁ B hml hv
  obtain ⟨rfl, hsz, hP, hD0, hE, hB⟩ := hv
  have S : CallFix p m c cX8_nearest 9 s _ GW RX8 := ⟨B.exec, B.bytes, hml, findClass_of_methodNamed B.named, fun w h => atoms_spec (ws := Cond.code yX8_nearest cX8_nearest 9 (some .int) :: GW) B.pre w (List.mem_cons_of_mem _ h)⟩
  have hlocks := B.notSynchronized
  subst hsz
  have hD := hD0.self (sz := s.heap.size)
  generalize hAe : va_A (wX G z0) s.heap.size = A at hD hE ⊢
  have hA : ∀ q : Nat, s.heap.size ≤ q → A q := fun q h => by rw [← hAe]; exact Or.inr h
  have hS : va_S A s.heap s.heap [] := va_S.rf
  have hl := lv_entry ([.ref (ad G 8), .int x1, .int x2]) (n := 9) (Nat.le_of_ble_eq_true rfl)
  rw [lg_entry_eq]
  generalize (lg_sl ([.ref (ad G 8), .int x1, .int x2]) ++ List.replicate (9 - (lg_sl ([.ref (ad G 8), .int x1, .int x2])).length) Slot.unset).toArray = ls at hl ⊢
  have hl : lv_has ls 9 [(0, .ref (ad G 8)), (1, .int x1), (2, .int x2)] := hl
  refine w_Table_nearest_8_0 S hE hA (Nat.le_refl _) (Nat.le_refl _) ?_ x1 x2 z0 hB _ _ _ hP hD hS hl
  intro pc ls r σ H locs hd hp hP hD hS
  exact W.iret (v := r) B.exec B.bytes B.returns (fun t ht hW => ⟨⟨r, σ, rfl, hp, by rw [ht]; exact hP, hD⟩, hS.F ht⟩) hS.2.2 hd
def B_Table_brings_8_71 (post : Int32 → St → Prop) (x3 : Int32) (x4 : Int32) (x5 : Int32) (s0 : Int32) (s1 : Int32) (s2 : Int32) (z0 : St) : Prop :=
  (vp_in ((22 : Int32) + x5) 28 ∧ (S_Laws_hear (fun (z1 : St) => (S_Laws_worth (fun (r1 : Int32) (z2 : St) => (S_Math_min_7cf53_X (fun (r2 : Int32) (z3 : St) => (S_Math_max_7cf53_X (fun (r3 : Int32) (z4 : St) => (S_Table_nearest_8 (fun (r4 : Int32) (z5 : St) => (post r4 z5)) r3 x3 z4)) (0 : Int32) r2 z3)) (9 : Int32) r1 z2)) z1)) s2 s1 s0 x3 x4 (gA z0 23 ((22 : Int32) + x5).toNatClampNeg) z0))
set_option maxHeartbeats 4000000 in
set_option maxRecDepth 100000 in
theorem w_Table_brings_8_71 {p : Program} {l : Launch} {e : Env} {R : Room} {s : State} {m : MethodId} {args : Array Value} {below : List Frame} {meth : Method} {c : Code} {Q : State → Prop} {G : GX} {A : Nat → Prop} (S : CallFix p m c cX8_brings 8 s args GW RX8) (hE : env G A s s.heap) (hA : ∀ q, s.heap.size ≤ q → A q) (hRf : 2 ≤ R.frames) (hRl : 49 ≤ R.locals) {post : Int32 → St → Prop} (hret : RetI p l e R s m args below meth c Q 0 0 wX G A cX8_brings post) (x3 : Int32) (x4 : Int32) (x5 : Int32) (s0 : Int32) (s1 : Int32) (s2 : Int32) (z0 : St) (hB : B_Table_brings_8_71 post x3 x4 x5 s0 s1 s2 z0) : Xw p l e R s m args below meth c Q 0 0 wX G A z0 8 [(0, .ref (ad G 8)), (3, .int x3), (4, .int x4), (5, .int x5)] 71 [.int s0, .int s1, .int s2, .ref (ad G 7)] := by
  intro H locs ls hP hD hS hl
  have hx := S.1
  have hb := S.2.1
  refine lv_iload_n hx hb dX8_brings_71 rfl (lv_at hl 1 rfl) ?_
  refine lv_iload hx hb dX8_brings_72 (lv_at hl 2 rfl) ?_
  refine lv_aload_n hx hb dX8_brings_74 rfl (lv_at hl 0 rfl) ?_
  refine xXg_8_cells S hE hP lk_X8_11 dX8_brings_75 ?_
  refine lv_bipush (v := 22) hx hb dX8_brings_78 (by decide) ?_
  refine lv_iload hx hb dX8_brings_80 (lv_at hl 3 rfl) ?_
  refine lv_iadd hx hb dX8_brings_82 ?_
  obtain ⟨hi, hB⟩ := hB
  refine xXl_23 S hE hP hi dX8_brings_83 ?_
  refine xcVv [.int s2, .int s1, .int s0, .int x3, .int x4, .int (gA z0 23 ((22 : Int32) + x5).toNatClampNeg)] S hE hA hP hD hS (c_Laws_hear l G z0 H.size s2 s1 s0 x3 x4 (gA z0 23 ((22 : Int32) + x5).toNatClampNeg) _) hB (gw_c lk_X8_124 (gw_c wi_X3_hear (gw_c we_X3_X3_hear_X3_hear (gw_c wn_X3 (gw_c wc_X3_hear (fun _ h9 => h9)))))) hd_X3_hear rfl rfl (Nat.le_trans (Nat.le_of_ble_eq_true rfl) hRf) (Nat.le_trans (Nat.le_of_ble_eq_true rfl) hRl) ⟨Nat.zero_le _, Nat.zero_le _⟩ (va_recv hE.1 hP (ci := 3) (q0 := 7) rfl rfl) rfl hl.1 rfl (Nat.le_of_ble_eq_true rfl) dX8_brings_84 (fun z1 H locs hB hP hD hS => ?_)
  refine lv_aload_n hx hb dX8_brings_87 rfl (lv_at hl 0 rfl) ?_
  refine lv_iconst (v := 0) hx hb dX8_brings_88 (by decide) ?_
  refine lv_bipush (v := 9) hx hb dX8_brings_89 (by decide) ?_
  refine lv_aload_n hx hb dX8_brings_91 rfl (lv_at hl 0 rfl) ?_
  refine xXg_8_laws S hE hP lk_X8_19 dX8_brings_92 ?_
  refine xcVi [] S hE hA hP hD hS (c_Laws_worth l G z1 H.size _) hB (gw_c lk_X8_128 (gw_c wi_X3_worth (gw_c we_X3_X3_worth_X3_worth (gw_c wn_X3 (gw_c wc_X3_worth (fun _ h9 => h9)))))) hd_X3_worth rfl rfl (Nat.le_trans (Nat.le_of_ble_eq_true rfl) hRf) (Nat.le_trans (Nat.le_of_ble_eq_true rfl) hRl) ⟨Nat.zero_le _, Nat.zero_le _⟩ (va_recv hE.1 hP (ci := 3) (q0 := 7) rfl rfl) rfl hl.1 rfl (Nat.le_of_ble_eq_true rfl) dX8_brings_95 (fun r1 z2 H locs hB hP hD hS => ?_)
  refine xcSi [.int (9 : Int32), .int r1] S hE hA hP hD hS (c_Math_min_7cf53_X l G z2 H.size (9 : Int32) r1 _) hB (gw_c lk_X8_60 (gw_c wt_J9_min_7cf53 (gw_c wn_J9 (gw_c wc_J9_min_7cf53 (fun _ h9 => h9))))) hs_J9_min_7cf53 rfl rfl (Nat.le_trans (Nat.le_of_ble_eq_true rfl) hRf) (Nat.le_trans (Nat.le_of_ble_eq_true rfl) hRl) ⟨Nat.zero_le _, Nat.zero_le _⟩ rfl hl.1 rfl (Nat.le_of_ble_eq_true rfl) dX8_brings_98 (fun r2 z3 H locs hB hP hD hS => ?_)
  refine xcSi [.int (0 : Int32), .int r2] S hE hA hP hD hS (c_Math_max_7cf53_X l G z3 H.size (0 : Int32) r2 _) hB (gw_c lk_X8_131 (gw_c wt_J9_max_7cf53 (gw_c wn_J9 (gw_c wc_J9_max_7cf53 (fun _ h9 => h9))))) hs_J9_max_7cf53 rfl rfl (Nat.le_trans (Nat.le_of_ble_eq_true rfl) hRf) (Nat.le_trans (Nat.le_of_ble_eq_true rfl) hRl) ⟨Nat.zero_le _, Nat.zero_le _⟩ rfl hl.1 rfl (Nat.le_of_ble_eq_true rfl) dX8_brings_101 (fun r3 z4 H locs hB hP hD hS => ?_)
  refine lv_iload_n hx hb dX8_brings_104 rfl (lv_at hl 1 rfl) ?_
  refine xcVi [.int r3, .int x3] S hE hA hP hD hS (c_Table_nearest_8 l G z4 H.size r3 x3 _) hB (gw_c lk_X8_121 (gw_c wi_X8_nearest (gw_c we_X8_X8_nearest_X8_nearest (gw_c wn_X8 (gw_c wc_X8_nearest (fun _ h9 => h9)))))) hd_X8_nearest rfl rfl (Nat.le_trans (Nat.le_of_ble_eq_true rfl) hRf) (Nat.le_trans (Nat.le_of_ble_eq_true rfl) hRl) ⟨Nat.zero_le _, Nat.zero_le _⟩ (va_recv hE.1 hP (ci := 7) (q0 := 8) rfl rfl) rfl hl.1 rfl (Nat.le_of_ble_eq_true rfl) dX8_brings_105 (fun r4 z5 H locs hB hP hD hS => ?_)
  exact hret _ _ _ _ _ _ dX8_brings_108 hB hP hD hS
def S_Table_brings_8 (post : Int32 → St → Prop) (x1 : Int32) (x2 : Int32) (x3 : Int32) (x4 : Int32) (x5 : Int32) (z0 : St) : Prop :=
  (vp_in x5 6 ∧ (∀ v1 : Int32, v1 = (gA z0 18 x5.toNatClampNeg) → (S_House_joyBy (fun (r2 : Int32) (z1 : St) => (S_Table_moodBehind (fun (r3 : Int32) (z2 : St) => (((gI z2 31) = (-1 : Int32) → (S_Table_nearest_8 (fun (r6 : Int32) (z3 : St) => (post r6 z3)) ((v1 + r3) / (2 : Int32)) x3 z2)) ∧ (¬ (gI z2 31) = (-1 : Int32) → ((x1 = x5 → (B_Table_brings_8_71 post x3 x4 x5 (1 : Int32) r3 v1 z2)) ∧ (¬ x1 = x5 → (B_Table_brings_8_71 post x3 x4 x5 (0 : Int32) r3 v1 z2)))))) x2 r2 z1)) x1 x5 z0)))
set_option maxHeartbeats 4000000 in
set_option maxRecDepth 100000 in
theorem w_Table_brings_8_0 {p : Program} {l : Launch} {e : Env} {R : Room} {s : State} {m : MethodId} {args : Array Value} {below : List Frame} {meth : Method} {c : Code} {Q : State → Prop} {G : GX} {A : Nat → Prop} (S : CallFix p m c cX8_brings 8 s args GW RX8) (hE : env G A s s.heap) (hA : ∀ q, s.heap.size ≤ q → A q) (hRf : 2 ≤ R.frames) (hRl : 49 ≤ R.locals) {post : Int32 → St → Prop} (hret : RetI p l e R s m args below meth c Q 0 0 wX G A cX8_brings post) (x1 : Int32) (x2 : Int32) (x3 : Int32) (x4 : Int32) (x5 : Int32) (z0 : St) (hB : S_Table_brings_8 post x1 x2 x3 x4 x5 z0) : Xw p l e R s m args below meth c Q 0 0 wX G A z0 8 [(0, .ref (ad G 8)), (1, .int x1), (2, .int x2), (3, .int x3), (4, .int x4), (5, .int x5)] 0 [] := by
  intro H locs ls hP hD hS hl
  have hx := S.1
  have hb := S.2.1
  refine lv_aload_n hx hb dX8_brings_0 rfl (lv_at hl 0 rfl) ?_
  refine xXg_8_house S hE hP lk_X8_15 dX8_brings_1 ?_
  refine xXg_6_quality S hE hP lk_X8_113 dX8_brings_4 ?_
  refine lv_iload hx hb dX8_brings_7 (lv_at hl 5 rfl) ?_
  obtain ⟨hi, hB⟩ := hB
  refine xXl_18 S hE hP hi dX8_brings_9 ?_
  refine lv_topi (fun v1 ev1 => ?_)
  have hB := hB v1 ev1
  refine lv_istore (lv' := [(6, .int v1), (0, .ref (ad G 8)), (1, .int x1), (2, .int x2), (3, .int x3), (4, .int x4), (5, .int x5)]) hx hb dX8_brings_10 hl (by decide) rfl (fun ls hl => ?_)
  refine lv_iload_n hx hb dX8_brings_12 rfl (lv_at hl 3 rfl) ?_
  refine lv_aload_n hx hb dX8_brings_13 rfl (lv_at hl 1 rfl) ?_
  refine xXg_8_house S hE hP lk_X8_15 dX8_brings_14 ?_
  refine lv_iload_n hx hb dX8_brings_17 rfl (lv_at hl 2 rfl) ?_
  refine lv_iload hx hb dX8_brings_18 (lv_at hl 6 rfl) ?_
  refine xcVi [.int x1, .int x5] S hE hA hP hD hS (c_House_joyBy l G z0 H.size x1 x5 _) hB (gw_c lk_X8_100 (gw_c wi_X0_joyBy (gw_c we_X0_X0_joyBy_X0_joyBy (gw_c wn_X0 (gw_c wc_X0_joyBy (fun _ h9 => h9)))))) hd_X0_joyBy rfl rfl (Nat.le_trans (Nat.le_of_ble_eq_true rfl) hRf) (Nat.le_trans (Nat.le_of_ble_eq_true rfl) hRl) ⟨Nat.zero_le _, Nat.zero_le _⟩ (va_recv hE.1 hP (ci := 0) (q0 := 6) rfl rfl) rfl hl.1 rfl (Nat.le_of_ble_eq_true rfl) dX8_brings_20 (fun r2 z1 H locs hB hP hD hS => ?_)
  refine xcSi [.int x2, .int r2] S hE hA hP hD hS (c_Table_moodBehind l G z1 H.size x2 r2 _) hB (gw_c lk_X8_107 (gw_c wt_X8_moodBehind (gw_c wn_X8 (gw_c wc_X8_moodBehind (fun _ h9 => h9))))) hs_X8_moodBehind rfl rfl (Nat.le_trans (Nat.le_of_ble_eq_true rfl) hRf) (Nat.le_trans (Nat.le_of_ble_eq_true rfl) hRl) ⟨Nat.zero_le _, Nat.zero_le _⟩ rfl hl.1 rfl (Nat.le_of_ble_eq_true rfl) dX8_brings_23 (fun r3 z2 H locs hB hP hD hS => ?_)
  refine lv_istore (lv' := [(7, .int r3), (6, .int v1), (0, .ref (ad G 8)), (1, .int x1), (2, .int x2), (3, .int x3), (4, .int x4), (5, .int x5)]) hx hb dX8_brings_26 hl (by decide) rfl (fun ls hl => ?_)
  refine lv_aload_n hx hb dX8_brings_28 rfl (lv_at hl 2 rfl) ?_
  refine xXg_8_laws S hE hP lk_X8_19 dX8_brings_29 ?_
  refine xXg_7_holding S hE hP lk_X8_116 dX8_brings_32 ?_
  refine lv_iconst (v := -1) hx hb dX8_brings_35 (by decide) ?_
  refine lv_icmp_ne (tgt := 52) hx hb dX8_brings_36 (by decide) (fun c4 => ?_) (fun c4 => ?_)
  · have hB := hB.2 c4
    refine lv_aload_n hx hb dX8_brings_52 rfl (lv_at hl 2 rfl) ?_
    refine xXg_8_laws S hE hP lk_X8_19 dX8_brings_53 ?_
    refine lv_iload hx hb dX8_brings_56 (lv_at hl 1 rfl) ?_
    refine lv_iload hx hb dX8_brings_58 (lv_at hl 0 rfl) ?_
    refine lv_iload_n hx hb dX8_brings_60 rfl (lv_at hl 3 rfl) ?_
    refine lv_iload hx hb dX8_brings_61 (lv_at hl 7 rfl) ?_
    refine lv_icmp_ne (tgt := 70) hx hb dX8_brings_63 (by decide) (fun c5 => ?_) (fun c5 => ?_)
    · have hB := hB.2 c5
      refine lv_iconst (v := 0) hx hb dX8_brings_70 (by decide) ?_
      exact w_Table_brings_8_71 S hE hA hRf hRl hret x3 x4 x5 (0 : Int32) r3 v1 z2 hB _ _ _ hP hD hS (lv_sub hl [2, 5, 6, 7] rfl)
    · have hB := hB.1 c5
      refine lv_iconst (v := 1) hx hb dX8_brings_66 (by decide) ?_
      refine lv_goto (tgt := 71) hx hb dX8_brings_67 (by decide) ?_
      exact w_Table_brings_8_71 S hE hA hRf hRl hret x3 x4 x5 (1 : Int32) r3 v1 z2 hB _ _ _ hP hD hS (lv_sub hl [2, 5, 6, 7] rfl)
  · have hB := hB.1 c4
    refine lv_aload_n hx hb dX8_brings_39 rfl (lv_at hl 2 rfl) ?_
    refine lv_iload hx hb dX8_brings_40 (lv_at hl 1 rfl) ?_
    refine lv_iload hx hb dX8_brings_42 (lv_at hl 0 rfl) ?_
    refine lv_iadd hx hb dX8_brings_44 ?_
    refine lv_iconst (v := 2) hx hb dX8_brings_45 (by decide) ?_
    refine lv_idiv hx hb dX8_brings_46 (by decide) ?_
    refine lv_iload_n hx hb dX8_brings_47 rfl (lv_at hl 5 rfl) ?_
    refine xcVi [.int ((v1 + r3) / (2 : Int32)), .int x3] S hE hA hP hD hS (c_Table_nearest_8 l G z2 H.size ((v1 + r3) / (2 : Int32)) x3 _) hB (gw_c lk_X8_121 (gw_c wi_X8_nearest (gw_c we_X8_X8_nearest_X8_nearest (gw_c wn_X8 (gw_c wc_X8_nearest (fun _ h9 => h9)))))) hd_X8_nearest rfl rfl (Nat.le_trans (Nat.le_of_ble_eq_true rfl) hRf) (Nat.le_trans (Nat.le_of_ble_eq_true rfl) hRl) ⟨Nat.zero_le _, Nat.zero_le _⟩ (va_recv hE.1 hP (ci := 7) (q0 := 8) rfl rfl) rfl hl.1 rfl (Nat.le_of_ble_eq_true rfl) dX8_brings_48 (fun r6 z3 H locs hB hP hD hS => ?_)
    exact hret _ _ _ _ _ _ dX8_brings_51 hB hP hD hS
set_option maxHeartbeats 4000000 in
set_option maxRecDepth 100000 in
theorem c_Table_brings_8 (l : Launch) (G : GX) (z0 : St) (sz : Nat) (x1 : Int32) (x2 : Int32) (x3 : Int32) (x4 : Int32) (x5 : Int32) (post : Int32 → St → Prop) : MetI l wX yX8_brings cX8_brings 8 (some .int) ({ frames := 2, cells := 0, slots := 0, locals := 49 }) [.ref (ad G 8), .int x1, .int x2, .int x3, .int x4, .int x5] G z0 sz (S_Table_brings_8 post x1 x2 x3 x4 x5 z0) post := by
  refine Met.ofW (cc := cX8_brings) (maxL := 8) (ret := (some .int)) (by decide) rfl ?_
  intro p e s m args below meth c s₁ B hml hv
  obtain ⟨rfl, hsz, hP, hD0, hE, hB⟩ := hv
  have S : CallFix p m c cX8_brings 8 s _ GW RX8 := ⟨B.exec, B.bytes, hml, findClass_of_methodNamed B.named, fun w h => atoms_spec (ws := Cond.code yX8_brings cX8_brings 8 (some .int) :: GW) B.pre w (List.mem_cons_of_mem _ h)⟩
  have hlocks := B.notSynchronized
  subst hsz
  have hD := hD0.self (sz := s.heap.size)
  generalize hAe : va_A (wX G z0) s.heap.size = A at hD hE ⊢
  have hA : ∀ q : Nat, s.heap.size ≤ q → A q := fun q h => by rw [← hAe]; exact Or.inr h
  have hS : va_S A s.heap s.heap [] := va_S.rf
  have hl := lv_entry ([.ref (ad G 8), .int x1, .int x2, .int x3, .int x4, .int x5]) (n := 8) (Nat.le_of_ble_eq_true rfl)
  rw [lg_entry_eq]
  generalize (lg_sl ([.ref (ad G 8), .int x1, .int x2, .int x3, .int x4, .int x5]) ++ List.replicate (8 - (lg_sl ([.ref (ad G 8), .int x1, .int x2, .int x3, .int x4, .int x5])).length) Slot.unset).toArray = ls at hl ⊢
  have hl : lv_has ls 8 [(0, .ref (ad G 8)), (1, .int x1), (2, .int x2), (3, .int x3), (4, .int x4), (5, .int x5)] := hl
  refine w_Table_brings_8_0 S hE hA (Nat.le_refl _) (Nat.le_refl _) ?_ x1 x2 x3 x4 x5 z0 hB _ _ _ hP hD hS hl
  intro pc ls r σ H locs hd hp hP hD hS
  exact W.iret (v := r) B.exec B.bytes B.returns (fun t ht hW => ⟨⟨r, σ, rfl, hp, by rw [ht]; exact hP, hD⟩, hS.F ht⟩) hS.2.2 hd
def S_Table_receive_8 (post : Int32 → St → Prop) (x1 : Int32) (z0 : St) : Prop :=
  (vp_in x1 6 ∧ (∀ v1 : Int32, v1 = (gA z0 19 x1.toNatClampNeg) → (vp_in ((10 : Int32) + x1) 28 ∧ (∀ v2 : Int32, v2 = (gA z0 23 ((10 : Int32) + x1).toNatClampNeg) → (S_House_joyBy (fun (r3 : Int32) (z1 : St) => (vp_in ((4 : Int32) + x1) 28 ∧ (S_Table_brings_8 (fun (r4 : Int32) (z2 : St) => (S_Table_moodBehind (fun (r5 : Int32) (z3 : St) => (vp_in ((10 : Int32) + x1) 28 ∧ (∀ z4 : St, z4 = sA z3 23 ((10 : Int32) + x1).toNatClampNeg r5 → (vp_in ((16 : Int32) + x1) 28 ∧ (vp_in ((16 : Int32) + x1) 28 ∧ (∀ z5 : St, z5 = sA z4 23 ((16 : Int32) + x1).toNatClampNeg ((gA z4 23 ((16 : Int32) + x1).toNatClampNeg) + r3) → (∀ z6 : St, z6 = sA z5 23 3 ((gA z5 23 3) + (1 : Int32)) → ((r4 = (-1 : Int32) → (post r4 z6)) ∧ (¬ r4 = (-1 : Int32) → (vp_in ((4 : Int32) + x1) 28 ∧ (vp_in ((22 : Int32) + r4) 28 ∧ (vp_in ((4 : Int32) + x1) 28 ∧ (∀ z7 : St, z7 = sA z6 23 ((4 : Int32) + x1).toNatClampNeg ((gA z6 23 ((4 : Int32) + x1).toNatClampNeg) - (gA z6 23 ((22 : Int32) + r4).toNatClampNeg)) → (∀ z8 : St, z8 = sA z7 23 0 r4 → (post r4 z8))))))))))))))) v2 r3 z2)) v1 v2 (gA z1 23 ((4 : Int32) + x1).toNatClampNeg) (gA z1 23 3) (gA z1 23 0) z1))) v1 (gA z0 23 0) z0)))))
set_option maxHeartbeats 4000000 in
set_option maxRecDepth 100000 in
theorem w_Table_receive_8_0 {p : Program} {l : Launch} {e : Env} {R : Room} {s : State} {m : MethodId} {args : Array Value} {below : List Frame} {meth : Method} {c : Code} {Q : State → Prop} {G : GX} {A : Nat → Prop} (S : CallFix p m c cX8_receive 6 s args GW RX8) (hE : env G A s s.heap) (hA : ∀ q, s.heap.size ≤ q → A q) (hRf : 3 ≤ R.frames) (hRl : 76 ≤ R.locals) {post : Int32 → St → Prop} (hret : RetI p l e R s m args below meth c Q 0 0 wX G A cX8_receive post) (x1 : Int32) (z0 : St) (hB : S_Table_receive_8 post x1 z0) : Xw p l e R s m args below meth c Q 0 0 wX G A z0 6 [(0, .ref (ad G 8)), (1, .int x1)] 0 [] := by
  intro H locs ls hP hD hS hl
  have hx := S.1
  have hb := S.2.1
  refine lv_aload_n hx hb dX8_receive_0 rfl (lv_at hl 0 rfl) ?_
  refine xXg_8_house S hE hP lk_X8_15 dX8_receive_1 ?_
  refine xXg_6_likes S hE hP lk_X8_97 dX8_receive_4 ?_
  refine lv_iload_n hx hb dX8_receive_7 rfl (lv_at hl 1 rfl) ?_
  obtain ⟨hi, hB⟩ := hB
  refine xXl_19 S hE hP hi dX8_receive_8 ?_
  refine lv_topi (fun v1 ev1 => ?_)
  have hB := hB v1 ev1
  refine lv_istore_n (lv' := [(2, .int v1), (0, .ref (ad G 8)), (1, .int x1)]) hx hb dX8_receive_9 rfl hl (by decide) rfl (fun ls hl => ?_)
  refine lv_aload_n hx hb dX8_receive_10 rfl (lv_at hl 1 rfl) ?_
  refine xXg_8_cells S hE hP lk_X8_11 dX8_receive_11 ?_
  refine lv_bipush (v := 10) hx hb dX8_receive_14 (by decide) ?_
  refine lv_iload_n hx hb dX8_receive_16 rfl (lv_at hl 2 rfl) ?_
  refine lv_iadd hx hb dX8_receive_17 ?_
  obtain ⟨hi, hB⟩ := hB
  refine xXl_23 S hE hP hi dX8_receive_18 ?_
  refine lv_topi (fun v2 ev2 => ?_)
  have hB := hB v2 ev2
  refine lv_istore_n (lv' := [(3, .int v2), (2, .int v1), (0, .ref (ad G 8)), (1, .int x1)]) hx hb dX8_receive_19 rfl hl (by decide) rfl (fun ls hl => ?_)
  refine lv_aload_n hx hb dX8_receive_20 rfl (lv_at hl 2 rfl) ?_
  refine xXg_8_house S hE hP lk_X8_15 dX8_receive_21 ?_
  refine lv_iload_n hx hb dX8_receive_24 rfl (lv_at hl 1 rfl) ?_
  refine lv_aload_n hx hb dX8_receive_25 rfl (lv_at hl 2 rfl) ?_
  refine xXg_8_cells S hE hP lk_X8_11 dX8_receive_26 ?_
  refine lv_iconst (v := 0) hx hb dX8_receive_29 (by decide) ?_
  refine xXk_23 S hE hP 0 (by decide) (by unfold vp_in; decide) dX8_receive_30 ?_
  refine xcVi [.int v1, .int (gA z0 23 0)] S hE hA hP hD hS (c_House_joyBy l G z0 H.size v1 (gA z0 23 0) _) hB (gw_c lk_X8_100 (gw_c wi_X0_joyBy (gw_c we_X0_X0_joyBy_X0_joyBy (gw_c wn_X0 (gw_c wc_X0_joyBy (fun _ h9 => h9)))))) hd_X0_joyBy rfl rfl (Nat.le_trans (Nat.le_of_ble_eq_true rfl) hRf) (Nat.le_trans (Nat.le_of_ble_eq_true rfl) hRl) ⟨Nat.zero_le _, Nat.zero_le _⟩ (va_recv hE.1 hP (ci := 0) (q0 := 6) rfl rfl) rfl hl.1 rfl (Nat.le_of_ble_eq_true rfl) dX8_receive_31 (fun r3 z1 H locs hB hP hD hS => ?_)
  refine lv_istore (lv' := [(4, .int r3), (3, .int v2), (2, .int v1), (0, .ref (ad G 8)), (1, .int x1)]) hx hb dX8_receive_34 hl (by decide) rfl (fun ls hl => ?_)
  refine lv_aload_n hx hb dX8_receive_36 rfl (lv_at hl 3 rfl) ?_
  refine lv_iload_n hx hb dX8_receive_37 rfl (lv_at hl 2 rfl) ?_
  refine lv_iload_n hx hb dX8_receive_38 rfl (lv_at hl 1 rfl) ?_
  refine lv_aload_n hx hb dX8_receive_39 rfl (lv_at hl 3 rfl) ?_
  refine xXg_8_cells S hE hP lk_X8_11 dX8_receive_40 ?_
  refine lv_iconst (v := 4) hx hb dX8_receive_43 (by decide) ?_
  refine lv_iload_n hx hb dX8_receive_44 rfl (lv_at hl 4 rfl) ?_
  refine lv_iadd hx hb dX8_receive_45 ?_
  obtain ⟨hi, hB⟩ := hB
  refine xXl_23 S hE hP hi dX8_receive_46 ?_
  refine lv_aload_n hx hb dX8_receive_47 rfl (lv_at hl 3 rfl) ?_
  refine xXg_8_cells S hE hP lk_X8_11 dX8_receive_48 ?_
  refine lv_iconst (v := 3) hx hb dX8_receive_51 (by decide) ?_
  refine xXk_23 S hE hP 3 (by decide) (by unfold vp_in; decide) dX8_receive_52 ?_
  refine lv_aload_n hx hb dX8_receive_53 rfl (lv_at hl 3 rfl) ?_
  refine xXg_8_cells S hE hP lk_X8_11 dX8_receive_54 ?_
  refine lv_iconst (v := 0) hx hb dX8_receive_57 (by decide) ?_
  refine xXk_23 S hE hP 0 (by decide) (by unfold vp_in; decide) dX8_receive_58 ?_
  refine xcVi [.int v1, .int v2, .int (gA z1 23 ((4 : Int32) + x1).toNatClampNeg), .int (gA z1 23 3), .int (gA z1 23 0)] S hE hA hP hD hS (c_Table_brings_8 l G z1 H.size v1 v2 (gA z1 23 ((4 : Int32) + x1).toNatClampNeg) (gA z1 23 3) (gA z1 23 0) _) hB (gw_c lk_X8_103 (gw_c wi_X8_brings (gw_c we_X8_X8_brings_X8_brings (gw_c wn_X8 (gw_c wc_X8_brings (fun _ h9 => h9)))))) hd_X8_brings rfl rfl (Nat.le_trans (Nat.le_of_ble_eq_true rfl) hRf) (Nat.le_trans (Nat.le_of_ble_eq_true rfl) hRl) ⟨Nat.zero_le _, Nat.zero_le _⟩ (va_recv hE.1 hP (ci := 7) (q0 := 8) rfl rfl) rfl hl.1 rfl (Nat.le_of_ble_eq_true rfl) dX8_receive_59 (fun r4 z2 H locs hB hP hD hS => ?_)
  refine lv_istore (lv' := [(5, .int r4), (4, .int r3), (3, .int v2), (2, .int v1), (0, .ref (ad G 8)), (1, .int x1)]) hx hb dX8_receive_62 hl (by decide) rfl (fun ls hl => ?_)
  refine lv_aload_n hx hb dX8_receive_64 rfl (lv_at hl 4 rfl) ?_
  refine xXg_8_cells S hE hP lk_X8_11 dX8_receive_65 ?_
  refine lv_bipush (v := 10) hx hb dX8_receive_68 (by decide) ?_
  refine lv_iload_n hx hb dX8_receive_70 rfl (lv_at hl 5 rfl) ?_
  refine lv_iadd hx hb dX8_receive_71 ?_
  refine lv_iload_n hx hb dX8_receive_72 rfl (lv_at hl 2 rfl) ?_
  refine lv_iload hx hb dX8_receive_73 (lv_at hl 1 rfl) ?_
  refine xcSi [.int v2, .int r3] S hE hA hP hD hS (c_Table_moodBehind l G z2 H.size v2 r3 _) hB (gw_c lk_X8_107 (gw_c wt_X8_moodBehind (gw_c wn_X8 (gw_c wc_X8_moodBehind (fun _ h9 => h9))))) hs_X8_moodBehind rfl rfl (Nat.le_trans (Nat.le_of_ble_eq_true rfl) hRf) (Nat.le_trans (Nat.le_of_ble_eq_true rfl) hRl) ⟨Nat.zero_le _, Nat.zero_le _⟩ rfl hl.1 rfl (Nat.le_of_ble_eq_true rfl) dX8_receive_75 (fun r5 z3 H locs hB hP hD hS => ?_)
  obtain ⟨hi, hB⟩ := hB
  obtain ⟨z4, ez4⟩ : ∃ z9, z9 = sA z3 23 ((10 : Int32) + x1).toNatClampNeg r5 := ⟨_, rfl⟩
  have hB := hB z4 ez4
  refine xXs_23 S hE hP hD hS _ rfl hi dX8_receive_78 (fun H locs hP hD hS => ?_)
  rw [← ez4] at hP hD
  refine lv_aload_n hx hb dX8_receive_79 rfl (lv_at hl 4 rfl) ?_
  refine xXg_8_cells S hE hP lk_X8_11 dX8_receive_80 ?_
  refine lv_bipush (v := 16) hx hb dX8_receive_83 (by decide) ?_
  refine lv_iload_n hx hb dX8_receive_85 rfl (lv_at hl 5 rfl) ?_
  refine lv_iadd hx hb dX8_receive_86 ?_
  refine lv_dup2_11 hx hb dX8_receive_87 rfl rfl ?_
  obtain ⟨hi, hB⟩ := hB
  refine xXl_23 S hE hP hi dX8_receive_88 ?_
  refine lv_iload hx hb dX8_receive_89 (lv_at hl 1 rfl) ?_
  refine lv_iadd hx hb dX8_receive_91 ?_
  obtain ⟨hi, hB⟩ := hB
  obtain ⟨z5, ez5⟩ : ∃ z9, z9 = sA z4 23 ((16 : Int32) + x1).toNatClampNeg ((gA z4 23 ((16 : Int32) + x1).toNatClampNeg) + r3) := ⟨_, rfl⟩
  have hB := hB z5 ez5
  refine xXs_23 S hE hP hD hS _ rfl hi dX8_receive_92 (fun H locs hP hD hS => ?_)
  rw [← ez5] at hP hD
  refine lv_aload_n hx hb dX8_receive_93 rfl (lv_at hl 4 rfl) ?_
  refine xXg_8_cells S hE hP lk_X8_11 dX8_receive_94 ?_
  refine lv_iconst (v := 3) hx hb dX8_receive_97 (by decide) ?_
  refine lv_dup2_11 hx hb dX8_receive_98 rfl rfl ?_
  refine xXk_23 S hE hP 3 (by decide) (by unfold vp_in; decide) dX8_receive_99 ?_
  refine lv_iconst (v := 1) hx hb dX8_receive_100 (by decide) ?_
  refine lv_iadd hx hb dX8_receive_101 ?_
  obtain ⟨z6, ez6⟩ : ∃ z9, z9 = sA z5 23 3 ((gA z5 23 3) + (1 : Int32)) := ⟨_, rfl⟩
  have hB := hB z6 ez6
  refine xXs_23 S hE hP hD hS 3 (by decide) (by unfold vp_in; decide) dX8_receive_102 (fun H locs hP hD hS => ?_)
  rw [← ez6] at hP hD
  refine lv_iload hx hb dX8_receive_103 (lv_at hl 0 rfl) ?_
  refine lv_iconst (v := -1) hx hb dX8_receive_105 (by decide) ?_
  refine lv_icmp_eq (tgt := 138) hx hb dX8_receive_106 (by decide) (fun c6 => ?_) (fun c6 => ?_)
  · have hB := hB.1 c6
    refine lv_iload hx hb dX8_receive_138 (lv_at hl 0 rfl) ?_
    exact hret _ _ _ _ _ _ dX8_receive_140 hB hP hD hS
  · have hB := hB.2 c6
    refine lv_aload_n hx hb dX8_receive_109 rfl (lv_at hl 4 rfl) ?_
    refine xXg_8_cells S hE hP lk_X8_11 dX8_receive_110 ?_
    refine lv_iconst (v := 4) hx hb dX8_receive_113 (by decide) ?_
    refine lv_iload_n hx hb dX8_receive_114 rfl (lv_at hl 5 rfl) ?_
    refine lv_iadd hx hb dX8_receive_115 ?_
    refine lv_dup2_11 hx hb dX8_receive_116 rfl rfl ?_
    obtain ⟨hi, hB⟩ := hB
    refine xXl_23 S hE hP hi dX8_receive_117 ?_
    refine lv_aload_n hx hb dX8_receive_118 rfl (lv_at hl 4 rfl) ?_
    refine xXg_8_cells S hE hP lk_X8_11 dX8_receive_119 ?_
    refine lv_bipush (v := 22) hx hb dX8_receive_122 (by decide) ?_
    refine lv_iload hx hb dX8_receive_124 (lv_at hl 0 rfl) ?_
    refine lv_iadd hx hb dX8_receive_126 ?_
    obtain ⟨hi, hB⟩ := hB
    refine xXl_23 S hE hP hi dX8_receive_127 ?_
    refine lv_isub hx hb dX8_receive_128 ?_
    obtain ⟨hi, hB⟩ := hB
    obtain ⟨z7, ez7⟩ : ∃ z9, z9 = sA z6 23 ((4 : Int32) + x1).toNatClampNeg ((gA z6 23 ((4 : Int32) + x1).toNatClampNeg) - (gA z6 23 ((22 : Int32) + r4).toNatClampNeg)) := ⟨_, rfl⟩
    have hB := hB z7 ez7
    refine xXs_23 S hE hP hD hS _ rfl hi dX8_receive_129 (fun H locs hP hD hS => ?_)
    rw [← ez7] at hP hD
    refine lv_aload_n hx hb dX8_receive_130 rfl (lv_at hl 4 rfl) ?_
    refine xXg_8_cells S hE hP lk_X8_11 dX8_receive_131 ?_
    refine lv_iconst (v := 0) hx hb dX8_receive_134 (by decide) ?_
    refine lv_iload hx hb dX8_receive_135 (lv_at hl 0 rfl) ?_
    obtain ⟨z8, ez8⟩ : ∃ z9, z9 = sA z7 23 0 r4 := ⟨_, rfl⟩
    have hB := hB z8 ez8
    refine xXs_23 S hE hP hD hS 0 (by decide) (by unfold vp_in; decide) dX8_receive_137 (fun H locs hP hD hS => ?_)
    rw [← ez8] at hP hD
    refine lv_iload hx hb dX8_receive_138 (lv_at hl 0 rfl) ?_
    exact hret _ _ _ _ _ _ dX8_receive_140 hB hP hD hS
set_option maxHeartbeats 4000000 in
set_option maxRecDepth 100000 in
theorem c_Table_receive_8 (l : Launch) (G : GX) (z0 : St) (sz : Nat) (x1 : Int32) (post : Int32 → St → Prop) : MetI l wX yX8_receive cX8_receive 6 (some .int) ({ frames := 3, cells := 0, slots := 0, locals := 76 }) [.ref (ad G 8), .int x1] G z0 sz (S_Table_receive_8 post x1 z0) post := by
  refine Met.ofW (cc := cX8_receive) (maxL := 6) (ret := (some .int)) (by decide) rfl ?_
  intro p e s m args below meth c s₁ B hml hv
  obtain ⟨rfl, hsz, hP, hD0, hE, hB⟩ := hv
  have S : CallFix p m c cX8_receive 6 s _ GW RX8 := ⟨B.exec, B.bytes, hml, findClass_of_methodNamed B.named, fun w h => atoms_spec (ws := Cond.code yX8_receive cX8_receive 6 (some .int) :: GW) B.pre w (List.mem_cons_of_mem _ h)⟩
  have hlocks := B.notSynchronized
  subst hsz
  have hD := hD0.self (sz := s.heap.size)
  generalize hAe : va_A (wX G z0) s.heap.size = A at hD hE ⊢
  have hA : ∀ q : Nat, s.heap.size ≤ q → A q := fun q h => by rw [← hAe]; exact Or.inr h
  have hS : va_S A s.heap s.heap [] := va_S.rf
  have hl := lv_entry ([.ref (ad G 8), .int x1]) (n := 6) (Nat.le_of_ble_eq_true rfl)
  rw [lg_entry_eq]
  generalize (lg_sl ([.ref (ad G 8), .int x1]) ++ List.replicate (6 - (lg_sl ([.ref (ad G 8), .int x1])).length) Slot.unset).toArray = ls at hl ⊢
  have hl : lv_has ls 6 [(0, .ref (ad G 8)), (1, .int x1)] := hl
  refine w_Table_receive_8_0 S hE hA (Nat.le_refl _) (Nat.le_refl _) ?_ x1 z0 hB _ _ _ hP hD hS hl
  intro pc ls r σ H locs hd hp hP hD hS
  exact W.iret (v := r) B.exec B.bytes B.returns (fun t ht hW => ⟨⟨r, σ, rfl, hp, by rw [ht]; exact hP, hD⟩, hS.F ht⟩) hS.2.2 hd
def S_Table_carry_8 (post : St → Prop) (x1 : Int32) (x2 : Int32) (z0 : St) : Prop :=
  ((x1 = 0 → (S_Table_receive_8 (fun (r3 : Int32) (z4 : St) => (post z4)) x2 z0)) ∧ (¬ x1 = 0 → ((x1 = (1 : Int32) → (S_Table_passMonth_8 (fun (z3 : St) => (post z3)) z0)) ∧ (¬ x1 = (1 : Int32) → (∀ z1 : St, z1 = sA z0 23 0 x2 → (∀ z2 : St, z2 = sA z1 23 2 (1 : Int32) → (post z2)))))))
set_option maxHeartbeats 4000000 in
set_option maxRecDepth 100000 in
theorem w_Table_carry_8_0 {p : Program} {l : Launch} {e : Env} {R : Room} {s : State} {m : MethodId} {args : Array Value} {below : List Frame} {meth : Method} {c : Code} {Q : State → Prop} {G : GX} {A : Nat → Prop} (S : CallFix p m c cX8_carry 3 s args GW RX8) (hE : env G A s s.heap) (hA : ∀ q, s.heap.size ≤ q → A q) (hRf : 4 ≤ R.frames) (hRl : 101 ≤ R.locals) {post : St → Prop} (hret : RetV p l e R s m args below meth c Q 0 0 wX G A cX8_carry post) (x1 : Int32) (x2 : Int32) (z0 : St) (hB : S_Table_carry_8 post x1 x2 z0) : Xw p l e R s m args below meth c Q 0 0 wX G A z0 3 [(0, .ref (ad G 8)), (1, .int x1), (2, .int x2)] 0 [] := by
  intro H locs ls hP hD hS hl
  have hx := S.1
  have hb := S.2.1
  refine lv_iload_n hx hb dX8_carry_0 rfl (lv_at hl 1 rfl) ?_
  refine lv_if_ne (tgt := 13) hx hb dX8_carry_1 (by decide) (fun c1 => ?_) (fun c1 => ?_)
  · have hB := hB.2 c1
    refine lv_iload_n hx hb dX8_carry_13 rfl (lv_at hl 1 rfl) ?_
    refine lv_iconst (v := 1) hx hb dX8_carry_14 (by decide) ?_
    refine lv_icmp_ne (tgt := 25) hx hb dX8_carry_15 (by decide) (fun c2 => ?_) (fun c2 => ?_)
    · have hB := hB.2 c2
      refine lv_aload_n hx hb dX8_carry_25 rfl (lv_at hl 0 rfl) ?_
      refine xXg_8_cells S hE hP lk_X8_11 dX8_carry_26 ?_
      refine lv_iconst (v := 0) hx hb dX8_carry_29 (by decide) ?_
      refine lv_iload_n hx hb dX8_carry_30 rfl (lv_at hl 2 rfl) ?_
      obtain ⟨z1, ez1⟩ : ∃ z9, z9 = sA z0 23 0 x2 := ⟨_, rfl⟩
      have hB := hB z1 ez1
      refine xXs_23 S hE hP hD hS 0 (by decide) (by unfold vp_in; decide) dX8_carry_31 (fun H locs hP hD hS => ?_)
      rw [← ez1] at hP hD
      refine lv_aload_n hx hb dX8_carry_32 rfl (lv_at hl 0 rfl) ?_
      refine xXg_8_cells S hE hP lk_X8_11 dX8_carry_33 ?_
      refine lv_iconst (v := 2) hx hb dX8_carry_36 (by decide) ?_
      refine lv_iconst (v := 1) hx hb dX8_carry_37 (by decide) ?_
      obtain ⟨z2, ez2⟩ : ∃ z9, z9 = sA z1 23 2 (1 : Int32) := ⟨_, rfl⟩
      have hB := hB z2 ez2
      refine xXs_23 S hE hP hD hS 2 (by decide) (by unfold vp_in; decide) dX8_carry_38 (fun H locs hP hD hS => ?_)
      rw [← ez2] at hP hD
      exact hret _ _ _ _ _ dX8_carry_39 hB hP hD hS
    · have hB := hB.1 c2
      refine lv_aload_n hx hb dX8_carry_18 rfl (lv_at hl 0 rfl) ?_
      refine xcVv [] S hE hA hP hD hS (c_Table_passMonth_8 l G z0 H.size _) hB (gw_c lk_X8_80 (gw_c wi_X8_passMonth (gw_c we_X8_X8_passMonth_X8_passMonth (gw_c wn_X8 (gw_c wc_X8_passMonth (fun _ h9 => h9)))))) hd_X8_passMonth rfl rfl (Nat.le_trans (Nat.le_of_ble_eq_true rfl) hRf) (Nat.le_trans (Nat.le_of_ble_eq_true rfl) hRl) ⟨Nat.zero_le _, Nat.zero_le _⟩ (va_recv hE.1 hP (ci := 7) (q0 := 8) rfl rfl) rfl hl.1 rfl (Nat.le_of_ble_eq_true rfl) dX8_carry_19 (fun z3 H locs hB hP hD hS => ?_)
      refine lv_goto (tgt := 39) hx hb dX8_carry_22 (by decide) ?_
      exact hret _ _ _ _ _ dX8_carry_39 hB hP hD hS
  · have hB := hB.1 c1
    refine lv_aload_n hx hb dX8_carry_4 rfl (lv_at hl 0 rfl) ?_
    refine lv_iload_n hx hb dX8_carry_5 rfl (lv_at hl 2 rfl) ?_
    refine xcVi [.int x2] S hE hA hP hD hS (c_Table_receive_8 l G z0 H.size x2 _) hB (gw_c lk_X8_77 (gw_c wi_X8_receive (gw_c we_X8_X8_receive_X8_receive (gw_c wn_X8 (gw_c wc_X8_receive (fun _ h9 => h9)))))) hd_X8_receive rfl rfl (Nat.le_trans (Nat.le_of_ble_eq_true rfl) hRf) (Nat.le_trans (Nat.le_of_ble_eq_true rfl) hRl) ⟨Nat.zero_le _, Nat.zero_le _⟩ (va_recv hE.1 hP (ci := 7) (q0 := 8) rfl rfl) rfl hl.1 rfl (Nat.le_of_ble_eq_true rfl) dX8_carry_6 (fun r3 z4 H locs hB hP hD hS => ?_)
    refine lv_pop hx hb dX8_carry_9 rfl ?_
    refine lv_goto (tgt := 39) hx hb dX8_carry_10 (by decide) ?_
    exact hret _ _ _ _ _ dX8_carry_39 hB hP hD hS
set_option maxHeartbeats 4000000 in
set_option maxRecDepth 100000 in
theorem c_Table_carry_8 (l : Launch) (G : GX) (z0 : St) (sz : Nat) (x1 : Int32) (x2 : Int32) (post : St → Prop) : MetV l wX yX8_carry cX8_carry 3 none ({ frames := 4, cells := 0, slots := 0, locals := 101 }) [.ref (ad G 8), .int x1, .int x2] G z0 sz (S_Table_carry_8 post x1 x2 z0) post := by
  refine Met.ofW (cc := cX8_carry) (maxL := 3) (ret := none) (by decide) rfl ?_
  intro p e s m args below meth c s₁ B hml hv
  obtain ⟨rfl, hsz, hP, hD0, hE, hB⟩ := hv
  have S : CallFix p m c cX8_carry 3 s _ GW RX8 := ⟨B.exec, B.bytes, hml, findClass_of_methodNamed B.named, fun w h => atoms_spec (ws := Cond.code yX8_carry cX8_carry 3 none :: GW) B.pre w (List.mem_cons_of_mem _ h)⟩
  have hlocks := B.notSynchronized
  subst hsz
  have hD := hD0.self (sz := s.heap.size)
  generalize hAe : va_A (wX G z0) s.heap.size = A at hD hE ⊢
  have hA : ∀ q : Nat, s.heap.size ≤ q → A q := fun q h => by rw [← hAe]; exact Or.inr h
  have hS : va_S A s.heap s.heap [] := va_S.rf
  have hl := lv_entry ([.ref (ad G 8), .int x1, .int x2]) (n := 3) (Nat.le_of_ble_eq_true rfl)
  rw [lg_entry_eq]
  generalize (lg_sl ([.ref (ad G 8), .int x1, .int x2]) ++ List.replicate (3 - (lg_sl ([.ref (ad G 8), .int x1, .int x2])).length) Slot.unset).toArray = ls at hl ⊢
  have hl : lv_has ls 3 [(0, .ref (ad G 8)), (1, .int x1), (2, .int x2)] := hl
  refine w_Table_carry_8_0 S hE hA (Nat.le_refl _) (Nat.le_refl _) ?_ x1 x2 z0 hB _ _ _ hP hD hS hl
  intro pc ls σ H locs hd hp hP hD hS
  exact W.vret B.exec B.bytes B.returns (fun t ht hW => ⟨⟨σ, rfl, hp, by rw [ht]; exact hP, hD⟩, hS.F ht⟩) hS.2.2 hd
def S_Table_gladness_8 (post : Int32 → St → Prop) (x1 : Int32) (z0 : St) : Prop :=
  (vp_in x1 6 ∧ (S_House_joyBy (fun (r1 : Int32) (z1 : St) => (post r1 z1)) (gA z0 19 x1.toNatClampNeg) (gA z0 23 0) z0))
set_option maxHeartbeats 4000000 in
set_option maxRecDepth 100000 in
theorem w_Table_gladness_8_0 {p : Program} {l : Launch} {e : Env} {R : Room} {s : State} {m : MethodId} {args : Array Value} {below : List Frame} {meth : Method} {c : Code} {Q : State → Prop} {G : GX} {A : Nat → Prop} (S : CallFix p m c cX8_gladness 2 s args GW RX8) (hE : env G A s s.heap) (hA : ∀ q, s.heap.size ≤ q → A q) (hRf : 1 ≤ R.frames) (hRl : 22 ≤ R.locals) {post : Int32 → St → Prop} (hret : RetI p l e R s m args below meth c Q 0 0 wX G A cX8_gladness post) (x1 : Int32) (z0 : St) (hB : S_Table_gladness_8 post x1 z0) : Xw p l e R s m args below meth c Q 0 0 wX G A z0 2 [(0, .ref (ad G 8)), (1, .int x1)] 0 [] := by
  intro H locs ls hP hD hS hl
  have hx := S.1
  have hb := S.2.1
  refine lv_aload_n hx hb dX8_gladness_0 rfl (lv_at hl 0 rfl) ?_
  refine xXg_8_house S hE hP lk_X8_15 dX8_gladness_1 ?_
  refine lv_aload_n hx hb dX8_gladness_4 rfl (lv_at hl 0 rfl) ?_
  refine xXg_8_house S hE hP lk_X8_15 dX8_gladness_5 ?_
  refine xXg_6_likes S hE hP lk_X8_97 dX8_gladness_8 ?_
  refine lv_iload_n hx hb dX8_gladness_11 rfl (lv_at hl 1 rfl) ?_
  obtain ⟨hi, hB⟩ := hB
  refine xXl_19 S hE hP hi dX8_gladness_12 ?_
  refine lv_aload_n hx hb dX8_gladness_13 rfl (lv_at hl 0 rfl) ?_
  refine xXg_8_cells S hE hP lk_X8_11 dX8_gladness_14 ?_
  refine lv_iconst (v := 0) hx hb dX8_gladness_17 (by decide) ?_
  refine xXk_23 S hE hP 0 (by decide) (by unfold vp_in; decide) dX8_gladness_18 ?_
  refine xcVi [.int (gA z0 19 x1.toNatClampNeg), .int (gA z0 23 0)] S hE hA hP hD hS (c_House_joyBy l G z0 H.size (gA z0 19 x1.toNatClampNeg) (gA z0 23 0) _) hB (gw_c lk_X8_100 (gw_c wi_X0_joyBy (gw_c we_X0_X0_joyBy_X0_joyBy (gw_c wn_X0 (gw_c wc_X0_joyBy (fun _ h9 => h9)))))) hd_X0_joyBy rfl rfl (Nat.le_trans (Nat.le_of_ble_eq_true rfl) hRf) (Nat.le_trans (Nat.le_of_ble_eq_true rfl) hRl) ⟨Nat.zero_le _, Nat.zero_le _⟩ (va_recv hE.1 hP (ci := 0) (q0 := 6) rfl rfl) rfl hl.1 rfl (Nat.le_of_ble_eq_true rfl) dX8_gladness_19 (fun r1 z1 H locs hB hP hD hS => ?_)
  exact hret _ _ _ _ _ _ dX8_gladness_22 hB hP hD hS
set_option maxHeartbeats 4000000 in
set_option maxRecDepth 100000 in
theorem c_Table_gladness_8 (l : Launch) (G : GX) (z0 : St) (sz : Nat) (x1 : Int32) (post : Int32 → St → Prop) : MetI l wX yX8_gladness cX8_gladness 2 (some .int) ({ frames := 1, cells := 0, slots := 0, locals := 22 }) [.ref (ad G 8), .int x1] G z0 sz (S_Table_gladness_8 post x1 z0) post := by
  refine Met.ofW (cc := cX8_gladness) (maxL := 2) (ret := (some .int)) (by decide) rfl ?_
  intro p e s m args below meth c s₁ B hml hv
  obtain ⟨rfl, hsz, hP, hD0, hE, hB⟩ := hv
  have S : CallFix p m c cX8_gladness 2 s _ GW RX8 := ⟨B.exec, B.bytes, hml, findClass_of_methodNamed B.named, fun w h => atoms_spec (ws := Cond.code yX8_gladness cX8_gladness 2 (some .int) :: GW) B.pre w (List.mem_cons_of_mem _ h)⟩
  have hlocks := B.notSynchronized
  subst hsz
  have hD := hD0.self (sz := s.heap.size)
  generalize hAe : va_A (wX G z0) s.heap.size = A at hD hE ⊢
  have hA : ∀ q : Nat, s.heap.size ≤ q → A q := fun q h => by rw [← hAe]; exact Or.inr h
  have hS : va_S A s.heap s.heap [] := va_S.rf
  have hl := lv_entry ([.ref (ad G 8), .int x1]) (n := 2) (Nat.le_of_ble_eq_true rfl)
  rw [lg_entry_eq]
  generalize (lg_sl ([.ref (ad G 8), .int x1]) ++ List.replicate (2 - (lg_sl ([.ref (ad G 8), .int x1])).length) Slot.unset).toArray = ls at hl ⊢
  have hl : lv_has ls 2 [(0, .ref (ad G 8)), (1, .int x1)] := hl
  refine w_Table_gladness_8_0 S hE hA (Nat.le_refl _) (Nat.le_refl _) ?_ x1 z0 hB _ _ _ hP hD hS hl
  intro pc ls r σ H locs hd hp hP hD hS
  exact W.iret (v := r) B.exec B.bytes B.returns (fun t ht hW => ⟨⟨r, σ, rfl, hp, by rw [ht]; exact hP, hD⟩, hS.F ht⟩) hS.2.2 hd
def S_Table_visits_8 (post : Int32 → St → Prop) (z0 : St) : Prop :=
  (post (gA z0 23 3) z0)
set_option maxHeartbeats 4000000 in
set_option maxRecDepth 100000 in
theorem w_Table_visits_8_0 {p : Program} {l : Launch} {e : Env} {R : Room} {s : State} {m : MethodId} {args : Array Value} {below : List Frame} {meth : Method} {c : Code} {Q : State → Prop} {G : GX} {A : Nat → Prop} (S : CallFix p m c cX8_visits 1 s args GW RX8) (hE : env G A s s.heap) (hA : ∀ q, s.heap.size ≤ q → A q) (hRf : 0 ≤ R.frames) (hRl : 0 ≤ R.locals) {post : Int32 → St → Prop} (hret : RetI p l e R s m args below meth c Q 0 0 wX G A cX8_visits post) (z0 : St) (hB : S_Table_visits_8 post z0) : Xw p l e R s m args below meth c Q 0 0 wX G A z0 1 [(0, .ref (ad G 8))] 0 [] := by
  intro H locs ls hP hD hS hl
  have hx := S.1
  have hb := S.2.1
  refine lv_aload_n hx hb dX8_visits_0 rfl (lv_at hl 0 rfl) ?_
  refine xXg_8_cells S hE hP lk_X8_11 dX8_visits_1 ?_
  refine lv_iconst (v := 3) hx hb dX8_visits_4 (by decide) ?_
  refine xXk_23 S hE hP 3 (by decide) (by unfold vp_in; decide) dX8_visits_5 ?_
  exact hret _ _ _ _ _ _ dX8_visits_6 hB hP hD hS
set_option maxHeartbeats 4000000 in
set_option maxRecDepth 100000 in
theorem c_Table_visits_8 (l : Launch) (G : GX) (z0 : St) (sz : Nat) (post : Int32 → St → Prop) : MetI l wX yX8_visits cX8_visits 1 (some .int) ({ frames := 0, cells := 0, slots := 0, locals := 0 }) [.ref (ad G 8)] G z0 sz (S_Table_visits_8 post z0) post := by
  refine Met.ofW (cc := cX8_visits) (maxL := 1) (ret := (some .int)) (by decide) rfl ?_
  intro p e s m args below meth c s₁ B hml hv
  obtain ⟨rfl, hsz, hP, hD0, hE, hB⟩ := hv
  have S : CallFix p m c cX8_visits 1 s _ GW RX8 := ⟨B.exec, B.bytes, hml, findClass_of_methodNamed B.named, fun w h => atoms_spec (ws := Cond.code yX8_visits cX8_visits 1 (some .int) :: GW) B.pre w (List.mem_cons_of_mem _ h)⟩
  have hlocks := B.notSynchronized
  subst hsz
  have hD := hD0.self (sz := s.heap.size)
  generalize hAe : va_A (wX G z0) s.heap.size = A at hD hE ⊢
  have hA : ∀ q : Nat, s.heap.size ≤ q → A q := fun q h => by rw [← hAe]; exact Or.inr h
  have hS : va_S A s.heap s.heap [] := va_S.rf
  have hl := lv_entry ([.ref (ad G 8)]) (n := 1) (Nat.le_of_ble_eq_true rfl)
  rw [lg_entry_eq]
  generalize (lg_sl ([.ref (ad G 8)]) ++ List.replicate (1 - (lg_sl ([.ref (ad G 8)])).length) Slot.unset).toArray = ls at hl ⊢
  have hl : lv_has ls 1 [(0, .ref (ad G 8))] := hl
  refine w_Table_visits_8_0 S hE hA (Nat.le_refl _) (Nat.le_refl _) ?_  z0 hB _ _ _ hP hD hS hl
  intro pc ls r σ H locs hd hp hP hD hS
  exact W.iret (v := r) B.exec B.bytes B.returns (fun t ht hW => ⟨⟨r, σ, rfl, hp, by rw [ht]; exact hP, hD⟩, hS.F ht⟩) hS.2.2 hd
def S_Math_floorMod_7cf53_X (post : Int32 → St → Prop) (x0 : Int32) (x1 : Int32) (z0 : St) : Prop :=
  (¬ x1 = 0 ∧ (∀ v1 : Int32, v1 = (x0 - x0 / x1 * x1) → ((0 ≤ (x0 ^^^ x1) → (post v1 z0)) ∧ (¬ 0 ≤ (x0 ^^^ x1) → ((v1 = 0 → (post v1 z0)) ∧ (¬ v1 = 0 → (post (v1 + x1) z0)))))))
set_option maxHeartbeats 4000000 in
set_option maxRecDepth 100000 in
theorem w_Math_floorMod_7cf53_X_0 {p : Program} {l : Launch} {e : Env} {R : Room} {s : State} {m : MethodId} {args : Array Value} {below : List Frame} {meth : Method} {c : Code} {Q : State → Prop} {G : GX} {A : Nat → Prop} (S : CallFix p m c cJ9_floorMod_7cf53 3 s args GW RJ9) (hE : env G A s s.heap) (hA : ∀ q, s.heap.size ≤ q → A q) (hRf : 0 ≤ R.frames) (hRl : 0 ≤ R.locals) {post : Int32 → St → Prop} (hret : RetI p l e R s m args below meth c Q 0 0 wX G A cJ9_floorMod_7cf53 post) (x0 : Int32) (x1 : Int32) (z0 : St) (hB : S_Math_floorMod_7cf53_X post x0 x1 z0) : Xw p l e R s m args below meth c Q 0 0 wX G A z0 3 [(0, .int x0), (1, .int x1)] 0 [] := by
  intro H locs ls hP hD hS hl
  have hx := S.1
  have hb := S.2.1
  refine lv_iload_n hx hb dJ9_floorMod_7cf53_0 rfl (lv_at hl 0 rfl) ?_
  refine lv_iload_n hx hb dJ9_floorMod_7cf53_1 rfl (lv_at hl 1 rfl) ?_
  obtain ⟨hne, hB⟩ := hB
  refine lv_irem hx hb dJ9_floorMod_7cf53_2 hne ?_
  refine lv_topi (fun v1 ev1 => ?_)
  have hB := hB v1 ev1
  refine lv_istore_n (lv' := [(2, .int v1), (0, .int x0), (1, .int x1)]) hx hb dJ9_floorMod_7cf53_3 rfl hl (by decide) rfl (fun ls hl => ?_)
  refine lv_iload_n hx hb dJ9_floorMod_7cf53_4 rfl (lv_at hl 1 rfl) ?_
  refine lv_iload_n hx hb dJ9_floorMod_7cf53_5 rfl (lv_at hl 2 rfl) ?_
  refine lv_ixor hx hb dJ9_floorMod_7cf53_6 ?_
  refine lv_if_ge (tgt := 18) hx hb dJ9_floorMod_7cf53_7 (by decide) (fun c2 => ?_) (fun c2 => ?_)
  · have hB := hB.1 c2
    refine lv_iload_n hx hb dJ9_floorMod_7cf53_18 rfl (lv_at hl 0 rfl) ?_
    exact hret _ _ _ _ _ _ dJ9_floorMod_7cf53_19 hB hP hD hS
  · have hB := hB.2 c2
    refine lv_iload_n hx hb dJ9_floorMod_7cf53_10 rfl (lv_at hl 0 rfl) ?_
    refine lv_if_eq (tgt := 18) hx hb dJ9_floorMod_7cf53_11 (by decide) (fun c3 => ?_) (fun c3 => ?_)
    · have hB := hB.1 c3
      refine lv_iload_n hx hb dJ9_floorMod_7cf53_18 rfl (lv_at hl 0 rfl) ?_
      exact hret _ _ _ _ _ _ dJ9_floorMod_7cf53_19 hB hP hD hS
    · have hB := hB.2 c3
      refine lv_iload_n hx hb dJ9_floorMod_7cf53_14 rfl (lv_at hl 0 rfl) ?_
      refine lv_iload_n hx hb dJ9_floorMod_7cf53_15 rfl (lv_at hl 2 rfl) ?_
      refine lv_iadd hx hb dJ9_floorMod_7cf53_16 ?_
      exact hret _ _ _ _ _ _ dJ9_floorMod_7cf53_17 hB hP hD hS
set_option maxHeartbeats 4000000 in
set_option maxRecDepth 100000 in
theorem c_Math_floorMod_7cf53_X (l : Launch) (G : GX) (z0 : St) (sz : Nat) (x0 : Int32) (x1 : Int32) (post : Int32 → St → Prop) : MetI l wX yJ9_floorMod_7cf53 cJ9_floorMod_7cf53 3 (some .int) ({ frames := 0, cells := 0, slots := 0, locals := 0 }) [.int x0, .int x1] G z0 sz (S_Math_floorMod_7cf53_X post x0 x1 z0) post := by
  refine Met.ofWF (cc := cJ9_floorMod_7cf53) (maxL := 3) (ret := (some .int)) (by decide +kernel) rfl ?_
  intro p e s m args below meth c s₁ B hml hv
  obtain ⟨rfl, hsz, hP, hD0, hE, hB⟩ := hv
  have S : CallFix p m c cJ9_floorMod_7cf53 3 s _ GW RJ9 := ⟨B.exec, B.bytes, hml, findClass_of_methodNamed B.named, fun w h => atoms_spec (ws := Cond.code yJ9_floorMod_7cf53 cJ9_floorMod_7cf53 3 (some .int) :: GW) B.pre w (List.mem_cons_of_mem _ h)⟩
  have hlocks := B.notSynchronized
  subst hsz
  have hD := hD0.self (sz := s.heap.size)
  generalize hAe : va_A (wX G z0) s.heap.size = A at hD hE ⊢
  have hA : ∀ q : Nat, s.heap.size ≤ q → A q := fun q h => by rw [← hAe]; exact Or.inr h
  have hS : va_S A s.heap s.heap [] := va_S.rf
  have hl := lv_entry ([.int x0, .int x1]) (n := 3) (Nat.le_of_ble_eq_true rfl)
  rw [lg_entry_eq]
  generalize (lg_sl ([.int x0, .int x1]) ++ List.replicate (3 - (lg_sl ([.int x0, .int x1])).length) Slot.unset).toArray = ls at hl ⊢
  have hl : lv_has ls 3 [(0, .int x0), (1, .int x1)] := hl
  refine w_Math_floorMod_7cf53_X_0 S hE hA (Nat.le_refl _) (Nat.le_refl _) ?_ x0 x1 z0 hB _ _ _ hP hD hS hl
  intro pc ls r σ H locs hd hp hP hD hS
  exact W.iret (v := r) B.exec B.bytes B.returns (fun t ht hW => ⟨⟨r, σ, rfl, hp, by rw [ht]; exact hP, hD⟩, hS.F ht⟩) hS.2.2 hd
def S_Memory_placeOf (post : Int32 → St → Prop) (x0 : Int32) (z0 : St) : Prop :=
  (S_Math_floorMod_7cf53_X (fun (r1 : Int32) (z1 : St) => (post (r1 * (4 : Int32)) z1)) x0 (100 : Int32) z0)
set_option maxHeartbeats 4000000 in
set_option maxRecDepth 100000 in
theorem w_Memory_placeOf_0 {p : Program} {l : Launch} {e : Env} {R : Room} {s : State} {m : MethodId} {args : Array Value} {below : List Frame} {meth : Method} {c : Code} {Q : State → Prop} {G : GX} {A : Nat → Prop} (S : CallFix p m c cX4_placeOf 1 s args GW RX4) (hE : env G A s s.heap) (hA : ∀ q, s.heap.size ≤ q → A q) (hRf : 1 ≤ R.frames) (hRl : 22 ≤ R.locals) {post : Int32 → St → Prop} (hret : RetI p l e R s m args below meth c Q 0 0 wX G A cX4_placeOf post) (x0 : Int32) (z0 : St) (hB : S_Memory_placeOf post x0 z0) : Xw p l e R s m args below meth c Q 0 0 wX G A z0 1 [(0, .int x0)] 0 [] := by
  intro H locs ls hP hD hS hl
  have hx := S.1
  have hb := S.2.1
  refine lv_iload_n hx hb dX4_placeOf_0 rfl (lv_at hl 0 rfl) ?_
  refine lv_bipush (v := 100) hx hb dX4_placeOf_1 (by decide) ?_
  refine xcSi [.int x0, .int (100 : Int32)] S hE hA hP hD hS (c_Math_floorMod_7cf53_X l G z0 H.size x0 (100 : Int32) _) hB (gw_c lk_X4_51 (gw_c wt_J9_floorMod_7cf53 (gw_c wn_J9 (gw_c wc_J9_floorMod_7cf53 (fun _ h9 => h9))))) hs_J9_floorMod_7cf53 rfl rfl (Nat.le_trans (Nat.le_of_ble_eq_true rfl) hRf) (Nat.le_trans (Nat.le_of_ble_eq_true rfl) hRl) ⟨Nat.zero_le _, Nat.zero_le _⟩ rfl hl.1 rfl (Nat.le_of_ble_eq_true rfl) dX4_placeOf_3 (fun r1 z1 H locs hB hP hD hS => ?_)
  refine lv_iconst (v := 4) hx hb dX4_placeOf_6 (by decide) ?_
  refine lv_imul hx hb dX4_placeOf_7 ?_
  exact hret _ _ _ _ _ _ dX4_placeOf_8 hB hP hD hS
set_option maxHeartbeats 4000000 in
set_option maxRecDepth 100000 in
theorem c_Memory_placeOf (l : Launch) (G : GX) (z0 : St) (sz : Nat) (x0 : Int32) (post : Int32 → St → Prop) : MetI l wX yX4_placeOf cX4_placeOf 1 (some .int) ({ frames := 1, cells := 0, slots := 0, locals := 22 }) [.int x0] G z0 sz (S_Memory_placeOf post x0 z0) post := by
  refine Met.ofW (cc := cX4_placeOf) (maxL := 1) (ret := (some .int)) (by decide) rfl ?_
  intro p e s m args below meth c s₁ B hml hv
  obtain ⟨rfl, hsz, hP, hD0, hE, hB⟩ := hv
  have S : CallFix p m c cX4_placeOf 1 s _ GW RX4 := ⟨B.exec, B.bytes, hml, findClass_of_methodNamed B.named, fun w h => atoms_spec (ws := Cond.code yX4_placeOf cX4_placeOf 1 (some .int) :: GW) B.pre w (List.mem_cons_of_mem _ h)⟩
  have hlocks := B.notSynchronized
  subst hsz
  have hD := hD0.self (sz := s.heap.size)
  generalize hAe : va_A (wX G z0) s.heap.size = A at hD hE ⊢
  have hA : ∀ q : Nat, s.heap.size ≤ q → A q := fun q h => by rw [← hAe]; exact Or.inr h
  have hS : va_S A s.heap s.heap [] := va_S.rf
  have hl := lv_entry ([.int x0]) (n := 1) (Nat.le_of_ble_eq_true rfl)
  rw [lg_entry_eq]
  generalize (lg_sl ([.int x0]) ++ List.replicate (1 - (lg_sl ([.int x0])).length) Slot.unset).toArray = ls at hl ⊢
  have hl : lv_has ls 1 [(0, .int x0)] := hl
  refine w_Memory_placeOf_0 S hE hA (Nat.le_refl _) (Nat.le_refl _) ?_ x0 z0 hB _ _ _ hP hD hS hl
  intro pc ls r σ H locs hd hp hP hD hS
  exact W.iret (v := r) B.exec B.bytes B.returns (fun t ht hW => ⟨⟨r, σ, rfl, hp, by rw [ht]; exact hP, hD⟩, hS.F ht⟩) hS.2.2 hd
def S_Memory_write (post : St → Prop) (x1 : Int32) (x2 : Int32) (x3 : Int32) (x4 : Int32) (x5 : Int32) (z0 : St) : Prop :=
  (S_Memory_placeOf (fun (r1 : Int32) (z1 : St) => (vp_in r1 400 ∧ (∀ z2 : St, z2 = sA z1 26 r1.toNatClampNeg x2 → (vp_in (r1 + (1 : Int32)) 400 ∧ (∀ z3 : St, z3 = sA z2 26 (r1 + (1 : Int32)).toNatClampNeg x3 → (vp_in (r1 + (2 : Int32)) 400 ∧ (∀ z4 : St, z4 = sA z3 26 (r1 + (2 : Int32)).toNatClampNeg x4 → (vp_in (r1 + (3 : Int32)) 400 ∧ (∀ z5 : St, z5 = sA z4 26 (r1 + (3 : Int32)).toNatClampNeg x5 → (post z5)))))))))) x1 z0)
set_option maxHeartbeats 4000000 in
set_option maxRecDepth 100000 in
theorem w_Memory_write_0 {p : Program} {l : Launch} {e : Env} {R : Room} {s : State} {m : MethodId} {args : Array Value} {below : List Frame} {meth : Method} {c : Code} {Q : State → Prop} {G : GX} {A : Nat → Prop} (S : CallFix p m c cX4_write 7 s args GW RX4) (hE : env G A s s.heap) (hA : ∀ q, s.heap.size ≤ q → A q) (hRf : 2 ≤ R.frames) (hRl : 42 ≤ R.locals) {post : St → Prop} (hret : RetV p l e R s m args below meth c Q 0 0 wX G A cX4_write post) (x1 : Int32) (x2 : Int32) (x3 : Int32) (x4 : Int32) (x5 : Int32) (z0 : St) (hB : S_Memory_write post x1 x2 x3 x4 x5 z0) : Xw p l e R s m args below meth c Q 0 0 wX G A z0 7 [(0, .ref (ad G 5)), (1, .int x1), (2, .int x2), (3, .int x3), (4, .int x4), (5, .int x5)] 0 [] := by
  intro H locs ls hP hD hS hl
  have hx := S.1
  have hb := S.2.1
  refine lv_iload_n hx hb dX4_write_0 rfl (lv_at hl 1 rfl) ?_
  refine xcSi [.int x1] S hE hA hP hD hS (c_Memory_placeOf l G z0 H.size x1 _) hB (gw_c lk_X4_47 (gw_c wt_X4_placeOf (gw_c wn_X4 (gw_c wc_X4_placeOf (fun _ h9 => h9))))) hs_X4_placeOf rfl rfl (Nat.le_trans (Nat.le_of_ble_eq_true rfl) hRf) (Nat.le_trans (Nat.le_of_ble_eq_true rfl) hRl) ⟨Nat.zero_le _, Nat.zero_le _⟩ rfl hl.1 rfl (Nat.le_of_ble_eq_true rfl) dX4_write_1 (fun r1 z1 H locs hB hP hD hS => ?_)
  refine lv_istore (lv' := [(6, .int r1), (0, .ref (ad G 5)), (1, .int x1), (2, .int x2), (3, .int x3), (4, .int x4), (5, .int x5)]) hx hb dX4_write_4 hl (by decide) rfl (fun ls hl => ?_)
  refine lv_aload_n hx hb dX4_write_6 rfl (lv_at hl 1 rfl) ?_
  refine xXg_5_lines S hE hP lk_X4_15 dX4_write_7 ?_
  refine lv_iload hx hb dX4_write_10 (lv_at hl 0 rfl) ?_
  refine lv_iload_n hx hb dX4_write_12 rfl (lv_at hl 3 rfl) ?_
  obtain ⟨hi, hB⟩ := hB
  obtain ⟨z2, ez2⟩ : ∃ z9, z9 = sA z1 26 r1.toNatClampNeg x2 := ⟨_, rfl⟩
  have hB := hB z2 ez2
  refine xXs_26 S hE hP hD hS _ rfl hi dX4_write_13 (fun H locs hP hD hS => ?_)
  rw [← ez2] at hP hD
  refine lv_aload_n hx hb dX4_write_14 rfl (lv_at hl 1 rfl) ?_
  refine xXg_5_lines S hE hP lk_X4_15 dX4_write_15 ?_
  refine lv_iload hx hb dX4_write_18 (lv_at hl 0 rfl) ?_
  refine lv_iconst (v := 1) hx hb dX4_write_20 (by decide) ?_
  refine lv_iadd hx hb dX4_write_21 ?_
  refine lv_iload_n hx hb dX4_write_22 rfl (lv_at hl 4 rfl) ?_
  obtain ⟨hi, hB⟩ := hB
  obtain ⟨z3, ez3⟩ : ∃ z9, z9 = sA z2 26 (r1 + (1 : Int32)).toNatClampNeg x3 := ⟨_, rfl⟩
  have hB := hB z3 ez3
  refine xXs_26 S hE hP hD hS _ rfl hi dX4_write_23 (fun H locs hP hD hS => ?_)
  rw [← ez3] at hP hD
  refine lv_aload_n hx hb dX4_write_24 rfl (lv_at hl 1 rfl) ?_
  refine xXg_5_lines S hE hP lk_X4_15 dX4_write_25 ?_
  refine lv_iload hx hb dX4_write_28 (lv_at hl 0 rfl) ?_
  refine lv_iconst (v := 2) hx hb dX4_write_30 (by decide) ?_
  refine lv_iadd hx hb dX4_write_31 ?_
  refine lv_iload hx hb dX4_write_32 (lv_at hl 5 rfl) ?_
  obtain ⟨hi, hB⟩ := hB
  obtain ⟨z4, ez4⟩ : ∃ z9, z9 = sA z3 26 (r1 + (2 : Int32)).toNatClampNeg x4 := ⟨_, rfl⟩
  have hB := hB z4 ez4
  refine xXs_26 S hE hP hD hS _ rfl hi dX4_write_34 (fun H locs hP hD hS => ?_)
  rw [← ez4] at hP hD
  refine lv_aload_n hx hb dX4_write_35 rfl (lv_at hl 1 rfl) ?_
  refine xXg_5_lines S hE hP lk_X4_15 dX4_write_36 ?_
  refine lv_iload hx hb dX4_write_39 (lv_at hl 0 rfl) ?_
  refine lv_iconst (v := 3) hx hb dX4_write_41 (by decide) ?_
  refine lv_iadd hx hb dX4_write_42 ?_
  refine lv_iload hx hb dX4_write_43 (lv_at hl 6 rfl) ?_
  obtain ⟨hi, hB⟩ := hB
  obtain ⟨z5, ez5⟩ : ∃ z9, z9 = sA z4 26 (r1 + (3 : Int32)).toNatClampNeg x5 := ⟨_, rfl⟩
  have hB := hB z5 ez5
  refine xXs_26 S hE hP hD hS _ rfl hi dX4_write_45 (fun H locs hP hD hS => ?_)
  rw [← ez5] at hP hD
  exact hret _ _ _ _ _ dX4_write_46 hB hP hD hS
set_option maxHeartbeats 4000000 in
set_option maxRecDepth 100000 in
theorem c_Memory_write (l : Launch) (G : GX) (z0 : St) (sz : Nat) (x1 : Int32) (x2 : Int32) (x3 : Int32) (x4 : Int32) (x5 : Int32) (post : St → Prop) : MetV l wX yX4_write cX4_write 7 none ({ frames := 2, cells := 0, slots := 0, locals := 42 }) [.ref (ad G 5), .int x1, .int x2, .int x3, .int x4, .int x5] G z0 sz (S_Memory_write post x1 x2 x3 x4 x5 z0) post := by
  refine Met.ofW (cc := cX4_write) (maxL := 7) (ret := none) (by decide) rfl ?_
  intro p e s m args below meth c s₁ B hml hv
  obtain ⟨rfl, hsz, hP, hD0, hE, hB⟩ := hv
  have S : CallFix p m c cX4_write 7 s _ GW RX4 := ⟨B.exec, B.bytes, hml, findClass_of_methodNamed B.named, fun w h => atoms_spec (ws := Cond.code yX4_write cX4_write 7 none :: GW) B.pre w (List.mem_cons_of_mem _ h)⟩
  have hlocks := B.notSynchronized
  subst hsz
  have hD := hD0.self (sz := s.heap.size)
  generalize hAe : va_A (wX G z0) s.heap.size = A at hD hE ⊢
  have hA : ∀ q : Nat, s.heap.size ≤ q → A q := fun q h => by rw [← hAe]; exact Or.inr h
  have hS : va_S A s.heap s.heap [] := va_S.rf
  have hl := lv_entry ([.ref (ad G 5), .int x1, .int x2, .int x3, .int x4, .int x5]) (n := 7) (Nat.le_of_ble_eq_true rfl)
  rw [lg_entry_eq]
  generalize (lg_sl ([.ref (ad G 5), .int x1, .int x2, .int x3, .int x4, .int x5]) ++ List.replicate (7 - (lg_sl ([.ref (ad G 5), .int x1, .int x2, .int x3, .int x4, .int x5])).length) Slot.unset).toArray = ls at hl ⊢
  have hl : lv_has ls 7 [(0, .ref (ad G 5)), (1, .int x1), (2, .int x2), (3, .int x3), (4, .int x4), (5, .int x5)] := hl
  refine w_Memory_write_0 S hE hA (Nat.le_refl _) (Nat.le_refl _) ?_ x1 x2 x3 x4 x5 z0 hB _ _ _ hP hD hS hl
  intro pc ls σ H locs hd hp hP hD hS
  exact W.vret B.exec B.bytes B.returns (fun t ht hW => ⟨⟨σ, rfl, hp, by rw [ht]; exact hP, hD⟩, hS.F ht⟩) hS.2.2 hd
def S_B_act (post : Int32 → St → Prop) (x1 : Int32) (x2 : Int32) (z0 : St) : Prop :=
  (S_Table_canBe_8 (fun (r1 : Int32) (z1 : St) => ((r1 = 0 → (post (0 : Int32) z1)) ∧ (¬ r1 = 0 → (S_Memory_keep_r23 (fun (z2 : St) => ((x1 = 0 → (S_Table_bottle_8 (fun (r4 : Int32) (z4 : St) => (S_Table_gladness_8 (fun (r5 : Int32) (z5 : St) => (S_Table_receive_8 (fun (r6 : Int32) (z6 : St) => (S_Table_visits_8 (fun (r7 : Int32) (z7 : St) => (S_Memory_write (fun (z8 : St) => (post (1 : Int32) z8)) r7 x2 r4 r6 r5 z7)) z6)) x2 z5)) x2 z4)) z2)) ∧ (¬ x1 = 0 → (S_Table_carry_8 (fun (z3 : St) => (post (1 : Int32) z3)) x1 x2 z2)))) z1)))) x1 x2 z0)
set_option maxHeartbeats 4000000 in
set_option maxRecDepth 100000 in
theorem w_B_act_0 {p : Program} {l : Launch} {e : Env} {R : Room} {s : State} {m : MethodId} {args : Array Value} {below : List Frame} {meth : Method} {c : Code} {Q : State → Prop} {G : GX} {A : Nat → Prop} (S : CallFix p m c cX11_act 6 s args GW RX11) (hE : env G A s s.heap) (hA : ∀ q, s.heap.size ≤ q → A q) (hRf : 5 ≤ R.frames) (hRl : 123 ≤ R.locals) {post : Int32 → St → Prop} (hret : RetZ p l e R s m args below meth c Q 0 0 wX G A cX11_act post) (x1 : Int32) (x2 : Int32) (z0 : St) (hB : S_B_act post x1 x2 z0) : Xw p l e R s m args below meth c Q 0 0 wX G A z0 6 [(0, .ref (ad G 0)), (1, .int x1), (2, .int x2)] 0 [] := by
  intro H locs ls hP hD hS hl
  have hx := S.1
  have hb := S.2.1
  refine lv_aload_n hx hb dX11_act_0 rfl (lv_at hl 0 rfl) ?_
  refine xXg_0_table S hE hP lk_X11_72 dX11_act_1 ?_
  refine lv_iload_n hx hb dX11_act_4 rfl (lv_at hl 1 rfl) ?_
  refine lv_iload_n hx hb dX11_act_5 rfl (lv_at hl 2 rfl) ?_
  refine xcVi [.int x1, .int x2] S hE hA hP hD hS (c_Table_canBe_8 l G z0 H.size x1 x2 _) hB (gw_c lk_X11_241 (gw_c wi_X8_canBe (gw_c we_X8_X8_canBe_X8_canBe (gw_c wn_X8 (gw_c wc_X8_canBe (fun _ h9 => h9)))))) hd_X8_canBe rfl rfl (Nat.le_trans (Nat.le_of_ble_eq_true rfl) hRf) (Nat.le_trans (Nat.le_of_ble_eq_true rfl) hRl) ⟨Nat.zero_le _, Nat.zero_le _⟩ (va_recv hE.1 hP (ci := 7) (q0 := 8) rfl rfl) rfl hl.1 rfl (Nat.le_of_ble_eq_true rfl) dX11_act_6 (fun r1 z1 H locs hB hP hD hS => ?_)
  refine lv_if_ne (tgt := 14) hx hb dX11_act_9 (by decide) (fun c2 => ?_) (fun c2 => ?_)
  · have hB := hB.2 c2
    refine lv_aload_n hx hb dX11_act_14 rfl (lv_at hl 0 rfl) ?_
    refine xXg_0_memory S hE hP lk_X11_45 dX11_act_15 ?_
    refine lv_aload_n hx hb dX11_act_18 rfl (lv_at hl 0 rfl) ?_
    refine xXg_0_table S hE hP lk_X11_72 dX11_act_19 ?_
    refine xXg_8_cells S hE hP lk_X11_206 dX11_act_22 ?_
    refine xcVv [.ref (ad G 23)] S hE hA hP hD hS (c_Memory_keep_r23 l G z1 H.size _) hB (gw_c lk_X11_209 (gw_c wi_X4_keep (gw_c we_X4_X4_keep_X4_keep (gw_c wn_X4 (gw_c wc_X4_keep (fun _ h9 => h9)))))) hd_X4_keep rfl rfl (Nat.le_trans (Nat.le_of_ble_eq_true rfl) hRf) (Nat.le_trans (Nat.le_of_ble_eq_true rfl) hRl) ⟨Nat.zero_le _, Nat.zero_le _⟩ (va_recv hE.1 hP (ci := 4) (q0 := 5) rfl rfl) rfl hl.1 rfl (Nat.le_of_ble_eq_true rfl) dX11_act_25 (fun z2 H locs hB hP hD hS => ?_)
    refine lv_iload_n hx hb dX11_act_28 rfl (lv_at hl 1 rfl) ?_
    refine lv_if_ne (tgt := 83) hx hb dX11_act_29 (by decide) (fun c3 => ?_) (fun c3 => ?_)
    · have hB := hB.2 c3
      refine lv_aload_n hx hb dX11_act_83 rfl (lv_at hl 0 rfl) ?_
      refine xXg_0_table S hE hP lk_X11_72 dX11_act_84 ?_
      refine lv_iload_n hx hb dX11_act_87 rfl (lv_at hl 1 rfl) ?_
      refine lv_iload_n hx hb dX11_act_88 rfl (lv_at hl 2 rfl) ?_
      refine xcVv [.int x1, .int x2] S hE hA hP hD hS (c_Table_carry_8 l G z2 H.size x1 x2 _) hB (gw_c lk_X11_254 (gw_c wi_X8_carry (gw_c we_X8_X8_carry_X8_carry (gw_c wn_X8 (gw_c wc_X8_carry (fun _ h9 => h9)))))) hd_X8_carry rfl rfl (Nat.le_trans (Nat.le_of_ble_eq_true rfl) hRf) (Nat.le_trans (Nat.le_of_ble_eq_true rfl) hRl) ⟨Nat.zero_le _, Nat.zero_le _⟩ (va_recv hE.1 hP (ci := 7) (q0 := 8) rfl rfl) rfl hl.1 rfl (Nat.le_of_ble_eq_true rfl) dX11_act_89 (fun z3 H locs hB hP hD hS => ?_)
      refine lv_iconst (v := 1) hx hb dX11_act_92 (by decide) ?_
      exact hret _ _ _ _ _ _ dX11_act_93 ⟨by decide, hB⟩ hP hD hS
    · have hB := hB.1 c3
      refine lv_aload_n hx hb dX11_act_32 rfl (lv_at hl 0 rfl) ?_
      refine xXg_0_table S hE hP lk_X11_72 dX11_act_33 ?_
      refine xcVi [] S hE hA hP hD hS (c_Table_bottle_8 l G z2 H.size _) hB (gw_c lk_X11_151 (gw_c wi_X8_bottle (gw_c we_X8_X8_bottle_X8_bottle (gw_c wn_X8 (gw_c wc_X8_bottle (fun _ h9 => h9)))))) hd_X8_bottle rfl rfl (Nat.le_trans (Nat.le_of_ble_eq_true rfl) hRf) (Nat.le_trans (Nat.le_of_ble_eq_true rfl) hRl) ⟨Nat.zero_le _, Nat.zero_le _⟩ (va_recv hE.1 hP (ci := 7) (q0 := 8) rfl rfl) rfl hl.1 rfl (Nat.le_of_ble_eq_true rfl) dX11_act_36 (fun r4 z4 H locs hB hP hD hS => ?_)
      refine lv_istore_n (lv' := [(3, .int r4), (0, .ref (ad G 0)), (1, .int x1), (2, .int x2)]) hx hb dX11_act_39 rfl hl (by decide) rfl (fun ls hl => ?_)
      refine lv_aload_n hx hb dX11_act_40 rfl (lv_at hl 1 rfl) ?_
      refine xXg_0_table S hE hP lk_X11_72 dX11_act_41 ?_
      refine lv_iload_n hx hb dX11_act_44 rfl (lv_at hl 3 rfl) ?_
      refine xcVi [.int x2] S hE hA hP hD hS (c_Table_gladness_8 l G z4 H.size x2 _) hB (gw_c lk_X11_244 (gw_c wi_X8_gladness (gw_c we_X8_X8_gladness_X8_gladness (gw_c wn_X8 (gw_c wc_X8_gladness (fun _ h9 => h9)))))) hd_X8_gladness rfl rfl (Nat.le_trans (Nat.le_of_ble_eq_true rfl) hRf) (Nat.le_trans (Nat.le_of_ble_eq_true rfl) hRl) ⟨Nat.zero_le _, Nat.zero_le _⟩ (va_recv hE.1 hP (ci := 7) (q0 := 8) rfl rfl) rfl hl.1 rfl (Nat.le_of_ble_eq_true rfl) dX11_act_45 (fun r5 z5 H locs hB hP hD hS => ?_)
      refine lv_istore (lv' := [(4, .int r5), (3, .int r4), (0, .ref (ad G 0)), (1, .int x1), (2, .int x2)]) hx hb dX11_act_48 hl (by decide) rfl (fun ls hl => ?_)
      refine lv_aload_n hx hb dX11_act_50 rfl (lv_at hl 2 rfl) ?_
      refine xXg_0_table S hE hP lk_X11_72 dX11_act_51 ?_
      refine lv_iload_n hx hb dX11_act_54 rfl (lv_at hl 4 rfl) ?_
      refine xcVi [.int x2] S hE hA hP hD hS (c_Table_receive_8 l G z5 H.size x2 _) hB (gw_c lk_X11_247 (gw_c wi_X8_receive (gw_c we_X8_X8_receive_X8_receive (gw_c wn_X8 (gw_c wc_X8_receive (fun _ h9 => h9)))))) hd_X8_receive rfl rfl (Nat.le_trans (Nat.le_of_ble_eq_true rfl) hRf) (Nat.le_trans (Nat.le_of_ble_eq_true rfl) hRl) ⟨Nat.zero_le _, Nat.zero_le _⟩ (va_recv hE.1 hP (ci := 7) (q0 := 8) rfl rfl) rfl hl.1 rfl (Nat.le_of_ble_eq_true rfl) dX11_act_55 (fun r6 z6 H locs hB hP hD hS => ?_)
      refine lv_istore (lv' := [(5, .int r6), (4, .int r5), (3, .int r4), (0, .ref (ad G 0)), (1, .int x1), (2, .int x2)]) hx hb dX11_act_58 hl (by decide) rfl (fun ls hl => ?_)
      refine lv_aload_n hx hb dX11_act_60 rfl (lv_at hl 3 rfl) ?_
      refine xXg_0_memory S hE hP lk_X11_45 dX11_act_61 ?_
      refine lv_aload_n hx hb dX11_act_64 rfl (lv_at hl 3 rfl) ?_
      refine xXg_0_table S hE hP lk_X11_72 dX11_act_65 ?_
      refine xcVi [] S hE hA hP hD hS (c_Table_visits_8 l G z6 H.size _) hB (gw_c lk_X11_220 (gw_c wi_X8_visits (gw_c we_X8_X8_visits_X8_visits (gw_c wn_X8 (gw_c wc_X8_visits (fun _ h9 => h9)))))) hd_X8_visits rfl rfl (Nat.le_trans (Nat.le_of_ble_eq_true rfl) hRf) (Nat.le_trans (Nat.le_of_ble_eq_true rfl) hRl) ⟨Nat.zero_le _, Nat.zero_le _⟩ (va_recv hE.1 hP (ci := 7) (q0 := 8) rfl rfl) rfl hl.1 rfl (Nat.le_of_ble_eq_true rfl) dX11_act_68 (fun r7 z7 H locs hB hP hD hS => ?_)
      refine lv_iload_n hx hb dX11_act_71 rfl (lv_at hl 5 rfl) ?_
      refine lv_iload_n hx hb dX11_act_72 rfl (lv_at hl 2 rfl) ?_
      refine lv_iload hx hb dX11_act_73 (lv_at hl 0 rfl) ?_
      refine lv_iload hx hb dX11_act_75 (lv_at hl 1 rfl) ?_
      refine xcVv [.int r7, .int x2, .int r4, .int r6, .int r5] S hE hA hP hD hS (c_Memory_write l G z7 H.size r7 x2 r4 r6 r5 _) hB (gw_c lk_X11_250 (gw_c wi_X4_write (gw_c we_X4_X4_write_X4_write (gw_c wn_X4 (gw_c wc_X4_write (fun _ h9 => h9)))))) hd_X4_write rfl rfl (Nat.le_trans (Nat.le_of_ble_eq_true rfl) hRf) (Nat.le_trans (Nat.le_of_ble_eq_true rfl) hRl) ⟨Nat.zero_le _, Nat.zero_le _⟩ (va_recv hE.1 hP (ci := 4) (q0 := 5) rfl rfl) rfl hl.1 rfl (Nat.le_of_ble_eq_true rfl) dX11_act_77 (fun z8 H locs hB hP hD hS => ?_)
      refine lv_goto (tgt := 92) hx hb dX11_act_80 (by decide) ?_
      refine lv_iconst (v := 1) hx hb dX11_act_92 (by decide) ?_
      exact hret _ _ _ _ _ _ dX11_act_93 ⟨by decide, hB⟩ hP hD hS
  · have hB := hB.1 c2
    refine lv_iconst (v := 0) hx hb dX11_act_12 (by decide) ?_
    exact hret _ _ _ _ _ _ dX11_act_13 ⟨by decide, hB⟩ hP hD hS
set_option maxHeartbeats 4000000 in
set_option maxRecDepth 100000 in
theorem c_B_act (l : Launch) (G : GX) (z0 : St) (sz : Nat) (x1 : Int32) (x2 : Int32) (post : Int32 → St → Prop) : MetI l wX yX11_act cX11_act 6 (some .boolean) ({ frames := 5, cells := 0, slots := 0, locals := 123 }) [.ref (ad G 0), .int x1, .int x2] G z0 sz (S_B_act post x1 x2 z0) post := by
  refine Met.ofW (cc := cX11_act) (maxL := 6) (ret := (some .boolean)) (by decide) rfl ?_
  intro p e s m args below meth c s₁ B hml hv
  obtain ⟨rfl, hsz, hP, hD0, hE, hB⟩ := hv
  have S : CallFix p m c cX11_act 6 s _ GW RX11 := ⟨B.exec, B.bytes, hml, findClass_of_methodNamed B.named, fun w h => atoms_spec (ws := Cond.code yX11_act cX11_act 6 (some .boolean) :: GW) B.pre w (List.mem_cons_of_mem _ h)⟩
  have hlocks := B.notSynchronized
  subst hsz
  have hD := hD0.self (sz := s.heap.size)
  generalize hAe : va_A (wX G z0) s.heap.size = A at hD hE ⊢
  have hA : ∀ q : Nat, s.heap.size ≤ q → A q := fun q h => by rw [← hAe]; exact Or.inr h
  have hS : va_S A s.heap s.heap [] := va_S.rf
  have hl := lv_entry ([.ref (ad G 0), .int x1, .int x2]) (n := 6) (Nat.le_of_ble_eq_true rfl)
  rw [lg_entry_eq]
  generalize (lg_sl ([.ref (ad G 0), .int x1, .int x2]) ++ List.replicate (6 - (lg_sl ([.ref (ad G 0), .int x1, .int x2])).length) Slot.unset).toArray = ls at hl ⊢
  have hl : lv_has ls 6 [(0, .ref (ad G 0)), (1, .int x1), (2, .int x2)] := hl
  refine w_B_act_0 S hE hA (Nat.le_refl _) (Nat.le_refl _) ?_ x1 x2 z0 hB _ _ _ hP hD hS hl
  intro pc ls r σ H locs hd hp hP hD hS
  exact W.zret (v := r) B.exec B.bytes B.returns (xboolc r hp.1) (fun t ht hW => ⟨⟨r, σ, rfl, hp.2, by rw [ht]; exact hP, hD⟩, hS.F ht⟩) hS.2.2 hd
def S_B_visit (post : Int32 → St → Prop) (x1 : Int32) (z0 : St) : Prop :=
  (S_B_act (fun (r1 : Int32) (z1 : St) => ((r1 = 0 → (post (-1 : Int32) z1)) ∧ (¬ r1 = 0 → (S_Table_bottle_8 (fun (r3 : Int32) (z2 : St) => (post r3 z2)) z1)))) (0 : Int32) x1 z0)
set_option maxHeartbeats 4000000 in
set_option maxRecDepth 100000 in
theorem w_B_visit_0 {p : Program} {l : Launch} {e : Env} {R : Room} {s : State} {m : MethodId} {args : Array Value} {below : List Frame} {meth : Method} {c : Code} {Q : State → Prop} {G : GX} {A : Nat → Prop} (S : CallFix p m c cX11_visit 2 s args GW RX11) (hE : env G A s s.heap) (hA : ∀ q, s.heap.size ≤ q → A q) (hRf : 6 ≤ R.frames) (hRl : 148 ≤ R.locals) {post : Int32 → St → Prop} (hret : RetI p l e R s m args below meth c Q 0 0 wX G A cX11_visit post) (x1 : Int32) (z0 : St) (hB : S_B_visit post x1 z0) : Xw p l e R s m args below meth c Q 0 0 wX G A z0 2 [(0, .ref (ad G 0)), (1, .int x1)] 0 [] := by
  intro H locs ls hP hD hS hl
  have hx := S.1
  have hb := S.2.1
  refine lv_aload_n hx hb dX11_visit_0 rfl (lv_at hl 0 rfl) ?_
  refine lv_iconst (v := 0) hx hb dX11_visit_1 (by decide) ?_
  refine lv_iload_n hx hb dX11_visit_2 rfl (lv_at hl 1 rfl) ?_
  refine xcVi [.int (0 : Int32), .int x1] S hE hA hP hD hS (c_B_act l G z0 H.size (0 : Int32) x1 _) hB (gw_c lk_X11_199 (gw_c wi_X11_act (gw_c we_X11_X11_act_X11_act (gw_c wn_X11 (gw_c wc_X11_act (fun _ h9 => h9)))))) hd_X11_act rfl rfl (Nat.le_trans (Nat.le_of_ble_eq_true rfl) hRf) (Nat.le_trans (Nat.le_of_ble_eq_true rfl) hRl) ⟨Nat.zero_le _, Nat.zero_le _⟩ (va_recv hE.1 hP (ci := 10) (q0 := 0) rfl rfl) rfl hl.1 rfl (Nat.le_of_ble_eq_true rfl) dX11_visit_3 (fun r1 z1 H locs hB hP hD hS => ?_)
  refine lv_if_eq (tgt := 19) hx hb dX11_visit_6 (by decide) (fun c2 => ?_) (fun c2 => ?_)
  · have hB := hB.1 c2
    refine lv_iconst (v := -1) hx hb dX11_visit_19 (by decide) ?_
    exact hret _ _ _ _ _ _ dX11_visit_20 hB hP hD hS
  · have hB := hB.2 c2
    refine lv_aload_n hx hb dX11_visit_9 rfl (lv_at hl 0 rfl) ?_
    refine xXg_0_table S hE hP lk_X11_72 dX11_visit_10 ?_
    refine xcVi [] S hE hA hP hD hS (c_Table_bottle_8 l G z1 H.size _) hB (gw_c lk_X11_151 (gw_c wi_X8_bottle (gw_c we_X8_X8_bottle_X8_bottle (gw_c wn_X8 (gw_c wc_X8_bottle (fun _ h9 => h9)))))) hd_X8_bottle rfl rfl (Nat.le_trans (Nat.le_of_ble_eq_true rfl) hRf) (Nat.le_trans (Nat.le_of_ble_eq_true rfl) hRl) ⟨Nat.zero_le _, Nat.zero_le _⟩ (va_recv hE.1 hP (ci := 7) (q0 := 8) rfl rfl) rfl hl.1 rfl (Nat.le_of_ble_eq_true rfl) dX11_visit_13 (fun r3 z2 H locs hB hP hD hS => ?_)
    refine lv_goto (tgt := 20) hx hb dX11_visit_16 (by decide) ?_
    exact hret _ _ _ _ _ _ dX11_visit_20 hB hP hD hS
set_option maxHeartbeats 4000000 in
set_option maxRecDepth 100000 in
theorem c_B_visit (l : Launch) (G : GX) (z0 : St) (sz : Nat) (x1 : Int32) (post : Int32 → St → Prop) : MetI l wX yX11_visit cX11_visit 2 (some .int) ({ frames := 6, cells := 0, slots := 0, locals := 148 }) [.ref (ad G 0), .int x1] G z0 sz (S_B_visit post x1 z0) post := by
  refine Met.ofW (cc := cX11_visit) (maxL := 2) (ret := (some .int)) (by decide) rfl ?_
  intro p e s m args below meth c s₁ B hml hv
  obtain ⟨rfl, hsz, hP, hD0, hE, hB⟩ := hv
  have S : CallFix p m c cX11_visit 2 s _ GW RX11 := ⟨B.exec, B.bytes, hml, findClass_of_methodNamed B.named, fun w h => atoms_spec (ws := Cond.code yX11_visit cX11_visit 2 (some .int) :: GW) B.pre w (List.mem_cons_of_mem _ h)⟩
  have hlocks := B.notSynchronized
  subst hsz
  have hD := hD0.self (sz := s.heap.size)
  generalize hAe : va_A (wX G z0) s.heap.size = A at hD hE ⊢
  have hA : ∀ q : Nat, s.heap.size ≤ q → A q := fun q h => by rw [← hAe]; exact Or.inr h
  have hS : va_S A s.heap s.heap [] := va_S.rf
  have hl := lv_entry ([.ref (ad G 0), .int x1]) (n := 2) (Nat.le_of_ble_eq_true rfl)
  rw [lg_entry_eq]
  generalize (lg_sl ([.ref (ad G 0), .int x1]) ++ List.replicate (2 - (lg_sl ([.ref (ad G 0), .int x1])).length) Slot.unset).toArray = ls at hl ⊢
  have hl : lv_has ls 2 [(0, .ref (ad G 0)), (1, .int x1)] := hl
  refine w_B_visit_0 S hE hA (Nat.le_refl _) (Nat.le_refl _) ?_ x1 z0 hB _ _ _ hP hD hS hl
  intro pc ls r σ H locs hd hp hP hD hS
  exact W.iret (v := r) B.exec B.bytes B.returns (fun t ht hW => ⟨⟨r, σ, rfl, hp, by rw [ht]; exact hP, hD⟩, hS.F ht⟩) hS.2.2 hd
def S_Table_monthNow_8 (post : Int32 → St → Prop) (z0 : St) : Prop :=
  (post (gA z0 23 1) z0)
set_option maxHeartbeats 4000000 in
set_option maxRecDepth 100000 in
theorem w_Table_monthNow_8_0 {p : Program} {l : Launch} {e : Env} {R : Room} {s : State} {m : MethodId} {args : Array Value} {below : List Frame} {meth : Method} {c : Code} {Q : State → Prop} {G : GX} {A : Nat → Prop} (S : CallFix p m c cX8_monthNow 1 s args GW RX8) (hE : env G A s s.heap) (hA : ∀ q, s.heap.size ≤ q → A q) (hRf : 0 ≤ R.frames) (hRl : 0 ≤ R.locals) {post : Int32 → St → Prop} (hret : RetI p l e R s m args below meth c Q 0 0 wX G A cX8_monthNow post) (z0 : St) (hB : S_Table_monthNow_8 post z0) : Xw p l e R s m args below meth c Q 0 0 wX G A z0 1 [(0, .ref (ad G 8))] 0 [] := by
  intro H locs ls hP hD hS hl
  have hx := S.1
  have hb := S.2.1
  refine lv_aload_n hx hb dX8_monthNow_0 rfl (lv_at hl 0 rfl) ?_
  refine xXg_8_cells S hE hP lk_X8_11 dX8_monthNow_1 ?_
  refine lv_iconst (v := 1) hx hb dX8_monthNow_4 (by decide) ?_
  refine xXk_23 S hE hP 1 (by decide) (by unfold vp_in; decide) dX8_monthNow_5 ?_
  exact hret _ _ _ _ _ _ dX8_monthNow_6 hB hP hD hS
set_option maxHeartbeats 4000000 in
set_option maxRecDepth 100000 in
theorem c_Table_monthNow_8 (l : Launch) (G : GX) (z0 : St) (sz : Nat) (post : Int32 → St → Prop) : MetI l wX yX8_monthNow cX8_monthNow 1 (some .int) ({ frames := 0, cells := 0, slots := 0, locals := 0 }) [.ref (ad G 8)] G z0 sz (S_Table_monthNow_8 post z0) post := by
  refine Met.ofW (cc := cX8_monthNow) (maxL := 1) (ret := (some .int)) (by decide) rfl ?_
  intro p e s m args below meth c s₁ B hml hv
  obtain ⟨rfl, hsz, hP, hD0, hE, hB⟩ := hv
  have S : CallFix p m c cX8_monthNow 1 s _ GW RX8 := ⟨B.exec, B.bytes, hml, findClass_of_methodNamed B.named, fun w h => atoms_spec (ws := Cond.code yX8_monthNow cX8_monthNow 1 (some .int) :: GW) B.pre w (List.mem_cons_of_mem _ h)⟩
  have hlocks := B.notSynchronized
  subst hsz
  have hD := hD0.self (sz := s.heap.size)
  generalize hAe : va_A (wX G z0) s.heap.size = A at hD hE ⊢
  have hA : ∀ q : Nat, s.heap.size ≤ q → A q := fun q h => by rw [← hAe]; exact Or.inr h
  have hS : va_S A s.heap s.heap [] := va_S.rf
  have hl := lv_entry ([.ref (ad G 8)]) (n := 1) (Nat.le_of_ble_eq_true rfl)
  rw [lg_entry_eq]
  generalize (lg_sl ([.ref (ad G 8)]) ++ List.replicate (1 - (lg_sl ([.ref (ad G 8)])).length) Slot.unset).toArray = ls at hl ⊢
  have hl : lv_has ls 1 [(0, .ref (ad G 8))] := hl
  refine w_Table_monthNow_8_0 S hE hA (Nat.le_refl _) (Nat.le_refl _) ?_  z0 hB _ _ _ hP hD hS hl
  intro pc ls r σ H locs hd hp hP hD hS
  exact W.iret (v := r) B.exec B.bytes B.returns (fun t ht hW => ⟨⟨r, σ, rfl, hp, by rw [ht]; exact hP, hD⟩, hS.F ht⟩) hS.2.2 hd
def S_B_month (post : Int32 → St → Prop) (z0 : St) : Prop :=
  (S_B_act (fun (r1 : Int32) (z1 : St) => ((r1 = 0 → (post (-1 : Int32) z1)) ∧ (¬ r1 = 0 → (S_Table_monthNow_8 (fun (r3 : Int32) (z2 : St) => (post r3 z2)) z1)))) (1 : Int32) (0 : Int32) z0)
set_option maxHeartbeats 4000000 in
set_option maxRecDepth 100000 in
theorem w_B_month_0 {p : Program} {l : Launch} {e : Env} {R : Room} {s : State} {m : MethodId} {args : Array Value} {below : List Frame} {meth : Method} {c : Code} {Q : State → Prop} {G : GX} {A : Nat → Prop} (S : CallFix p m c cX11_month 1 s args GW RX11) (hE : env G A s s.heap) (hA : ∀ q, s.heap.size ≤ q → A q) (hRf : 6 ≤ R.frames) (hRl : 148 ≤ R.locals) {post : Int32 → St → Prop} (hret : RetI p l e R s m args below meth c Q 0 0 wX G A cX11_month post) (z0 : St) (hB : S_B_month post z0) : Xw p l e R s m args below meth c Q 0 0 wX G A z0 1 [(0, .ref (ad G 0))] 0 [] := by
  intro H locs ls hP hD hS hl
  have hx := S.1
  have hb := S.2.1
  refine lv_aload_n hx hb dX11_month_0 rfl (lv_at hl 0 rfl) ?_
  refine lv_iconst (v := 1) hx hb dX11_month_1 (by decide) ?_
  refine lv_iconst (v := 0) hx hb dX11_month_2 (by decide) ?_
  refine xcVi [.int (1 : Int32), .int (0 : Int32)] S hE hA hP hD hS (c_B_act l G z0 H.size (1 : Int32) (0 : Int32) _) hB (gw_c lk_X11_199 (gw_c wi_X11_act (gw_c we_X11_X11_act_X11_act (gw_c wn_X11 (gw_c wc_X11_act (fun _ h9 => h9)))))) hd_X11_act rfl rfl (Nat.le_trans (Nat.le_of_ble_eq_true rfl) hRf) (Nat.le_trans (Nat.le_of_ble_eq_true rfl) hRl) ⟨Nat.zero_le _, Nat.zero_le _⟩ (va_recv hE.1 hP (ci := 10) (q0 := 0) rfl rfl) rfl hl.1 rfl (Nat.le_of_ble_eq_true rfl) dX11_month_3 (fun r1 z1 H locs hB hP hD hS => ?_)
  refine lv_if_eq (tgt := 19) hx hb dX11_month_6 (by decide) (fun c2 => ?_) (fun c2 => ?_)
  · have hB := hB.1 c2
    refine lv_iconst (v := -1) hx hb dX11_month_19 (by decide) ?_
    exact hret _ _ _ _ _ _ dX11_month_20 hB hP hD hS
  · have hB := hB.2 c2
    refine lv_aload_n hx hb dX11_month_9 rfl (lv_at hl 0 rfl) ?_
    refine xXg_0_table S hE hP lk_X11_72 dX11_month_10 ?_
    refine xcVi [] S hE hA hP hD hS (c_Table_monthNow_8 l G z1 H.size _) hB (gw_c lk_X11_203 (gw_c wi_X8_monthNow (gw_c we_X8_X8_monthNow_X8_monthNow (gw_c wn_X8 (gw_c wc_X8_monthNow (fun _ h9 => h9)))))) hd_X8_monthNow rfl rfl (Nat.le_trans (Nat.le_of_ble_eq_true rfl) hRf) (Nat.le_trans (Nat.le_of_ble_eq_true rfl) hRl) ⟨Nat.zero_le _, Nat.zero_le _⟩ (va_recv hE.1 hP (ci := 7) (q0 := 8) rfl rfl) rfl hl.1 rfl (Nat.le_of_ble_eq_true rfl) dX11_month_13 (fun r3 z2 H locs hB hP hD hS => ?_)
    refine lv_goto (tgt := 20) hx hb dX11_month_16 (by decide) ?_
    exact hret _ _ _ _ _ _ dX11_month_20 hB hP hD hS
set_option maxHeartbeats 4000000 in
set_option maxRecDepth 100000 in
theorem c_B_month (l : Launch) (G : GX) (z0 : St) (sz : Nat) (post : Int32 → St → Prop) : MetI l wX yX11_month cX11_month 1 (some .int) ({ frames := 6, cells := 0, slots := 0, locals := 148 }) [.ref (ad G 0)] G z0 sz (S_B_month post z0) post := by
  refine Met.ofW (cc := cX11_month) (maxL := 1) (ret := (some .int)) (by decide) rfl ?_
  intro p e s m args below meth c s₁ B hml hv
  obtain ⟨rfl, hsz, hP, hD0, hE, hB⟩ := hv
  have S : CallFix p m c cX11_month 1 s _ GW RX11 := ⟨B.exec, B.bytes, hml, findClass_of_methodNamed B.named, fun w h => atoms_spec (ws := Cond.code yX11_month cX11_month 1 (some .int) :: GW) B.pre w (List.mem_cons_of_mem _ h)⟩
  have hlocks := B.notSynchronized
  subst hsz
  have hD := hD0.self (sz := s.heap.size)
  generalize hAe : va_A (wX G z0) s.heap.size = A at hD hE ⊢
  have hA : ∀ q : Nat, s.heap.size ≤ q → A q := fun q h => by rw [← hAe]; exact Or.inr h
  have hS : va_S A s.heap s.heap [] := va_S.rf
  have hl := lv_entry ([.ref (ad G 0)]) (n := 1) (Nat.le_of_ble_eq_true rfl)
  rw [lg_entry_eq]
  generalize (lg_sl ([.ref (ad G 0)]) ++ List.replicate (1 - (lg_sl ([.ref (ad G 0)])).length) Slot.unset).toArray = ls at hl ⊢
  have hl : lv_has ls 1 [(0, .ref (ad G 0))] := hl
  refine w_B_month_0 S hE hA (Nat.le_refl _) (Nat.le_refl _) ?_  z0 hB _ _ _ hP hD hS hl
  intro pc ls r σ H locs hd hp hP hD hS
  exact W.iret (v := r) B.exec B.bytes B.returns (fun t ht hW => ⟨⟨r, σ, rfl, hp, by rw [ht]; exact hP, hD⟩, hS.F ht⟩) hS.2.2 hd
def S_B_host (post : Int32 → St → Prop) (x1 : Int32) (z0 : St) : Prop :=
  (S_B_act (fun (r1 : Int32) (z1 : St) => ((r1 = 0 ∨ r1 = 1) ∧ post r1 z1)) (2 : Int32) x1 z0)
set_option maxHeartbeats 4000000 in
set_option maxRecDepth 100000 in
theorem w_B_host_0 {p : Program} {l : Launch} {e : Env} {R : Room} {s : State} {m : MethodId} {args : Array Value} {below : List Frame} {meth : Method} {c : Code} {Q : State → Prop} {G : GX} {A : Nat → Prop} (S : CallFix p m c cX11_host 2 s args GW RX11) (hE : env G A s s.heap) (hA : ∀ q, s.heap.size ≤ q → A q) (hRf : 6 ≤ R.frames) (hRl : 148 ≤ R.locals) {post : Int32 → St → Prop} (hret : RetZ p l e R s m args below meth c Q 0 0 wX G A cX11_host post) (x1 : Int32) (z0 : St) (hB : S_B_host post x1 z0) : Xw p l e R s m args below meth c Q 0 0 wX G A z0 2 [(0, .ref (ad G 0)), (1, .int x1)] 0 [] := by
  intro H locs ls hP hD hS hl
  have hx := S.1
  have hb := S.2.1
  refine lv_aload_n hx hb dX11_host_0 rfl (lv_at hl 0 rfl) ?_
  refine lv_iconst (v := 2) hx hb dX11_host_1 (by decide) ?_
  refine lv_iload_n hx hb dX11_host_2 rfl (lv_at hl 1 rfl) ?_
  refine xcVi [.int (2 : Int32), .int x1] S hE hA hP hD hS (c_B_act l G z0 H.size (2 : Int32) x1 _) hB (gw_c lk_X11_199 (gw_c wi_X11_act (gw_c we_X11_X11_act_X11_act (gw_c wn_X11 (gw_c wc_X11_act (fun _ h9 => h9)))))) hd_X11_act rfl rfl (Nat.le_trans (Nat.le_of_ble_eq_true rfl) hRf) (Nat.le_trans (Nat.le_of_ble_eq_true rfl) hRl) ⟨Nat.zero_le _, Nat.zero_le _⟩ (va_recv hE.1 hP (ci := 10) (q0 := 0) rfl rfl) rfl hl.1 rfl (Nat.le_of_ble_eq_true rfl) dX11_host_3 (fun r1 z1 H locs hB hP hD hS => ?_)
  exact hret _ _ _ _ _ _ dX11_host_6 hB hP hD hS
set_option maxHeartbeats 4000000 in
set_option maxRecDepth 100000 in
theorem c_B_host (l : Launch) (G : GX) (z0 : St) (sz : Nat) (x1 : Int32) (post : Int32 → St → Prop) : MetI l wX yX11_host cX11_host 2 (some .boolean) ({ frames := 6, cells := 0, slots := 0, locals := 148 }) [.ref (ad G 0), .int x1] G z0 sz (S_B_host post x1 z0) post := by
  refine Met.ofW (cc := cX11_host) (maxL := 2) (ret := (some .boolean)) (by decide) rfl ?_
  intro p e s m args below meth c s₁ B hml hv
  obtain ⟨rfl, hsz, hP, hD0, hE, hB⟩ := hv
  have S : CallFix p m c cX11_host 2 s _ GW RX11 := ⟨B.exec, B.bytes, hml, findClass_of_methodNamed B.named, fun w h => atoms_spec (ws := Cond.code yX11_host cX11_host 2 (some .boolean) :: GW) B.pre w (List.mem_cons_of_mem _ h)⟩
  have hlocks := B.notSynchronized
  subst hsz
  have hD := hD0.self (sz := s.heap.size)
  generalize hAe : va_A (wX G z0) s.heap.size = A at hD hE ⊢
  have hA : ∀ q : Nat, s.heap.size ≤ q → A q := fun q h => by rw [← hAe]; exact Or.inr h
  have hS : va_S A s.heap s.heap [] := va_S.rf
  have hl := lv_entry ([.ref (ad G 0), .int x1]) (n := 2) (Nat.le_of_ble_eq_true rfl)
  rw [lg_entry_eq]
  generalize (lg_sl ([.ref (ad G 0), .int x1]) ++ List.replicate (2 - (lg_sl ([.ref (ad G 0), .int x1])).length) Slot.unset).toArray = ls at hl ⊢
  have hl : lv_has ls 2 [(0, .ref (ad G 0)), (1, .int x1)] := hl
  refine w_B_host_0 S hE hA (Nat.le_refl _) (Nat.le_refl _) ?_ x1 z0 hB _ _ _ hP hD hS hl
  intro pc ls r σ H locs hd hp hP hD hS
  exact W.zret (v := r) B.exec B.bytes B.returns (xboolc r hp.1) (fun t ht hW => ⟨⟨r, σ, rfl, hp.2, by rw [ht]; exact hP, hD⟩, hS.F ht⟩) hS.2.2 hd
def S_B_pay (post : Int32 → St → Prop) (x1 : Int32) (x2 : Int32) (z0 : St) : Prop :=
  (S_House_hasGuest (fun (r1 : Int32) (z1 : St) => ((r1 = 0 → (post (-1 : Int32) z1)) ∧ (¬ r1 = 0 → ((x2 < (1 : Int32) → (post (-1 : Int32) z1)) ∧ (¬ x2 < (1 : Int32) → (((50 : Int32) < x2 → (post (-1 : Int32) z1)) ∧ (¬ (50 : Int32) < x2 → (S_Table_moneyOf_8 (fun (r5 : Int32) (z2 : St) => (((r5 + x2) ≤ (99 : Int32) → (S_Memory_keep_r23 (fun (z3 : St) => (S_Table_give_8 (fun (z4 : St) => (S_Table_moneyOf_8 (fun (r7 : Int32) (z5 : St) => (post r7 z5)) x1 z4)) x1 x2 z3)) z2)) ∧ (¬ (r5 + x2) ≤ (99 : Int32) → (post (-1 : Int32) z2)))) x1 z1)))))))) x1 z0)
set_option maxHeartbeats 4000000 in
set_option maxRecDepth 100000 in
theorem w_B_pay_0 {p : Program} {l : Launch} {e : Env} {R : Room} {s : State} {m : MethodId} {args : Array Value} {below : List Frame} {meth : Method} {c : Code} {Q : State → Prop} {G : GX} {A : Nat → Prop} (S : CallFix p m c cX11_pay 3 s args GW RX11) (hE : env G A s s.heap) (hA : ∀ q, s.heap.size ≤ q → A q) (hRf : 2 ≤ R.frames) (hRl : 101 ≤ R.locals) {post : Int32 → St → Prop} (hret : RetI p l e R s m args below meth c Q 0 0 wX G A cX11_pay post) (x1 : Int32) (x2 : Int32) (z0 : St) (hB : S_B_pay post x1 x2 z0) : Xw p l e R s m args below meth c Q 0 0 wX G A z0 3 [(0, .ref (ad G 0)), (1, .int x1), (2, .int x2)] 0 [] := by
  intro H locs ls hP hD hS hl
  have hx := S.1
  have hb := S.2.1
  refine lv_aload_n hx hb dX11_pay_0 rfl (lv_at hl 0 rfl) ?_
  refine xXg_0_house S hE hP lk_X11_64 dX11_pay_1 ?_
  refine lv_iload_n hx hb dX11_pay_4 rfl (lv_at hl 1 rfl) ?_
  refine xcVi [.int x1] S hE hA hP hD hS (c_House_hasGuest l G z0 H.size x1 _) hB (gw_c lk_X11_171 (gw_c wi_X0_hasGuest (gw_c we_X0_X0_hasGuest_X0_hasGuest (gw_c wn_X0 (gw_c wc_X0_hasGuest (fun _ h9 => h9)))))) hd_X0_hasGuest rfl rfl (Nat.le_trans (Nat.le_of_ble_eq_true rfl) hRf) (Nat.le_trans (Nat.le_of_ble_eq_true rfl) hRl) ⟨Nat.zero_le _, Nat.zero_le _⟩ (va_recv hE.1 hP (ci := 0) (q0 := 6) rfl rfl) rfl hl.1 rfl (Nat.le_of_ble_eq_true rfl) dX11_pay_5 (fun r1 z1 H locs hB hP hD hS => ?_)
  refine lv_if_eq (tgt := 37) hx hb dX11_pay_8 (by decide) (fun c2 => ?_) (fun c2 => ?_)
  · have hB := hB.1 c2
    refine lv_iconst (v := -1) hx hb dX11_pay_37 (by decide) ?_
    exact hret _ _ _ _ _ _ dX11_pay_38 hB hP hD hS
  · have hB := hB.2 c2
    refine lv_iload_n hx hb dX11_pay_11 rfl (lv_at hl 2 rfl) ?_
    refine lv_iconst (v := 1) hx hb dX11_pay_12 (by decide) ?_
    refine lv_icmp_lt (tgt := 37) hx hb dX11_pay_13 (by decide) (fun c3 => ?_) (fun c3 => ?_)
    · have hB := hB.1 c3
      refine lv_iconst (v := -1) hx hb dX11_pay_37 (by decide) ?_
      exact hret _ _ _ _ _ _ dX11_pay_38 hB hP hD hS
    · have hB := hB.2 c3
      refine lv_iload_n hx hb dX11_pay_16 rfl (lv_at hl 2 rfl) ?_
      refine lv_bipush (v := 50) hx hb dX11_pay_17 (by decide) ?_
      refine lv_icmp_gt (tgt := 37) hx hb dX11_pay_19 (by decide) (fun c4 => ?_) (fun c4 => ?_)
      · have hB := hB.1 c4
        refine lv_iconst (v := -1) hx hb dX11_pay_37 (by decide) ?_
        exact hret _ _ _ _ _ _ dX11_pay_38 hB hP hD hS
      · have hB := hB.2 c4
        refine lv_aload_n hx hb dX11_pay_22 rfl (lv_at hl 0 rfl) ?_
        refine xXg_0_table S hE hP lk_X11_72 dX11_pay_23 ?_
        refine lv_iload_n hx hb dX11_pay_26 rfl (lv_at hl 1 rfl) ?_
        refine xcVi [.int x1] S hE hA hP hD hS (c_Table_moneyOf_8 l G z1 H.size x1 _) hB (gw_c lk_X11_184 (gw_c wi_X8_moneyOf (gw_c we_X8_X8_moneyOf_X8_moneyOf (gw_c wn_X8 (gw_c wc_X8_moneyOf (fun _ h9 => h9)))))) hd_X8_moneyOf rfl rfl (Nat.le_trans (Nat.le_of_ble_eq_true rfl) hRf) (Nat.le_trans (Nat.le_of_ble_eq_true rfl) hRl) ⟨Nat.zero_le _, Nat.zero_le _⟩ (va_recv hE.1 hP (ci := 7) (q0 := 8) rfl rfl) rfl hl.1 rfl (Nat.le_of_ble_eq_true rfl) dX11_pay_27 (fun r5 z2 H locs hB hP hD hS => ?_)
        refine lv_iload_n hx hb dX11_pay_30 rfl (lv_at hl 2 rfl) ?_
        refine lv_iadd hx hb dX11_pay_31 ?_
        refine lv_bipush (v := 99) hx hb dX11_pay_32 (by decide) ?_
        refine lv_icmp_le (tgt := 39) hx hb dX11_pay_34 (by decide) (fun c6 => ?_) (fun c6 => ?_)
        · have hB := hB.1 c6
          refine lv_aload_n hx hb dX11_pay_39 rfl (lv_at hl 0 rfl) ?_
          refine xXg_0_memory S hE hP lk_X11_45 dX11_pay_40 ?_
          refine lv_aload_n hx hb dX11_pay_43 rfl (lv_at hl 0 rfl) ?_
          refine xXg_0_table S hE hP lk_X11_72 dX11_pay_44 ?_
          refine xXg_8_cells S hE hP lk_X11_206 dX11_pay_47 ?_
          refine xcVv [.ref (ad G 23)] S hE hA hP hD hS (c_Memory_keep_r23 l G z2 H.size _) hB (gw_c lk_X11_209 (gw_c wi_X4_keep (gw_c we_X4_X4_keep_X4_keep (gw_c wn_X4 (gw_c wc_X4_keep (fun _ h9 => h9)))))) hd_X4_keep rfl rfl (Nat.le_trans (Nat.le_of_ble_eq_true rfl) hRf) (Nat.le_trans (Nat.le_of_ble_eq_true rfl) hRl) ⟨Nat.zero_le _, Nat.zero_le _⟩ (va_recv hE.1 hP (ci := 4) (q0 := 5) rfl rfl) rfl hl.1 rfl (Nat.le_of_ble_eq_true rfl) dX11_pay_50 (fun z3 H locs hB hP hD hS => ?_)
          refine lv_aload_n hx hb dX11_pay_53 rfl (lv_at hl 0 rfl) ?_
          refine xXg_0_table S hE hP lk_X11_72 dX11_pay_54 ?_
          refine lv_iload_n hx hb dX11_pay_57 rfl (lv_at hl 1 rfl) ?_
          refine lv_iload_n hx hb dX11_pay_58 rfl (lv_at hl 2 rfl) ?_
          refine xcVv [.int x1, .int x2] S hE hA hP hD hS (c_Table_give_8 l G z3 H.size x1 x2 _) hB (gw_c lk_X11_213 (gw_c wi_X8_give (gw_c we_X8_X8_give_X8_give (gw_c wn_X8 (gw_c wc_X8_give (fun _ h9 => h9)))))) hd_X8_give rfl rfl (Nat.le_trans (Nat.le_of_ble_eq_true rfl) hRf) (Nat.le_trans (Nat.le_of_ble_eq_true rfl) hRl) ⟨Nat.zero_le _, Nat.zero_le _⟩ (va_recv hE.1 hP (ci := 7) (q0 := 8) rfl rfl) rfl hl.1 rfl (Nat.le_of_ble_eq_true rfl) dX11_pay_59 (fun z4 H locs hB hP hD hS => ?_)
          refine lv_aload_n hx hb dX11_pay_62 rfl (lv_at hl 0 rfl) ?_
          refine xXg_0_table S hE hP lk_X11_72 dX11_pay_63 ?_
          refine lv_iload_n hx hb dX11_pay_66 rfl (lv_at hl 1 rfl) ?_
          refine xcVi [.int x1] S hE hA hP hD hS (c_Table_moneyOf_8 l G z4 H.size x1 _) hB (gw_c lk_X11_184 (gw_c wi_X8_moneyOf (gw_c we_X8_X8_moneyOf_X8_moneyOf (gw_c wn_X8 (gw_c wc_X8_moneyOf (fun _ h9 => h9)))))) hd_X8_moneyOf rfl rfl (Nat.le_trans (Nat.le_of_ble_eq_true rfl) hRf) (Nat.le_trans (Nat.le_of_ble_eq_true rfl) hRl) ⟨Nat.zero_le _, Nat.zero_le _⟩ (va_recv hE.1 hP (ci := 7) (q0 := 8) rfl rfl) rfl hl.1 rfl (Nat.le_of_ble_eq_true rfl) dX11_pay_67 (fun r7 z5 H locs hB hP hD hS => ?_)
          exact hret _ _ _ _ _ _ dX11_pay_70 hB hP hD hS
        · have hB := hB.2 c6
          refine lv_iconst (v := -1) hx hb dX11_pay_37 (by decide) ?_
          exact hret _ _ _ _ _ _ dX11_pay_38 hB hP hD hS
set_option maxHeartbeats 4000000 in
set_option maxRecDepth 100000 in
theorem c_B_pay (l : Launch) (G : GX) (z0 : St) (sz : Nat) (x1 : Int32) (x2 : Int32) (post : Int32 → St → Prop) : MetI l wX yX11_pay cX11_pay 3 (some .int) ({ frames := 2, cells := 0, slots := 0, locals := 101 }) [.ref (ad G 0), .int x1, .int x2] G z0 sz (S_B_pay post x1 x2 z0) post := by
  refine Met.ofW (cc := cX11_pay) (maxL := 3) (ret := (some .int)) (by decide) rfl ?_
  intro p e s m args below meth c s₁ B hml hv
  obtain ⟨rfl, hsz, hP, hD0, hE, hB⟩ := hv
  have S : CallFix p m c cX11_pay 3 s _ GW RX11 := ⟨B.exec, B.bytes, hml, findClass_of_methodNamed B.named, fun w h => atoms_spec (ws := Cond.code yX11_pay cX11_pay 3 (some .int) :: GW) B.pre w (List.mem_cons_of_mem _ h)⟩
  have hlocks := B.notSynchronized
  subst hsz
  have hD := hD0.self (sz := s.heap.size)
  generalize hAe : va_A (wX G z0) s.heap.size = A at hD hE ⊢
  have hA : ∀ q : Nat, s.heap.size ≤ q → A q := fun q h => by rw [← hAe]; exact Or.inr h
  have hS : va_S A s.heap s.heap [] := va_S.rf
  have hl := lv_entry ([.ref (ad G 0), .int x1, .int x2]) (n := 3) (Nat.le_of_ble_eq_true rfl)
  rw [lg_entry_eq]
  generalize (lg_sl ([.ref (ad G 0), .int x1, .int x2]) ++ List.replicate (3 - (lg_sl ([.ref (ad G 0), .int x1, .int x2])).length) Slot.unset).toArray = ls at hl ⊢
  have hl : lv_has ls 3 [(0, .ref (ad G 0)), (1, .int x1), (2, .int x2)] := hl
  refine w_B_pay_0 S hE hA (Nat.le_refl _) (Nat.le_refl _) ?_ x1 x2 z0 hB _ _ _ hP hD hS hl
  intro pc ls r σ H locs hd hp hP hD hS
  exact W.iret (v := r) B.exec B.bytes B.returns (fun t ht hW => ⟨⟨r, σ, rfl, hp, by rw [ht]; exact hP, hD⟩, hS.F ht⟩) hS.2.2 hd
def S_Table_setPrice_8 (post : St → Prop) (x1 : Int32) (x2 : Int32) (z0 : St) : Prop :=
  (vp_in ((22 : Int32) + x1) 28 ∧ (∀ z1 : St, z1 = sA z0 23 ((22 : Int32) + x1).toNatClampNeg x2 → (post z1)))
set_option maxHeartbeats 4000000 in
set_option maxRecDepth 100000 in
theorem w_Table_setPrice_8_0 {p : Program} {l : Launch} {e : Env} {R : Room} {s : State} {m : MethodId} {args : Array Value} {below : List Frame} {meth : Method} {c : Code} {Q : State → Prop} {G : GX} {A : Nat → Prop} (S : CallFix p m c cX8_setPrice 3 s args GW RX8) (hE : env G A s s.heap) (hA : ∀ q, s.heap.size ≤ q → A q) (hRf : 0 ≤ R.frames) (hRl : 0 ≤ R.locals) {post : St → Prop} (hret : RetV p l e R s m args below meth c Q 0 0 wX G A cX8_setPrice post) (x1 : Int32) (x2 : Int32) (z0 : St) (hB : S_Table_setPrice_8 post x1 x2 z0) : Xw p l e R s m args below meth c Q 0 0 wX G A z0 3 [(0, .ref (ad G 8)), (1, .int x1), (2, .int x2)] 0 [] := by
  intro H locs ls hP hD hS hl
  have hx := S.1
  have hb := S.2.1
  refine lv_aload_n hx hb dX8_setPrice_0 rfl (lv_at hl 0 rfl) ?_
  refine xXg_8_cells S hE hP lk_X8_11 dX8_setPrice_1 ?_
  refine lv_bipush (v := 22) hx hb dX8_setPrice_4 (by decide) ?_
  refine lv_iload_n hx hb dX8_setPrice_6 rfl (lv_at hl 1 rfl) ?_
  refine lv_iadd hx hb dX8_setPrice_7 ?_
  refine lv_iload_n hx hb dX8_setPrice_8 rfl (lv_at hl 2 rfl) ?_
  obtain ⟨hi, hB⟩ := hB
  obtain ⟨z1, ez1⟩ : ∃ z9, z9 = sA z0 23 ((22 : Int32) + x1).toNatClampNeg x2 := ⟨_, rfl⟩
  have hB := hB z1 ez1
  refine xXs_23 S hE hP hD hS _ rfl hi dX8_setPrice_9 (fun H locs hP hD hS => ?_)
  rw [← ez1] at hP hD
  exact hret _ _ _ _ _ dX8_setPrice_10 hB hP hD hS
set_option maxHeartbeats 4000000 in
set_option maxRecDepth 100000 in
theorem c_Table_setPrice_8 (l : Launch) (G : GX) (z0 : St) (sz : Nat) (x1 : Int32) (x2 : Int32) (post : St → Prop) : MetV l wX yX8_setPrice cX8_setPrice 3 none ({ frames := 0, cells := 0, slots := 0, locals := 0 }) [.ref (ad G 8), .int x1, .int x2] G z0 sz (S_Table_setPrice_8 post x1 x2 z0) post := by
  refine Met.ofW (cc := cX8_setPrice) (maxL := 3) (ret := none) (by decide) rfl ?_
  intro p e s m args below meth c s₁ B hml hv
  obtain ⟨rfl, hsz, hP, hD0, hE, hB⟩ := hv
  have S : CallFix p m c cX8_setPrice 3 s _ GW RX8 := ⟨B.exec, B.bytes, hml, findClass_of_methodNamed B.named, fun w h => atoms_spec (ws := Cond.code yX8_setPrice cX8_setPrice 3 none :: GW) B.pre w (List.mem_cons_of_mem _ h)⟩
  have hlocks := B.notSynchronized
  subst hsz
  have hD := hD0.self (sz := s.heap.size)
  generalize hAe : va_A (wX G z0) s.heap.size = A at hD hE ⊢
  have hA : ∀ q : Nat, s.heap.size ≤ q → A q := fun q h => by rw [← hAe]; exact Or.inr h
  have hS : va_S A s.heap s.heap [] := va_S.rf
  have hl := lv_entry ([.ref (ad G 8), .int x1, .int x2]) (n := 3) (Nat.le_of_ble_eq_true rfl)
  rw [lg_entry_eq]
  generalize (lg_sl ([.ref (ad G 8), .int x1, .int x2]) ++ List.replicate (3 - (lg_sl ([.ref (ad G 8), .int x1, .int x2])).length) Slot.unset).toArray = ls at hl ⊢
  have hl : lv_has ls 3 [(0, .ref (ad G 8)), (1, .int x1), (2, .int x2)] := hl
  refine w_Table_setPrice_8_0 S hE hA (Nat.le_refl _) (Nat.le_refl _) ?_ x1 x2 z0 hB _ _ _ hP hD hS hl
  intro pc ls σ H locs hd hp hP hD hS
  exact W.vret B.exec B.bytes B.returns (fun t ht hW => ⟨⟨σ, rfl, hp, by rw [ht]; exact hP, hD⟩, hS.F ht⟩) hS.2.2 hd
def S_B_price (post : Int32 → St → Prop) (x1 : Int32) (x2 : Int32) (z0 : St) : Prop :=
  (S_House_hasDrink (fun (r1 : Int32) (z1 : St) => ((r1 = 0 → (post (-1 : Int32) z1)) ∧ (¬ r1 = 0 → ((x2 < 0 → (post (-1 : Int32) z1)) ∧ (¬ x2 < 0 → (((60 : Int32) < x2 → (post (-1 : Int32) z1)) ∧ (¬ (60 : Int32) < x2 → (S_Table_priceOf_8 (fun (r5 : Int32) (z2 : St) => ((x2 = r5 → (post (-1 : Int32) z2)) ∧ (¬ x2 = r5 → (S_Table_priceOf_8 (fun (r7 : Int32) (z3 : St) => (S_Memory_keep_r23 (fun (z4 : St) => (S_Table_setPrice_8 (fun (z5 : St) => (post r7 z5)) x1 x2 z4)) z3)) x1 z2)))) x1 z1)))))))) x1 z0)
set_option maxHeartbeats 4000000 in
set_option maxRecDepth 100000 in
theorem w_B_price_0 {p : Program} {l : Launch} {e : Env} {R : Room} {s : State} {m : MethodId} {args : Array Value} {below : List Frame} {meth : Method} {c : Code} {Q : State → Prop} {G : GX} {A : Nat → Prop} (S : CallFix p m c cX11_price 4 s args GW RX11) (hE : env G A s s.heap) (hA : ∀ q, s.heap.size ≤ q → A q) (hRf : 2 ≤ R.frames) (hRl : 101 ≤ R.locals) {post : Int32 → St → Prop} (hret : RetI p l e R s m args below meth c Q 0 0 wX G A cX11_price post) (x1 : Int32) (x2 : Int32) (z0 : St) (hB : S_B_price post x1 x2 z0) : Xw p l e R s m args below meth c Q 0 0 wX G A z0 4 [(0, .ref (ad G 0)), (1, .int x1), (2, .int x2)] 0 [] := by
  intro H locs ls hP hD hS hl
  have hx := S.1
  have hb := S.2.1
  refine lv_aload_n hx hb dX11_price_0 rfl (lv_at hl 0 rfl) ?_
  refine xXg_0_house S hE hP lk_X11_64 dX11_price_1 ?_
  refine lv_iload_n hx hb dX11_price_4 rfl (lv_at hl 1 rfl) ?_
  refine xcVi [.int x1] S hE hA hP hD hS (c_House_hasDrink l G z0 H.size x1 _) hB (gw_c lk_X11_160 (gw_c wi_X0_hasDrink (gw_c we_X0_X0_hasDrink_X0_hasDrink (gw_c wn_X0 (gw_c wc_X0_hasDrink (fun _ h9 => h9)))))) hd_X0_hasDrink rfl rfl (Nat.le_trans (Nat.le_of_ble_eq_true rfl) hRf) (Nat.le_trans (Nat.le_of_ble_eq_true rfl) hRl) ⟨Nat.zero_le _, Nat.zero_le _⟩ (va_recv hE.1 hP (ci := 0) (q0 := 6) rfl rfl) rfl hl.1 rfl (Nat.le_of_ble_eq_true rfl) dX11_price_5 (fun r1 z1 H locs hB hP hD hS => ?_)
  refine lv_if_eq (tgt := 33) hx hb dX11_price_8 (by decide) (fun c2 => ?_) (fun c2 => ?_)
  · have hB := hB.1 c2
    refine lv_iconst (v := -1) hx hb dX11_price_33 (by decide) ?_
    exact hret _ _ _ _ _ _ dX11_price_34 hB hP hD hS
  · have hB := hB.2 c2
    refine lv_iload_n hx hb dX11_price_11 rfl (lv_at hl 2 rfl) ?_
    refine lv_if_lt (tgt := 33) hx hb dX11_price_12 (by decide) (fun c3 => ?_) (fun c3 => ?_)
    · have hB := hB.1 c3
      refine lv_iconst (v := -1) hx hb dX11_price_33 (by decide) ?_
      exact hret _ _ _ _ _ _ dX11_price_34 hB hP hD hS
    · have hB := hB.2 c3
      refine lv_iload_n hx hb dX11_price_15 rfl (lv_at hl 2 rfl) ?_
      refine lv_bipush (v := 60) hx hb dX11_price_16 (by decide) ?_
      refine lv_icmp_gt (tgt := 33) hx hb dX11_price_18 (by decide) (fun c4 => ?_) (fun c4 => ?_)
      · have hB := hB.1 c4
        refine lv_iconst (v := -1) hx hb dX11_price_33 (by decide) ?_
        exact hret _ _ _ _ _ _ dX11_price_34 hB hP hD hS
      · have hB := hB.2 c4
        refine lv_iload_n hx hb dX11_price_21 rfl (lv_at hl 2 rfl) ?_
        refine lv_aload_n hx hb dX11_price_22 rfl (lv_at hl 0 rfl) ?_
        refine xXg_0_table S hE hP lk_X11_72 dX11_price_23 ?_
        refine lv_iload_n hx hb dX11_price_26 rfl (lv_at hl 1 rfl) ?_
        refine xcVi [.int x1] S hE hA hP hD hS (c_Table_priceOf_8 l G z1 H.size x1 _) hB (gw_c lk_X11_168 (gw_c wi_X8_priceOf (gw_c we_X8_X8_priceOf_X8_priceOf (gw_c wn_X8 (gw_c wc_X8_priceOf (fun _ h9 => h9)))))) hd_X8_priceOf rfl rfl (Nat.le_trans (Nat.le_of_ble_eq_true rfl) hRf) (Nat.le_trans (Nat.le_of_ble_eq_true rfl) hRl) ⟨Nat.zero_le _, Nat.zero_le _⟩ (va_recv hE.1 hP (ci := 7) (q0 := 8) rfl rfl) rfl hl.1 rfl (Nat.le_of_ble_eq_true rfl) dX11_price_27 (fun r5 z2 H locs hB hP hD hS => ?_)
        refine lv_icmp_ne (tgt := 35) hx hb dX11_price_30 (by decide) (fun c6 => ?_) (fun c6 => ?_)
        · have hB := hB.2 c6
          refine lv_aload_n hx hb dX11_price_35 rfl (lv_at hl 0 rfl) ?_
          refine xXg_0_table S hE hP lk_X11_72 dX11_price_36 ?_
          refine lv_iload_n hx hb dX11_price_39 rfl (lv_at hl 1 rfl) ?_
          refine xcVi [.int x1] S hE hA hP hD hS (c_Table_priceOf_8 l G z2 H.size x1 _) hB (gw_c lk_X11_168 (gw_c wi_X8_priceOf (gw_c we_X8_X8_priceOf_X8_priceOf (gw_c wn_X8 (gw_c wc_X8_priceOf (fun _ h9 => h9)))))) hd_X8_priceOf rfl rfl (Nat.le_trans (Nat.le_of_ble_eq_true rfl) hRf) (Nat.le_trans (Nat.le_of_ble_eq_true rfl) hRl) ⟨Nat.zero_le _, Nat.zero_le _⟩ (va_recv hE.1 hP (ci := 7) (q0 := 8) rfl rfl) rfl hl.1 rfl (Nat.le_of_ble_eq_true rfl) dX11_price_40 (fun r7 z3 H locs hB hP hD hS => ?_)
          refine lv_istore_n (lv' := [(3, .int r7), (0, .ref (ad G 0)), (1, .int x1), (2, .int x2)]) hx hb dX11_price_43 rfl hl (by decide) rfl (fun ls hl => ?_)
          refine lv_aload_n hx hb dX11_price_44 rfl (lv_at hl 1 rfl) ?_
          refine xXg_0_memory S hE hP lk_X11_45 dX11_price_45 ?_
          refine lv_aload_n hx hb dX11_price_48 rfl (lv_at hl 1 rfl) ?_
          refine xXg_0_table S hE hP lk_X11_72 dX11_price_49 ?_
          refine xXg_8_cells S hE hP lk_X11_206 dX11_price_52 ?_
          refine xcVv [.ref (ad G 23)] S hE hA hP hD hS (c_Memory_keep_r23 l G z3 H.size _) hB (gw_c lk_X11_209 (gw_c wi_X4_keep (gw_c we_X4_X4_keep_X4_keep (gw_c wn_X4 (gw_c wc_X4_keep (fun _ h9 => h9)))))) hd_X4_keep rfl rfl (Nat.le_trans (Nat.le_of_ble_eq_true rfl) hRf) (Nat.le_trans (Nat.le_of_ble_eq_true rfl) hRl) ⟨Nat.zero_le _, Nat.zero_le _⟩ (va_recv hE.1 hP (ci := 4) (q0 := 5) rfl rfl) rfl hl.1 rfl (Nat.le_of_ble_eq_true rfl) dX11_price_55 (fun z4 H locs hB hP hD hS => ?_)
          refine lv_aload_n hx hb dX11_price_58 rfl (lv_at hl 1 rfl) ?_
          refine xXg_0_table S hE hP lk_X11_72 dX11_price_59 ?_
          refine lv_iload_n hx hb dX11_price_62 rfl (lv_at hl 2 rfl) ?_
          refine lv_iload_n hx hb dX11_price_63 rfl (lv_at hl 3 rfl) ?_
          refine xcVv [.int x1, .int x2] S hE hA hP hD hS (c_Table_setPrice_8 l G z4 H.size x1 x2 _) hB (gw_c lk_X11_217 (gw_c wi_X8_setPrice (gw_c we_X8_X8_setPrice_X8_setPrice (gw_c wn_X8 (gw_c wc_X8_setPrice (fun _ h9 => h9)))))) hd_X8_setPrice rfl rfl (Nat.le_trans (Nat.le_of_ble_eq_true rfl) hRf) (Nat.le_trans (Nat.le_of_ble_eq_true rfl) hRl) ⟨Nat.zero_le _, Nat.zero_le _⟩ (va_recv hE.1 hP (ci := 7) (q0 := 8) rfl rfl) rfl hl.1 rfl (Nat.le_of_ble_eq_true rfl) dX11_price_64 (fun z5 H locs hB hP hD hS => ?_)
          refine lv_iload_n hx hb dX11_price_67 rfl (lv_at hl 0 rfl) ?_
          exact hret _ _ _ _ _ _ dX11_price_68 hB hP hD hS
        · have hB := hB.1 c6
          refine lv_iconst (v := -1) hx hb dX11_price_33 (by decide) ?_
          exact hret _ _ _ _ _ _ dX11_price_34 hB hP hD hS
set_option maxHeartbeats 4000000 in
set_option maxRecDepth 100000 in
theorem c_B_price (l : Launch) (G : GX) (z0 : St) (sz : Nat) (x1 : Int32) (x2 : Int32) (post : Int32 → St → Prop) : MetI l wX yX11_price cX11_price 4 (some .int) ({ frames := 2, cells := 0, slots := 0, locals := 101 }) [.ref (ad G 0), .int x1, .int x2] G z0 sz (S_B_price post x1 x2 z0) post := by
  refine Met.ofW (cc := cX11_price) (maxL := 4) (ret := (some .int)) (by decide) rfl ?_
  intro p e s m args below meth c s₁ B hml hv
  obtain ⟨rfl, hsz, hP, hD0, hE, hB⟩ := hv
  have S : CallFix p m c cX11_price 4 s _ GW RX11 := ⟨B.exec, B.bytes, hml, findClass_of_methodNamed B.named, fun w h => atoms_spec (ws := Cond.code yX11_price cX11_price 4 (some .int) :: GW) B.pre w (List.mem_cons_of_mem _ h)⟩
  have hlocks := B.notSynchronized
  subst hsz
  have hD := hD0.self (sz := s.heap.size)
  generalize hAe : va_A (wX G z0) s.heap.size = A at hD hE ⊢
  have hA : ∀ q : Nat, s.heap.size ≤ q → A q := fun q h => by rw [← hAe]; exact Or.inr h
  have hS : va_S A s.heap s.heap [] := va_S.rf
  have hl := lv_entry ([.ref (ad G 0), .int x1, .int x2]) (n := 4) (Nat.le_of_ble_eq_true rfl)
  rw [lg_entry_eq]
  generalize (lg_sl ([.ref (ad G 0), .int x1, .int x2]) ++ List.replicate (4 - (lg_sl ([.ref (ad G 0), .int x1, .int x2])).length) Slot.unset).toArray = ls at hl ⊢
  have hl : lv_has ls 4 [(0, .ref (ad G 0)), (1, .int x1), (2, .int x2)] := hl
  refine w_B_price_0 S hE hA (Nat.le_refl _) (Nat.le_refl _) ?_ x1 x2 z0 hB _ _ _ hP hD hS hl
  intro pc ls r σ H locs hd hp hP hD hS
  exact W.iret (v := r) B.exec B.bytes B.returns (fun t ht hW => ⟨⟨r, σ, rfl, hp, by rw [ht]; exact hP, hD⟩, hS.F ht⟩) hS.2.2 hd
def S_B_stirred (post : Int64 → St → Prop) (x0 : Int64) (z0 : St) : Prop :=
  (post ((x0 * (6364136223846793005 : Int64)) + (1442695040888963407 : Int64)) z0)
set_option maxHeartbeats 4000000 in
set_option maxRecDepth 100000 in
theorem w_B_stirred_0 {p : Program} {l : Launch} {e : Env} {R : Room} {s : State} {m : MethodId} {args : Array Value} {below : List Frame} {meth : Method} {c : Code} {Q : State → Prop} {G : GX} {A : Nat → Prop} (S : CallFix p m c cX11_stirred 2 s args GW RX11) (hE : env G A s s.heap) (hA : ∀ q, s.heap.size ≤ q → A q) (hRf : 0 ≤ R.frames) (hRl : 0 ≤ R.locals) {post : Int64 → St → Prop} (hret : RetL p l e R s m args below meth c Q 0 0 wX G A cX11_stirred post) (x0 : Int64) (z0 : St) (hB : S_B_stirred post x0 z0) : Xw p l e R s m args below meth c Q 0 0 wX G A z0 2 [(0, .long x0)] 0 [] := by
  intro H locs ls hP hD hS hl
  have hx := S.1
  have hb := S.2.1
  refine lv_lload_n hx hb dX11_stirred_0 rfl (lv_at hl 0 rfl) ?_
  refine lv_ldc2 hx hb S.2.2.2.1 (S.2.2.2.2 _ lk_X11_257) dX11_stirred_1 ?_
  refine lv_lmul hx hb dX11_stirred_4 ?_
  refine lv_ldc2 hx hb S.2.2.2.1 (S.2.2.2.2 _ lk_X11_259) dX11_stirred_5 ?_
  refine lv_ladd hx hb dX11_stirred_8 ?_
  exact hret _ _ _ _ _ _ dX11_stirred_9 hB hP hD hS
set_option maxHeartbeats 4000000 in
set_option maxRecDepth 100000 in
theorem c_B_stirred (l : Launch) (G : GX) (z0 : St) (sz : Nat) (x0 : Int64) (post : Int64 → St → Prop) : MetL l wX yX11_stirred cX11_stirred 2 (some .long) ({ frames := 0, cells := 0, slots := 0, locals := 0 }) [.long x0] G z0 sz (S_B_stirred post x0 z0) post := by
  refine Met.ofW (cc := cX11_stirred) (maxL := 2) (ret := (some .long)) (by decide) rfl ?_
  intro p e s m args below meth c s₁ B hml hv
  obtain ⟨rfl, hsz, hP, hD0, hE, hB⟩ := hv
  have S : CallFix p m c cX11_stirred 2 s _ GW RX11 := ⟨B.exec, B.bytes, hml, findClass_of_methodNamed B.named, fun w h => atoms_spec (ws := Cond.code yX11_stirred cX11_stirred 2 (some .long) :: GW) B.pre w (List.mem_cons_of_mem _ h)⟩
  have hlocks := B.notSynchronized
  subst hsz
  have hD := hD0.self (sz := s.heap.size)
  generalize hAe : va_A (wX G z0) s.heap.size = A at hD hE ⊢
  have hA : ∀ q : Nat, s.heap.size ≤ q → A q := fun q h => by rw [← hAe]; exact Or.inr h
  have hS : va_S A s.heap s.heap [] := va_S.rf
  have hl := lv_entry ([.long x0]) (n := 2) (Nat.le_of_ble_eq_true rfl)
  rw [lg_entry_eq]
  generalize (lg_sl ([.long x0]) ++ List.replicate (2 - (lg_sl ([.long x0])).length) Slot.unset).toArray = ls at hl ⊢
  have hl : lv_has ls 2 [(0, .long x0)] := hl
  refine w_B_stirred_0 S hE hA (Nat.le_refl _) (Nat.le_refl _) ?_ x0 z0 hB _ _ _ hP hD hS hl
  intro pc ls r σ H locs hd hp hP hD hS
  exact W.lret (v := r) B.exec B.bytes B.returns (fun t ht hW => ⟨⟨r, σ, rfl, hp, by rw [ht]; exact hP, hD⟩, hS.F ht⟩) hS.2.2 hd
def S_B_drawn (post : Int32 → St → Prop) (x0 : Int64) (x2 : Int32) (z0 : St) : Prop :=
  (((1 : Int32) ≤ x2 → (¬ (x2).toInt64 = 0 ∧ (post (((((x0).toUInt64 >>> (((33 : Int32)).toInt64.toUInt64 &&& Int64.toUInt64 63)).toInt64 - ((x0).toUInt64 >>> (((33 : Int32)).toInt64.toUInt64 &&& Int64.toUInt64 63)).toInt64 / (x2).toInt64 * (x2).toInt64)).toInt32) z0))) ∧ (¬ (1 : Int32) ≤ x2 → (post (0 : Int32) z0)))
set_option maxHeartbeats 4000000 in
set_option maxRecDepth 100000 in
theorem w_B_drawn_0 {p : Program} {l : Launch} {e : Env} {R : Room} {s : State} {m : MethodId} {args : Array Value} {below : List Frame} {meth : Method} {c : Code} {Q : State → Prop} {G : GX} {A : Nat → Prop} (S : CallFix p m c cX11_drawn 3 s args GW RX11) (hE : env G A s s.heap) (hA : ∀ q, s.heap.size ≤ q → A q) (hRf : 0 ≤ R.frames) (hRl : 0 ≤ R.locals) {post : Int32 → St → Prop} (hret : RetI p l e R s m args below meth c Q 0 0 wX G A cX11_drawn post) (x0 : Int64) (x2 : Int32) (z0 : St) (hB : S_B_drawn post x0 x2 z0) : Xw p l e R s m args below meth c Q 0 0 wX G A z0 3 [(0, .long x0), (2, .int x2)] 0 [] := by
  intro H locs ls hP hD hS hl
  have hx := S.1
  have hb := S.2.1
  refine lv_iload_n hx hb dX11_drawn_0 rfl (lv_at hl 1 rfl) ?_
  refine lv_iconst (v := 1) hx hb dX11_drawn_1 (by decide) ?_
  refine lv_icmp_ge (tgt := 9) hx hb dX11_drawn_2 (by decide) (fun c1 => ?_) (fun c1 => ?_)
  · have hB := hB.1 c1
    refine lv_lload_n hx hb dX11_drawn_9 rfl (lv_at hl 0 rfl) ?_
    refine lv_bipush (v := 33) hx hb dX11_drawn_10 (by decide) ?_
    refine lv_lushr hx hb dX11_drawn_12 rfl ?_
    refine lv_iload_n hx hb dX11_drawn_13 rfl (lv_at hl 1 rfl) ?_
    refine lv_i2l hx hb dX11_drawn_14 rfl ?_
    obtain ⟨hne, hB⟩ := hB
    refine lv_lrem hx hb dX11_drawn_15 hne ?_
    refine lv_l2i hx hb dX11_drawn_16 rfl ?_
    exact hret _ _ _ _ _ _ dX11_drawn_17 hB hP hD hS
  · have hB := hB.2 c1
    refine lv_iconst (v := 0) hx hb dX11_drawn_5 (by decide) ?_
    refine lv_goto (tgt := 17) hx hb dX11_drawn_6 (by decide) ?_
    exact hret _ _ _ _ _ _ dX11_drawn_17 hB hP hD hS
set_option maxHeartbeats 4000000 in
set_option maxRecDepth 100000 in
theorem c_B_drawn (l : Launch) (G : GX) (z0 : St) (sz : Nat) (x0 : Int64) (x2 : Int32) (post : Int32 → St → Prop) : MetI l wX yX11_drawn cX11_drawn 3 (some .int) ({ frames := 0, cells := 0, slots := 0, locals := 0 }) [.long x0, .int x2] G z0 sz (S_B_drawn post x0 x2 z0) post := by
  refine Met.ofW (cc := cX11_drawn) (maxL := 3) (ret := (some .int)) (by decide) rfl ?_
  intro p e s m args below meth c s₁ B hml hv
  obtain ⟨rfl, hsz, hP, hD0, hE, hB⟩ := hv
  have S : CallFix p m c cX11_drawn 3 s _ GW RX11 := ⟨B.exec, B.bytes, hml, findClass_of_methodNamed B.named, fun w h => atoms_spec (ws := Cond.code yX11_drawn cX11_drawn 3 (some .int) :: GW) B.pre w (List.mem_cons_of_mem _ h)⟩
  have hlocks := B.notSynchronized
  subst hsz
  have hD := hD0.self (sz := s.heap.size)
  generalize hAe : va_A (wX G z0) s.heap.size = A at hD hE ⊢
  have hA : ∀ q : Nat, s.heap.size ≤ q → A q := fun q h => by rw [← hAe]; exact Or.inr h
  have hS : va_S A s.heap s.heap [] := va_S.rf
  have hl := lv_entry ([.long x0, .int x2]) (n := 3) (Nat.le_of_ble_eq_true rfl)
  rw [lg_entry_eq]
  generalize (lg_sl ([.long x0, .int x2]) ++ List.replicate (3 - (lg_sl ([.long x0, .int x2])).length) Slot.unset).toArray = ls at hl ⊢
  have hl : lv_has ls 3 [(0, .long x0), (2, .int x2)] := hl
  refine w_B_drawn_0 S hE hA (Nat.le_refl _) (Nat.le_refl _) ?_ x0 x2 z0 hB _ _ _ hP hD hS hl
  intro pc ls r σ H locs hd hp hP hD hS
  exact W.iret (v := r) B.exec B.bytes B.returns (fun t ht hW => ⟨⟨r, σ, rfl, hp, by rw [ht]; exact hP, hD⟩, hS.F ht⟩) hS.2.2 hd
def S_B_snowedIn (post : St → Prop) (z0 : St) : Prop :=
  (S_B_act (fun (r1 : Int32) (z1 : St) => ((r1 = 0 → (S_Memory_keep_r23 (fun (z2 : St) => (post z2)) z1)) ∧ (¬ r1 = 0 → (post z1)))) (1 : Int32) (0 : Int32) z0)
set_option maxHeartbeats 4000000 in
set_option maxRecDepth 100000 in
theorem w_B_snowedIn_0 {p : Program} {l : Launch} {e : Env} {R : Room} {s : State} {m : MethodId} {args : Array Value} {below : List Frame} {meth : Method} {c : Code} {Q : State → Prop} {G : GX} {A : Nat → Prop} (S : CallFix p m c cX11_snowedIn 1 s args GW RX11) (hE : env G A s s.heap) (hA : ∀ q, s.heap.size ≤ q → A q) (hRf : 6 ≤ R.frames) (hRl : 148 ≤ R.locals) {post : St → Prop} (hret : RetV p l e R s m args below meth c Q 0 0 wX G A cX11_snowedIn post) (z0 : St) (hB : S_B_snowedIn post z0) : Xw p l e R s m args below meth c Q 0 0 wX G A z0 1 [(0, .ref (ad G 0))] 0 [] := by
  intro H locs ls hP hD hS hl
  have hx := S.1
  have hb := S.2.1
  refine lv_aload_n hx hb dX11_snowedIn_0 rfl (lv_at hl 0 rfl) ?_
  refine lv_iconst (v := 1) hx hb dX11_snowedIn_1 (by decide) ?_
  refine lv_iconst (v := 0) hx hb dX11_snowedIn_2 (by decide) ?_
  refine xcVi [.int (1 : Int32), .int (0 : Int32)] S hE hA hP hD hS (c_B_act l G z0 H.size (1 : Int32) (0 : Int32) _) hB (gw_c lk_X11_199 (gw_c wi_X11_act (gw_c we_X11_X11_act_X11_act (gw_c wn_X11 (gw_c wc_X11_act (fun _ h9 => h9)))))) hd_X11_act rfl rfl (Nat.le_trans (Nat.le_of_ble_eq_true rfl) hRf) (Nat.le_trans (Nat.le_of_ble_eq_true rfl) hRl) ⟨Nat.zero_le _, Nat.zero_le _⟩ (va_recv hE.1 hP (ci := 10) (q0 := 0) rfl rfl) rfl hl.1 rfl (Nat.le_of_ble_eq_true rfl) dX11_snowedIn_3 (fun r1 z1 H locs hB hP hD hS => ?_)
  refine lv_if_ne (tgt := 23) hx hb dX11_snowedIn_6 (by decide) (fun c2 => ?_) (fun c2 => ?_)
  · have hB := hB.2 c2
    exact hret _ _ _ _ _ dX11_snowedIn_23 hB hP hD hS
  · have hB := hB.1 c2
    refine lv_aload_n hx hb dX11_snowedIn_9 rfl (lv_at hl 0 rfl) ?_
    refine xXg_0_memory S hE hP lk_X11_45 dX11_snowedIn_10 ?_
    refine lv_aload_n hx hb dX11_snowedIn_13 rfl (lv_at hl 0 rfl) ?_
    refine xXg_0_table S hE hP lk_X11_72 dX11_snowedIn_14 ?_
    refine xXg_8_cells S hE hP lk_X11_206 dX11_snowedIn_17 ?_
    refine xcVv [.ref (ad G 23)] S hE hA hP hD hS (c_Memory_keep_r23 l G z1 H.size _) hB (gw_c lk_X11_209 (gw_c wi_X4_keep (gw_c we_X4_X4_keep_X4_keep (gw_c wn_X4 (gw_c wc_X4_keep (fun _ h9 => h9)))))) hd_X4_keep rfl rfl (Nat.le_trans (Nat.le_of_ble_eq_true rfl) hRf) (Nat.le_trans (Nat.le_of_ble_eq_true rfl) hRl) ⟨Nat.zero_le _, Nat.zero_le _⟩ (va_recv hE.1 hP (ci := 4) (q0 := 5) rfl rfl) rfl hl.1 rfl (Nat.le_of_ble_eq_true rfl) dX11_snowedIn_20 (fun z2 H locs hB hP hD hS => ?_)
    exact hret _ _ _ _ _ dX11_snowedIn_23 hB hP hD hS
set_option maxHeartbeats 4000000 in
set_option maxRecDepth 100000 in
theorem c_B_snowedIn (l : Launch) (G : GX) (z0 : St) (sz : Nat) (post : St → Prop) : MetV l wX yX11_snowedIn cX11_snowedIn 1 none ({ frames := 6, cells := 0, slots := 0, locals := 148 }) [.ref (ad G 0)] G z0 sz (S_B_snowedIn post z0) post := by
  refine Met.ofW (cc := cX11_snowedIn) (maxL := 1) (ret := none) (by decide) rfl ?_
  intro p e s m args below meth c s₁ B hml hv
  obtain ⟨rfl, hsz, hP, hD0, hE, hB⟩ := hv
  have S : CallFix p m c cX11_snowedIn 1 s _ GW RX11 := ⟨B.exec, B.bytes, hml, findClass_of_methodNamed B.named, fun w h => atoms_spec (ws := Cond.code yX11_snowedIn cX11_snowedIn 1 none :: GW) B.pre w (List.mem_cons_of_mem _ h)⟩
  have hlocks := B.notSynchronized
  subst hsz
  have hD := hD0.self (sz := s.heap.size)
  generalize hAe : va_A (wX G z0) s.heap.size = A at hD hE ⊢
  have hA : ∀ q : Nat, s.heap.size ≤ q → A q := fun q h => by rw [← hAe]; exact Or.inr h
  have hS : va_S A s.heap s.heap [] := va_S.rf
  have hl := lv_entry ([.ref (ad G 0)]) (n := 1) (Nat.le_of_ble_eq_true rfl)
  rw [lg_entry_eq]
  generalize (lg_sl ([.ref (ad G 0)]) ++ List.replicate (1 - (lg_sl ([.ref (ad G 0)])).length) Slot.unset).toArray = ls at hl ⊢
  have hl : lv_has ls 1 [(0, .ref (ad G 0))] := hl
  refine w_B_snowedIn_0 S hE hA (Nat.le_refl _) (Nat.le_refl _) ?_  z0 hB _ _ _ hP hD hS hl
  intro pc ls σ H locs hd hp hP hD hS
  exact W.vret B.exec B.bytes B.returns (fun t ht hW => ⟨⟨σ, rfl, hp, by rw [ht]; exact hP, hD⟩, hS.F ht⟩) hS.2.2 hd
def B_B_years_97 (post : Int32 → St → Prop) (ih38 : Int32 → Int32 → Int64 → Int32 → St → Prop) (x1 : Int32) (x4 : Int32) (x5 : Int64) (x7 : Int32) (z0 : St) : Prop :=
  (∀ v1 : Int32, v1 = x7 + (1 : Int32) → (ih38 x1 x4 x5 v1 z0))
set_option maxHeartbeats 4000000 in
set_option maxRecDepth 100000 in
theorem w_B_years_97 {p : Program} {l : Launch} {e : Env} {R : Room} {s : State} {m : MethodId} {args : Array Value} {below : List Frame} {meth : Method} {c : Code} {Q : State → Prop} {G : GX} {A : Nat → Prop} (S : CallFix p m c cX11_years 8 s args GW RX11) (hE : env G A s s.heap) (hA : ∀ q, s.heap.size ≤ q → A q) (hRf : 7 ≤ R.frames) (hRl : 168 ≤ R.locals) {post : Int32 → St → Prop} (hret : RetI p l e R s m args below meth c Q 0 0 wX G A cX11_years post) {ih38 : Int32 → Int32 → Int64 → Int32 → St → Prop} (h38 : ∀ (x1 : Int32) (x4 : Int32) (x5 : Int64) (x7 : Int32) (z0 : St), ih38 x1 x4 x5 x7 z0 → Xw p l e R s m args below meth c Q 0 0 wX G A z0 8 [(0, .ref (ad G 0)), (1, .int x1), (4, .int x4), (5, .long x5), (7, .int x7)] 38 []) (x1 : Int32) (x4 : Int32) (x5 : Int64) (x7 : Int32) (z0 : St) (hB : B_B_years_97 post ih38 x1 x4 x5 x7 z0) : Xw p l e R s m args below meth c Q 0 0 wX G A z0 8 [(0, .ref (ad G 0)), (1, .int x1), (4, .int x4), (5, .long x5), (7, .int x7)] 97 [] := by
  intro H locs ls hP hD hS hl
  have hx := S.1
  have hb := S.2.1
  obtain ⟨v1, ev1⟩ : ∃ y9, y9 = x7 + (1 : Int32) := ⟨_, rfl⟩
  have hB := hB v1 ev1
  refine lv_iinc (v := v1) (lv' := [(7, .int v1), (0, .ref (ad G 0)), (1, .int x1), (4, .int x4), (5, .long x5)]) hx hb dX11_years_97 hl (k := 4) rfl (by rw [ev1]; rfl) (by decide) rfl (fun ls hl => ?_)
  refine lv_goto (tgt := 38) hx hb dX11_years_100 (by decide) ?_
  exact h38 x1 x4 x5 v1 z0 hB _ _ _ hP hD hS (lv_sub hl [1, 2, 3, 4, 0] rfl)
def B_B_years_38 (post : Int32 → St → Prop) (ih38 : Int32 → Int32 → Int64 → Int32 → St → Prop) (x1 : Int32) (x4 : Int32) (x5 : Int64) (x7 : Int32) (z0 : St) : Prop :=
  ((x1 ≤ x7 → (S_Table_visits_8 (fun (r2 : Int32) (z1 : St) => (post (r2 - x4) z1)) z0)) ∧ (¬ x1 ≤ x7 → (S_B_stirred (fun (r3 : Int64) (z2 : St) => (S_B_drawn (fun (r4 : Int32) (z3 : St) => (((gI z3 1) ≤ r4 → (S_B_stirred (fun (r6 : Int64) (z4 : St) => (S_B_drawn (fun (r7 : Int32) (z5 : St) => (S_B_act (fun (r8 : Int32) (z6 : St) => (B_B_years_97 post ih38 x1 x4 r6 x7 z6)) (0 : Int32) r7 z5)) r6 (gI z4 27) z4)) r3 z3)) ∧ (¬ (gI z3 1) ≤ r4 → (S_B_snowedIn (fun (z7 : St) => (B_B_years_97 post ih38 x1 x4 r3 x7 z7)) z3)))) r3 (10 : Int32) z2)) x5 z0)))
set_option maxHeartbeats 4000000 in
set_option maxRecDepth 100000 in
theorem w_B_years_38 {p : Program} {l : Launch} {e : Env} {R : Room} {s : State} {m : MethodId} {args : Array Value} {below : List Frame} {meth : Method} {c : Code} {Q : State → Prop} {G : GX} {A : Nat → Prop} (S : CallFix p m c cX11_years 8 s args GW RX11) (hE : env G A s s.heap) (hA : ∀ q, s.heap.size ≤ q → A q) (hRf : 7 ≤ R.frames) (hRl : 168 ≤ R.locals) {post : Int32 → St → Prop} (hret : RetI p l e R s m args below meth c Q 0 0 wX G A cX11_years post) {ih38 : Int32 → Int32 → Int64 → Int32 → St → Prop} (h38 : ∀ (x1 : Int32) (x4 : Int32) (x5 : Int64) (x7 : Int32) (z0 : St), ih38 x1 x4 x5 x7 z0 → Xw p l e R s m args below meth c Q 0 0 wX G A z0 8 [(0, .ref (ad G 0)), (1, .int x1), (4, .int x4), (5, .long x5), (7, .int x7)] 38 []) (x1 : Int32) (x4 : Int32) (x5 : Int64) (x7 : Int32) (z0 : St) (hB : B_B_years_38 post ih38 x1 x4 x5 x7 z0) : Xw p l e R s m args below meth c Q 0 0 wX G A z0 8 [(0, .ref (ad G 0)), (1, .int x1), (4, .int x4), (5, .long x5), (7, .int x7)] 38 [] := by
  intro H locs ls hP hD hS hl
  have hx := S.1
  have hb := S.2.1
  refine lv_iload hx hb dX11_years_38 (lv_at hl 4 rfl) ?_
  refine lv_iload_n hx hb dX11_years_40 rfl (lv_at hl 1 rfl) ?_
  refine lv_icmp_ge (tgt := 103) hx hb dX11_years_41 (by decide) (fun c1 => ?_) (fun c1 => ?_)
  · have hB := hB.1 c1
    refine lv_aload_n hx hb dX11_years_103 rfl (lv_at hl 0 rfl) ?_
    refine xXg_0_table S hE hP lk_X11_72 dX11_years_104 ?_
    refine xcVi [] S hE hA hP hD hS (c_Table_visits_8 l G z0 H.size _) hB (gw_c lk_X11_220 (gw_c wi_X8_visits (gw_c we_X8_X8_visits_X8_visits (gw_c wn_X8 (gw_c wc_X8_visits (fun _ h9 => h9)))))) hd_X8_visits rfl rfl (Nat.le_trans (Nat.le_of_ble_eq_true rfl) hRf) (Nat.le_trans (Nat.le_of_ble_eq_true rfl) hRl) ⟨Nat.zero_le _, Nat.zero_le _⟩ (va_recv hE.1 hP (ci := 7) (q0 := 8) rfl rfl) rfl hl.1 rfl (Nat.le_of_ble_eq_true rfl) dX11_years_107 (fun r2 z1 H locs hB hP hD hS => ?_)
    refine lv_iload hx hb dX11_years_110 (lv_at hl 2 rfl) ?_
    refine lv_isub hx hb dX11_years_112 ?_
    exact hret _ _ _ _ _ _ dX11_years_113 hB hP hD hS
  · have hB := hB.2 c1
    refine lv_lload hx hb dX11_years_44 (lv_at hl 3 rfl) ?_
    refine xcSl [.long x5] S hE hA hP hD hS (c_B_stirred l G z0 H.size x5 _) hB (gw_c lk_X11_223 (gw_c wt_X11_stirred (gw_c wn_X11 (gw_c wc_X11_stirred (fun _ h9 => h9))))) hs_X11_stirred rfl rfl (Nat.le_trans (Nat.le_of_ble_eq_true rfl) hRf) (Nat.le_trans (Nat.le_of_ble_eq_true rfl) hRl) ⟨Nat.zero_le _, Nat.zero_le _⟩ rfl hl.1 rfl (Nat.le_of_ble_eq_true rfl) dX11_years_46 (fun r3 z2 H locs hB hP hD hS => ?_)
    refine lv_lstore (lv' := [(5, .long r3), (0, .ref (ad G 0)), (1, .int x1), (4, .int x4), (7, .int x7)]) hx hb dX11_years_49 hl (by decide) rfl (fun ls hl => ?_)
    refine lv_lload hx hb dX11_years_51 (lv_at hl 0 rfl) ?_
    refine lv_bipush (v := 10) hx hb dX11_years_53 (by decide) ?_
    refine xcSi [.long r3, .int (10 : Int32)] S hE hA hP hD hS (c_B_drawn l G z2 H.size r3 (10 : Int32) _) hB (gw_c lk_X11_227 (gw_c wt_X11_drawn (gw_c wn_X11 (gw_c wc_X11_drawn (fun _ h9 => h9))))) hs_X11_drawn rfl rfl (Nat.le_trans (Nat.le_of_ble_eq_true rfl) hRf) (Nat.le_trans (Nat.le_of_ble_eq_true rfl) hRl) ⟨Nat.zero_le _, Nat.zero_le _⟩ rfl hl.1 rfl (Nat.le_of_ble_eq_true rfl) dX11_years_55 (fun r4 z3 H locs hB hP hD hS => ?_)
    refine lv_aload_n hx hb dX11_years_58 rfl (lv_at hl 1 rfl) ?_
    refine xXg_0_snowiness S hE hP lk_X11_49 dX11_years_59 ?_
    refine lv_icmp_ge (tgt := 72) hx hb dX11_years_62 (by decide) (fun c5 => ?_) (fun c5 => ?_)
    · have hB := hB.1 c5
      refine lv_lload hx hb dX11_years_72 (lv_at hl 0 rfl) ?_
      refine xcSl [.long r3] S hE hA hP hD hS (c_B_stirred l G z3 H.size r3 _) hB (gw_c lk_X11_223 (gw_c wt_X11_stirred (gw_c wn_X11 (gw_c wc_X11_stirred (fun _ h9 => h9))))) hs_X11_stirred rfl rfl (Nat.le_trans (Nat.le_of_ble_eq_true rfl) hRf) (Nat.le_trans (Nat.le_of_ble_eq_true rfl) hRl) ⟨Nat.zero_le _, Nat.zero_le _⟩ rfl hl.1 rfl (Nat.le_of_ble_eq_true rfl) dX11_years_74 (fun r6 z4 H locs hB hP hD hS => ?_)
      refine lv_lstore (lv' := [(5, .long r6), (0, .ref (ad G 0)), (1, .int x1), (4, .int x4), (7, .int x7)]) hx hb dX11_years_77 hl (by decide) rfl (fun ls hl => ?_)
      refine lv_aload_n hx hb dX11_years_79 rfl (lv_at hl 1 rfl) ?_
      refine lv_iconst (v := 0) hx hb dX11_years_80 (by decide) ?_
      refine lv_lload hx hb dX11_years_81 (lv_at hl 0 rfl) ?_
      refine lv_aload_n hx hb dX11_years_83 rfl (lv_at hl 1 rfl) ?_
      refine xXg_0_house S hE hP lk_X11_64 dX11_years_84 ?_
      refine xXg_6_guests S hE hP lk_X11_137 dX11_years_87 ?_
      refine xcSi [.long r6, .int (gI z4 27)] S hE hA hP hD hS (c_B_drawn l G z4 H.size r6 (gI z4 27) _) hB (gw_c lk_X11_227 (gw_c wt_X11_drawn (gw_c wn_X11 (gw_c wc_X11_drawn (fun _ h9 => h9))))) hs_X11_drawn rfl rfl (Nat.le_trans (Nat.le_of_ble_eq_true rfl) hRf) (Nat.le_trans (Nat.le_of_ble_eq_true rfl) hRl) ⟨Nat.zero_le _, Nat.zero_le _⟩ rfl hl.1 rfl (Nat.le_of_ble_eq_true rfl) dX11_years_90 (fun r7 z5 H locs hB hP hD hS => ?_)
      refine xcVi [.int (0 : Int32), .int r7] S hE hA hP hD hS (c_B_act l G z5 H.size (0 : Int32) r7 _) hB (gw_c lk_X11_199 (gw_c wi_X11_act (gw_c we_X11_X11_act_X11_act (gw_c wn_X11 (gw_c wc_X11_act (fun _ h9 => h9)))))) hd_X11_act rfl rfl (Nat.le_trans (Nat.le_of_ble_eq_true rfl) hRf) (Nat.le_trans (Nat.le_of_ble_eq_true rfl) hRl) ⟨Nat.zero_le _, Nat.zero_le _⟩ (va_recv hE.1 hP (ci := 10) (q0 := 0) rfl rfl) rfl hl.1 rfl (Nat.le_of_ble_eq_true rfl) dX11_years_93 (fun r8 z6 H locs hB hP hD hS => ?_)
      refine lv_pop hx hb dX11_years_96 rfl ?_
      exact w_B_years_97 S hE hA hRf hRl hret h38 x1 x4 r6 x7 z6 hB _ _ _ hP hD hS (lv_sub hl [1, 2, 3, 0, 4] rfl)
    · have hB := hB.2 c5
      refine lv_aload_n hx hb dX11_years_65 rfl (lv_at hl 1 rfl) ?_
      refine xcVv [] S hE hA hP hD hS (c_B_snowedIn l G z3 H.size _) hB (gw_c lk_X11_231 (gw_c wi_X11_snowedIn (gw_c we_X11_X11_snowedIn_X11_snowedIn (gw_c wn_X11 (gw_c wc_X11_snowedIn (fun _ h9 => h9)))))) hd_X11_snowedIn rfl rfl (Nat.le_trans (Nat.le_of_ble_eq_true rfl) hRf) (Nat.le_trans (Nat.le_of_ble_eq_true rfl) hRl) ⟨Nat.zero_le _, Nat.zero_le _⟩ (va_recv hE.1 hP (ci := 10) (q0 := 0) rfl rfl) rfl hl.1 rfl (Nat.le_of_ble_eq_true rfl) dX11_years_66 (fun z7 H locs hB hP hD hS => ?_)
      refine lv_goto (tgt := 97) hx hb dX11_years_69 (by decide) ?_
      exact w_B_years_97 S hE hA hRf hRl hret h38 x1 x4 r3 x7 z7 hB _ _ _ hP hD hS (lv_sub hl [1, 2, 3, 0, 4] rfl)
def L_B_years_38 (post : Int32 → St → Prop) : Nat → Int32 → Int32 → Int64 → Int32 → St → Prop
  | 0 => fun _ _ _ _ _ => False
  | n + 1 => B_B_years_38 post (L_B_years_38 post n)
theorem wl_B_years_38 {p : Program} {l : Launch} {e : Env} {R : Room} {s : State} {m : MethodId} {args : Array Value} {below : List Frame} {meth : Method} {c : Code} {Q : State → Prop} {G : GX} {A : Nat → Prop} (S : CallFix p m c cX11_years 8 s args GW RX11) (hE : env G A s s.heap) (hA : ∀ q, s.heap.size ≤ q → A q) (hRf : 7 ≤ R.frames) (hRl : 168 ≤ R.locals) {post : Int32 → St → Prop} (hret : RetI p l e R s m args below meth c Q 0 0 wX G A cX11_years post) : ∀ (n : Nat) (x1 : Int32) (x4 : Int32) (x5 : Int64) (x7 : Int32) (z0 : St), L_B_years_38 post n x1 x4 x5 x7 z0 → Xw p l e R s m args below meth c Q 0 0 wX G A z0 8 [(0, .ref (ad G 0)), (1, .int x1), (4, .int x4), (5, .long x5), (7, .int x7)] 38 [] := by
  intro n
  induction n with
  | zero => intro x1 x4 x5 x7 z0 hB; exact absurd hB id
  | succ n ih => exact fun x1 x4 x5 x7 z0 hB => w_B_years_38 S hE hA hRf hRl hret ih x1 x4 x5 x7 z0 hB
def S_B_years (post : Int32 → St → Prop) (x1 : Int32) (x2 : Int64) (z0 : St) : Prop :=
  (S_House_isTold (fun (r1 : Int32) (z1 : St) => ((r1 = 0 → (post (-1 : Int32) z1)) ∧ (¬ r1 = 0 → ((x1 < (1 : Int32) → (post (-1 : Int32) z1)) ∧ (¬ x1 < (1 : Int32) → ((x1 ≤ (60 : Int32) → (S_Table_visits_8 (fun (r5 : Int32) (z2 : St) => (∃ n6, L_B_years_38 post n6 x1 r5 x2 (0 : Int32) z2)) z1)) ∧ (¬ x1 ≤ (60 : Int32) → (post (-1 : Int32) z1)))))))) z0)
set_option maxHeartbeats 4000000 in
set_option maxRecDepth 100000 in
theorem w_B_years_0 {p : Program} {l : Launch} {e : Env} {R : Room} {s : State} {m : MethodId} {args : Array Value} {below : List Frame} {meth : Method} {c : Code} {Q : State → Prop} {G : GX} {A : Nat → Prop} (S : CallFix p m c cX11_years 8 s args GW RX11) (hE : env G A s s.heap) (hA : ∀ q, s.heap.size ≤ q → A q) (hRf : 7 ≤ R.frames) (hRl : 168 ≤ R.locals) {post : Int32 → St → Prop} (hret : RetI p l e R s m args below meth c Q 0 0 wX G A cX11_years post) (x1 : Int32) (x2 : Int64) (z0 : St) (hB : S_B_years post x1 x2 z0) : Xw p l e R s m args below meth c Q 0 0 wX G A z0 8 [(0, .ref (ad G 0)), (1, .int x1), (2, .long x2)] 0 [] := by
  intro H locs ls hP hD hS hl
  have hx := S.1
  have hb := S.2.1
  refine lv_aload_n hx hb dX11_years_0 rfl (lv_at hl 0 rfl) ?_
  refine xXg_0_house S hE hP lk_X11_64 dX11_years_1 ?_
  refine xcVi [] S hE hA hP hD hS (c_House_isTold l G z0 H.size _) hB (gw_c lk_X11_147 (gw_c wi_X0_isTold (gw_c we_X0_X0_isTold_X0_isTold (gw_c wn_X0 (gw_c wc_X0_isTold (fun _ h9 => h9)))))) hd_X0_isTold rfl rfl (Nat.le_trans (Nat.le_of_ble_eq_true rfl) hRf) (Nat.le_trans (Nat.le_of_ble_eq_true rfl) hRl) ⟨Nat.zero_le _, Nat.zero_le _⟩ (va_recv hE.1 hP (ci := 0) (q0 := 6) rfl rfl) rfl hl.1 rfl (Nat.le_of_ble_eq_true rfl) dX11_years_4 (fun r1 z1 H locs hB hP hD hS => ?_)
  refine lv_if_eq (tgt := 21) hx hb dX11_years_7 (by decide) (fun c2 => ?_) (fun c2 => ?_)
  · have hB := hB.1 c2
    refine lv_iconst (v := -1) hx hb dX11_years_21 (by decide) ?_
    exact hret _ _ _ _ _ _ dX11_years_22 hB hP hD hS
  · have hB := hB.2 c2
    refine lv_iload_n hx hb dX11_years_10 rfl (lv_at hl 1 rfl) ?_
    refine lv_iconst (v := 1) hx hb dX11_years_11 (by decide) ?_
    refine lv_icmp_lt (tgt := 21) hx hb dX11_years_12 (by decide) (fun c3 => ?_) (fun c3 => ?_)
    · have hB := hB.1 c3
      refine lv_iconst (v := -1) hx hb dX11_years_21 (by decide) ?_
      exact hret _ _ _ _ _ _ dX11_years_22 hB hP hD hS
    · have hB := hB.2 c3
      refine lv_iload_n hx hb dX11_years_15 rfl (lv_at hl 1 rfl) ?_
      refine lv_bipush (v := 60) hx hb dX11_years_16 (by decide) ?_
      refine lv_icmp_le (tgt := 23) hx hb dX11_years_18 (by decide) (fun c4 => ?_) (fun c4 => ?_)
      · have hB := hB.1 c4
        refine lv_aload_n hx hb dX11_years_23 rfl (lv_at hl 0 rfl) ?_
        refine xXg_0_table S hE hP lk_X11_72 dX11_years_24 ?_
        refine xcVi [] S hE hA hP hD hS (c_Table_visits_8 l G z1 H.size _) hB (gw_c lk_X11_220 (gw_c wi_X8_visits (gw_c we_X8_X8_visits_X8_visits (gw_c wn_X8 (gw_c wc_X8_visits (fun _ h9 => h9)))))) hd_X8_visits rfl rfl (Nat.le_trans (Nat.le_of_ble_eq_true rfl) hRf) (Nat.le_trans (Nat.le_of_ble_eq_true rfl) hRl) ⟨Nat.zero_le _, Nat.zero_le _⟩ (va_recv hE.1 hP (ci := 7) (q0 := 8) rfl rfl) rfl hl.1 rfl (Nat.le_of_ble_eq_true rfl) dX11_years_27 (fun r5 z2 H locs hB hP hD hS => ?_)
        refine lv_istore (lv' := [(4, .int r5), (0, .ref (ad G 0)), (1, .int x1), (2, .long x2)]) hx hb dX11_years_30 hl (by decide) rfl (fun ls hl => ?_)
        refine lv_lload_n hx hb dX11_years_32 rfl (lv_at hl 3 rfl) ?_
        refine lv_lstore (lv' := [(5, .long x2), (4, .int r5), (0, .ref (ad G 0)), (1, .int x1), (2, .long x2)]) hx hb dX11_years_33 hl (by decide) rfl (fun ls hl => ?_)
        refine lv_iconst (v := 0) hx hb dX11_years_35 (by decide) ?_
        refine lv_istore (lv' := [(7, .int (0 : Int32)), (5, .long x2), (4, .int r5), (0, .ref (ad G 0)), (1, .int x1), (2, .long x2)]) hx hb dX11_years_36 hl (by decide) rfl (fun ls hl => ?_)
        obtain ⟨n6, hB⟩ := hB
        exact wl_B_years_38 S hE hA hRf hRl hret n6 x1 r5 x2 (0 : Int32) z2 hB _ _ _ hP hD hS (lv_sub hl [3, 4, 2, 1, 0] rfl)
      · have hB := hB.2 c4
        refine lv_iconst (v := -1) hx hb dX11_years_21 (by decide) ?_
        exact hret _ _ _ _ _ _ dX11_years_22 hB hP hD hS
set_option maxHeartbeats 4000000 in
set_option maxRecDepth 100000 in
theorem c_B_years (l : Launch) (G : GX) (z0 : St) (sz : Nat) (x1 : Int32) (x2 : Int64) (post : Int32 → St → Prop) : MetI l wX yX11_years cX11_years 8 (some .int) ({ frames := 7, cells := 0, slots := 0, locals := 168 }) [.ref (ad G 0), .int x1, .long x2] G z0 sz (S_B_years post x1 x2 z0) post := by
  refine Met.ofW (cc := cX11_years) (maxL := 8) (ret := (some .int)) (by decide) rfl ?_
  intro p e s m args below meth c s₁ B hml hv
  obtain ⟨rfl, hsz, hP, hD0, hE, hB⟩ := hv
  have S : CallFix p m c cX11_years 8 s _ GW RX11 := ⟨B.exec, B.bytes, hml, findClass_of_methodNamed B.named, fun w h => atoms_spec (ws := Cond.code yX11_years cX11_years 8 (some .int) :: GW) B.pre w (List.mem_cons_of_mem _ h)⟩
  have hlocks := B.notSynchronized
  subst hsz
  have hD := hD0.self (sz := s.heap.size)
  generalize hAe : va_A (wX G z0) s.heap.size = A at hD hE ⊢
  have hA : ∀ q : Nat, s.heap.size ≤ q → A q := fun q h => by rw [← hAe]; exact Or.inr h
  have hS : va_S A s.heap s.heap [] := va_S.rf
  have hl := lv_entry ([.ref (ad G 0), .int x1, .long x2]) (n := 8) (Nat.le_of_ble_eq_true rfl)
  rw [lg_entry_eq]
  generalize (lg_sl ([.ref (ad G 0), .int x1, .long x2]) ++ List.replicate (8 - (lg_sl ([.ref (ad G 0), .int x1, .long x2])).length) Slot.unset).toArray = ls at hl ⊢
  have hl : lv_has ls 8 [(0, .ref (ad G 0)), (1, .int x1), (2, .long x2)] := hl
  refine w_B_years_0 S hE hA (Nat.le_refl _) (Nat.le_refl _) ?_ x1 x2 z0 hB _ _ _ hP hD hS hl
  intro pc ls r σ H locs hd hp hP hD hS
  exact W.iret (v := r) B.exec B.bytes B.returns (fun t ht hW => ⟨⟨r, σ, rfl, hp, by rw [ht]; exact hP, hD⟩, hS.F ht⟩) hS.2.2 hd
def S_Memory_takeBack_r23 (post : Int32 → St → Prop) (z0 : St) : Prop :=
  (((1 : Int32) ≤ (gI z0 25) → (∀ z1 : St, z1 = sI z0 25 ((gI z0 25) - (1 : Int32)) → (∀ z2 : St, z2 = sI z1 24 ((((gI z1 24) + (40 : Int32)) - (1 : Int32)) - (((gI z1 24) + (40 : Int32)) - (1 : Int32)) / (40 : Int32) * (40 : Int32)) → (¬ ((gI z2 24) * (28 : Int32)) < 0 ∧ ¬ (0 : Int32) < 0 ∧ ¬ (28 : Int32) < 0 ∧ ((gI z2 24) * (28 : Int32)).toNatClampNeg + (28 : Int32).toNatClampNeg ≤ 1120 ∧ (0 : Int32).toNatClampNeg + (28 : Int32).toNatClampNeg ≤ 28 ∧ (∀ z3 : St, z3 = sF z2 23 (va_cpy (gA z2 25) (gA z2 23) ((gI z2 24) * (28 : Int32)).toNatClampNeg (0 : Int32).toNatClampNeg (28 : Int32).toNatClampNeg) → (post (1 : Int32) z3)))))) ∧ (¬ (1 : Int32) ≤ (gI z0 25) → (post (0 : Int32) z0)))
set_option maxHeartbeats 4000000 in
set_option maxRecDepth 100000 in
theorem w_Memory_takeBack_r23_0 {p : Program} {l : Launch} {e : Env} {R : Room} {s : State} {m : MethodId} {args : Array Value} {below : List Frame} {meth : Method} {c : Code} {Q : State → Prop} {G : GX} {A : Nat → Prop} (S : CallFix p m c cX4_takeBack 2 s args GW RX4) (hE : env G A s s.heap) (hA : ∀ q, s.heap.size ≤ q → A q) (hRf : 1 ≤ R.frames) (hRl : 80 ≤ R.locals) {post : Int32 → St → Prop} (hret : RetZ p l e R s m args below meth c Q 0 0 wX G A cX4_takeBack post) (z0 : St) (hB : S_Memory_takeBack_r23 post z0) : Xw p l e R s m args below meth c Q 0 0 wX G A z0 2 [(0, .ref (ad G 5)), (1, .ref (ad G 23))] 0 [] := by
  intro H locs ls hP hD hS hl
  have hx := S.1
  have hb := S.2.1
  refine lv_aload_n hx hb dX4_takeBack_0 rfl (lv_at hl 0 rfl) ?_
  refine xXg_5_kept S hE hP lk_X4_24 dX4_takeBack_1 ?_
  refine lv_iconst (v := 1) hx hb dX4_takeBack_4 (by decide) ?_
  refine lv_icmp_ge (tgt := 10) hx hb dX4_takeBack_5 (by decide) (fun c1 => ?_) (fun c1 => ?_)
  · have hB := hB.1 c1
    refine lv_aload_n hx hb dX4_takeBack_10 rfl (lv_at hl 0 rfl) ?_
    refine lv_dup hx hb dX4_takeBack_11 rfl ?_
    refine xXg_5_kept S hE hP lk_X4_24 dX4_takeBack_12 ?_
    refine lv_iconst (v := 1) hx hb dX4_takeBack_15 (by decide) ?_
    refine lv_isub hx hb dX4_takeBack_16 ?_
    obtain ⟨z1, ez1⟩ : ∃ z9, z9 = sI z0 25 ((gI z0 25) - (1 : Int32)) := ⟨_, rfl⟩
    have hB := hB z1 ez1
    refine xXp_5_kept S hE hP hD hS lk_X4_24 dX4_takeBack_17 (fun H locs hP hD hS => ?_)
    rw [← ez1] at hP hD
    refine lv_aload_n hx hb dX4_takeBack_20 rfl (lv_at hl 0 rfl) ?_
    refine lv_aload_n hx hb dX4_takeBack_21 rfl (lv_at hl 0 rfl) ?_
    refine xXg_5_next S hE hP lk_X4_32 dX4_takeBack_22 ?_
    refine lv_bipush (v := 40) hx hb dX4_takeBack_25 (by decide) ?_
    refine lv_iadd hx hb dX4_takeBack_27 ?_
    refine lv_iconst (v := 1) hx hb dX4_takeBack_28 (by decide) ?_
    refine lv_isub hx hb dX4_takeBack_29 ?_
    refine lv_bipush (v := 40) hx hb dX4_takeBack_30 (by decide) ?_
    refine lv_irem hx hb dX4_takeBack_32 (by decide) ?_
    obtain ⟨z2, ez2⟩ : ∃ z9, z9 = sI z1 24 ((((gI z1 24) + (40 : Int32)) - (1 : Int32)) - (((gI z1 24) + (40 : Int32)) - (1 : Int32)) / (40 : Int32) * (40 : Int32)) := ⟨_, rfl⟩
    have hB := hB z2 ez2
    refine xXp_5_next S hE hP hD hS lk_X4_32 dX4_takeBack_33 (fun H locs hP hD hS => ?_)
    rw [← ez2] at hP hD
    refine lv_aload_n hx hb dX4_takeBack_36 rfl (lv_at hl 0 rfl) ?_
    refine xXg_5_past S hE hP lk_X4_11 dX4_takeBack_37 ?_
    refine lv_aload_n hx hb dX4_takeBack_40 rfl (lv_at hl 0 rfl) ?_
    refine xXg_5_next S hE hP lk_X4_32 dX4_takeBack_41 ?_
    refine lv_bipush (v := 28) hx hb dX4_takeBack_44 (by decide) ?_
    refine lv_imul hx hb dX4_takeBack_46 ?_
    refine lv_aload_n hx hb dX4_takeBack_47 rfl (lv_at hl 1 rfl) ?_
    refine lv_iconst (v := 0) hx hb dX4_takeBack_48 (by decide) ?_
    refine lv_bipush (v := 28) hx hb dX4_takeBack_49 (by decide) ?_
    obtain ⟨h91, h92, h93, h94, h95, hB⟩ := hB
    obtain ⟨z3, ez3⟩ : ∃ z9, z9 = sF z2 23 (va_cpy (gA z2 25) (gA z2 23) ((gI z2 24) * (28 : Int32)).toNatClampNeg (0 : Int32).toNatClampNeg (28 : Int32).toNatClampNeg) := ⟨_, rfl⟩
    have hB := hB z3 ez3
    refine xcp (w := wX) S hE hl.1 hP hD hS (sa := 25) (da := 23) 25 23 (z1 := sF z2 23 (va_cpy (gA z2 25) (gA z2 23) ((gI z2 24) * (28 : Int32)).toNatClampNeg (0 : Int32).toNatClampNeg (28 : Int32).toNatClampNeg)) rfl rfl rfl h91 h92 h93 h94 h95 (Nat.le_trans (Nat.le_of_ble_eq_true rfl) hRf) (Nat.le_trans (Nat.le_of_ble_eq_true rfl) hRl) lk_X4_35 dX4_takeBack_51 (fun H locs hP hD hS => ?_)
    rw [← ez3] at hP hD
    refine lv_iconst (v := 1) hx hb dX4_takeBack_54 (by decide) ?_
    exact hret _ _ _ _ _ _ dX4_takeBack_55 ⟨by decide, hB⟩ hP hD hS
  · have hB := hB.2 c1
    refine lv_iconst (v := 0) hx hb dX4_takeBack_8 (by decide) ?_
    exact hret _ _ _ _ _ _ dX4_takeBack_9 ⟨by decide, hB⟩ hP hD hS
set_option maxHeartbeats 4000000 in
set_option maxRecDepth 100000 in
theorem c_Memory_takeBack_r23 (l : Launch) (G : GX) (z0 : St) (sz : Nat) (post : Int32 → St → Prop) : MetI l wX yX4_takeBack cX4_takeBack 2 (some .boolean) ({ frames := 1, cells := 0, slots := 0, locals := 80 }) [.ref (ad G 5), .ref (ad G 23)] G z0 sz (S_Memory_takeBack_r23 post z0) post := by
  refine Met.ofW (cc := cX4_takeBack) (maxL := 2) (ret := (some .boolean)) (by decide) rfl ?_
  intro p e s m args below meth c s₁ B hml hv
  obtain ⟨rfl, hsz, hP, hD0, hE, hB⟩ := hv
  have S : CallFix p m c cX4_takeBack 2 s _ GW RX4 := ⟨B.exec, B.bytes, hml, findClass_of_methodNamed B.named, fun w h => atoms_spec (ws := Cond.code yX4_takeBack cX4_takeBack 2 (some .boolean) :: GW) B.pre w (List.mem_cons_of_mem _ h)⟩
  have hlocks := B.notSynchronized
  subst hsz
  have hD := hD0.self (sz := s.heap.size)
  generalize hAe : va_A (wX G z0) s.heap.size = A at hD hE ⊢
  have hA : ∀ q : Nat, s.heap.size ≤ q → A q := fun q h => by rw [← hAe]; exact Or.inr h
  have hS : va_S A s.heap s.heap [] := va_S.rf
  have hl := lv_entry ([.ref (ad G 5), .ref (ad G 23)]) (n := 2) (Nat.le_of_ble_eq_true rfl)
  rw [lg_entry_eq]
  generalize (lg_sl ([.ref (ad G 5), .ref (ad G 23)]) ++ List.replicate (2 - (lg_sl ([.ref (ad G 5), .ref (ad G 23)])).length) Slot.unset).toArray = ls at hl ⊢
  have hl : lv_has ls 2 [(0, .ref (ad G 5)), (1, .ref (ad G 23))] := hl
  refine w_Memory_takeBack_r23_0 S hE hA (Nat.le_refl _) (Nat.le_refl _) ?_  z0 hB _ _ _ hP hD hS hl
  intro pc ls r σ H locs hd hp hP hD hS
  exact W.zret (v := r) B.exec B.bytes B.returns (xboolc r hp.1) (fun t ht hW => ⟨⟨r, σ, rfl, hp.2, by rw [ht]; exact hP, hD⟩, hS.F ht⟩) hS.2.2 hd
def S_B_undo (post : Int32 → St → Prop) (z0 : St) : Prop :=
  (S_Memory_takeBack_r23 (fun (r1 : Int32) (z1 : St) => ((r1 = 0 → (post (-1 : Int32) z1)) ∧ (¬ r1 = 0 → (post (gI z1 25) z1)))) z0)
set_option maxHeartbeats 4000000 in
set_option maxRecDepth 100000 in
theorem w_B_undo_0 {p : Program} {l : Launch} {e : Env} {R : Room} {s : State} {m : MethodId} {args : Array Value} {below : List Frame} {meth : Method} {c : Code} {Q : State → Prop} {G : GX} {A : Nat → Prop} (S : CallFix p m c cX11_undo 1 s args GW RX11) (hE : env G A s s.heap) (hA : ∀ q, s.heap.size ≤ q → A q) (hRf : 2 ≤ R.frames) (hRl : 101 ≤ R.locals) {post : Int32 → St → Prop} (hret : RetI p l e R s m args below meth c Q 0 0 wX G A cX11_undo post) (z0 : St) (hB : S_B_undo post z0) : Xw p l e R s m args below meth c Q 0 0 wX G A z0 1 [(0, .ref (ad G 0))] 0 [] := by
  intro H locs ls hP hD hS hl
  have hx := S.1
  have hb := S.2.1
  refine lv_aload_n hx hb dX11_undo_0 rfl (lv_at hl 0 rfl) ?_
  refine xXg_0_memory S hE hP lk_X11_45 dX11_undo_1 ?_
  refine lv_aload_n hx hb dX11_undo_4 rfl (lv_at hl 0 rfl) ?_
  refine xXg_0_table S hE hP lk_X11_72 dX11_undo_5 ?_
  refine xXg_8_cells S hE hP lk_X11_206 dX11_undo_8 ?_
  refine xcVi [.ref (ad G 23)] S hE hA hP hD hS (c_Memory_takeBack_r23 l G z0 H.size _) hB (gw_c lk_X11_234 (gw_c wi_X4_takeBack (gw_c we_X4_X4_takeBack_X4_takeBack (gw_c wn_X4 (gw_c wc_X4_takeBack (fun _ h9 => h9)))))) hd_X4_takeBack rfl rfl (Nat.le_trans (Nat.le_of_ble_eq_true rfl) hRf) (Nat.le_trans (Nat.le_of_ble_eq_true rfl) hRl) ⟨Nat.zero_le _, Nat.zero_le _⟩ (va_recv hE.1 hP (ci := 4) (q0 := 5) rfl rfl) rfl hl.1 rfl (Nat.le_of_ble_eq_true rfl) dX11_undo_11 (fun r1 z1 H locs hB hP hD hS => ?_)
  refine lv_if_eq (tgt := 27) hx hb dX11_undo_14 (by decide) (fun c2 => ?_) (fun c2 => ?_)
  · have hB := hB.1 c2
    refine lv_iconst (v := -1) hx hb dX11_undo_27 (by decide) ?_
    exact hret _ _ _ _ _ _ dX11_undo_28 hB hP hD hS
  · have hB := hB.2 c2
    refine lv_aload_n hx hb dX11_undo_17 rfl (lv_at hl 0 rfl) ?_
    refine xXg_0_memory S hE hP lk_X11_45 dX11_undo_18 ?_
    refine xXg_5_kept S hE hP lk_X11_238 dX11_undo_21 ?_
    refine lv_goto (tgt := 28) hx hb dX11_undo_24 (by decide) ?_
    exact hret _ _ _ _ _ _ dX11_undo_28 hB hP hD hS
set_option maxHeartbeats 4000000 in
set_option maxRecDepth 100000 in
theorem c_B_undo (l : Launch) (G : GX) (z0 : St) (sz : Nat) (post : Int32 → St → Prop) : MetI l wX yX11_undo cX11_undo 1 (some .int) ({ frames := 2, cells := 0, slots := 0, locals := 101 }) [.ref (ad G 0)] G z0 sz (S_B_undo post z0) post := by
  refine Met.ofW (cc := cX11_undo) (maxL := 1) (ret := (some .int)) (by decide) rfl ?_
  intro p e s m args below meth c s₁ B hml hv
  obtain ⟨rfl, hsz, hP, hD0, hE, hB⟩ := hv
  have S : CallFix p m c cX11_undo 1 s _ GW RX11 := ⟨B.exec, B.bytes, hml, findClass_of_methodNamed B.named, fun w h => atoms_spec (ws := Cond.code yX11_undo cX11_undo 1 (some .int) :: GW) B.pre w (List.mem_cons_of_mem _ h)⟩
  have hlocks := B.notSynchronized
  subst hsz
  have hD := hD0.self (sz := s.heap.size)
  generalize hAe : va_A (wX G z0) s.heap.size = A at hD hE ⊢
  have hA : ∀ q : Nat, s.heap.size ≤ q → A q := fun q h => by rw [← hAe]; exact Or.inr h
  have hS : va_S A s.heap s.heap [] := va_S.rf
  have hl := lv_entry ([.ref (ad G 0)]) (n := 1) (Nat.le_of_ble_eq_true rfl)
  rw [lg_entry_eq]
  generalize (lg_sl ([.ref (ad G 0)]) ++ List.replicate (1 - (lg_sl ([.ref (ad G 0)])).length) Slot.unset).toArray = ls at hl ⊢
  have hl : lv_has ls 1 [(0, .ref (ad G 0))] := hl
  refine w_B_undo_0 S hE hA (Nat.le_refl _) (Nat.le_refl _) ?_  z0 hB _ _ _ hP hD hS hl
  intro pc ls r σ H locs hd hp hP hD hS
  exact W.iret (v := r) B.exec B.bytes B.returns (fun t ht hW => ⟨⟨r, σ, rfl, hp, by rw [ht]; exact hP, hD⟩, hS.F ht⟩) hS.2.2 hd
def S_Memory_bookLength (post : Int32 → St → Prop) (x0 : Int32) (z0 : St) : Prop :=
  (S_Math_min_7cf53_X (fun (r1 : Int32) (z1 : St) => (post r1 z1)) (60 : Int32) x0 z0)
set_option maxHeartbeats 4000000 in
set_option maxRecDepth 100000 in
theorem w_Memory_bookLength_0 {p : Program} {l : Launch} {e : Env} {R : Room} {s : State} {m : MethodId} {args : Array Value} {below : List Frame} {meth : Method} {c : Code} {Q : State → Prop} {G : GX} {A : Nat → Prop} (S : CallFix p m c cX4_bookLength 1 s args GW RX4) (hE : env G A s s.heap) (hA : ∀ q, s.heap.size ≤ q → A q) (hRf : 1 ≤ R.frames) (hRl : 21 ≤ R.locals) {post : Int32 → St → Prop} (hret : RetI p l e R s m args below meth c Q 0 0 wX G A cX4_bookLength post) (x0 : Int32) (z0 : St) (hB : S_Memory_bookLength post x0 z0) : Xw p l e R s m args below meth c Q 0 0 wX G A z0 1 [(0, .int x0)] 0 [] := by
  intro H locs ls hP hD hS hl
  have hx := S.1
  have hb := S.2.1
  refine lv_bipush (v := 60) hx hb dX4_bookLength_0 (by decide) ?_
  refine lv_iload_n hx hb dX4_bookLength_2 rfl (lv_at hl 0 rfl) ?_
  refine xcSi [.int (60 : Int32), .int x0] S hE hA hP hD hS (c_Math_min_7cf53_X l G z0 H.size (60 : Int32) x0 _) hB (gw_c lk_X4_41 (gw_c wt_J9_min_7cf53 (gw_c wn_J9 (gw_c wc_J9_min_7cf53 (fun _ h9 => h9))))) hs_J9_min_7cf53 rfl rfl (Nat.le_trans (Nat.le_of_ble_eq_true rfl) hRf) (Nat.le_trans (Nat.le_of_ble_eq_true rfl) hRl) ⟨Nat.zero_le _, Nat.zero_le _⟩ rfl hl.1 rfl (Nat.le_of_ble_eq_true rfl) dX4_bookLength_3 (fun r1 z1 H locs hB hP hD hS => ?_)
  exact hret _ _ _ _ _ _ dX4_bookLength_6 hB hP hD hS
set_option maxHeartbeats 4000000 in
set_option maxRecDepth 100000 in
theorem c_Memory_bookLength (l : Launch) (G : GX) (z0 : St) (sz : Nat) (x0 : Int32) (post : Int32 → St → Prop) : MetI l wX yX4_bookLength cX4_bookLength 1 (some .int) ({ frames := 1, cells := 0, slots := 0, locals := 21 }) [.int x0] G z0 sz (S_Memory_bookLength post x0 z0) post := by
  refine Met.ofW (cc := cX4_bookLength) (maxL := 1) (ret := (some .int)) (by decide) rfl ?_
  intro p e s m args below meth c s₁ B hml hv
  obtain ⟨rfl, hsz, hP, hD0, hE, hB⟩ := hv
  have S : CallFix p m c cX4_bookLength 1 s _ GW RX4 := ⟨B.exec, B.bytes, hml, findClass_of_methodNamed B.named, fun w h => atoms_spec (ws := Cond.code yX4_bookLength cX4_bookLength 1 (some .int) :: GW) B.pre w (List.mem_cons_of_mem _ h)⟩
  have hlocks := B.notSynchronized
  subst hsz
  have hD := hD0.self (sz := s.heap.size)
  generalize hAe : va_A (wX G z0) s.heap.size = A at hD hE ⊢
  have hA : ∀ q : Nat, s.heap.size ≤ q → A q := fun q h => by rw [← hAe]; exact Or.inr h
  have hS : va_S A s.heap s.heap [] := va_S.rf
  have hl := lv_entry ([.int x0]) (n := 1) (Nat.le_of_ble_eq_true rfl)
  rw [lg_entry_eq]
  generalize (lg_sl ([.int x0]) ++ List.replicate (1 - (lg_sl ([.int x0])).length) Slot.unset).toArray = ls at hl ⊢
  have hl : lv_has ls 1 [(0, .int x0)] := hl
  refine w_Memory_bookLength_0 S hE hA (Nat.le_refl _) (Nat.le_refl _) ?_ x0 z0 hB _ _ _ hP hD hS hl
  intro pc ls r σ H locs hd hp hP hD hS
  exact W.iret (v := r) B.exec B.bytes B.returns (fun t ht hW => ⟨⟨r, σ, rfl, hp, by rw [ht]; exact hP, hD⟩, hS.F ht⟩) hS.2.2 hd
def S_Memory_line (post : Int32 → St → Prop) (x1 : Int32) (x2 : Int32) (z0 : St) : Prop :=
  (S_Memory_placeOf (fun (r1 : Int32) (z1 : St) => (vp_in (r1 + x2) 400 ∧ (post (gA z1 26 (r1 + x2).toNatClampNeg) z1))) x1 z0)
set_option maxHeartbeats 4000000 in
set_option maxRecDepth 100000 in
theorem w_Memory_line_0 {p : Program} {l : Launch} {e : Env} {R : Room} {s : State} {m : MethodId} {args : Array Value} {below : List Frame} {meth : Method} {c : Code} {Q : State → Prop} {G : GX} {A : Nat → Prop} (S : CallFix p m c cX4_line 3 s args GW RX4) (hE : env G A s s.heap) (hA : ∀ q, s.heap.size ≤ q → A q) (hRf : 2 ≤ R.frames) (hRl : 42 ≤ R.locals) {post : Int32 → St → Prop} (hret : RetI p l e R s m args below meth c Q 0 0 wX G A cX4_line post) (x1 : Int32) (x2 : Int32) (z0 : St) (hB : S_Memory_line post x1 x2 z0) : Xw p l e R s m args below meth c Q 0 0 wX G A z0 3 [(0, .ref (ad G 5)), (1, .int x1), (2, .int x2)] 0 [] := by
  intro H locs ls hP hD hS hl
  have hx := S.1
  have hb := S.2.1
  refine lv_aload_n hx hb dX4_line_0 rfl (lv_at hl 0 rfl) ?_
  refine xXg_5_lines S hE hP lk_X4_15 dX4_line_1 ?_
  refine lv_iload_n hx hb dX4_line_4 rfl (lv_at hl 1 rfl) ?_
  refine xcSi [.int x1] S hE hA hP hD hS (c_Memory_placeOf l G z0 H.size x1 _) hB (gw_c lk_X4_47 (gw_c wt_X4_placeOf (gw_c wn_X4 (gw_c wc_X4_placeOf (fun _ h9 => h9))))) hs_X4_placeOf rfl rfl (Nat.le_trans (Nat.le_of_ble_eq_true rfl) hRf) (Nat.le_trans (Nat.le_of_ble_eq_true rfl) hRl) ⟨Nat.zero_le _, Nat.zero_le _⟩ rfl hl.1 rfl (Nat.le_of_ble_eq_true rfl) dX4_line_5 (fun r1 z1 H locs hB hP hD hS => ?_)
  refine lv_iload_n hx hb dX4_line_8 rfl (lv_at hl 2 rfl) ?_
  refine lv_iadd hx hb dX4_line_9 ?_
  obtain ⟨hi, hB⟩ := hB
  refine xXl_26 S hE hP hi dX4_line_10 ?_
  exact hret _ _ _ _ _ _ dX4_line_11 hB hP hD hS
set_option maxHeartbeats 4000000 in
set_option maxRecDepth 100000 in
theorem c_Memory_line (l : Launch) (G : GX) (z0 : St) (sz : Nat) (x1 : Int32) (x2 : Int32) (post : Int32 → St → Prop) : MetI l wX yX4_line cX4_line 3 (some .int) ({ frames := 2, cells := 0, slots := 0, locals := 42 }) [.ref (ad G 5), .int x1, .int x2] G z0 sz (S_Memory_line post x1 x2 z0) post := by
  refine Met.ofW (cc := cX4_line) (maxL := 3) (ret := (some .int)) (by decide) rfl ?_
  intro p e s m args below meth c s₁ B hml hv
  obtain ⟨rfl, hsz, hP, hD0, hE, hB⟩ := hv
  have S : CallFix p m c cX4_line 3 s _ GW RX4 := ⟨B.exec, B.bytes, hml, findClass_of_methodNamed B.named, fun w h => atoms_spec (ws := Cond.code yX4_line cX4_line 3 (some .int) :: GW) B.pre w (List.mem_cons_of_mem _ h)⟩
  have hlocks := B.notSynchronized
  subst hsz
  have hD := hD0.self (sz := s.heap.size)
  generalize hAe : va_A (wX G z0) s.heap.size = A at hD hE ⊢
  have hA : ∀ q : Nat, s.heap.size ≤ q → A q := fun q h => by rw [← hAe]; exact Or.inr h
  have hS : va_S A s.heap s.heap [] := va_S.rf
  have hl := lv_entry ([.ref (ad G 5), .int x1, .int x2]) (n := 3) (Nat.le_of_ble_eq_true rfl)
  rw [lg_entry_eq]
  generalize (lg_sl ([.ref (ad G 5), .int x1, .int x2]) ++ List.replicate (3 - (lg_sl ([.ref (ad G 5), .int x1, .int x2])).length) Slot.unset).toArray = ls at hl ⊢
  have hl : lv_has ls 3 [(0, .ref (ad G 5)), (1, .int x1), (2, .int x2)] := hl
  refine w_Memory_line_0 S hE hA (Nat.le_refl _) (Nat.le_refl _) ?_ x1 x2 z0 hB _ _ _ hP hD hS hl
  intro pc ls r σ H locs hd hp hP hD hS
  exact W.iret (v := r) B.exec B.bytes B.returns (fun t ht hW => ⟨⟨r, σ, rfl, hp, by rw [ht]; exact hP, hD⟩, hS.F ht⟩) hS.2.2 hd
def S_B_book (post : Int32 → St → Prop) (x1 : Int32) (x2 : Int32) (z0 : St) : Prop :=
  ((x1 < 0 → (post (-1000000 : Int32) z0)) ∧ (¬ x1 < 0 → (S_Table_visits_8 (fun (r2 : Int32) (z1 : St) => (S_Memory_bookLength (fun (r3 : Int32) (z2 : St) => ((r3 ≤ x1 → (post (-1000000 : Int32) z2)) ∧ (¬ r3 ≤ x1 → ((x2 < 0 → (post (-1000000 : Int32) z2)) ∧ (¬ x2 < 0 → ((x2 ≤ (3 : Int32) → (S_Table_visits_8 (fun (r7 : Int32) (z3 : St) => (S_Memory_line (fun (r8 : Int32) (z4 : St) => (post r8 z4)) (r7 - x1) x2 z3)) z2)) ∧ (¬ x2 ≤ (3 : Int32) → (post (-1000000 : Int32) z2)))))))) r2 z1)) z0)))
set_option maxHeartbeats 4000000 in
set_option maxRecDepth 100000 in
theorem w_B_book_0 {p : Program} {l : Launch} {e : Env} {R : Room} {s : State} {m : MethodId} {args : Array Value} {below : List Frame} {meth : Method} {c : Code} {Q : State → Prop} {G : GX} {A : Nat → Prop} (S : CallFix p m c cX11_book 3 s args GW RX11) (hE : env G A s s.heap) (hA : ∀ q, s.heap.size ≤ q → A q) (hRf : 3 ≤ R.frames) (hRl : 64 ≤ R.locals) {post : Int32 → St → Prop} (hret : RetI p l e R s m args below meth c Q 0 0 wX G A cX11_book post) (x1 : Int32) (x2 : Int32) (z0 : St) (hB : S_B_book post x1 x2 z0) : Xw p l e R s m args below meth c Q 0 0 wX G A z0 3 [(0, .ref (ad G 0)), (1, .int x1), (2, .int x2)] 0 [] := by
  intro H locs ls hP hD hS hl
  have hx := S.1
  have hb := S.2.1
  refine lv_iload_n hx hb dX11_book_0 rfl (lv_at hl 1 rfl) ?_
  refine lv_if_lt (tgt := 27) hx hb dX11_book_1 (by decide) (fun c1 => ?_) (fun c1 => ?_)
  · have hB := hB.1 c1
    refine lv_ldcw hx hb S.2.2.2.1 (S.2.2.2.2 _ lk_X11_264) dX11_book_27 ?_
    exact hret _ _ _ _ _ _ dX11_book_30 hB hP hD hS
  · have hB := hB.2 c1
    refine lv_iload_n hx hb dX11_book_4 rfl (lv_at hl 1 rfl) ?_
    refine lv_aload_n hx hb dX11_book_5 rfl (lv_at hl 0 rfl) ?_
    refine xXg_0_table S hE hP lk_X11_72 dX11_book_6 ?_
    refine xcVi [] S hE hA hP hD hS (c_Table_visits_8 l G z0 H.size _) hB (gw_c lk_X11_220 (gw_c wi_X8_visits (gw_c we_X8_X8_visits_X8_visits (gw_c wn_X8 (gw_c wc_X8_visits (fun _ h9 => h9)))))) hd_X8_visits rfl rfl (Nat.le_trans (Nat.le_of_ble_eq_true rfl) hRf) (Nat.le_trans (Nat.le_of_ble_eq_true rfl) hRl) ⟨Nat.zero_le _, Nat.zero_le _⟩ (va_recv hE.1 hP (ci := 7) (q0 := 8) rfl rfl) rfl hl.1 rfl (Nat.le_of_ble_eq_true rfl) dX11_book_9 (fun r2 z1 H locs hB hP hD hS => ?_)
    refine xcSi [.int r2] S hE hA hP hD hS (c_Memory_bookLength l G z1 H.size r2 _) hB (gw_c lk_X11_261 (gw_c wt_X4_bookLength (gw_c wn_X4 (gw_c wc_X4_bookLength (fun _ h9 => h9))))) hs_X4_bookLength rfl rfl (Nat.le_trans (Nat.le_of_ble_eq_true rfl) hRf) (Nat.le_trans (Nat.le_of_ble_eq_true rfl) hRl) ⟨Nat.zero_le _, Nat.zero_le _⟩ rfl hl.1 rfl (Nat.le_of_ble_eq_true rfl) dX11_book_12 (fun r3 z2 H locs hB hP hD hS => ?_)
    refine lv_icmp_ge (tgt := 27) hx hb dX11_book_15 (by decide) (fun c4 => ?_) (fun c4 => ?_)
    · have hB := hB.1 c4
      refine lv_ldcw hx hb S.2.2.2.1 (S.2.2.2.2 _ lk_X11_264) dX11_book_27 ?_
      exact hret _ _ _ _ _ _ dX11_book_30 hB hP hD hS
    · have hB := hB.2 c4
      refine lv_iload_n hx hb dX11_book_18 rfl (lv_at hl 2 rfl) ?_
      refine lv_if_lt (tgt := 27) hx hb dX11_book_19 (by decide) (fun c5 => ?_) (fun c5 => ?_)
      · have hB := hB.1 c5
        refine lv_ldcw hx hb S.2.2.2.1 (S.2.2.2.2 _ lk_X11_264) dX11_book_27 ?_
        exact hret _ _ _ _ _ _ dX11_book_30 hB hP hD hS
      · have hB := hB.2 c5
        refine lv_iload_n hx hb dX11_book_22 rfl (lv_at hl 2 rfl) ?_
        refine lv_iconst (v := 3) hx hb dX11_book_23 (by decide) ?_
        refine lv_icmp_le (tgt := 31) hx hb dX11_book_24 (by decide) (fun c6 => ?_) (fun c6 => ?_)
        · have hB := hB.1 c6
          refine lv_aload_n hx hb dX11_book_31 rfl (lv_at hl 0 rfl) ?_
          refine xXg_0_memory S hE hP lk_X11_45 dX11_book_32 ?_
          refine lv_aload_n hx hb dX11_book_35 rfl (lv_at hl 0 rfl) ?_
          refine xXg_0_table S hE hP lk_X11_72 dX11_book_36 ?_
          refine xcVi [] S hE hA hP hD hS (c_Table_visits_8 l G z2 H.size _) hB (gw_c lk_X11_220 (gw_c wi_X8_visits (gw_c we_X8_X8_visits_X8_visits (gw_c wn_X8 (gw_c wc_X8_visits (fun _ h9 => h9)))))) hd_X8_visits rfl rfl (Nat.le_trans (Nat.le_of_ble_eq_true rfl) hRf) (Nat.le_trans (Nat.le_of_ble_eq_true rfl) hRl) ⟨Nat.zero_le _, Nat.zero_le _⟩ (va_recv hE.1 hP (ci := 7) (q0 := 8) rfl rfl) rfl hl.1 rfl (Nat.le_of_ble_eq_true rfl) dX11_book_39 (fun r7 z3 H locs hB hP hD hS => ?_)
          refine lv_iload_n hx hb dX11_book_42 rfl (lv_at hl 1 rfl) ?_
          refine lv_isub hx hb dX11_book_43 ?_
          refine lv_iload_n hx hb dX11_book_44 rfl (lv_at hl 2 rfl) ?_
          refine xcVi [.int (r7 - x1), .int x2] S hE hA hP hD hS (c_Memory_line l G z3 H.size (r7 - x1) x2 _) hB (gw_c lk_X11_265 (gw_c wi_X4_line (gw_c we_X4_X4_line_X4_line (gw_c wn_X4 (gw_c wc_X4_line (fun _ h9 => h9)))))) hd_X4_line rfl rfl (Nat.le_trans (Nat.le_of_ble_eq_true rfl) hRf) (Nat.le_trans (Nat.le_of_ble_eq_true rfl) hRl) ⟨Nat.zero_le _, Nat.zero_le _⟩ (va_recv hE.1 hP (ci := 4) (q0 := 5) rfl rfl) rfl hl.1 rfl (Nat.le_of_ble_eq_true rfl) dX11_book_45 (fun r8 z4 H locs hB hP hD hS => ?_)
          exact hret _ _ _ _ _ _ dX11_book_48 hB hP hD hS
        · have hB := hB.2 c6
          refine lv_ldcw hx hb S.2.2.2.1 (S.2.2.2.2 _ lk_X11_264) dX11_book_27 ?_
          exact hret _ _ _ _ _ _ dX11_book_30 hB hP hD hS
set_option maxHeartbeats 4000000 in
set_option maxRecDepth 100000 in
theorem c_B_book (l : Launch) (G : GX) (z0 : St) (sz : Nat) (x1 : Int32) (x2 : Int32) (post : Int32 → St → Prop) : MetI l wX yX11_book cX11_book 3 (some .int) ({ frames := 3, cells := 0, slots := 0, locals := 64 }) [.ref (ad G 0), .int x1, .int x2] G z0 sz (S_B_book post x1 x2 z0) post := by
  refine Met.ofW (cc := cX11_book) (maxL := 3) (ret := (some .int)) (by decide) rfl ?_
  intro p e s m args below meth c s₁ B hml hv
  obtain ⟨rfl, hsz, hP, hD0, hE, hB⟩ := hv
  have S : CallFix p m c cX11_book 3 s _ GW RX11 := ⟨B.exec, B.bytes, hml, findClass_of_methodNamed B.named, fun w h => atoms_spec (ws := Cond.code yX11_book cX11_book 3 (some .int) :: GW) B.pre w (List.mem_cons_of_mem _ h)⟩
  have hlocks := B.notSynchronized
  subst hsz
  have hD := hD0.self (sz := s.heap.size)
  generalize hAe : va_A (wX G z0) s.heap.size = A at hD hE ⊢
  have hA : ∀ q : Nat, s.heap.size ≤ q → A q := fun q h => by rw [← hAe]; exact Or.inr h
  have hS : va_S A s.heap s.heap [] := va_S.rf
  have hl := lv_entry ([.ref (ad G 0), .int x1, .int x2]) (n := 3) (Nat.le_of_ble_eq_true rfl)
  rw [lg_entry_eq]
  generalize (lg_sl ([.ref (ad G 0), .int x1, .int x2]) ++ List.replicate (3 - (lg_sl ([.ref (ad G 0), .int x1, .int x2])).length) Slot.unset).toArray = ls at hl ⊢
  have hl : lv_has ls 3 [(0, .ref (ad G 0)), (1, .int x1), (2, .int x2)] := hl
  refine w_B_book_0 S hE hA (Nat.le_refl _) (Nat.le_refl _) ?_ x1 x2 z0 hB _ _ _ hP hD hS hl
  intro pc ls r σ H locs hd hp hP hD hS
  exact W.iret (v := r) B.exec B.bytes B.returns (fun t ht hW => ⟨⟨r, σ, rfl, hp, by rw [ht]; exact hP, hD⟩, hS.F ht⟩) hS.2.2 hd
def S_B_hasWinter (post : Int32 → St → Prop) (x1 : Int32) (z0 : St) : Prop :=
  ((x1 < 0 → (post (0 : Int32) z0)) ∧ (¬ x1 < 0 → (((gI z0 0) ≤ x1 → (post (0 : Int32) z0)) ∧ (¬ (gI z0 0) ≤ x1 → (post (1 : Int32) z0)))))
set_option maxHeartbeats 4000000 in
set_option maxRecDepth 100000 in
theorem w_B_hasWinter_0 {p : Program} {l : Launch} {e : Env} {R : Room} {s : State} {m : MethodId} {args : Array Value} {below : List Frame} {meth : Method} {c : Code} {Q : State → Prop} {G : GX} {A : Nat → Prop} (S : CallFix p m c cX11_hasWinter 2 s args GW RX11) (hE : env G A s s.heap) (hA : ∀ q, s.heap.size ≤ q → A q) (hRf : 0 ≤ R.frames) (hRl : 0 ≤ R.locals) {post : Int32 → St → Prop} (hret : RetZ p l e R s m args below meth c Q 0 0 wX G A cX11_hasWinter post) (x1 : Int32) (z0 : St) (hB : S_B_hasWinter post x1 z0) : Xw p l e R s m args below meth c Q 0 0 wX G A z0 2 [(0, .ref (ad G 0)), (1, .int x1)] 0 [] := by
  intro H locs ls hP hD hS hl
  have hx := S.1
  have hb := S.2.1
  refine lv_iload_n hx hb dX11_hasWinter_0 rfl (lv_at hl 1 rfl) ?_
  refine lv_if_lt (tgt := 16) hx hb dX11_hasWinter_1 (by decide) (fun c1 => ?_) (fun c1 => ?_)
  · have hB := hB.1 c1
    refine lv_iconst (v := 0) hx hb dX11_hasWinter_16 (by decide) ?_
    exact hret _ _ _ _ _ _ dX11_hasWinter_17 ⟨by decide, hB⟩ hP hD hS
  · have hB := hB.2 c1
    refine lv_iload_n hx hb dX11_hasWinter_4 rfl (lv_at hl 1 rfl) ?_
    refine lv_aload_n hx hb dX11_hasWinter_5 rfl (lv_at hl 0 rfl) ?_
    refine xXg_0_wintersTold S hE hP lk_X11_140 dX11_hasWinter_6 ?_
    refine lv_icmp_ge (tgt := 16) hx hb dX11_hasWinter_9 (by decide) (fun c2 => ?_) (fun c2 => ?_)
    · have hB := hB.1 c2
      refine lv_iconst (v := 0) hx hb dX11_hasWinter_16 (by decide) ?_
      exact hret _ _ _ _ _ _ dX11_hasWinter_17 ⟨by decide, hB⟩ hP hD hS
    · have hB := hB.2 c2
      refine lv_iconst (v := 1) hx hb dX11_hasWinter_12 (by decide) ?_
      refine lv_goto (tgt := 17) hx hb dX11_hasWinter_13 (by decide) ?_
      exact hret _ _ _ _ _ _ dX11_hasWinter_17 ⟨by decide, hB⟩ hP hD hS
set_option maxHeartbeats 4000000 in
set_option maxRecDepth 100000 in
theorem c_B_hasWinter (l : Launch) (G : GX) (z0 : St) (sz : Nat) (x1 : Int32) (post : Int32 → St → Prop) : MetI l wX yX11_hasWinter cX11_hasWinter 2 (some .boolean) ({ frames := 0, cells := 0, slots := 0, locals := 0 }) [.ref (ad G 0), .int x1] G z0 sz (S_B_hasWinter post x1 z0) post := by
  refine Met.ofW (cc := cX11_hasWinter) (maxL := 2) (ret := (some .boolean)) (by decide) rfl ?_
  intro p e s m args below meth c s₁ B hml hv
  obtain ⟨rfl, hsz, hP, hD0, hE, hB⟩ := hv
  have S : CallFix p m c cX11_hasWinter 2 s _ GW RX11 := ⟨B.exec, B.bytes, hml, findClass_of_methodNamed B.named, fun w h => atoms_spec (ws := Cond.code yX11_hasWinter cX11_hasWinter 2 (some .boolean) :: GW) B.pre w (List.mem_cons_of_mem _ h)⟩
  have hlocks := B.notSynchronized
  subst hsz
  have hD := hD0.self (sz := s.heap.size)
  generalize hAe : va_A (wX G z0) s.heap.size = A at hD hE ⊢
  have hA : ∀ q : Nat, s.heap.size ≤ q → A q := fun q h => by rw [← hAe]; exact Or.inr h
  have hS : va_S A s.heap s.heap [] := va_S.rf
  have hl := lv_entry ([.ref (ad G 0), .int x1]) (n := 2) (Nat.le_of_ble_eq_true rfl)
  rw [lg_entry_eq]
  generalize (lg_sl ([.ref (ad G 0), .int x1]) ++ List.replicate (2 - (lg_sl ([.ref (ad G 0), .int x1])).length) Slot.unset).toArray = ls at hl ⊢
  have hl : lv_has ls 2 [(0, .ref (ad G 0)), (1, .int x1)] := hl
  refine w_B_hasWinter_0 S hE hA (Nat.le_refl _) (Nat.le_refl _) ?_ x1 z0 hB _ _ _ hP hD hS hl
  intro pc ls r σ H locs hd hp hP hD hS
  exact W.zret (v := r) B.exec B.bytes B.returns (xboolc r hp.1) (fun t ht hW => ⟨⟨r, σ, rfl, hp.2, by rw [ht]; exact hP, hD⟩, hS.F ht⟩) hS.2.2 hd
def S_B_step (post : Int32 → St → Prop) (x1 : Int32) (x2 : Int32) (x3 : Int32) (z0 : St) : Prop :=
  (S_B_hasWinter (fun (r1 : Int32) (z1 : St) => ((r1 = 0 → (post (-1000000 : Int32) z1)) ∧ (¬ r1 = 0 → ((x2 < 0 → (post (-1000000 : Int32) z1)) ∧ (¬ x2 < 0 → (vp_in x1 4 ∧ ∀ a4 : Nat, a4 = gZ z1 (0 + x1.toNatClampNeg) → (vp_in x1 4 ∧ a4 = gZ z1 (0 + x1.toNatClampNeg) ∧ (((Int32.ofNat (gZ z1 (8 + (0 + x1.toNatClampNeg)))) ≤ x2 → (post (-1000000 : Int32) z1)) ∧ (¬ (Int32.ofNat (gZ z1 (8 + (0 + x1.toNatClampNeg)))) ≤ x2 → ((x3 < 0 → (post (-1000000 : Int32) z1)) ∧ (¬ x3 < 0 → ((x3 ≤ (1 : Int32) → (vp_in x1 4 ∧ ∀ a8 : Nat, a8 = gZ z1 (0 + x1.toNatClampNeg) → (vp_in x1 4 ∧ a8 = gZ z1 (0 + x1.toNatClampNeg) ∧ vp_in x2 (gZ z1 (8 + (0 + x1.toNatClampNeg))) ∧ (∀ v9 : Int32, v9 = ((gA z1 (32 + (0 + x1.toNatClampNeg)) x2.toNatClampNeg) / (10 : Int32)) → ((x3 = 0 → (post v9 z1)) ∧ (¬ x3 = 0 → ((v9 = (1 : Int32) → (post (-1 : Int32) z1)) ∧ (¬ v9 = (1 : Int32) → (vp_in x1 4 ∧ ∀ a12 : Nat, a12 = gZ z1 (0 + x1.toNatClampNeg) → (vp_in x1 4 ∧ a12 = gZ z1 (0 + x1.toNatClampNeg) ∧ vp_in x2 (gZ z1 (8 + (0 + x1.toNatClampNeg))) ∧ (post ((gA z1 (32 + (0 + x1.toNatClampNeg)) x2.toNatClampNeg) - (gA z1 (32 + (0 + x1.toNatClampNeg)) x2.toNatClampNeg) / (10 : Int32) * (10 : Int32)) z1))))))))))) ∧ (¬ x3 ≤ (1 : Int32) → (post (-1000000 : Int32) z1)))))))))))))) x1 z0)
set_option maxHeartbeats 4000000 in
set_option maxRecDepth 100000 in
theorem w_B_step_0 {p : Program} {l : Launch} {e : Env} {R : Room} {s : State} {m : MethodId} {args : Array Value} {below : List Frame} {meth : Method} {c : Code} {Q : State → Prop} {G : GX} {A : Nat → Prop} (S : CallFix p m c cX11_step 5 s args GW RX11) (hE : env G A s s.heap) (hA : ∀ q, s.heap.size ≤ q → A q) (hRf : 1 ≤ R.frames) (hRl : 21 ≤ R.locals) {post : Int32 → St → Prop} (hret : RetI p l e R s m args below meth c Q 0 0 wX G A cX11_step post) (x1 : Int32) (x2 : Int32) (x3 : Int32) (z0 : St) (hB : S_B_step post x1 x2 x3 z0) : Xw p l e R s m args below meth c Q 0 0 wX G A z0 5 [(0, .ref (ad G 0)), (1, .int x1), (2, .int x2), (3, .int x3)] 0 [] := by
  intro H locs ls hP hD hS hl
  have hx := S.1
  have hb := S.2.1
  refine lv_aload_n hx hb dX11_step_0 rfl (lv_at hl 0 rfl) ?_
  refine lv_iload_n hx hb dX11_step_1 rfl (lv_at hl 1 rfl) ?_
  refine xcVi [.int x1] S hE hA hP hD hS (c_B_hasWinter l G z0 H.size x1 _) hB (gw_c lk_X11_269 (gw_c wi_X11_hasWinter (gw_c we_X11_X11_hasWinter_X11_hasWinter (gw_c wn_X11 (gw_c wc_X11_hasWinter (fun _ h9 => h9)))))) hd_X11_hasWinter rfl rfl (Nat.le_trans (Nat.le_of_ble_eq_true rfl) hRf) (Nat.le_trans (Nat.le_of_ble_eq_true rfl) hRl) ⟨Nat.zero_le _, Nat.zero_le _⟩ (va_recv hE.1 hP (ci := 10) (q0 := 0) rfl rfl) rfl hl.1 rfl (Nat.le_of_ble_eq_true rfl) dX11_step_2 (fun r1 z1 H locs hB hP hD hS => ?_)
  refine lv_if_eq (tgt := 32) hx hb dX11_step_5 (by decide) (fun c2 => ?_) (fun c2 => ?_)
  · have hB := hB.1 c2
    refine lv_ldcw hx hb S.2.2.2.1 (S.2.2.2.2 _ lk_X11_264) dX11_step_32 ?_
    exact hret _ _ _ _ _ _ dX11_step_35 hB hP hD hS
  · have hB := hB.2 c2
    refine lv_iload_n hx hb dX11_step_8 rfl (lv_at hl 2 rfl) ?_
    refine lv_if_lt (tgt := 32) hx hb dX11_step_9 (by decide) (fun c3 => ?_) (fun c3 => ?_)
    · have hB := hB.1 c3
      refine lv_ldcw hx hb S.2.2.2.1 (S.2.2.2.2 _ lk_X11_264) dX11_step_32 ?_
      exact hret _ _ _ _ _ _ dX11_step_35 hB hP hD hS
    · have hB := hB.2 c3
      refine lv_iload_n hx hb dX11_step_12 rfl (lv_at hl 2 rfl) ?_
      refine lv_aload_n hx hb dX11_step_13 rfl (lv_at hl 0 rfl) ?_
      refine xXg_0_winters S hE hP lk_X11_39 dX11_step_14 ?_
      refine lv_iload_n hx hb dX11_step_17 rfl (lv_at hl 1 rfl) ?_
      obtain ⟨hi, hB⟩ := hB
      refine xXo_17 S hE hP hi dX11_step_18 ?_
      obtain ⟨a4, ea4⟩ : ∃ y9, y9 = gZ z1 (0 + x1.toNatClampNeg) := ⟨_, rfl⟩
      have hB := hB a4 ea4
      rw [← ea4]
      obtain ⟨hj, ha9, hB⟩ := hB
      refine xXdn S hE hP (show 0 + x1.toNatClampNeg < 8 by have := vin_lt hj; omega) ha9 dX11_step_19 ?_
      refine lv_icmp_ge (tgt := 32) hx hb dX11_step_20 (by decide) (fun c5 => ?_) (fun c5 => ?_)
      · have hB := hB.1 c5
        refine lv_ldcw hx hb S.2.2.2.1 (S.2.2.2.2 _ lk_X11_264) dX11_step_32 ?_
        exact hret _ _ _ _ _ _ dX11_step_35 hB hP hD hS
      · have hB := hB.2 c5
        refine lv_iload_n hx hb dX11_step_23 rfl (lv_at hl 3 rfl) ?_
        refine lv_if_lt (tgt := 32) hx hb dX11_step_24 (by decide) (fun c6 => ?_) (fun c6 => ?_)
        · have hB := hB.1 c6
          refine lv_ldcw hx hb S.2.2.2.1 (S.2.2.2.2 _ lk_X11_264) dX11_step_32 ?_
          exact hret _ _ _ _ _ _ dX11_step_35 hB hP hD hS
        · have hB := hB.2 c6
          refine lv_iload_n hx hb dX11_step_27 rfl (lv_at hl 3 rfl) ?_
          refine lv_iconst (v := 1) hx hb dX11_step_28 (by decide) ?_
          refine lv_icmp_le (tgt := 36) hx hb dX11_step_29 (by decide) (fun c7 => ?_) (fun c7 => ?_)
          · have hB := hB.1 c7
            refine lv_aload_n hx hb dX11_step_36 rfl (lv_at hl 0 rfl) ?_
            refine xXg_0_winters S hE hP lk_X11_39 dX11_step_37 ?_
            refine lv_iload_n hx hb dX11_step_40 rfl (lv_at hl 1 rfl) ?_
            obtain ⟨hi, hB⟩ := hB
            refine xXo_17 S hE hP hi dX11_step_41 ?_
            obtain ⟨a8, ea8⟩ : ∃ y9, y9 = gZ z1 (0 + x1.toNatClampNeg) := ⟨_, rfl⟩
            have hB := hB a8 ea8
            rw [← ea8]
            refine lv_iload_n hx hb dX11_step_42 rfl (lv_at hl 2 rfl) ?_
            obtain ⟨hj, ha9, hi, hB⟩ := hB
            refine xXd S hE hP (show 0 + x1.toNatClampNeg < 8 by have := vin_lt hj; omega) ha9 hi dX11_step_43 ?_
            refine lv_bipush (v := 10) hx hb dX11_step_44 (by decide) ?_
            refine lv_idiv hx hb dX11_step_46 (by decide) ?_
            refine lv_topi (fun v9 ev9 => ?_)
            have hB := hB v9 ev9
            refine lv_istore (lv' := [(4, .int v9), (0, .ref (ad G 0)), (1, .int x1), (2, .int x2), (3, .int x3)]) hx hb dX11_step_47 hl (by decide) rfl (fun ls hl => ?_)
            refine lv_iload_n hx hb dX11_step_49 rfl (lv_at hl 4 rfl) ?_
            refine lv_if_ne (tgt := 56) hx hb dX11_step_50 (by decide) (fun c10 => ?_) (fun c10 => ?_)
            · have hB := hB.2 c10
              refine lv_iload hx hb dX11_step_56 (lv_at hl 0 rfl) ?_
              refine lv_iconst (v := 1) hx hb dX11_step_58 (by decide) ?_
              refine lv_icmp_ne (tgt := 66) hx hb dX11_step_59 (by decide) (fun c11 => ?_) (fun c11 => ?_)
              · have hB := hB.2 c11
                refine lv_aload_n hx hb dX11_step_66 rfl (lv_at hl 1 rfl) ?_
                refine xXg_0_winters S hE hP lk_X11_39 dX11_step_67 ?_
                refine lv_iload_n hx hb dX11_step_70 rfl (lv_at hl 2 rfl) ?_
                obtain ⟨hi, hB⟩ := hB
                refine xXo_17 S hE hP hi dX11_step_71 ?_
                obtain ⟨a12, ea12⟩ : ∃ y9, y9 = gZ z1 (0 + x1.toNatClampNeg) := ⟨_, rfl⟩
                have hB := hB a12 ea12
                rw [← ea12]
                refine lv_iload_n hx hb dX11_step_72 rfl (lv_at hl 3 rfl) ?_
                obtain ⟨hj, ha9, hi, hB⟩ := hB
                refine xXd S hE hP (show 0 + x1.toNatClampNeg < 8 by have := vin_lt hj; omega) ha9 hi dX11_step_73 ?_
                refine lv_bipush (v := 10) hx hb dX11_step_74 (by decide) ?_
                refine lv_irem hx hb dX11_step_76 (by decide) ?_
                exact hret _ _ _ _ _ _ dX11_step_77 hB hP hD hS
              · have hB := hB.1 c11
                refine lv_iconst (v := -1) hx hb dX11_step_62 (by decide) ?_
                refine lv_goto (tgt := 77) hx hb dX11_step_63 (by decide) ?_
                exact hret _ _ _ _ _ _ dX11_step_77 hB hP hD hS
            · have hB := hB.1 c10
              refine lv_iload hx hb dX11_step_53 (lv_at hl 0 rfl) ?_
              exact hret _ _ _ _ _ _ dX11_step_55 hB hP hD hS
          · have hB := hB.2 c7
            refine lv_ldcw hx hb S.2.2.2.1 (S.2.2.2.2 _ lk_X11_264) dX11_step_32 ?_
            exact hret _ _ _ _ _ _ dX11_step_35 hB hP hD hS
set_option maxHeartbeats 4000000 in
set_option maxRecDepth 100000 in
theorem c_B_step (l : Launch) (G : GX) (z0 : St) (sz : Nat) (x1 : Int32) (x2 : Int32) (x3 : Int32) (post : Int32 → St → Prop) : MetI l wX yX11_step cX11_step 5 (some .int) ({ frames := 1, cells := 0, slots := 0, locals := 21 }) [.ref (ad G 0), .int x1, .int x2, .int x3] G z0 sz (S_B_step post x1 x2 x3 z0) post := by
  refine Met.ofW (cc := cX11_step) (maxL := 5) (ret := (some .int)) (by decide) rfl ?_
  intro p e s m args below meth c s₁ B hml hv
  obtain ⟨rfl, hsz, hP, hD0, hE, hB⟩ := hv
  have S : CallFix p m c cX11_step 5 s _ GW RX11 := ⟨B.exec, B.bytes, hml, findClass_of_methodNamed B.named, fun w h => atoms_spec (ws := Cond.code yX11_step cX11_step 5 (some .int) :: GW) B.pre w (List.mem_cons_of_mem _ h)⟩
  have hlocks := B.notSynchronized
  subst hsz
  have hD := hD0.self (sz := s.heap.size)
  generalize hAe : va_A (wX G z0) s.heap.size = A at hD hE ⊢
  have hA : ∀ q : Nat, s.heap.size ≤ q → A q := fun q h => by rw [← hAe]; exact Or.inr h
  have hS : va_S A s.heap s.heap [] := va_S.rf
  have hl := lv_entry ([.ref (ad G 0), .int x1, .int x2, .int x3]) (n := 5) (Nat.le_of_ble_eq_true rfl)
  rw [lg_entry_eq]
  generalize (lg_sl ([.ref (ad G 0), .int x1, .int x2, .int x3]) ++ List.replicate (5 - (lg_sl ([.ref (ad G 0), .int x1, .int x2, .int x3])).length) Slot.unset).toArray = ls at hl ⊢
  have hl : lv_has ls 5 [(0, .ref (ad G 0)), (1, .int x1), (2, .int x2), (3, .int x3)] := hl
  refine w_B_step_0 S hE hA (Nat.le_refl _) (Nat.le_refl _) ?_ x1 x2 x3 z0 hB _ _ _ hP hD hS hl
  intro pc ls r σ H locs hd hp hP hD hS
  exact W.iret (v := r) B.exec B.bytes B.returns (fun t ht hW => ⟨⟨r, σ, rfl, hp, by rw [ht]; exact hP, hD⟩, hS.F ht⟩) hS.2.2 hd
def S_Table_copy_9_r8 (post : St → Prop) (z0 : St) : Prop :=
  (¬ (0 : Int32) < 0 ∧ ¬ (0 : Int32) < 0 ∧ ¬ (28 : Int32) < 0 ∧ (0 : Int32).toNatClampNeg + (28 : Int32).toNatClampNeg ≤ 28 ∧ (0 : Int32).toNatClampNeg + (28 : Int32).toNatClampNeg ≤ 28 ∧ (∀ z1 : St, z1 = sF z0 24 (va_cpy (gA z0 23) (gA z0 24) (0 : Int32).toNatClampNeg (0 : Int32).toNatClampNeg (28 : Int32).toNatClampNeg) → (post z1)))
set_option maxHeartbeats 4000000 in
set_option maxRecDepth 100000 in
theorem w_Table_copy_9_r8_0 {p : Program} {l : Launch} {e : Env} {R : Room} {s : State} {m : MethodId} {args : Array Value} {below : List Frame} {meth : Method} {c : Code} {Q : State → Prop} {G : GX} {A : Nat → Prop} (S : CallFix p m c cX8_copy 2 s args GW RX8) (hE : env G A s s.heap) (hA : ∀ q, s.heap.size ≤ q → A q) (hRf : 1 ≤ R.frames) (hRl : 80 ≤ R.locals) {post : St → Prop} (hret : RetV p l e R s m args below meth c Q 0 0 wX G A cX8_copy post) (z0 : St) (hB : S_Table_copy_9_r8 post z0) : Xw p l e R s m args below meth c Q 0 0 wX G A z0 2 [(0, .ref (ad G 9)), (1, .ref (ad G 8))] 0 [] := by
  intro H locs ls hP hD hS hl
  have hx := S.1
  have hb := S.2.1
  refine lv_aload_n hx hb dX8_copy_0 rfl (lv_at hl 1 rfl) ?_
  refine xXg_8_cells S hE hP lk_X8_11 dX8_copy_1 ?_
  refine lv_iconst (v := 0) hx hb dX8_copy_4 (by decide) ?_
  refine lv_aload_n hx hb dX8_copy_5 rfl (lv_at hl 0 rfl) ?_
  refine xXg_9_cells S hE hP lk_X8_11 dX8_copy_6 ?_
  refine lv_iconst (v := 0) hx hb dX8_copy_9 (by decide) ?_
  refine lv_bipush (v := 28) hx hb dX8_copy_10 (by decide) ?_
  obtain ⟨h91, h92, h93, h94, h95, hB⟩ := hB
  obtain ⟨z1, ez1⟩ : ∃ z9, z9 = sF z0 24 (va_cpy (gA z0 23) (gA z0 24) (0 : Int32).toNatClampNeg (0 : Int32).toNatClampNeg (28 : Int32).toNatClampNeg) := ⟨_, rfl⟩
  have hB := hB z1 ez1
  refine xcp (w := wX) S hE hl.1 hP hD hS (sa := 23) (da := 24) 23 24 (z1 := sF z0 24 (va_cpy (gA z0 23) (gA z0 24) (0 : Int32).toNatClampNeg (0 : Int32).toNatClampNeg (28 : Int32).toNatClampNeg)) rfl rfl rfl h91 h92 h93 h94 h95 (Nat.le_trans (Nat.le_of_ble_eq_true rfl) hRf) (Nat.le_trans (Nat.le_of_ble_eq_true rfl) hRl) lk_X8_54 dX8_copy_12 (fun H locs hP hD hS => ?_)
  rw [← ez1] at hP hD
  exact hret _ _ _ _ _ dX8_copy_15 hB hP hD hS
set_option maxHeartbeats 4000000 in
set_option maxRecDepth 100000 in
theorem c_Table_copy_9_r8 (l : Launch) (G : GX) (z0 : St) (sz : Nat) (post : St → Prop) : MetV l wX yX8_copy cX8_copy 2 none ({ frames := 1, cells := 0, slots := 0, locals := 80 }) [.ref (ad G 9), .ref (ad G 8)] G z0 sz (S_Table_copy_9_r8 post z0) post := by
  refine Met.ofW (cc := cX8_copy) (maxL := 2) (ret := none) (by decide) rfl ?_
  intro p e s m args below meth c s₁ B hml hv
  obtain ⟨rfl, hsz, hP, hD0, hE, hB⟩ := hv
  have S : CallFix p m c cX8_copy 2 s _ GW RX8 := ⟨B.exec, B.bytes, hml, findClass_of_methodNamed B.named, fun w h => atoms_spec (ws := Cond.code yX8_copy cX8_copy 2 none :: GW) B.pre w (List.mem_cons_of_mem _ h)⟩
  have hlocks := B.notSynchronized
  subst hsz
  have hD := hD0.self (sz := s.heap.size)
  generalize hAe : va_A (wX G z0) s.heap.size = A at hD hE ⊢
  have hA : ∀ q : Nat, s.heap.size ≤ q → A q := fun q h => by rw [← hAe]; exact Or.inr h
  have hS : va_S A s.heap s.heap [] := va_S.rf
  have hl := lv_entry ([.ref (ad G 9), .ref (ad G 8)]) (n := 2) (Nat.le_of_ble_eq_true rfl)
  rw [lg_entry_eq]
  generalize (lg_sl ([.ref (ad G 9), .ref (ad G 8)]) ++ List.replicate (2 - (lg_sl ([.ref (ad G 9), .ref (ad G 8)])).length) Slot.unset).toArray = ls at hl ⊢
  have hl : lv_has ls 2 [(0, .ref (ad G 9)), (1, .ref (ad G 8))] := hl
  refine w_Table_copy_9_r8_0 S hE hA (Nat.le_refl _) (Nat.le_refl _) ?_  z0 hB _ _ _ hP hD hS hl
  intro pc ls σ H locs hd hp hP hD hS
  exact W.vret B.exec B.bytes B.returns (fun t ht hW => ⟨⟨σ, rfl, hp, by rw [ht]; exact hP, hD⟩, hS.F ht⟩) hS.2.2 hd
def S_Table_canBe_9 (post : Int32 → St → Prop) (x1 : Int32) (x2 : Int32) (z0 : St) : Prop :=
  ((x1 = 0 → (S_House_hasGuest (fun (r10 : Int32) (z3 : St) => ((r10 = 0 ∨ r10 = 1) ∧ post r10 z3)) x2 z0)) ∧ (¬ x1 = 0 → ((x1 = (1 : Int32) → (S_House_isTold (fun (r7 : Int32) (z2 : St) => ((r7 = 0 → (post (0 : Int32) z2)) ∧ (¬ r7 = 0 → (((999 : Int32) ≤ (gA z2 24 1) → (post (0 : Int32) z2)) ∧ (¬ (999 : Int32) ≤ (gA z2 24 1) → (post (1 : Int32) z2)))))) z0)) ∧ (¬ x1 = (1 : Int32) → (S_House_hasDrink (fun (r3 : Int32) (z1 : St) => ((r3 = 0 → (post (0 : Int32) z1)) ∧ (¬ r3 = 0 → ((x2 = (gA z1 24 0) → (post (0 : Int32) z1)) ∧ (¬ x2 = (gA z1 24 0) → (((gA z1 24 2) = 0 → (post (1 : Int32) z1)) ∧ (¬ (gA z1 24 2) = 0 → (post (0 : Int32) z1)))))))) x2 z0)))))
set_option maxHeartbeats 4000000 in
set_option maxRecDepth 100000 in
theorem w_Table_canBe_9_0 {p : Program} {l : Launch} {e : Env} {R : Room} {s : State} {m : MethodId} {args : Array Value} {below : List Frame} {meth : Method} {c : Code} {Q : State → Prop} {G : GX} {A : Nat → Prop} (S : CallFix p m c cX8_canBe 3 s args GW RX8) (hE : env G A s s.heap) (hA : ∀ q, s.heap.size ≤ q → A q) (hRf : 1 ≤ R.frames) (hRl : 21 ≤ R.locals) {post : Int32 → St → Prop} (hret : RetZ p l e R s m args below meth c Q 0 0 wX G A cX8_canBe post) (x1 : Int32) (x2 : Int32) (z0 : St) (hB : S_Table_canBe_9 post x1 x2 z0) : Xw p l e R s m args below meth c Q 0 0 wX G A z0 3 [(0, .ref (ad G 9)), (1, .int x1), (2, .int x2)] 0 [] := by
  intro H locs ls hP hD hS hl
  have hx := S.1
  have hb := S.2.1
  refine lv_iload_n hx hb dX8_canBe_0 rfl (lv_at hl 1 rfl) ?_
  refine lv_if_ne (tgt := 13) hx hb dX8_canBe_1 (by decide) (fun c1 => ?_) (fun c1 => ?_)
  · have hB := hB.2 c1
    refine lv_iload_n hx hb dX8_canBe_13 rfl (lv_at hl 1 rfl) ?_
    refine lv_iconst (v := 1) hx hb dX8_canBe_14 (by decide) ?_
    refine lv_icmp_ne (tgt := 46) hx hb dX8_canBe_15 (by decide) (fun c2 => ?_) (fun c2 => ?_)
    · have hB := hB.2 c2
      refine lv_aload_n hx hb dX8_canBe_46 rfl (lv_at hl 0 rfl) ?_
      refine xXg_9_house S hE hP lk_X8_15 dX8_canBe_47 ?_
      refine lv_iload_n hx hb dX8_canBe_50 rfl (lv_at hl 2 rfl) ?_
      refine xcVi [.int x2] S hE hA hP hD hS (c_House_hasDrink l G z0 H.size x2 _) hB (gw_c lk_X8_74 (gw_c wi_X0_hasDrink (gw_c we_X0_X0_hasDrink_X0_hasDrink (gw_c wn_X0 (gw_c wc_X0_hasDrink (fun _ h9 => h9)))))) hd_X0_hasDrink rfl rfl (Nat.le_trans (Nat.le_of_ble_eq_true rfl) hRf) (Nat.le_trans (Nat.le_of_ble_eq_true rfl) hRl) ⟨Nat.zero_le _, Nat.zero_le _⟩ (va_recv hE.1 hP (ci := 0) (q0 := 6) rfl rfl) rfl hl.1 rfl (Nat.le_of_ble_eq_true rfl) dX8_canBe_51 (fun r3 z1 H locs hB hP hD hS => ?_)
      refine lv_if_eq (tgt := 80) hx hb dX8_canBe_54 (by decide) (fun c4 => ?_) (fun c4 => ?_)
      · have hB := hB.1 c4
        refine lv_iconst (v := 0) hx hb dX8_canBe_80 (by decide) ?_
        exact hret _ _ _ _ _ _ dX8_canBe_81 ⟨by decide, hB⟩ hP hD hS
      · have hB := hB.2 c4
        refine lv_iload_n hx hb dX8_canBe_57 rfl (lv_at hl 2 rfl) ?_
        refine lv_aload_n hx hb dX8_canBe_58 rfl (lv_at hl 0 rfl) ?_
        refine xXg_9_cells S hE hP lk_X8_11 dX8_canBe_59 ?_
        refine lv_iconst (v := 0) hx hb dX8_canBe_62 (by decide) ?_
        refine xXk_24 S hE hP 0 (by decide) (by unfold vp_in; decide) dX8_canBe_63 ?_
        refine lv_icmp_eq (tgt := 80) hx hb dX8_canBe_64 (by decide) (fun c5 => ?_) (fun c5 => ?_)
        · have hB := hB.1 c5
          refine lv_iconst (v := 0) hx hb dX8_canBe_80 (by decide) ?_
          exact hret _ _ _ _ _ _ dX8_canBe_81 ⟨by decide, hB⟩ hP hD hS
        · have hB := hB.2 c5
          refine lv_aload_n hx hb dX8_canBe_67 rfl (lv_at hl 0 rfl) ?_
          refine xXg_9_cells S hE hP lk_X8_11 dX8_canBe_68 ?_
          refine lv_iconst (v := 2) hx hb dX8_canBe_71 (by decide) ?_
          refine xXk_24 S hE hP 2 (by decide) (by unfold vp_in; decide) dX8_canBe_72 ?_
          refine lv_if_ne (tgt := 80) hx hb dX8_canBe_73 (by decide) (fun c6 => ?_) (fun c6 => ?_)
          · have hB := hB.2 c6
            refine lv_iconst (v := 0) hx hb dX8_canBe_80 (by decide) ?_
            exact hret _ _ _ _ _ _ dX8_canBe_81 ⟨by decide, hB⟩ hP hD hS
          · have hB := hB.1 c6
            refine lv_iconst (v := 1) hx hb dX8_canBe_76 (by decide) ?_
            refine lv_goto (tgt := 81) hx hb dX8_canBe_77 (by decide) ?_
            exact hret _ _ _ _ _ _ dX8_canBe_81 ⟨by decide, hB⟩ hP hD hS
    · have hB := hB.1 c2
      refine lv_aload_n hx hb dX8_canBe_18 rfl (lv_at hl 0 rfl) ?_
      refine xXg_9_house S hE hP lk_X8_15 dX8_canBe_19 ?_
      refine xcVi [] S hE hA hP hD hS (c_House_isTold l G z0 H.size _) hB (gw_c lk_X8_70 (gw_c wi_X0_isTold (gw_c we_X0_X0_isTold_X0_isTold (gw_c wn_X0 (gw_c wc_X0_isTold (fun _ h9 => h9)))))) hd_X0_isTold rfl rfl (Nat.le_trans (Nat.le_of_ble_eq_true rfl) hRf) (Nat.le_trans (Nat.le_of_ble_eq_true rfl) hRl) ⟨Nat.zero_le _, Nat.zero_le _⟩ (va_recv hE.1 hP (ci := 0) (q0 := 6) rfl rfl) rfl hl.1 rfl (Nat.le_of_ble_eq_true rfl) dX8_canBe_22 (fun r7 z2 H locs hB hP hD hS => ?_)
      refine lv_if_eq (tgt := 44) hx hb dX8_canBe_25 (by decide) (fun c8 => ?_) (fun c8 => ?_)
      · have hB := hB.1 c8
        refine lv_iconst (v := 0) hx hb dX8_canBe_44 (by decide) ?_
        exact hret _ _ _ _ _ _ dX8_canBe_45 ⟨by decide, hB⟩ hP hD hS
      · have hB := hB.2 c8
        refine lv_aload_n hx hb dX8_canBe_28 rfl (lv_at hl 0 rfl) ?_
        refine xXg_9_cells S hE hP lk_X8_11 dX8_canBe_29 ?_
        refine lv_iconst (v := 1) hx hb dX8_canBe_32 (by decide) ?_
        refine xXk_24 S hE hP 1 (by decide) (by unfold vp_in; decide) dX8_canBe_33 ?_
        refine lv_sipush (v := 999) hx hb dX8_canBe_34 (by decide) ?_
        refine lv_icmp_ge (tgt := 44) hx hb dX8_canBe_37 (by decide) (fun c9 => ?_) (fun c9 => ?_)
        · have hB := hB.1 c9
          refine lv_iconst (v := 0) hx hb dX8_canBe_44 (by decide) ?_
          exact hret _ _ _ _ _ _ dX8_canBe_45 ⟨by decide, hB⟩ hP hD hS
        · have hB := hB.2 c9
          refine lv_iconst (v := 1) hx hb dX8_canBe_40 (by decide) ?_
          refine lv_goto (tgt := 45) hx hb dX8_canBe_41 (by decide) ?_
          exact hret _ _ _ _ _ _ dX8_canBe_45 ⟨by decide, hB⟩ hP hD hS
  · have hB := hB.1 c1
    refine lv_aload_n hx hb dX8_canBe_4 rfl (lv_at hl 0 rfl) ?_
    refine xXg_9_house S hE hP lk_X8_15 dX8_canBe_5 ?_
    refine lv_iload_n hx hb dX8_canBe_8 rfl (lv_at hl 2 rfl) ?_
    refine xcVi [.int x2] S hE hA hP hD hS (c_House_hasGuest l G z0 H.size x2 _) hB (gw_c lk_X8_66 (gw_c wi_X0_hasGuest (gw_c we_X0_X0_hasGuest_X0_hasGuest (gw_c wn_X0 (gw_c wc_X0_hasGuest (fun _ h9 => h9)))))) hd_X0_hasGuest rfl rfl (Nat.le_trans (Nat.le_of_ble_eq_true rfl) hRf) (Nat.le_trans (Nat.le_of_ble_eq_true rfl) hRl) ⟨Nat.zero_le _, Nat.zero_le _⟩ (va_recv hE.1 hP (ci := 0) (q0 := 6) rfl rfl) rfl hl.1 rfl (Nat.le_of_ble_eq_true rfl) dX8_canBe_9 (fun r10 z3 H locs hB hP hD hS => ?_)
    exact hret _ _ _ _ _ _ dX8_canBe_12 hB hP hD hS
set_option maxHeartbeats 4000000 in
set_option maxRecDepth 100000 in
theorem c_Table_canBe_9 (l : Launch) (G : GX) (z0 : St) (sz : Nat) (x1 : Int32) (x2 : Int32) (post : Int32 → St → Prop) : MetI l wX yX8_canBe cX8_canBe 3 (some .boolean) ({ frames := 1, cells := 0, slots := 0, locals := 21 }) [.ref (ad G 9), .int x1, .int x2] G z0 sz (S_Table_canBe_9 post x1 x2 z0) post := by
  refine Met.ofW (cc := cX8_canBe) (maxL := 3) (ret := (some .boolean)) (by decide) rfl ?_
  intro p e s m args below meth c s₁ B hml hv
  obtain ⟨rfl, hsz, hP, hD0, hE, hB⟩ := hv
  have S : CallFix p m c cX8_canBe 3 s _ GW RX8 := ⟨B.exec, B.bytes, hml, findClass_of_methodNamed B.named, fun w h => atoms_spec (ws := Cond.code yX8_canBe cX8_canBe 3 (some .boolean) :: GW) B.pre w (List.mem_cons_of_mem _ h)⟩
  have hlocks := B.notSynchronized
  subst hsz
  have hD := hD0.self (sz := s.heap.size)
  generalize hAe : va_A (wX G z0) s.heap.size = A at hD hE ⊢
  have hA : ∀ q : Nat, s.heap.size ≤ q → A q := fun q h => by rw [← hAe]; exact Or.inr h
  have hS : va_S A s.heap s.heap [] := va_S.rf
  have hl := lv_entry ([.ref (ad G 9), .int x1, .int x2]) (n := 3) (Nat.le_of_ble_eq_true rfl)
  rw [lg_entry_eq]
  generalize (lg_sl ([.ref (ad G 9), .int x1, .int x2]) ++ List.replicate (3 - (lg_sl ([.ref (ad G 9), .int x1, .int x2])).length) Slot.unset).toArray = ls at hl ⊢
  have hl : lv_has ls 3 [(0, .ref (ad G 9)), (1, .int x1), (2, .int x2)] := hl
  refine w_Table_canBe_9_0 S hE hA (Nat.le_refl _) (Nat.le_refl _) ?_ x1 x2 z0 hB _ _ _ hP hD hS hl
  intro pc ls r σ H locs hd hp hP hD hS
  exact W.zret (v := r) B.exec B.bytes B.returns (xboolc r hp.1) (fun t ht hW => ⟨⟨r, σ, rfl, hp.2, by rw [ht]; exact hP, hD⟩, hS.F ht⟩) hS.2.2 hd
def S_Table_give_9 (post : St → Prop) (x1 : Int32) (x2 : Int32) (z0 : St) : Prop :=
  (vp_in ((4 : Int32) + x1) 28 ∧ (S_Math_min_7cf53_X (fun (r1 : Int32) (z1 : St) => (vp_in ((4 : Int32) + x1) 28 ∧ (∀ z2 : St, z2 = sA z1 24 ((4 : Int32) + x1).toNatClampNeg r1 → (post z2)))) (99 : Int32) ((gA z0 24 ((4 : Int32) + x1).toNatClampNeg) + x2) z0))
set_option maxHeartbeats 4000000 in
set_option maxRecDepth 100000 in
theorem w_Table_give_9_0 {p : Program} {l : Launch} {e : Env} {R : Room} {s : State} {m : MethodId} {args : Array Value} {below : List Frame} {meth : Method} {c : Code} {Q : State → Prop} {G : GX} {A : Nat → Prop} (S : CallFix p m c cX8_give 3 s args GW RX8) (hE : env G A s s.heap) (hA : ∀ q, s.heap.size ≤ q → A q) (hRf : 1 ≤ R.frames) (hRl : 21 ≤ R.locals) {post : St → Prop} (hret : RetV p l e R s m args below meth c Q 0 0 wX G A cX8_give post) (x1 : Int32) (x2 : Int32) (z0 : St) (hB : S_Table_give_9 post x1 x2 z0) : Xw p l e R s m args below meth c Q 0 0 wX G A z0 3 [(0, .ref (ad G 9)), (1, .int x1), (2, .int x2)] 0 [] := by
  intro H locs ls hP hD hS hl
  have hx := S.1
  have hb := S.2.1
  refine lv_aload_n hx hb dX8_give_0 rfl (lv_at hl 0 rfl) ?_
  refine xXg_9_cells S hE hP lk_X8_11 dX8_give_1 ?_
  refine lv_iconst (v := 4) hx hb dX8_give_4 (by decide) ?_
  refine lv_iload_n hx hb dX8_give_5 rfl (lv_at hl 1 rfl) ?_
  refine lv_iadd hx hb dX8_give_6 ?_
  refine lv_bipush (v := 99) hx hb dX8_give_7 (by decide) ?_
  refine lv_aload_n hx hb dX8_give_9 rfl (lv_at hl 0 rfl) ?_
  refine xXg_9_cells S hE hP lk_X8_11 dX8_give_10 ?_
  refine lv_iconst (v := 4) hx hb dX8_give_13 (by decide) ?_
  refine lv_iload_n hx hb dX8_give_14 rfl (lv_at hl 1 rfl) ?_
  refine lv_iadd hx hb dX8_give_15 ?_
  obtain ⟨hi, hB⟩ := hB
  refine xXl_24 S hE hP hi dX8_give_16 ?_
  refine lv_iload_n hx hb dX8_give_17 rfl (lv_at hl 2 rfl) ?_
  refine lv_iadd hx hb dX8_give_18 ?_
  refine xcSi [.int (99 : Int32), .int ((gA z0 24 ((4 : Int32) + x1).toNatClampNeg) + x2)] S hE hA hP hD hS (c_Math_min_7cf53_X l G z0 H.size (99 : Int32) ((gA z0 24 ((4 : Int32) + x1).toNatClampNeg) + x2) _) hB (gw_c lk_X8_60 (gw_c wt_J9_min_7cf53 (gw_c wn_J9 (gw_c wc_J9_min_7cf53 (fun _ h9 => h9))))) hs_J9_min_7cf53 rfl rfl (Nat.le_trans (Nat.le_of_ble_eq_true rfl) hRf) (Nat.le_trans (Nat.le_of_ble_eq_true rfl) hRl) ⟨Nat.zero_le _, Nat.zero_le _⟩ rfl hl.1 rfl (Nat.le_of_ble_eq_true rfl) dX8_give_19 (fun r1 z1 H locs hB hP hD hS => ?_)
  obtain ⟨hi, hB⟩ := hB
  obtain ⟨z2, ez2⟩ : ∃ z9, z9 = sA z1 24 ((4 : Int32) + x1).toNatClampNeg r1 := ⟨_, rfl⟩
  have hB := hB z2 ez2
  refine xXs_24 S hE hP hD hS _ rfl hi dX8_give_22 (fun H locs hP hD hS => ?_)
  rw [← ez2] at hP hD
  exact hret _ _ _ _ _ dX8_give_23 hB hP hD hS
set_option maxHeartbeats 4000000 in
set_option maxRecDepth 100000 in
theorem c_Table_give_9 (l : Launch) (G : GX) (z0 : St) (sz : Nat) (x1 : Int32) (x2 : Int32) (post : St → Prop) : MetV l wX yX8_give cX8_give 3 none ({ frames := 1, cells := 0, slots := 0, locals := 21 }) [.ref (ad G 9), .int x1, .int x2] G z0 sz (S_Table_give_9 post x1 x2 z0) post := by
  refine Met.ofW (cc := cX8_give) (maxL := 3) (ret := none) (by decide) rfl ?_
  intro p e s m args below meth c s₁ B hml hv
  obtain ⟨rfl, hsz, hP, hD0, hE, hB⟩ := hv
  have S : CallFix p m c cX8_give 3 s _ GW RX8 := ⟨B.exec, B.bytes, hml, findClass_of_methodNamed B.named, fun w h => atoms_spec (ws := Cond.code yX8_give cX8_give 3 none :: GW) B.pre w (List.mem_cons_of_mem _ h)⟩
  have hlocks := B.notSynchronized
  subst hsz
  have hD := hD0.self (sz := s.heap.size)
  generalize hAe : va_A (wX G z0) s.heap.size = A at hD hE ⊢
  have hA : ∀ q : Nat, s.heap.size ≤ q → A q := fun q h => by rw [← hAe]; exact Or.inr h
  have hS : va_S A s.heap s.heap [] := va_S.rf
  have hl := lv_entry ([.ref (ad G 9), .int x1, .int x2]) (n := 3) (Nat.le_of_ble_eq_true rfl)
  rw [lg_entry_eq]
  generalize (lg_sl ([.ref (ad G 9), .int x1, .int x2]) ++ List.replicate (3 - (lg_sl ([.ref (ad G 9), .int x1, .int x2])).length) Slot.unset).toArray = ls at hl ⊢
  have hl : lv_has ls 3 [(0, .ref (ad G 9)), (1, .int x1), (2, .int x2)] := hl
  refine w_Table_give_9_0 S hE hA (Nat.le_refl _) (Nat.le_refl _) ?_ x1 x2 z0 hB _ _ _ hP hD hS hl
  intro pc ls σ H locs hd hp hP hD hS
  exact W.vret B.exec B.bytes B.returns (fun t ht hW => ⟨⟨σ, rfl, hp, by rw [ht]; exact hP, hD⟩, hS.F ht⟩) hS.2.2 hd
def B_Table_passMonth_9_19 (post : St → Prop) (ih19 : Int32 → St → Prop) (x1 : Int32) (z0 : St) : Prop :=
  (((gI z0 27) ≤ x1 → (post z0)) ∧ (¬ (gI z0 27) ≤ x1 → (S_Table_give_9 (fun (z1 : St) => (∀ v2 : Int32, v2 = x1 + (1 : Int32) → (ih19 v2 z1))) x1 (gI z0 28) z0)))
set_option maxHeartbeats 4000000 in
set_option maxRecDepth 100000 in
theorem w_Table_passMonth_9_19 {p : Program} {l : Launch} {e : Env} {R : Room} {s : State} {m : MethodId} {args : Array Value} {below : List Frame} {meth : Method} {c : Code} {Q : State → Prop} {G : GX} {A : Nat → Prop} (S : CallFix p m c cX8_passMonth 2 s args GW RX8) (hE : env G A s s.heap) (hA : ∀ q, s.heap.size ≤ q → A q) (hRf : 2 ≤ R.frames) (hRl : 43 ≤ R.locals) {post : St → Prop} (hret : RetV p l e R s m args below meth c Q 0 0 wX G A cX8_passMonth post) {ih19 : Int32 → St → Prop} (h19 : ∀ (x1 : Int32) (z0 : St), ih19 x1 z0 → Xw p l e R s m args below meth c Q 0 0 wX G A z0 2 [(0, .ref (ad G 9)), (1, .int x1)] 19 []) (x1 : Int32) (z0 : St) (hB : B_Table_passMonth_9_19 post ih19 x1 z0) : Xw p l e R s m args below meth c Q 0 0 wX G A z0 2 [(0, .ref (ad G 9)), (1, .int x1)] 19 [] := by
  intro H locs ls hP hD hS hl
  have hx := S.1
  have hb := S.2.1
  refine lv_iload_n hx hb dX8_passMonth_19 rfl (lv_at hl 1 rfl) ?_
  refine lv_aload_n hx hb dX8_passMonth_20 rfl (lv_at hl 0 rfl) ?_
  refine xXg_9_house S hE hP lk_X8_15 dX8_passMonth_21 ?_
  refine xXg_6_guests S hE hP lk_X8_45 dX8_passMonth_24 ?_
  refine lv_icmp_ge (tgt := 48) hx hb dX8_passMonth_27 (by decide) (fun c1 => ?_) (fun c1 => ?_)
  · have hB := hB.1 c1
    exact hret _ _ _ _ _ dX8_passMonth_48 hB hP hD hS
  · have hB := hB.2 c1
    refine lv_aload_n hx hb dX8_passMonth_30 rfl (lv_at hl 0 rfl) ?_
    refine lv_iload_n hx hb dX8_passMonth_31 rfl (lv_at hl 1 rfl) ?_
    refine lv_aload_n hx hb dX8_passMonth_32 rfl (lv_at hl 0 rfl) ?_
    refine xXg_9_house S hE hP lk_X8_15 dX8_passMonth_33 ?_
    refine xXg_6_wages S hE hP lk_X8_91 dX8_passMonth_36 ?_
    refine xcVv [.int x1, .int (gI z0 28)] S hE hA hP hD hS (c_Table_give_9 l G z0 H.size x1 (gI z0 28) _) hB (gw_c lk_X8_94 (gw_c wi_X8_give (gw_c we_X8_X8_give_X8_give (gw_c wn_X8 (gw_c wc_X8_give (fun _ h9 => h9)))))) hd_X8_give rfl rfl (Nat.le_trans (Nat.le_of_ble_eq_true rfl) hRf) (Nat.le_trans (Nat.le_of_ble_eq_true rfl) hRl) ⟨Nat.zero_le _, Nat.zero_le _⟩ (va_recv hE.1 hP (ci := 7) (q0 := 9) rfl rfl) rfl hl.1 rfl (Nat.le_of_ble_eq_true rfl) dX8_passMonth_39 (fun z1 H locs hB hP hD hS => ?_)
    obtain ⟨v2, ev2⟩ : ∃ y9, y9 = x1 + (1 : Int32) := ⟨_, rfl⟩
    have hB := hB v2 ev2
    refine lv_iinc (v := v2) (lv' := [(1, .int v2), (0, .ref (ad G 9))]) hx hb dX8_passMonth_42 hl (k := 1) rfl (by rw [ev2]; rfl) (by decide) rfl (fun ls hl => ?_)
    refine lv_goto (tgt := 19) hx hb dX8_passMonth_45 (by decide) ?_
    exact h19 v2 z1 hB _ _ _ hP hD hS (lv_sub hl [1, 0] rfl)
def L_Table_passMonth_9_19 (post : St → Prop) : Nat → Int32 → St → Prop
  | 0 => fun _ _ => False
  | n + 1 => B_Table_passMonth_9_19 post (L_Table_passMonth_9_19 post n)
theorem wl_Table_passMonth_9_19 {p : Program} {l : Launch} {e : Env} {R : Room} {s : State} {m : MethodId} {args : Array Value} {below : List Frame} {meth : Method} {c : Code} {Q : State → Prop} {G : GX} {A : Nat → Prop} (S : CallFix p m c cX8_passMonth 2 s args GW RX8) (hE : env G A s s.heap) (hA : ∀ q, s.heap.size ≤ q → A q) (hRf : 2 ≤ R.frames) (hRl : 43 ≤ R.locals) {post : St → Prop} (hret : RetV p l e R s m args below meth c Q 0 0 wX G A cX8_passMonth post) : ∀ (n : Nat) (x1 : Int32) (z0 : St), L_Table_passMonth_9_19 post n x1 z0 → Xw p l e R s m args below meth c Q 0 0 wX G A z0 2 [(0, .ref (ad G 9)), (1, .int x1)] 19 [] := by
  intro n
  induction n with
  | zero => intro x1 z0 hB; exact absurd hB id
  | succ n ih => exact fun x1 z0 hB => w_Table_passMonth_9_19 S hE hA hRf hRl hret ih x1 z0 hB
def S_Table_passMonth_9 (post : St → Prop) (z0 : St) : Prop :=
  (∀ z1 : St, z1 = sA z0 24 1 ((gA z0 24 1) + (1 : Int32)) → (∀ z2 : St, z2 = sA z1 24 2 (0 : Int32) → (∃ n1, L_Table_passMonth_9_19 post n1 (0 : Int32) z2)))
set_option maxHeartbeats 4000000 in
set_option maxRecDepth 100000 in
theorem w_Table_passMonth_9_0 {p : Program} {l : Launch} {e : Env} {R : Room} {s : State} {m : MethodId} {args : Array Value} {below : List Frame} {meth : Method} {c : Code} {Q : State → Prop} {G : GX} {A : Nat → Prop} (S : CallFix p m c cX8_passMonth 2 s args GW RX8) (hE : env G A s s.heap) (hA : ∀ q, s.heap.size ≤ q → A q) (hRf : 2 ≤ R.frames) (hRl : 43 ≤ R.locals) {post : St → Prop} (hret : RetV p l e R s m args below meth c Q 0 0 wX G A cX8_passMonth post) (z0 : St) (hB : S_Table_passMonth_9 post z0) : Xw p l e R s m args below meth c Q 0 0 wX G A z0 2 [(0, .ref (ad G 9))] 0 [] := by
  intro H locs ls hP hD hS hl
  have hx := S.1
  have hb := S.2.1
  refine lv_aload_n hx hb dX8_passMonth_0 rfl (lv_at hl 0 rfl) ?_
  refine xXg_9_cells S hE hP lk_X8_11 dX8_passMonth_1 ?_
  refine lv_iconst (v := 1) hx hb dX8_passMonth_4 (by decide) ?_
  refine lv_dup2_11 hx hb dX8_passMonth_5 rfl rfl ?_
  refine xXk_24 S hE hP 1 (by decide) (by unfold vp_in; decide) dX8_passMonth_6 ?_
  refine lv_iconst (v := 1) hx hb dX8_passMonth_7 (by decide) ?_
  refine lv_iadd hx hb dX8_passMonth_8 ?_
  obtain ⟨z1, ez1⟩ : ∃ z9, z9 = sA z0 24 1 ((gA z0 24 1) + (1 : Int32)) := ⟨_, rfl⟩
  have hB := hB z1 ez1
  refine xXs_24 S hE hP hD hS 1 (by decide) (by unfold vp_in; decide) dX8_passMonth_9 (fun H locs hP hD hS => ?_)
  rw [← ez1] at hP hD
  refine lv_aload_n hx hb dX8_passMonth_10 rfl (lv_at hl 0 rfl) ?_
  refine xXg_9_cells S hE hP lk_X8_11 dX8_passMonth_11 ?_
  refine lv_iconst (v := 2) hx hb dX8_passMonth_14 (by decide) ?_
  refine lv_iconst (v := 0) hx hb dX8_passMonth_15 (by decide) ?_
  obtain ⟨z2, ez2⟩ : ∃ z9, z9 = sA z1 24 2 (0 : Int32) := ⟨_, rfl⟩
  have hB := hB z2 ez2
  refine xXs_24 S hE hP hD hS 2 (by decide) (by unfold vp_in; decide) dX8_passMonth_16 (fun H locs hP hD hS => ?_)
  rw [← ez2] at hP hD
  refine lv_iconst (v := 0) hx hb dX8_passMonth_17 (by decide) ?_
  refine lv_istore_n (lv' := [(1, .int (0 : Int32)), (0, .ref (ad G 9))]) hx hb dX8_passMonth_18 rfl hl (by decide) rfl (fun ls hl => ?_)
  obtain ⟨n1, hB⟩ := hB
  exact wl_Table_passMonth_9_19 S hE hA hRf hRl hret n1 (0 : Int32) z2 hB _ _ _ hP hD hS (lv_sub hl [1, 0] rfl)
set_option maxHeartbeats 4000000 in
set_option maxRecDepth 100000 in
theorem c_Table_passMonth_9 (l : Launch) (G : GX) (z0 : St) (sz : Nat) (post : St → Prop) : MetV l wX yX8_passMonth cX8_passMonth 2 none ({ frames := 2, cells := 0, slots := 0, locals := 43 }) [.ref (ad G 9)] G z0 sz (S_Table_passMonth_9 post z0) post := by
  refine Met.ofW (cc := cX8_passMonth) (maxL := 2) (ret := none) (by decide) rfl ?_
  intro p e s m args below meth c s₁ B hml hv
  obtain ⟨rfl, hsz, hP, hD0, hE, hB⟩ := hv
  have S : CallFix p m c cX8_passMonth 2 s _ GW RX8 := ⟨B.exec, B.bytes, hml, findClass_of_methodNamed B.named, fun w h => atoms_spec (ws := Cond.code yX8_passMonth cX8_passMonth 2 none :: GW) B.pre w (List.mem_cons_of_mem _ h)⟩
  have hlocks := B.notSynchronized
  subst hsz
  have hD := hD0.self (sz := s.heap.size)
  generalize hAe : va_A (wX G z0) s.heap.size = A at hD hE ⊢
  have hA : ∀ q : Nat, s.heap.size ≤ q → A q := fun q h => by rw [← hAe]; exact Or.inr h
  have hS : va_S A s.heap s.heap [] := va_S.rf
  have hl := lv_entry ([.ref (ad G 9)]) (n := 2) (Nat.le_of_ble_eq_true rfl)
  rw [lg_entry_eq]
  generalize (lg_sl ([.ref (ad G 9)]) ++ List.replicate (2 - (lg_sl ([.ref (ad G 9)])).length) Slot.unset).toArray = ls at hl ⊢
  have hl : lv_has ls 2 [(0, .ref (ad G 9))] := hl
  refine w_Table_passMonth_9_0 S hE hA (Nat.le_refl _) (Nat.le_refl _) ?_  z0 hB _ _ _ hP hD hS hl
  intro pc ls σ H locs hd hp hP hD hS
  exact W.vret B.exec B.bytes B.returns (fun t ht hW => ⟨⟨σ, rfl, hp, by rw [ht]; exact hP, hD⟩, hS.F ht⟩) hS.2.2 hd
def B_Table_nearest_9_107 (post : Int32 → St → Prop) (ih8 : Int32 → Int32 → Int32 → Int32 → Int32 → St → Prop) (x1 : Int32) (x2 : Int32) (x3 : Int32) (x4 : Int32) (x5 : Int32) (z0 : St) : Prop :=
  (∀ v1 : Int32, v1 = x5 + (1 : Int32) → (ih8 x1 x2 x3 x4 v1 z0))
set_option maxHeartbeats 4000000 in
set_option maxRecDepth 100000 in
theorem w_Table_nearest_9_107 {p : Program} {l : Launch} {e : Env} {R : Room} {s : State} {m : MethodId} {args : Array Value} {below : List Frame} {meth : Method} {c : Code} {Q : State → Prop} {G : GX} {A : Nat → Prop} (S : CallFix p m c cX8_nearest 9 s args GW RX8) (hE : env G A s s.heap) (hA : ∀ q, s.heap.size ≤ q → A q) (hRf : 1 ≤ R.frames) (hRl : 20 ≤ R.locals) {post : Int32 → St → Prop} (hret : RetI p l e R s m args below meth c Q 0 0 wX G A cX8_nearest post) {ih8 : Int32 → Int32 → Int32 → Int32 → Int32 → St → Prop} (h8 : ∀ (x1 : Int32) (x2 : Int32) (x3 : Int32) (x4 : Int32) (x5 : Int32) (z0 : St), ih8 x1 x2 x3 x4 x5 z0 → Xw p l e R s m args below meth c Q 0 0 wX G A z0 9 [(0, .ref (ad G 9)), (1, .int x1), (2, .int x2), (3, .int x3), (4, .int x4), (5, .int x5)] 8 []) (x1 : Int32) (x2 : Int32) (x3 : Int32) (x4 : Int32) (x5 : Int32) (z0 : St) (hB : B_Table_nearest_9_107 post ih8 x1 x2 x3 x4 x5 z0) : Xw p l e R s m args below meth c Q 0 0 wX G A z0 9 [(0, .ref (ad G 9)), (1, .int x1), (2, .int x2), (3, .int x3), (4, .int x4), (5, .int x5)] 107 [] := by
  intro H locs ls hP hD hS hl
  have hx := S.1
  have hb := S.2.1
  obtain ⟨v1, ev1⟩ : ∃ y9, y9 = x5 + (1 : Int32) := ⟨_, rfl⟩
  have hB := hB v1 ev1
  refine lv_iinc (v := v1) (lv' := [(5, .int v1), (0, .ref (ad G 9)), (1, .int x1), (2, .int x2), (3, .int x3), (4, .int x4)]) hx hb dX8_nearest_107 hl (k := 5) rfl (by rw [ev1]; rfl) (by decide) rfl (fun ls hl => ?_)
  refine lv_goto (tgt := 8) hx hb dX8_nearest_110 (by decide) ?_
  exact h8 x1 x2 x3 x4 v1 z0 hB _ _ _ hP hD hS (lv_sub hl [1, 2, 3, 4, 5, 0] rfl)
def B_Table_nearest_9_87 (post : Int32 → St → Prop) (ih8 : Int32 → Int32 → Int32 → Int32 → Int32 → St → Prop) (x1 : Int32) (x2 : Int32) (x3 : Int32) (x4 : Int32) (x5 : Int32) (x6 : Int32) (x7 : Int32) (s0 : Int32) (z0 : St) : Prop :=
  ((x2 < x6 → (B_Table_nearest_9_107 post ih8 x1 x2 x3 x4 x5 z0)) ∧ (¬ x2 < x6 → ((s0 = 0 → (B_Table_nearest_9_107 post ih8 x1 x2 x3 x4 x5 z0)) ∧ (¬ s0 = 0 → (B_Table_nearest_9_107 post ih8 x1 x2 x5 x7 x5 z0)))))
set_option maxHeartbeats 4000000 in
set_option maxRecDepth 100000 in
theorem w_Table_nearest_9_87 {p : Program} {l : Launch} {e : Env} {R : Room} {s : State} {m : MethodId} {args : Array Value} {below : List Frame} {meth : Method} {c : Code} {Q : State → Prop} {G : GX} {A : Nat → Prop} (S : CallFix p m c cX8_nearest 9 s args GW RX8) (hE : env G A s s.heap) (hA : ∀ q, s.heap.size ≤ q → A q) (hRf : 1 ≤ R.frames) (hRl : 20 ≤ R.locals) {post : Int32 → St → Prop} (hret : RetI p l e R s m args below meth c Q 0 0 wX G A cX8_nearest post) {ih8 : Int32 → Int32 → Int32 → Int32 → Int32 → St → Prop} (h8 : ∀ (x1 : Int32) (x2 : Int32) (x3 : Int32) (x4 : Int32) (x5 : Int32) (z0 : St), ih8 x1 x2 x3 x4 x5 z0 → Xw p l e R s m args below meth c Q 0 0 wX G A z0 9 [(0, .ref (ad G 9)), (1, .int x1), (2, .int x2), (3, .int x3), (4, .int x4), (5, .int x5)] 8 []) (x1 : Int32) (x2 : Int32) (x3 : Int32) (x4 : Int32) (x5 : Int32) (x6 : Int32) (x7 : Int32) (s0 : Int32) (z0 : St) (hB : B_Table_nearest_9_87 post ih8 x1 x2 x3 x4 x5 x6 x7 s0 z0) : Xw p l e R s m args below meth c Q 0 0 wX G A z0 9 [(0, .ref (ad G 9)), (1, .int x1), (2, .int x2), (3, .int x3), (4, .int x4), (5, .int x5), (6, .int x6), (7, .int x7)] 87 [.int s0] := by
  intro H locs ls hP hD hS hl
  have hx := S.1
  have hb := S.2.1
  refine lv_istore (lv' := [(8, .int s0), (0, .ref (ad G 9)), (1, .int x1), (2, .int x2), (3, .int x3), (4, .int x4), (5, .int x5), (6, .int x6), (7, .int x7)]) hx hb dX8_nearest_87 hl (by decide) rfl (fun ls hl => ?_)
  refine lv_iload hx hb dX8_nearest_89 (lv_at hl 7 rfl) ?_
  refine lv_iload_n hx hb dX8_nearest_91 rfl (lv_at hl 3 rfl) ?_
  refine lv_icmp_gt (tgt := 107) hx hb dX8_nearest_92 (by decide) (fun c1 => ?_) (fun c1 => ?_)
  · have hB := hB.1 c1
    exact w_Table_nearest_9_107 S hE hA hRf hRl hret h8 x1 x2 x3 x4 x5 z0 hB _ _ _ hP hD hS (lv_sub hl [1, 2, 3, 4, 5, 6] rfl)
  · have hB := hB.2 c1
    refine lv_iload hx hb dX8_nearest_95 (lv_at hl 0 rfl) ?_
    refine lv_if_eq (tgt := 107) hx hb dX8_nearest_97 (by decide) (fun c2 => ?_) (fun c2 => ?_)
    · have hB := hB.1 c2
      exact w_Table_nearest_9_107 S hE hA hRf hRl hret h8 x1 x2 x3 x4 x5 z0 hB _ _ _ hP hD hS (lv_sub hl [1, 2, 3, 4, 5, 6] rfl)
    · have hB := hB.2 c2
      refine lv_iload hx hb dX8_nearest_100 (lv_at hl 6 rfl) ?_
      refine lv_istore_n (lv' := [(3, .int x5), (8, .int s0), (0, .ref (ad G 9)), (1, .int x1), (2, .int x2), (4, .int x4), (5, .int x5), (6, .int x6), (7, .int x7)]) hx hb dX8_nearest_102 rfl hl (by decide) rfl (fun ls hl => ?_)
      refine lv_iload hx hb dX8_nearest_103 (lv_at hl 8 rfl) ?_
      refine lv_istore (lv' := [(4, .int x7), (3, .int x5), (8, .int s0), (0, .ref (ad G 9)), (1, .int x1), (2, .int x2), (5, .int x5), (6, .int x6), (7, .int x7)]) hx hb dX8_nearest_105 hl (by decide) rfl (fun ls hl => ?_)
      exact w_Table_nearest_9_107 S hE hA hRf hRl hret h8 x1 x2 x5 x7 x5 z0 hB _ _ _ hP hD hS (lv_sub hl [3, 4, 5, 1, 0, 6] rfl)
def B_Table_nearest_9_82 (post : Int32 → St → Prop) (ih8 : Int32 → Int32 → Int32 → Int32 → Int32 → St → Prop) (x1 : Int32) (x2 : Int32) (x3 : Int32) (x4 : Int32) (x5 : Int32) (x6 : Int32) (x7 : Int32) (z0 : St) : Prop :=
  (B_Table_nearest_9_87 post ih8 x1 x2 x3 x4 x5 x6 x7 (1 : Int32) z0)
set_option maxHeartbeats 4000000 in
set_option maxRecDepth 100000 in
theorem w_Table_nearest_9_82 {p : Program} {l : Launch} {e : Env} {R : Room} {s : State} {m : MethodId} {args : Array Value} {below : List Frame} {meth : Method} {c : Code} {Q : State → Prop} {G : GX} {A : Nat → Prop} (S : CallFix p m c cX8_nearest 9 s args GW RX8) (hE : env G A s s.heap) (hA : ∀ q, s.heap.size ≤ q → A q) (hRf : 1 ≤ R.frames) (hRl : 20 ≤ R.locals) {post : Int32 → St → Prop} (hret : RetI p l e R s m args below meth c Q 0 0 wX G A cX8_nearest post) {ih8 : Int32 → Int32 → Int32 → Int32 → Int32 → St → Prop} (h8 : ∀ (x1 : Int32) (x2 : Int32) (x3 : Int32) (x4 : Int32) (x5 : Int32) (z0 : St), ih8 x1 x2 x3 x4 x5 z0 → Xw p l e R s m args below meth c Q 0 0 wX G A z0 9 [(0, .ref (ad G 9)), (1, .int x1), (2, .int x2), (3, .int x3), (4, .int x4), (5, .int x5)] 8 []) (x1 : Int32) (x2 : Int32) (x3 : Int32) (x4 : Int32) (x5 : Int32) (x6 : Int32) (x7 : Int32) (z0 : St) (hB : B_Table_nearest_9_82 post ih8 x1 x2 x3 x4 x5 x6 x7 z0) : Xw p l e R s m args below meth c Q 0 0 wX G A z0 9 [(0, .ref (ad G 9)), (1, .int x1), (2, .int x2), (3, .int x3), (4, .int x4), (5, .int x5), (6, .int x6), (7, .int x7)] 82 [] := by
  intro H locs ls hP hD hS hl
  have hx := S.1
  have hb := S.2.1
  refine lv_iconst (v := 1) hx hb dX8_nearest_82 (by decide) ?_
  refine lv_goto (tgt := 87) hx hb dX8_nearest_83 (by decide) ?_
  exact w_Table_nearest_9_87 S hE hA hRf hRl hret h8 x1 x2 x3 x4 x5 x6 x7 (1 : Int32) z0 hB _ _ _ hP hD hS (lv_sub hl [0, 1, 2, 3, 4, 5, 6, 7] rfl)
def B_Table_nearest_9_86 (post : Int32 → St → Prop) (ih8 : Int32 → Int32 → Int32 → Int32 → Int32 → St → Prop) (x1 : Int32) (x2 : Int32) (x3 : Int32) (x4 : Int32) (x5 : Int32) (x6 : Int32) (x7 : Int32) (z0 : St) : Prop :=
  (B_Table_nearest_9_87 post ih8 x1 x2 x3 x4 x5 x6 x7 (0 : Int32) z0)
set_option maxHeartbeats 4000000 in
set_option maxRecDepth 100000 in
theorem w_Table_nearest_9_86 {p : Program} {l : Launch} {e : Env} {R : Room} {s : State} {m : MethodId} {args : Array Value} {below : List Frame} {meth : Method} {c : Code} {Q : State → Prop} {G : GX} {A : Nat → Prop} (S : CallFix p m c cX8_nearest 9 s args GW RX8) (hE : env G A s s.heap) (hA : ∀ q, s.heap.size ≤ q → A q) (hRf : 1 ≤ R.frames) (hRl : 20 ≤ R.locals) {post : Int32 → St → Prop} (hret : RetI p l e R s m args below meth c Q 0 0 wX G A cX8_nearest post) {ih8 : Int32 → Int32 → Int32 → Int32 → Int32 → St → Prop} (h8 : ∀ (x1 : Int32) (x2 : Int32) (x3 : Int32) (x4 : Int32) (x5 : Int32) (z0 : St), ih8 x1 x2 x3 x4 x5 z0 → Xw p l e R s m args below meth c Q 0 0 wX G A z0 9 [(0, .ref (ad G 9)), (1, .int x1), (2, .int x2), (3, .int x3), (4, .int x4), (5, .int x5)] 8 []) (x1 : Int32) (x2 : Int32) (x3 : Int32) (x4 : Int32) (x5 : Int32) (x6 : Int32) (x7 : Int32) (z0 : St) (hB : B_Table_nearest_9_86 post ih8 x1 x2 x3 x4 x5 x6 x7 z0) : Xw p l e R s m args below meth c Q 0 0 wX G A z0 9 [(0, .ref (ad G 9)), (1, .int x1), (2, .int x2), (3, .int x3), (4, .int x4), (5, .int x5), (6, .int x6), (7, .int x7)] 86 [] := by
  intro H locs ls hP hD hS hl
  have hx := S.1
  have hb := S.2.1
  refine lv_iconst (v := 0) hx hb dX8_nearest_86 (by decide) ?_
  exact w_Table_nearest_9_87 S hE hA hRf hRl hret h8 x1 x2 x3 x4 x5 x6 x7 (0 : Int32) z0 hB _ _ _ hP hD hS (lv_sub hl [0, 1, 2, 3, 4, 5, 6, 7] rfl)
def B_Table_nearest_9_8 (post : Int32 → St → Prop) (ih8 : Int32 → Int32 → Int32 → Int32 → Int32 → St → Prop) (x1 : Int32) (x2 : Int32) (x3 : Int32) (x4 : Int32) (x5 : Int32) (z0 : St) : Prop :=
  (((gI z0 26) ≤ x5 → (post x3 z0)) ∧ (¬ (gI z0 26) ≤ x5 → (vp_in ((22 : Int32) + x5) 28 ∧ (∀ v2 : Int32, v2 = (gA z0 24 ((22 : Int32) + x5).toNatClampNeg) → (vp_in x5 6 ∧ (S_Math_abs_0f7a4_X (fun (r3 : Int32) (z1 : St) => ((x3 = (-1 : Int32) → (B_Table_nearest_9_82 post ih8 x1 x2 x3 x4 x5 v2 r3 z1)) ∧ (¬ x3 = (-1 : Int32) → ((r3 < x4 → (B_Table_nearest_9_82 post ih8 x1 x2 x3 x4 x5 v2 r3 z1)) ∧ (¬ r3 < x4 → ((r3 = x4 → (vp_in ((22 : Int32) + x3) 28 ∧ (((gA z1 24 ((22 : Int32) + x3).toNatClampNeg) ≤ v2 → (B_Table_nearest_9_86 post ih8 x1 x2 x3 x4 x5 v2 r3 z1)) ∧ (¬ (gA z1 24 ((22 : Int32) + x3).toNatClampNeg) ≤ v2 → (B_Table_nearest_9_82 post ih8 x1 x2 x3 x4 x5 v2 r3 z1))))) ∧ (¬ r3 = x4 → (B_Table_nearest_9_86 post ih8 x1 x2 x3 x4 x5 v2 r3 z1)))))))) ((gA z0 18 x5.toNatClampNeg) - x1) z0))))))
set_option maxHeartbeats 4000000 in
set_option maxRecDepth 100000 in
theorem w_Table_nearest_9_8 {p : Program} {l : Launch} {e : Env} {R : Room} {s : State} {m : MethodId} {args : Array Value} {below : List Frame} {meth : Method} {c : Code} {Q : State → Prop} {G : GX} {A : Nat → Prop} (S : CallFix p m c cX8_nearest 9 s args GW RX8) (hE : env G A s s.heap) (hA : ∀ q, s.heap.size ≤ q → A q) (hRf : 1 ≤ R.frames) (hRl : 20 ≤ R.locals) {post : Int32 → St → Prop} (hret : RetI p l e R s m args below meth c Q 0 0 wX G A cX8_nearest post) {ih8 : Int32 → Int32 → Int32 → Int32 → Int32 → St → Prop} (h8 : ∀ (x1 : Int32) (x2 : Int32) (x3 : Int32) (x4 : Int32) (x5 : Int32) (z0 : St), ih8 x1 x2 x3 x4 x5 z0 → Xw p l e R s m args below meth c Q 0 0 wX G A z0 9 [(0, .ref (ad G 9)), (1, .int x1), (2, .int x2), (3, .int x3), (4, .int x4), (5, .int x5)] 8 []) (x1 : Int32) (x2 : Int32) (x3 : Int32) (x4 : Int32) (x5 : Int32) (z0 : St) (hB : B_Table_nearest_9_8 post ih8 x1 x2 x3 x4 x5 z0) : Xw p l e R s m args below meth c Q 0 0 wX G A z0 9 [(0, .ref (ad G 9)), (1, .int x1), (2, .int x2), (3, .int x3), (4, .int x4), (5, .int x5)] 8 [] := by
  intro H locs ls hP hD hS hl
  have hx := S.1
  have hb := S.2.1
  refine lv_iload hx hb dX8_nearest_8 (lv_at hl 5 rfl) ?_
  refine lv_aload_n hx hb dX8_nearest_10 rfl (lv_at hl 0 rfl) ?_
  refine xXg_9_house S hE hP lk_X8_15 dX8_nearest_11 ?_
  refine xXg_6_drinks S hE hP lk_X8_35 dX8_nearest_14 ?_
  refine lv_icmp_ge (tgt := 113) hx hb dX8_nearest_17 (by decide) (fun c1 => ?_) (fun c1 => ?_)
  · have hB := hB.1 c1
    refine lv_iload_n hx hb dX8_nearest_113 rfl (lv_at hl 3 rfl) ?_
    exact hret _ _ _ _ _ _ dX8_nearest_114 hB hP hD hS
  · have hB := hB.2 c1
    refine lv_aload_n hx hb dX8_nearest_20 rfl (lv_at hl 0 rfl) ?_
    refine xXg_9_cells S hE hP lk_X8_11 dX8_nearest_21 ?_
    refine lv_bipush (v := 22) hx hb dX8_nearest_24 (by decide) ?_
    refine lv_iload hx hb dX8_nearest_26 (lv_at hl 5 rfl) ?_
    refine lv_iadd hx hb dX8_nearest_28 ?_
    obtain ⟨hi, hB⟩ := hB
    refine xXl_24 S hE hP hi dX8_nearest_29 ?_
    refine lv_topi (fun v2 ev2 => ?_)
    have hB := hB v2 ev2
    refine lv_istore (lv' := [(6, .int v2), (0, .ref (ad G 9)), (1, .int x1), (2, .int x2), (3, .int x3), (4, .int x4), (5, .int x5)]) hx hb dX8_nearest_30 hl (by decide) rfl (fun ls hl => ?_)
    refine lv_aload_n hx hb dX8_nearest_32 rfl (lv_at hl 1 rfl) ?_
    refine xXg_9_house S hE hP lk_X8_15 dX8_nearest_33 ?_
    refine xXg_6_quality S hE hP lk_X8_113 dX8_nearest_36 ?_
    refine lv_iload hx hb dX8_nearest_39 (lv_at hl 6 rfl) ?_
    obtain ⟨hi, hB⟩ := hB
    refine xXl_18 S hE hP hi dX8_nearest_41 ?_
    refine lv_iload_n hx hb dX8_nearest_42 rfl (lv_at hl 2 rfl) ?_
    refine lv_isub hx hb dX8_nearest_43 ?_
    refine xcSi [.int ((gA z0 18 x5.toNatClampNeg) - x1)] S hE hA hP hD hS (c_Math_abs_0f7a4_X l G z0 H.size ((gA z0 18 x5.toNatClampNeg) - x1) _) hB (gw_c lk_X8_134 (gw_c wt_J9_abs_0f7a4 (gw_c wn_J9 (gw_c wc_J9_abs_0f7a4 (fun _ h9 => h9))))) hs_J9_abs_0f7a4 rfl rfl (Nat.le_trans (Nat.le_of_ble_eq_true rfl) hRf) (Nat.le_trans (Nat.le_of_ble_eq_true rfl) hRl) ⟨Nat.zero_le _, Nat.zero_le _⟩ rfl hl.1 rfl (Nat.le_of_ble_eq_true rfl) dX8_nearest_44 (fun r3 z1 H locs hB hP hD hS => ?_)
    refine lv_istore (lv' := [(7, .int r3), (6, .int v2), (0, .ref (ad G 9)), (1, .int x1), (2, .int x2), (3, .int x3), (4, .int x4), (5, .int x5)]) hx hb dX8_nearest_47 hl (by decide) rfl (fun ls hl => ?_)
    refine lv_iload_n hx hb dX8_nearest_49 rfl (lv_at hl 5 rfl) ?_
    refine lv_iconst (v := -1) hx hb dX8_nearest_50 (by decide) ?_
    refine lv_icmp_eq (tgt := 82) hx hb dX8_nearest_51 (by decide) (fun c4 => ?_) (fun c4 => ?_)
    · have hB := hB.1 c4
      exact w_Table_nearest_9_82 S hE hA hRf hRl hret h8 x1 x2 x3 x4 x5 v2 r3 z1 hB _ _ _ hP hD hS (lv_sub hl [2, 3, 4, 5, 6, 7, 1, 0] rfl)
    · have hB := hB.2 c4
      refine lv_iload hx hb dX8_nearest_54 (lv_at hl 0 rfl) ?_
      refine lv_iload hx hb dX8_nearest_56 (lv_at hl 6 rfl) ?_
      refine lv_icmp_lt (tgt := 82) hx hb dX8_nearest_58 (by decide) (fun c5 => ?_) (fun c5 => ?_)
      · have hB := hB.1 c5
        exact w_Table_nearest_9_82 S hE hA hRf hRl hret h8 x1 x2 x3 x4 x5 v2 r3 z1 hB _ _ _ hP hD hS (lv_sub hl [2, 3, 4, 5, 6, 7, 1, 0] rfl)
      · have hB := hB.2 c5
        refine lv_iload hx hb dX8_nearest_61 (lv_at hl 0 rfl) ?_
        refine lv_iload hx hb dX8_nearest_63 (lv_at hl 6 rfl) ?_
        refine lv_icmp_ne (tgt := 86) hx hb dX8_nearest_65 (by decide) (fun c6 => ?_) (fun c6 => ?_)
        · have hB := hB.2 c6
          exact w_Table_nearest_9_86 S hE hA hRf hRl hret h8 x1 x2 x3 x4 x5 v2 r3 z1 hB _ _ _ hP hD hS (lv_sub hl [2, 3, 4, 5, 6, 7, 1, 0] rfl)
        · have hB := hB.1 c6
          refine lv_iload hx hb dX8_nearest_68 (lv_at hl 1 rfl) ?_
          refine lv_aload_n hx hb dX8_nearest_70 rfl (lv_at hl 2 rfl) ?_
          refine xXg_9_cells S hE hP lk_X8_11 dX8_nearest_71 ?_
          refine lv_bipush (v := 22) hx hb dX8_nearest_74 (by decide) ?_
          refine lv_iload_n hx hb dX8_nearest_76 rfl (lv_at hl 5 rfl) ?_
          refine lv_iadd hx hb dX8_nearest_77 ?_
          obtain ⟨hi, hB⟩ := hB
          refine xXl_24 S hE hP hi dX8_nearest_78 ?_
          refine lv_icmp_ge (tgt := 86) hx hb dX8_nearest_79 (by decide) (fun c7 => ?_) (fun c7 => ?_)
          · have hB := hB.1 c7
            exact w_Table_nearest_9_86 S hE hA hRf hRl hret h8 x1 x2 x3 x4 x5 v2 r3 z1 hB _ _ _ hP hD hS (lv_sub hl [2, 3, 4, 5, 6, 7, 1, 0] rfl)
          · have hB := hB.2 c7
            exact w_Table_nearest_9_82 S hE hA hRf hRl hret h8 x1 x2 x3 x4 x5 v2 r3 z1 hB _ _ _ hP hD hS (lv_sub hl [2, 3, 4, 5, 6, 7, 1, 0] rfl)
def L_Table_nearest_9_8 (post : Int32 → St → Prop) : Nat → Int32 → Int32 → Int32 → Int32 → Int32 → St → Prop
  | 0 => fun _ _ _ _ _ _ => False
  | n + 1 => B_Table_nearest_9_8 post (L_Table_nearest_9_8 post n)
theorem wl_Table_nearest_9_8 {p : Program} {l : Launch} {e : Env} {R : Room} {s : State} {m : MethodId} {args : Array Value} {below : List Frame} {meth : Method} {c : Code} {Q : State → Prop} {G : GX} {A : Nat → Prop} (S : CallFix p m c cX8_nearest 9 s args GW RX8) (hE : env G A s s.heap) (hA : ∀ q, s.heap.size ≤ q → A q) (hRf : 1 ≤ R.frames) (hRl : 20 ≤ R.locals) {post : Int32 → St → Prop} (hret : RetI p l e R s m args below meth c Q 0 0 wX G A cX8_nearest post) : ∀ (n : Nat) (x1 : Int32) (x2 : Int32) (x3 : Int32) (x4 : Int32) (x5 : Int32) (z0 : St), L_Table_nearest_9_8 post n x1 x2 x3 x4 x5 z0 → Xw p l e R s m args below meth c Q 0 0 wX G A z0 9 [(0, .ref (ad G 9)), (1, .int x1), (2, .int x2), (3, .int x3), (4, .int x4), (5, .int x5)] 8 [] := by
  intro n
  induction n with
  | zero => intro x1 x2 x3 x4 x5 z0 hB; exact absurd hB id
  | succ n ih => exact fun x1 x2 x3 x4 x5 z0 hB => w_Table_nearest_9_8 S hE hA hRf hRl hret ih x1 x2 x3 x4 x5 z0 hB
def S_Table_nearest_9 (post : Int32 → St → Prop) (x1 : Int32) (x2 : Int32) (z0 : St) : Prop :=
  (∃ n1, L_Table_nearest_9_8 post n1 x1 x2 (-1 : Int32) (0 : Int32) (0 : Int32) z0)
set_option maxHeartbeats 4000000 in
set_option maxRecDepth 100000 in
theorem w_Table_nearest_9_0 {p : Program} {l : Launch} {e : Env} {R : Room} {s : State} {m : MethodId} {args : Array Value} {below : List Frame} {meth : Method} {c : Code} {Q : State → Prop} {G : GX} {A : Nat → Prop} (S : CallFix p m c cX8_nearest 9 s args GW RX8) (hE : env G A s s.heap) (hA : ∀ q, s.heap.size ≤ q → A q) (hRf : 1 ≤ R.frames) (hRl : 20 ≤ R.locals) {post : Int32 → St → Prop} (hret : RetI p l e R s m args below meth c Q 0 0 wX G A cX8_nearest post) (x1 : Int32) (x2 : Int32) (z0 : St) (hB : S_Table_nearest_9 post x1 x2 z0) : Xw p l e R s m args below meth c Q 0 0 wX G A z0 9 [(0, .ref (ad G 9)), (1, .int x1), (2, .int x2)] 0 [] := by
  intro H locs ls hP hD hS hl
  have hx := S.1
  have hb := S.2.1
  refine lv_iconst (v := -1) hx hb dX8_nearest_0 (by decide) ?_
  refine lv_istore_n (lv' := [(3, .int (-1 : Int32)), (0, .ref (ad G 9)), (1, .int x1), (2, .int x2)]) hx hb dX8_nearest_1 rfl hl (by decide) rfl (fun ls hl => ?_)
  refine lv_iconst (v := 0) hx hb dX8_nearest_2 (by decide) ?_
  refine lv_istore (lv' := [(4, .int (0 : Int32)), (3, .int (-1 : Int32)), (0, .ref (ad G 9)), (1, .int x1), (2, .int x2)]) hx hb dX8_nearest_3 hl (by decide) rfl (fun ls hl => ?_)
  refine lv_iconst (v := 0) hx hb dX8_nearest_5 (by decide) ?_
  refine lv_istore (lv' := [(5, .int (0 : Int32)), (4, .int (0 : Int32)), (3, .int (-1 : Int32)), (0, .ref (ad G 9)), (1, .int x1), (2, .int x2)]) hx hb dX8_nearest_6 hl (by decide) rfl (fun ls hl => ?_)
  obtain ⟨n1, hB⟩ := hB
  exact wl_Table_nearest_9_8 S hE hA hRf hRl hret n1 x1 x2 (-1 : Int32) (0 : Int32) (0 : Int32) z0 hB _ _ _ hP hD hS (lv_sub hl [3, 4, 5, 2, 1, 0] rfl)
set_option maxHeartbeats 4000000 in
set_option maxRecDepth 100000 in
theorem c_Table_nearest_9 (l : Launch) (G : GX) (z0 : St) (sz : Nat) (x1 : Int32) (x2 : Int32) (post : Int32 → St → Prop) : MetI l wX yX8_nearest cX8_nearest 9 (some .int) ({ frames := 1, cells := 0, slots := 0, locals := 20 }) [.ref (ad G 9), .int x1, .int x2] G z0 sz (S_Table_nearest_9 post x1 x2 z0) post := by
  refine Met.ofW (cc := cX8_nearest) (maxL := 9) (ret := (some .int)) (by decide) rfl ?_
  intro p e s m args below meth c s₁ B hml hv
  obtain ⟨rfl, hsz, hP, hD0, hE, hB⟩ := hv
  have S : CallFix p m c cX8_nearest 9 s _ GW RX8 := ⟨B.exec, B.bytes, hml, findClass_of_methodNamed B.named, fun w h => atoms_spec (ws := Cond.code yX8_nearest cX8_nearest 9 (some .int) :: GW) B.pre w (List.mem_cons_of_mem _ h)⟩
  have hlocks := B.notSynchronized
  subst hsz
  have hD := hD0.self (sz := s.heap.size)
  generalize hAe : va_A (wX G z0) s.heap.size = A at hD hE ⊢
  have hA : ∀ q : Nat, s.heap.size ≤ q → A q := fun q h => by rw [← hAe]; exact Or.inr h
  have hS : va_S A s.heap s.heap [] := va_S.rf
  have hl := lv_entry ([.ref (ad G 9), .int x1, .int x2]) (n := 9) (Nat.le_of_ble_eq_true rfl)
  rw [lg_entry_eq]
  generalize (lg_sl ([.ref (ad G 9), .int x1, .int x2]) ++ List.replicate (9 - (lg_sl ([.ref (ad G 9), .int x1, .int x2])).length) Slot.unset).toArray = ls at hl ⊢
  have hl : lv_has ls 9 [(0, .ref (ad G 9)), (1, .int x1), (2, .int x2)] := hl
  refine w_Table_nearest_9_0 S hE hA (Nat.le_refl _) (Nat.le_refl _) ?_ x1 x2 z0 hB _ _ _ hP hD hS hl
  intro pc ls r σ H locs hd hp hP hD hS
  exact W.iret (v := r) B.exec B.bytes B.returns (fun t ht hW => ⟨⟨r, σ, rfl, hp, by rw [ht]; exact hP, hD⟩, hS.F ht⟩) hS.2.2 hd
def B_Table_brings_9_71 (post : Int32 → St → Prop) (x3 : Int32) (x4 : Int32) (x5 : Int32) (s0 : Int32) (s1 : Int32) (s2 : Int32) (z0 : St) : Prop :=
  (vp_in ((22 : Int32) + x5) 28 ∧ (S_Laws_hear (fun (z1 : St) => (S_Laws_worth (fun (r1 : Int32) (z2 : St) => (S_Math_min_7cf53_X (fun (r2 : Int32) (z3 : St) => (S_Math_max_7cf53_X (fun (r3 : Int32) (z4 : St) => (S_Table_nearest_9 (fun (r4 : Int32) (z5 : St) => (post r4 z5)) r3 x3 z4)) (0 : Int32) r2 z3)) (9 : Int32) r1 z2)) z1)) s2 s1 s0 x3 x4 (gA z0 24 ((22 : Int32) + x5).toNatClampNeg) z0))
set_option maxHeartbeats 4000000 in
set_option maxRecDepth 100000 in
theorem w_Table_brings_9_71 {p : Program} {l : Launch} {e : Env} {R : Room} {s : State} {m : MethodId} {args : Array Value} {below : List Frame} {meth : Method} {c : Code} {Q : State → Prop} {G : GX} {A : Nat → Prop} (S : CallFix p m c cX8_brings 8 s args GW RX8) (hE : env G A s s.heap) (hA : ∀ q, s.heap.size ≤ q → A q) (hRf : 2 ≤ R.frames) (hRl : 49 ≤ R.locals) {post : Int32 → St → Prop} (hret : RetI p l e R s m args below meth c Q 0 0 wX G A cX8_brings post) (x3 : Int32) (x4 : Int32) (x5 : Int32) (s0 : Int32) (s1 : Int32) (s2 : Int32) (z0 : St) (hB : B_Table_brings_9_71 post x3 x4 x5 s0 s1 s2 z0) : Xw p l e R s m args below meth c Q 0 0 wX G A z0 8 [(0, .ref (ad G 9)), (3, .int x3), (4, .int x4), (5, .int x5)] 71 [.int s0, .int s1, .int s2, .ref (ad G 7)] := by
  intro H locs ls hP hD hS hl
  have hx := S.1
  have hb := S.2.1
  refine lv_iload_n hx hb dX8_brings_71 rfl (lv_at hl 1 rfl) ?_
  refine lv_iload hx hb dX8_brings_72 (lv_at hl 2 rfl) ?_
  refine lv_aload_n hx hb dX8_brings_74 rfl (lv_at hl 0 rfl) ?_
  refine xXg_9_cells S hE hP lk_X8_11 dX8_brings_75 ?_
  refine lv_bipush (v := 22) hx hb dX8_brings_78 (by decide) ?_
  refine lv_iload hx hb dX8_brings_80 (lv_at hl 3 rfl) ?_
  refine lv_iadd hx hb dX8_brings_82 ?_
  obtain ⟨hi, hB⟩ := hB
  refine xXl_24 S hE hP hi dX8_brings_83 ?_
  refine xcVv [.int s2, .int s1, .int s0, .int x3, .int x4, .int (gA z0 24 ((22 : Int32) + x5).toNatClampNeg)] S hE hA hP hD hS (c_Laws_hear l G z0 H.size s2 s1 s0 x3 x4 (gA z0 24 ((22 : Int32) + x5).toNatClampNeg) _) hB (gw_c lk_X8_124 (gw_c wi_X3_hear (gw_c we_X3_X3_hear_X3_hear (gw_c wn_X3 (gw_c wc_X3_hear (fun _ h9 => h9)))))) hd_X3_hear rfl rfl (Nat.le_trans (Nat.le_of_ble_eq_true rfl) hRf) (Nat.le_trans (Nat.le_of_ble_eq_true rfl) hRl) ⟨Nat.zero_le _, Nat.zero_le _⟩ (va_recv hE.1 hP (ci := 3) (q0 := 7) rfl rfl) rfl hl.1 rfl (Nat.le_of_ble_eq_true rfl) dX8_brings_84 (fun z1 H locs hB hP hD hS => ?_)
  refine lv_aload_n hx hb dX8_brings_87 rfl (lv_at hl 0 rfl) ?_
  refine lv_iconst (v := 0) hx hb dX8_brings_88 (by decide) ?_
  refine lv_bipush (v := 9) hx hb dX8_brings_89 (by decide) ?_
  refine lv_aload_n hx hb dX8_brings_91 rfl (lv_at hl 0 rfl) ?_
  refine xXg_9_laws S hE hP lk_X8_19 dX8_brings_92 ?_
  refine xcVi [] S hE hA hP hD hS (c_Laws_worth l G z1 H.size _) hB (gw_c lk_X8_128 (gw_c wi_X3_worth (gw_c we_X3_X3_worth_X3_worth (gw_c wn_X3 (gw_c wc_X3_worth (fun _ h9 => h9)))))) hd_X3_worth rfl rfl (Nat.le_trans (Nat.le_of_ble_eq_true rfl) hRf) (Nat.le_trans (Nat.le_of_ble_eq_true rfl) hRl) ⟨Nat.zero_le _, Nat.zero_le _⟩ (va_recv hE.1 hP (ci := 3) (q0 := 7) rfl rfl) rfl hl.1 rfl (Nat.le_of_ble_eq_true rfl) dX8_brings_95 (fun r1 z2 H locs hB hP hD hS => ?_)
  refine xcSi [.int (9 : Int32), .int r1] S hE hA hP hD hS (c_Math_min_7cf53_X l G z2 H.size (9 : Int32) r1 _) hB (gw_c lk_X8_60 (gw_c wt_J9_min_7cf53 (gw_c wn_J9 (gw_c wc_J9_min_7cf53 (fun _ h9 => h9))))) hs_J9_min_7cf53 rfl rfl (Nat.le_trans (Nat.le_of_ble_eq_true rfl) hRf) (Nat.le_trans (Nat.le_of_ble_eq_true rfl) hRl) ⟨Nat.zero_le _, Nat.zero_le _⟩ rfl hl.1 rfl (Nat.le_of_ble_eq_true rfl) dX8_brings_98 (fun r2 z3 H locs hB hP hD hS => ?_)
  refine xcSi [.int (0 : Int32), .int r2] S hE hA hP hD hS (c_Math_max_7cf53_X l G z3 H.size (0 : Int32) r2 _) hB (gw_c lk_X8_131 (gw_c wt_J9_max_7cf53 (gw_c wn_J9 (gw_c wc_J9_max_7cf53 (fun _ h9 => h9))))) hs_J9_max_7cf53 rfl rfl (Nat.le_trans (Nat.le_of_ble_eq_true rfl) hRf) (Nat.le_trans (Nat.le_of_ble_eq_true rfl) hRl) ⟨Nat.zero_le _, Nat.zero_le _⟩ rfl hl.1 rfl (Nat.le_of_ble_eq_true rfl) dX8_brings_101 (fun r3 z4 H locs hB hP hD hS => ?_)
  refine lv_iload_n hx hb dX8_brings_104 rfl (lv_at hl 1 rfl) ?_
  refine xcVi [.int r3, .int x3] S hE hA hP hD hS (c_Table_nearest_9 l G z4 H.size r3 x3 _) hB (gw_c lk_X8_121 (gw_c wi_X8_nearest (gw_c we_X8_X8_nearest_X8_nearest (gw_c wn_X8 (gw_c wc_X8_nearest (fun _ h9 => h9)))))) hd_X8_nearest rfl rfl (Nat.le_trans (Nat.le_of_ble_eq_true rfl) hRf) (Nat.le_trans (Nat.le_of_ble_eq_true rfl) hRl) ⟨Nat.zero_le _, Nat.zero_le _⟩ (va_recv hE.1 hP (ci := 7) (q0 := 9) rfl rfl) rfl hl.1 rfl (Nat.le_of_ble_eq_true rfl) dX8_brings_105 (fun r4 z5 H locs hB hP hD hS => ?_)
  exact hret _ _ _ _ _ _ dX8_brings_108 hB hP hD hS
def S_Table_brings_9 (post : Int32 → St → Prop) (x1 : Int32) (x2 : Int32) (x3 : Int32) (x4 : Int32) (x5 : Int32) (z0 : St) : Prop :=
  (vp_in x5 6 ∧ (∀ v1 : Int32, v1 = (gA z0 18 x5.toNatClampNeg) → (S_House_joyBy (fun (r2 : Int32) (z1 : St) => (S_Table_moodBehind (fun (r3 : Int32) (z2 : St) => (((gI z2 31) = (-1 : Int32) → (S_Table_nearest_9 (fun (r6 : Int32) (z3 : St) => (post r6 z3)) ((v1 + r3) / (2 : Int32)) x3 z2)) ∧ (¬ (gI z2 31) = (-1 : Int32) → ((x1 = x5 → (B_Table_brings_9_71 post x3 x4 x5 (1 : Int32) r3 v1 z2)) ∧ (¬ x1 = x5 → (B_Table_brings_9_71 post x3 x4 x5 (0 : Int32) r3 v1 z2)))))) x2 r2 z1)) x1 x5 z0)))
set_option maxHeartbeats 4000000 in
set_option maxRecDepth 100000 in
theorem w_Table_brings_9_0 {p : Program} {l : Launch} {e : Env} {R : Room} {s : State} {m : MethodId} {args : Array Value} {below : List Frame} {meth : Method} {c : Code} {Q : State → Prop} {G : GX} {A : Nat → Prop} (S : CallFix p m c cX8_brings 8 s args GW RX8) (hE : env G A s s.heap) (hA : ∀ q, s.heap.size ≤ q → A q) (hRf : 2 ≤ R.frames) (hRl : 49 ≤ R.locals) {post : Int32 → St → Prop} (hret : RetI p l e R s m args below meth c Q 0 0 wX G A cX8_brings post) (x1 : Int32) (x2 : Int32) (x3 : Int32) (x4 : Int32) (x5 : Int32) (z0 : St) (hB : S_Table_brings_9 post x1 x2 x3 x4 x5 z0) : Xw p l e R s m args below meth c Q 0 0 wX G A z0 8 [(0, .ref (ad G 9)), (1, .int x1), (2, .int x2), (3, .int x3), (4, .int x4), (5, .int x5)] 0 [] := by
  intro H locs ls hP hD hS hl
  have hx := S.1
  have hb := S.2.1
  refine lv_aload_n hx hb dX8_brings_0 rfl (lv_at hl 0 rfl) ?_
  refine xXg_9_house S hE hP lk_X8_15 dX8_brings_1 ?_
  refine xXg_6_quality S hE hP lk_X8_113 dX8_brings_4 ?_
  refine lv_iload hx hb dX8_brings_7 (lv_at hl 5 rfl) ?_
  obtain ⟨hi, hB⟩ := hB
  refine xXl_18 S hE hP hi dX8_brings_9 ?_
  refine lv_topi (fun v1 ev1 => ?_)
  have hB := hB v1 ev1
  refine lv_istore (lv' := [(6, .int v1), (0, .ref (ad G 9)), (1, .int x1), (2, .int x2), (3, .int x3), (4, .int x4), (5, .int x5)]) hx hb dX8_brings_10 hl (by decide) rfl (fun ls hl => ?_)
  refine lv_iload_n hx hb dX8_brings_12 rfl (lv_at hl 3 rfl) ?_
  refine lv_aload_n hx hb dX8_brings_13 rfl (lv_at hl 1 rfl) ?_
  refine xXg_9_house S hE hP lk_X8_15 dX8_brings_14 ?_
  refine lv_iload_n hx hb dX8_brings_17 rfl (lv_at hl 2 rfl) ?_
  refine lv_iload hx hb dX8_brings_18 (lv_at hl 6 rfl) ?_
  refine xcVi [.int x1, .int x5] S hE hA hP hD hS (c_House_joyBy l G z0 H.size x1 x5 _) hB (gw_c lk_X8_100 (gw_c wi_X0_joyBy (gw_c we_X0_X0_joyBy_X0_joyBy (gw_c wn_X0 (gw_c wc_X0_joyBy (fun _ h9 => h9)))))) hd_X0_joyBy rfl rfl (Nat.le_trans (Nat.le_of_ble_eq_true rfl) hRf) (Nat.le_trans (Nat.le_of_ble_eq_true rfl) hRl) ⟨Nat.zero_le _, Nat.zero_le _⟩ (va_recv hE.1 hP (ci := 0) (q0 := 6) rfl rfl) rfl hl.1 rfl (Nat.le_of_ble_eq_true rfl) dX8_brings_20 (fun r2 z1 H locs hB hP hD hS => ?_)
  refine xcSi [.int x2, .int r2] S hE hA hP hD hS (c_Table_moodBehind l G z1 H.size x2 r2 _) hB (gw_c lk_X8_107 (gw_c wt_X8_moodBehind (gw_c wn_X8 (gw_c wc_X8_moodBehind (fun _ h9 => h9))))) hs_X8_moodBehind rfl rfl (Nat.le_trans (Nat.le_of_ble_eq_true rfl) hRf) (Nat.le_trans (Nat.le_of_ble_eq_true rfl) hRl) ⟨Nat.zero_le _, Nat.zero_le _⟩ rfl hl.1 rfl (Nat.le_of_ble_eq_true rfl) dX8_brings_23 (fun r3 z2 H locs hB hP hD hS => ?_)
  refine lv_istore (lv' := [(7, .int r3), (6, .int v1), (0, .ref (ad G 9)), (1, .int x1), (2, .int x2), (3, .int x3), (4, .int x4), (5, .int x5)]) hx hb dX8_brings_26 hl (by decide) rfl (fun ls hl => ?_)
  refine lv_aload_n hx hb dX8_brings_28 rfl (lv_at hl 2 rfl) ?_
  refine xXg_9_laws S hE hP lk_X8_19 dX8_brings_29 ?_
  refine xXg_7_holding S hE hP lk_X8_116 dX8_brings_32 ?_
  refine lv_iconst (v := -1) hx hb dX8_brings_35 (by decide) ?_
  refine lv_icmp_ne (tgt := 52) hx hb dX8_brings_36 (by decide) (fun c4 => ?_) (fun c4 => ?_)
  · have hB := hB.2 c4
    refine lv_aload_n hx hb dX8_brings_52 rfl (lv_at hl 2 rfl) ?_
    refine xXg_9_laws S hE hP lk_X8_19 dX8_brings_53 ?_
    refine lv_iload hx hb dX8_brings_56 (lv_at hl 1 rfl) ?_
    refine lv_iload hx hb dX8_brings_58 (lv_at hl 0 rfl) ?_
    refine lv_iload_n hx hb dX8_brings_60 rfl (lv_at hl 3 rfl) ?_
    refine lv_iload hx hb dX8_brings_61 (lv_at hl 7 rfl) ?_
    refine lv_icmp_ne (tgt := 70) hx hb dX8_brings_63 (by decide) (fun c5 => ?_) (fun c5 => ?_)
    · have hB := hB.2 c5
      refine lv_iconst (v := 0) hx hb dX8_brings_70 (by decide) ?_
      exact w_Table_brings_9_71 S hE hA hRf hRl hret x3 x4 x5 (0 : Int32) r3 v1 z2 hB _ _ _ hP hD hS (lv_sub hl [2, 5, 6, 7] rfl)
    · have hB := hB.1 c5
      refine lv_iconst (v := 1) hx hb dX8_brings_66 (by decide) ?_
      refine lv_goto (tgt := 71) hx hb dX8_brings_67 (by decide) ?_
      exact w_Table_brings_9_71 S hE hA hRf hRl hret x3 x4 x5 (1 : Int32) r3 v1 z2 hB _ _ _ hP hD hS (lv_sub hl [2, 5, 6, 7] rfl)
  · have hB := hB.1 c4
    refine lv_aload_n hx hb dX8_brings_39 rfl (lv_at hl 2 rfl) ?_
    refine lv_iload hx hb dX8_brings_40 (lv_at hl 1 rfl) ?_
    refine lv_iload hx hb dX8_brings_42 (lv_at hl 0 rfl) ?_
    refine lv_iadd hx hb dX8_brings_44 ?_
    refine lv_iconst (v := 2) hx hb dX8_brings_45 (by decide) ?_
    refine lv_idiv hx hb dX8_brings_46 (by decide) ?_
    refine lv_iload_n hx hb dX8_brings_47 rfl (lv_at hl 5 rfl) ?_
    refine xcVi [.int ((v1 + r3) / (2 : Int32)), .int x3] S hE hA hP hD hS (c_Table_nearest_9 l G z2 H.size ((v1 + r3) / (2 : Int32)) x3 _) hB (gw_c lk_X8_121 (gw_c wi_X8_nearest (gw_c we_X8_X8_nearest_X8_nearest (gw_c wn_X8 (gw_c wc_X8_nearest (fun _ h9 => h9)))))) hd_X8_nearest rfl rfl (Nat.le_trans (Nat.le_of_ble_eq_true rfl) hRf) (Nat.le_trans (Nat.le_of_ble_eq_true rfl) hRl) ⟨Nat.zero_le _, Nat.zero_le _⟩ (va_recv hE.1 hP (ci := 7) (q0 := 9) rfl rfl) rfl hl.1 rfl (Nat.le_of_ble_eq_true rfl) dX8_brings_48 (fun r6 z3 H locs hB hP hD hS => ?_)
    exact hret _ _ _ _ _ _ dX8_brings_51 hB hP hD hS
set_option maxHeartbeats 4000000 in
set_option maxRecDepth 100000 in
theorem c_Table_brings_9 (l : Launch) (G : GX) (z0 : St) (sz : Nat) (x1 : Int32) (x2 : Int32) (x3 : Int32) (x4 : Int32) (x5 : Int32) (post : Int32 → St → Prop) : MetI l wX yX8_brings cX8_brings 8 (some .int) ({ frames := 2, cells := 0, slots := 0, locals := 49 }) [.ref (ad G 9), .int x1, .int x2, .int x3, .int x4, .int x5] G z0 sz (S_Table_brings_9 post x1 x2 x3 x4 x5 z0) post := by
  refine Met.ofW (cc := cX8_brings) (maxL := 8) (ret := (some .int)) (by decide) rfl ?_
  intro p e s m args below meth c s₁ B hml hv
  obtain ⟨rfl, hsz, hP, hD0, hE, hB⟩ := hv
  have S : CallFix p m c cX8_brings 8 s _ GW RX8 := ⟨B.exec, B.bytes, hml, findClass_of_methodNamed B.named, fun w h => atoms_spec (ws := Cond.code yX8_brings cX8_brings 8 (some .int) :: GW) B.pre w (List.mem_cons_of_mem _ h)⟩
  have hlocks := B.notSynchronized
  subst hsz
  have hD := hD0.self (sz := s.heap.size)
  generalize hAe : va_A (wX G z0) s.heap.size = A at hD hE ⊢
  have hA : ∀ q : Nat, s.heap.size ≤ q → A q := fun q h => by rw [← hAe]; exact Or.inr h
  have hS : va_S A s.heap s.heap [] := va_S.rf
  have hl := lv_entry ([.ref (ad G 9), .int x1, .int x2, .int x3, .int x4, .int x5]) (n := 8) (Nat.le_of_ble_eq_true rfl)
  rw [lg_entry_eq]
  generalize (lg_sl ([.ref (ad G 9), .int x1, .int x2, .int x3, .int x4, .int x5]) ++ List.replicate (8 - (lg_sl ([.ref (ad G 9), .int x1, .int x2, .int x3, .int x4, .int x5])).length) Slot.unset).toArray = ls at hl ⊢
  have hl : lv_has ls 8 [(0, .ref (ad G 9)), (1, .int x1), (2, .int x2), (3, .int x3), (4, .int x4), (5, .int x5)] := hl
  refine w_Table_brings_9_0 S hE hA (Nat.le_refl _) (Nat.le_refl _) ?_ x1 x2 x3 x4 x5 z0 hB _ _ _ hP hD hS hl
  intro pc ls r σ H locs hd hp hP hD hS
  exact W.iret (v := r) B.exec B.bytes B.returns (fun t ht hW => ⟨⟨r, σ, rfl, hp, by rw [ht]; exact hP, hD⟩, hS.F ht⟩) hS.2.2 hd
def S_Table_receive_9 (post : Int32 → St → Prop) (x1 : Int32) (z0 : St) : Prop :=
  (vp_in x1 6 ∧ (∀ v1 : Int32, v1 = (gA z0 19 x1.toNatClampNeg) → (vp_in ((10 : Int32) + x1) 28 ∧ (∀ v2 : Int32, v2 = (gA z0 24 ((10 : Int32) + x1).toNatClampNeg) → (S_House_joyBy (fun (r3 : Int32) (z1 : St) => (vp_in ((4 : Int32) + x1) 28 ∧ (S_Table_brings_9 (fun (r4 : Int32) (z2 : St) => (S_Table_moodBehind (fun (r5 : Int32) (z3 : St) => (vp_in ((10 : Int32) + x1) 28 ∧ (∀ z4 : St, z4 = sA z3 24 ((10 : Int32) + x1).toNatClampNeg r5 → (vp_in ((16 : Int32) + x1) 28 ∧ (vp_in ((16 : Int32) + x1) 28 ∧ (∀ z5 : St, z5 = sA z4 24 ((16 : Int32) + x1).toNatClampNeg ((gA z4 24 ((16 : Int32) + x1).toNatClampNeg) + r3) → (∀ z6 : St, z6 = sA z5 24 3 ((gA z5 24 3) + (1 : Int32)) → ((r4 = (-1 : Int32) → (post r4 z6)) ∧ (¬ r4 = (-1 : Int32) → (vp_in ((4 : Int32) + x1) 28 ∧ (vp_in ((22 : Int32) + r4) 28 ∧ (vp_in ((4 : Int32) + x1) 28 ∧ (∀ z7 : St, z7 = sA z6 24 ((4 : Int32) + x1).toNatClampNeg ((gA z6 24 ((4 : Int32) + x1).toNatClampNeg) - (gA z6 24 ((22 : Int32) + r4).toNatClampNeg)) → (∀ z8 : St, z8 = sA z7 24 0 r4 → (post r4 z8))))))))))))))) v2 r3 z2)) v1 v2 (gA z1 24 ((4 : Int32) + x1).toNatClampNeg) (gA z1 24 3) (gA z1 24 0) z1))) v1 (gA z0 24 0) z0)))))
set_option maxHeartbeats 4000000 in
set_option maxRecDepth 100000 in
theorem w_Table_receive_9_0 {p : Program} {l : Launch} {e : Env} {R : Room} {s : State} {m : MethodId} {args : Array Value} {below : List Frame} {meth : Method} {c : Code} {Q : State → Prop} {G : GX} {A : Nat → Prop} (S : CallFix p m c cX8_receive 6 s args GW RX8) (hE : env G A s s.heap) (hA : ∀ q, s.heap.size ≤ q → A q) (hRf : 3 ≤ R.frames) (hRl : 76 ≤ R.locals) {post : Int32 → St → Prop} (hret : RetI p l e R s m args below meth c Q 0 0 wX G A cX8_receive post) (x1 : Int32) (z0 : St) (hB : S_Table_receive_9 post x1 z0) : Xw p l e R s m args below meth c Q 0 0 wX G A z0 6 [(0, .ref (ad G 9)), (1, .int x1)] 0 [] := by
  intro H locs ls hP hD hS hl
  have hx := S.1
  have hb := S.2.1
  refine lv_aload_n hx hb dX8_receive_0 rfl (lv_at hl 0 rfl) ?_
  refine xXg_9_house S hE hP lk_X8_15 dX8_receive_1 ?_
  refine xXg_6_likes S hE hP lk_X8_97 dX8_receive_4 ?_
  refine lv_iload_n hx hb dX8_receive_7 rfl (lv_at hl 1 rfl) ?_
  obtain ⟨hi, hB⟩ := hB
  refine xXl_19 S hE hP hi dX8_receive_8 ?_
  refine lv_topi (fun v1 ev1 => ?_)
  have hB := hB v1 ev1
  refine lv_istore_n (lv' := [(2, .int v1), (0, .ref (ad G 9)), (1, .int x1)]) hx hb dX8_receive_9 rfl hl (by decide) rfl (fun ls hl => ?_)
  refine lv_aload_n hx hb dX8_receive_10 rfl (lv_at hl 1 rfl) ?_
  refine xXg_9_cells S hE hP lk_X8_11 dX8_receive_11 ?_
  refine lv_bipush (v := 10) hx hb dX8_receive_14 (by decide) ?_
  refine lv_iload_n hx hb dX8_receive_16 rfl (lv_at hl 2 rfl) ?_
  refine lv_iadd hx hb dX8_receive_17 ?_
  obtain ⟨hi, hB⟩ := hB
  refine xXl_24 S hE hP hi dX8_receive_18 ?_
  refine lv_topi (fun v2 ev2 => ?_)
  have hB := hB v2 ev2
  refine lv_istore_n (lv' := [(3, .int v2), (2, .int v1), (0, .ref (ad G 9)), (1, .int x1)]) hx hb dX8_receive_19 rfl hl (by decide) rfl (fun ls hl => ?_)
  refine lv_aload_n hx hb dX8_receive_20 rfl (lv_at hl 2 rfl) ?_
  refine xXg_9_house S hE hP lk_X8_15 dX8_receive_21 ?_
  refine lv_iload_n hx hb dX8_receive_24 rfl (lv_at hl 1 rfl) ?_
  refine lv_aload_n hx hb dX8_receive_25 rfl (lv_at hl 2 rfl) ?_
  refine xXg_9_cells S hE hP lk_X8_11 dX8_receive_26 ?_
  refine lv_iconst (v := 0) hx hb dX8_receive_29 (by decide) ?_
  refine xXk_24 S hE hP 0 (by decide) (by unfold vp_in; decide) dX8_receive_30 ?_
  refine xcVi [.int v1, .int (gA z0 24 0)] S hE hA hP hD hS (c_House_joyBy l G z0 H.size v1 (gA z0 24 0) _) hB (gw_c lk_X8_100 (gw_c wi_X0_joyBy (gw_c we_X0_X0_joyBy_X0_joyBy (gw_c wn_X0 (gw_c wc_X0_joyBy (fun _ h9 => h9)))))) hd_X0_joyBy rfl rfl (Nat.le_trans (Nat.le_of_ble_eq_true rfl) hRf) (Nat.le_trans (Nat.le_of_ble_eq_true rfl) hRl) ⟨Nat.zero_le _, Nat.zero_le _⟩ (va_recv hE.1 hP (ci := 0) (q0 := 6) rfl rfl) rfl hl.1 rfl (Nat.le_of_ble_eq_true rfl) dX8_receive_31 (fun r3 z1 H locs hB hP hD hS => ?_)
  refine lv_istore (lv' := [(4, .int r3), (3, .int v2), (2, .int v1), (0, .ref (ad G 9)), (1, .int x1)]) hx hb dX8_receive_34 hl (by decide) rfl (fun ls hl => ?_)
  refine lv_aload_n hx hb dX8_receive_36 rfl (lv_at hl 3 rfl) ?_
  refine lv_iload_n hx hb dX8_receive_37 rfl (lv_at hl 2 rfl) ?_
  refine lv_iload_n hx hb dX8_receive_38 rfl (lv_at hl 1 rfl) ?_
  refine lv_aload_n hx hb dX8_receive_39 rfl (lv_at hl 3 rfl) ?_
  refine xXg_9_cells S hE hP lk_X8_11 dX8_receive_40 ?_
  refine lv_iconst (v := 4) hx hb dX8_receive_43 (by decide) ?_
  refine lv_iload_n hx hb dX8_receive_44 rfl (lv_at hl 4 rfl) ?_
  refine lv_iadd hx hb dX8_receive_45 ?_
  obtain ⟨hi, hB⟩ := hB
  refine xXl_24 S hE hP hi dX8_receive_46 ?_
  refine lv_aload_n hx hb dX8_receive_47 rfl (lv_at hl 3 rfl) ?_
  refine xXg_9_cells S hE hP lk_X8_11 dX8_receive_48 ?_
  refine lv_iconst (v := 3) hx hb dX8_receive_51 (by decide) ?_
  refine xXk_24 S hE hP 3 (by decide) (by unfold vp_in; decide) dX8_receive_52 ?_
  refine lv_aload_n hx hb dX8_receive_53 rfl (lv_at hl 3 rfl) ?_
  refine xXg_9_cells S hE hP lk_X8_11 dX8_receive_54 ?_
  refine lv_iconst (v := 0) hx hb dX8_receive_57 (by decide) ?_
  refine xXk_24 S hE hP 0 (by decide) (by unfold vp_in; decide) dX8_receive_58 ?_
  refine xcVi [.int v1, .int v2, .int (gA z1 24 ((4 : Int32) + x1).toNatClampNeg), .int (gA z1 24 3), .int (gA z1 24 0)] S hE hA hP hD hS (c_Table_brings_9 l G z1 H.size v1 v2 (gA z1 24 ((4 : Int32) + x1).toNatClampNeg) (gA z1 24 3) (gA z1 24 0) _) hB (gw_c lk_X8_103 (gw_c wi_X8_brings (gw_c we_X8_X8_brings_X8_brings (gw_c wn_X8 (gw_c wc_X8_brings (fun _ h9 => h9)))))) hd_X8_brings rfl rfl (Nat.le_trans (Nat.le_of_ble_eq_true rfl) hRf) (Nat.le_trans (Nat.le_of_ble_eq_true rfl) hRl) ⟨Nat.zero_le _, Nat.zero_le _⟩ (va_recv hE.1 hP (ci := 7) (q0 := 9) rfl rfl) rfl hl.1 rfl (Nat.le_of_ble_eq_true rfl) dX8_receive_59 (fun r4 z2 H locs hB hP hD hS => ?_)
  refine lv_istore (lv' := [(5, .int r4), (4, .int r3), (3, .int v2), (2, .int v1), (0, .ref (ad G 9)), (1, .int x1)]) hx hb dX8_receive_62 hl (by decide) rfl (fun ls hl => ?_)
  refine lv_aload_n hx hb dX8_receive_64 rfl (lv_at hl 4 rfl) ?_
  refine xXg_9_cells S hE hP lk_X8_11 dX8_receive_65 ?_
  refine lv_bipush (v := 10) hx hb dX8_receive_68 (by decide) ?_
  refine lv_iload_n hx hb dX8_receive_70 rfl (lv_at hl 5 rfl) ?_
  refine lv_iadd hx hb dX8_receive_71 ?_
  refine lv_iload_n hx hb dX8_receive_72 rfl (lv_at hl 2 rfl) ?_
  refine lv_iload hx hb dX8_receive_73 (lv_at hl 1 rfl) ?_
  refine xcSi [.int v2, .int r3] S hE hA hP hD hS (c_Table_moodBehind l G z2 H.size v2 r3 _) hB (gw_c lk_X8_107 (gw_c wt_X8_moodBehind (gw_c wn_X8 (gw_c wc_X8_moodBehind (fun _ h9 => h9))))) hs_X8_moodBehind rfl rfl (Nat.le_trans (Nat.le_of_ble_eq_true rfl) hRf) (Nat.le_trans (Nat.le_of_ble_eq_true rfl) hRl) ⟨Nat.zero_le _, Nat.zero_le _⟩ rfl hl.1 rfl (Nat.le_of_ble_eq_true rfl) dX8_receive_75 (fun r5 z3 H locs hB hP hD hS => ?_)
  obtain ⟨hi, hB⟩ := hB
  obtain ⟨z4, ez4⟩ : ∃ z9, z9 = sA z3 24 ((10 : Int32) + x1).toNatClampNeg r5 := ⟨_, rfl⟩
  have hB := hB z4 ez4
  refine xXs_24 S hE hP hD hS _ rfl hi dX8_receive_78 (fun H locs hP hD hS => ?_)
  rw [← ez4] at hP hD
  refine lv_aload_n hx hb dX8_receive_79 rfl (lv_at hl 4 rfl) ?_
  refine xXg_9_cells S hE hP lk_X8_11 dX8_receive_80 ?_
  refine lv_bipush (v := 16) hx hb dX8_receive_83 (by decide) ?_
  refine lv_iload_n hx hb dX8_receive_85 rfl (lv_at hl 5 rfl) ?_
  refine lv_iadd hx hb dX8_receive_86 ?_
  refine lv_dup2_11 hx hb dX8_receive_87 rfl rfl ?_
  obtain ⟨hi, hB⟩ := hB
  refine xXl_24 S hE hP hi dX8_receive_88 ?_
  refine lv_iload hx hb dX8_receive_89 (lv_at hl 1 rfl) ?_
  refine lv_iadd hx hb dX8_receive_91 ?_
  obtain ⟨hi, hB⟩ := hB
  obtain ⟨z5, ez5⟩ : ∃ z9, z9 = sA z4 24 ((16 : Int32) + x1).toNatClampNeg ((gA z4 24 ((16 : Int32) + x1).toNatClampNeg) + r3) := ⟨_, rfl⟩
  have hB := hB z5 ez5
  refine xXs_24 S hE hP hD hS _ rfl hi dX8_receive_92 (fun H locs hP hD hS => ?_)
  rw [← ez5] at hP hD
  refine lv_aload_n hx hb dX8_receive_93 rfl (lv_at hl 4 rfl) ?_
  refine xXg_9_cells S hE hP lk_X8_11 dX8_receive_94 ?_
  refine lv_iconst (v := 3) hx hb dX8_receive_97 (by decide) ?_
  refine lv_dup2_11 hx hb dX8_receive_98 rfl rfl ?_
  refine xXk_24 S hE hP 3 (by decide) (by unfold vp_in; decide) dX8_receive_99 ?_
  refine lv_iconst (v := 1) hx hb dX8_receive_100 (by decide) ?_
  refine lv_iadd hx hb dX8_receive_101 ?_
  obtain ⟨z6, ez6⟩ : ∃ z9, z9 = sA z5 24 3 ((gA z5 24 3) + (1 : Int32)) := ⟨_, rfl⟩
  have hB := hB z6 ez6
  refine xXs_24 S hE hP hD hS 3 (by decide) (by unfold vp_in; decide) dX8_receive_102 (fun H locs hP hD hS => ?_)
  rw [← ez6] at hP hD
  refine lv_iload hx hb dX8_receive_103 (lv_at hl 0 rfl) ?_
  refine lv_iconst (v := -1) hx hb dX8_receive_105 (by decide) ?_
  refine lv_icmp_eq (tgt := 138) hx hb dX8_receive_106 (by decide) (fun c6 => ?_) (fun c6 => ?_)
  · have hB := hB.1 c6
    refine lv_iload hx hb dX8_receive_138 (lv_at hl 0 rfl) ?_
    exact hret _ _ _ _ _ _ dX8_receive_140 hB hP hD hS
  · have hB := hB.2 c6
    refine lv_aload_n hx hb dX8_receive_109 rfl (lv_at hl 4 rfl) ?_
    refine xXg_9_cells S hE hP lk_X8_11 dX8_receive_110 ?_
    refine lv_iconst (v := 4) hx hb dX8_receive_113 (by decide) ?_
    refine lv_iload_n hx hb dX8_receive_114 rfl (lv_at hl 5 rfl) ?_
    refine lv_iadd hx hb dX8_receive_115 ?_
    refine lv_dup2_11 hx hb dX8_receive_116 rfl rfl ?_
    obtain ⟨hi, hB⟩ := hB
    refine xXl_24 S hE hP hi dX8_receive_117 ?_
    refine lv_aload_n hx hb dX8_receive_118 rfl (lv_at hl 4 rfl) ?_
    refine xXg_9_cells S hE hP lk_X8_11 dX8_receive_119 ?_
    refine lv_bipush (v := 22) hx hb dX8_receive_122 (by decide) ?_
    refine lv_iload hx hb dX8_receive_124 (lv_at hl 0 rfl) ?_
    refine lv_iadd hx hb dX8_receive_126 ?_
    obtain ⟨hi, hB⟩ := hB
    refine xXl_24 S hE hP hi dX8_receive_127 ?_
    refine lv_isub hx hb dX8_receive_128 ?_
    obtain ⟨hi, hB⟩ := hB
    obtain ⟨z7, ez7⟩ : ∃ z9, z9 = sA z6 24 ((4 : Int32) + x1).toNatClampNeg ((gA z6 24 ((4 : Int32) + x1).toNatClampNeg) - (gA z6 24 ((22 : Int32) + r4).toNatClampNeg)) := ⟨_, rfl⟩
    have hB := hB z7 ez7
    refine xXs_24 S hE hP hD hS _ rfl hi dX8_receive_129 (fun H locs hP hD hS => ?_)
    rw [← ez7] at hP hD
    refine lv_aload_n hx hb dX8_receive_130 rfl (lv_at hl 4 rfl) ?_
    refine xXg_9_cells S hE hP lk_X8_11 dX8_receive_131 ?_
    refine lv_iconst (v := 0) hx hb dX8_receive_134 (by decide) ?_
    refine lv_iload hx hb dX8_receive_135 (lv_at hl 0 rfl) ?_
    obtain ⟨z8, ez8⟩ : ∃ z9, z9 = sA z7 24 0 r4 := ⟨_, rfl⟩
    have hB := hB z8 ez8
    refine xXs_24 S hE hP hD hS 0 (by decide) (by unfold vp_in; decide) dX8_receive_137 (fun H locs hP hD hS => ?_)
    rw [← ez8] at hP hD
    refine lv_iload hx hb dX8_receive_138 (lv_at hl 0 rfl) ?_
    exact hret _ _ _ _ _ _ dX8_receive_140 hB hP hD hS
set_option maxHeartbeats 4000000 in
set_option maxRecDepth 100000 in
theorem c_Table_receive_9 (l : Launch) (G : GX) (z0 : St) (sz : Nat) (x1 : Int32) (post : Int32 → St → Prop) : MetI l wX yX8_receive cX8_receive 6 (some .int) ({ frames := 3, cells := 0, slots := 0, locals := 76 }) [.ref (ad G 9), .int x1] G z0 sz (S_Table_receive_9 post x1 z0) post := by
  refine Met.ofW (cc := cX8_receive) (maxL := 6) (ret := (some .int)) (by decide) rfl ?_
  intro p e s m args below meth c s₁ B hml hv
  obtain ⟨rfl, hsz, hP, hD0, hE, hB⟩ := hv
  have S : CallFix p m c cX8_receive 6 s _ GW RX8 := ⟨B.exec, B.bytes, hml, findClass_of_methodNamed B.named, fun w h => atoms_spec (ws := Cond.code yX8_receive cX8_receive 6 (some .int) :: GW) B.pre w (List.mem_cons_of_mem _ h)⟩
  have hlocks := B.notSynchronized
  subst hsz
  have hD := hD0.self (sz := s.heap.size)
  generalize hAe : va_A (wX G z0) s.heap.size = A at hD hE ⊢
  have hA : ∀ q : Nat, s.heap.size ≤ q → A q := fun q h => by rw [← hAe]; exact Or.inr h
  have hS : va_S A s.heap s.heap [] := va_S.rf
  have hl := lv_entry ([.ref (ad G 9), .int x1]) (n := 6) (Nat.le_of_ble_eq_true rfl)
  rw [lg_entry_eq]
  generalize (lg_sl ([.ref (ad G 9), .int x1]) ++ List.replicate (6 - (lg_sl ([.ref (ad G 9), .int x1])).length) Slot.unset).toArray = ls at hl ⊢
  have hl : lv_has ls 6 [(0, .ref (ad G 9)), (1, .int x1)] := hl
  refine w_Table_receive_9_0 S hE hA (Nat.le_refl _) (Nat.le_refl _) ?_ x1 z0 hB _ _ _ hP hD hS hl
  intro pc ls r σ H locs hd hp hP hD hS
  exact W.iret (v := r) B.exec B.bytes B.returns (fun t ht hW => ⟨⟨r, σ, rfl, hp, by rw [ht]; exact hP, hD⟩, hS.F ht⟩) hS.2.2 hd
def S_Table_carry_9 (post : St → Prop) (x1 : Int32) (x2 : Int32) (z0 : St) : Prop :=
  ((x1 = 0 → (S_Table_receive_9 (fun (r3 : Int32) (z4 : St) => (post z4)) x2 z0)) ∧ (¬ x1 = 0 → ((x1 = (1 : Int32) → (S_Table_passMonth_9 (fun (z3 : St) => (post z3)) z0)) ∧ (¬ x1 = (1 : Int32) → (∀ z1 : St, z1 = sA z0 24 0 x2 → (∀ z2 : St, z2 = sA z1 24 2 (1 : Int32) → (post z2)))))))
set_option maxHeartbeats 4000000 in
set_option maxRecDepth 100000 in
theorem w_Table_carry_9_0 {p : Program} {l : Launch} {e : Env} {R : Room} {s : State} {m : MethodId} {args : Array Value} {below : List Frame} {meth : Method} {c : Code} {Q : State → Prop} {G : GX} {A : Nat → Prop} (S : CallFix p m c cX8_carry 3 s args GW RX8) (hE : env G A s s.heap) (hA : ∀ q, s.heap.size ≤ q → A q) (hRf : 4 ≤ R.frames) (hRl : 101 ≤ R.locals) {post : St → Prop} (hret : RetV p l e R s m args below meth c Q 0 0 wX G A cX8_carry post) (x1 : Int32) (x2 : Int32) (z0 : St) (hB : S_Table_carry_9 post x1 x2 z0) : Xw p l e R s m args below meth c Q 0 0 wX G A z0 3 [(0, .ref (ad G 9)), (1, .int x1), (2, .int x2)] 0 [] := by
  intro H locs ls hP hD hS hl
  have hx := S.1
  have hb := S.2.1
  refine lv_iload_n hx hb dX8_carry_0 rfl (lv_at hl 1 rfl) ?_
  refine lv_if_ne (tgt := 13) hx hb dX8_carry_1 (by decide) (fun c1 => ?_) (fun c1 => ?_)
  · have hB := hB.2 c1
    refine lv_iload_n hx hb dX8_carry_13 rfl (lv_at hl 1 rfl) ?_
    refine lv_iconst (v := 1) hx hb dX8_carry_14 (by decide) ?_
    refine lv_icmp_ne (tgt := 25) hx hb dX8_carry_15 (by decide) (fun c2 => ?_) (fun c2 => ?_)
    · have hB := hB.2 c2
      refine lv_aload_n hx hb dX8_carry_25 rfl (lv_at hl 0 rfl) ?_
      refine xXg_9_cells S hE hP lk_X8_11 dX8_carry_26 ?_
      refine lv_iconst (v := 0) hx hb dX8_carry_29 (by decide) ?_
      refine lv_iload_n hx hb dX8_carry_30 rfl (lv_at hl 2 rfl) ?_
      obtain ⟨z1, ez1⟩ : ∃ z9, z9 = sA z0 24 0 x2 := ⟨_, rfl⟩
      have hB := hB z1 ez1
      refine xXs_24 S hE hP hD hS 0 (by decide) (by unfold vp_in; decide) dX8_carry_31 (fun H locs hP hD hS => ?_)
      rw [← ez1] at hP hD
      refine lv_aload_n hx hb dX8_carry_32 rfl (lv_at hl 0 rfl) ?_
      refine xXg_9_cells S hE hP lk_X8_11 dX8_carry_33 ?_
      refine lv_iconst (v := 2) hx hb dX8_carry_36 (by decide) ?_
      refine lv_iconst (v := 1) hx hb dX8_carry_37 (by decide) ?_
      obtain ⟨z2, ez2⟩ : ∃ z9, z9 = sA z1 24 2 (1 : Int32) := ⟨_, rfl⟩
      have hB := hB z2 ez2
      refine xXs_24 S hE hP hD hS 2 (by decide) (by unfold vp_in; decide) dX8_carry_38 (fun H locs hP hD hS => ?_)
      rw [← ez2] at hP hD
      exact hret _ _ _ _ _ dX8_carry_39 hB hP hD hS
    · have hB := hB.1 c2
      refine lv_aload_n hx hb dX8_carry_18 rfl (lv_at hl 0 rfl) ?_
      refine xcVv [] S hE hA hP hD hS (c_Table_passMonth_9 l G z0 H.size _) hB (gw_c lk_X8_80 (gw_c wi_X8_passMonth (gw_c we_X8_X8_passMonth_X8_passMonth (gw_c wn_X8 (gw_c wc_X8_passMonth (fun _ h9 => h9)))))) hd_X8_passMonth rfl rfl (Nat.le_trans (Nat.le_of_ble_eq_true rfl) hRf) (Nat.le_trans (Nat.le_of_ble_eq_true rfl) hRl) ⟨Nat.zero_le _, Nat.zero_le _⟩ (va_recv hE.1 hP (ci := 7) (q0 := 9) rfl rfl) rfl hl.1 rfl (Nat.le_of_ble_eq_true rfl) dX8_carry_19 (fun z3 H locs hB hP hD hS => ?_)
      refine lv_goto (tgt := 39) hx hb dX8_carry_22 (by decide) ?_
      exact hret _ _ _ _ _ dX8_carry_39 hB hP hD hS
  · have hB := hB.1 c1
    refine lv_aload_n hx hb dX8_carry_4 rfl (lv_at hl 0 rfl) ?_
    refine lv_iload_n hx hb dX8_carry_5 rfl (lv_at hl 2 rfl) ?_
    refine xcVi [.int x2] S hE hA hP hD hS (c_Table_receive_9 l G z0 H.size x2 _) hB (gw_c lk_X8_77 (gw_c wi_X8_receive (gw_c we_X8_X8_receive_X8_receive (gw_c wn_X8 (gw_c wc_X8_receive (fun _ h9 => h9)))))) hd_X8_receive rfl rfl (Nat.le_trans (Nat.le_of_ble_eq_true rfl) hRf) (Nat.le_trans (Nat.le_of_ble_eq_true rfl) hRl) ⟨Nat.zero_le _, Nat.zero_le _⟩ (va_recv hE.1 hP (ci := 7) (q0 := 9) rfl rfl) rfl hl.1 rfl (Nat.le_of_ble_eq_true rfl) dX8_carry_6 (fun r3 z4 H locs hB hP hD hS => ?_)
    refine lv_pop hx hb dX8_carry_9 rfl ?_
    refine lv_goto (tgt := 39) hx hb dX8_carry_10 (by decide) ?_
    exact hret _ _ _ _ _ dX8_carry_39 hB hP hD hS
set_option maxHeartbeats 4000000 in
set_option maxRecDepth 100000 in
theorem c_Table_carry_9 (l : Launch) (G : GX) (z0 : St) (sz : Nat) (x1 : Int32) (x2 : Int32) (post : St → Prop) : MetV l wX yX8_carry cX8_carry 3 none ({ frames := 4, cells := 0, slots := 0, locals := 101 }) [.ref (ad G 9), .int x1, .int x2] G z0 sz (S_Table_carry_9 post x1 x2 z0) post := by
  refine Met.ofW (cc := cX8_carry) (maxL := 3) (ret := none) (by decide) rfl ?_
  intro p e s m args below meth c s₁ B hml hv
  obtain ⟨rfl, hsz, hP, hD0, hE, hB⟩ := hv
  have S : CallFix p m c cX8_carry 3 s _ GW RX8 := ⟨B.exec, B.bytes, hml, findClass_of_methodNamed B.named, fun w h => atoms_spec (ws := Cond.code yX8_carry cX8_carry 3 none :: GW) B.pre w (List.mem_cons_of_mem _ h)⟩
  have hlocks := B.notSynchronized
  subst hsz
  have hD := hD0.self (sz := s.heap.size)
  generalize hAe : va_A (wX G z0) s.heap.size = A at hD hE ⊢
  have hA : ∀ q : Nat, s.heap.size ≤ q → A q := fun q h => by rw [← hAe]; exact Or.inr h
  have hS : va_S A s.heap s.heap [] := va_S.rf
  have hl := lv_entry ([.ref (ad G 9), .int x1, .int x2]) (n := 3) (Nat.le_of_ble_eq_true rfl)
  rw [lg_entry_eq]
  generalize (lg_sl ([.ref (ad G 9), .int x1, .int x2]) ++ List.replicate (3 - (lg_sl ([.ref (ad G 9), .int x1, .int x2])).length) Slot.unset).toArray = ls at hl ⊢
  have hl : lv_has ls 3 [(0, .ref (ad G 9)), (1, .int x1), (2, .int x2)] := hl
  refine w_Table_carry_9_0 S hE hA (Nat.le_refl _) (Nat.le_refl _) ?_ x1 x2 z0 hB _ _ _ hP hD hS hl
  intro pc ls σ H locs hd hp hP hD hS
  exact W.vret B.exec B.bytes B.returns (fun t ht hW => ⟨⟨σ, rfl, hp, by rw [ht]; exact hP, hD⟩, hS.F ht⟩) hS.2.2 hd
def B_Table_goThrough_9_dyn17_2 (post : Int32 → St → Prop) (ih2 : Nat → Int32 → Int32 → St → Prop) (x1 : Nat) (x1j : Int32) (x2 : Int32) (z0 : St) : Prop :=
  (vp_in x1j 4 ∧ x1 = gZ z0 (0 + x1j.toNatClampNeg) ∧ (((Int32.ofNat (gZ z0 (8 + (0 + x1j.toNatClampNeg)))) ≤ x2 → (vp_in x1j 4 ∧ x1 = gZ z0 (0 + x1j.toNatClampNeg) ∧ (post (Int32.ofNat (gZ z0 (8 + (0 + x1j.toNatClampNeg)))) z0))) ∧ (¬ (Int32.ofNat (gZ z0 (8 + (0 + x1j.toNatClampNeg)))) ≤ x2 → (vp_in x1j 4 ∧ x1 = gZ z0 (0 + x1j.toNatClampNeg) ∧ vp_in x2 (gZ z0 (8 + (0 + x1j.toNatClampNeg))) ∧ (∀ v2 : Int32, v2 = ((gA z0 (32 + (0 + x1j.toNatClampNeg)) x2.toNatClampNeg) / (10 : Int32)) → (vp_in x1j 4 ∧ x1 = gZ z0 (0 + x1j.toNatClampNeg) ∧ vp_in x2 (gZ z0 (8 + (0 + x1j.toNatClampNeg))) ∧ (∀ v3 : Int32, v3 = ((gA z0 (32 + (0 + x1j.toNatClampNeg)) x2.toNatClampNeg) - (gA z0 (32 + (0 + x1j.toNatClampNeg)) x2.toNatClampNeg) / (10 : Int32) * (10 : Int32)) → (S_Table_canBe_9 (fun (r4 : Int32) (z1 : St) => ((r4 = 0 → (post x2 z1)) ∧ (¬ r4 = 0 → (S_Table_carry_9 (fun (z2 : St) => (∀ v6 : Int32, v6 = x2 + (1 : Int32) → (ih2 x1 x1j v6 z2))) v2 v3 z1)))) v2 v3 z0))))))))
set_option maxHeartbeats 4000000 in
set_option maxRecDepth 100000 in
theorem w_Table_goThrough_9_dyn17_2 {p : Program} {l : Launch} {e : Env} {R : Room} {s : State} {m : MethodId} {args : Array Value} {below : List Frame} {meth : Method} {c : Code} {Q : State → Prop} {G : GX} {A : Nat → Prop} (S : CallFix p m c cX8_goThrough 5 s args GW RX8) (hE : env G A s s.heap) (hA : ∀ q, s.heap.size ≤ q → A q) (hRf : 5 ≤ R.frames) (hRl : 123 ≤ R.locals) {post : Int32 → St → Prop} (hret : RetI p l e R s m args below meth c Q 0 0 wX G A cX8_goThrough post) {ih2 : Nat → Int32 → Int32 → St → Prop} (h2 : ∀ (x1 : Nat) (x1j : Int32) (x2 : Int32) (z0 : St), ih2 x1 x1j x2 z0 → Xw p l e R s m args below meth c Q 0 0 wX G A z0 5 [(0, .ref (ad G 9)), (1, .ref x1), (2, .int x2)] 2 []) (x1 : Nat) (x1j : Int32) (x2 : Int32) (z0 : St) (hB : B_Table_goThrough_9_dyn17_2 post ih2 x1 x1j x2 z0) : Xw p l e R s m args below meth c Q 0 0 wX G A z0 5 [(0, .ref (ad G 9)), (1, .ref x1), (2, .int x2)] 2 [] := by
  intro H locs ls hP hD hS hl
  have hx := S.1
  have hb := S.2.1
  refine lv_iload_n hx hb dX8_goThrough_2 rfl (lv_at hl 2 rfl) ?_
  refine lv_aload_n hx hb dX8_goThrough_3 rfl (lv_at hl 1 rfl) ?_
  obtain ⟨hj, ha9, hB⟩ := hB
  refine xXdn S hE hP (show 0 + x1j.toNatClampNeg < 8 by have := vin_lt hj; omega) ha9 dX8_goThrough_4 ?_
  refine lv_icmp_ge (tgt := 48) hx hb dX8_goThrough_5 (by decide) (fun c1 => ?_) (fun c1 => ?_)
  · have hB := hB.1 c1
    refine lv_aload_n hx hb dX8_goThrough_48 rfl (lv_at hl 1 rfl) ?_
    obtain ⟨hj, ha9, hB⟩ := hB
    refine xXdn S hE hP (show 0 + x1j.toNatClampNeg < 8 by have := vin_lt hj; omega) ha9 dX8_goThrough_49 ?_
    exact hret _ _ _ _ _ _ dX8_goThrough_50 hB hP hD hS
  · have hB := hB.2 c1
    refine lv_aload_n hx hb dX8_goThrough_8 rfl (lv_at hl 1 rfl) ?_
    refine lv_iload_n hx hb dX8_goThrough_9 rfl (lv_at hl 2 rfl) ?_
    obtain ⟨hj, ha9, hi, hB⟩ := hB
    refine xXd S hE hP (show 0 + x1j.toNatClampNeg < 8 by have := vin_lt hj; omega) ha9 hi dX8_goThrough_10 ?_
    refine lv_bipush (v := 10) hx hb dX8_goThrough_11 (by decide) ?_
    refine lv_idiv hx hb dX8_goThrough_13 (by decide) ?_
    refine lv_topi (fun v2 ev2 => ?_)
    have hB := hB v2 ev2
    refine lv_istore_n (lv' := [(3, .int v2), (0, .ref (ad G 9)), (1, .ref x1), (2, .int x2)]) hx hb dX8_goThrough_14 rfl hl (by decide) rfl (fun ls hl => ?_)
    refine lv_aload_n hx hb dX8_goThrough_15 rfl (lv_at hl 2 rfl) ?_
    refine lv_iload_n hx hb dX8_goThrough_16 rfl (lv_at hl 3 rfl) ?_
    obtain ⟨hj, ha9, hi, hB⟩ := hB
    refine xXd S hE hP (show 0 + x1j.toNatClampNeg < 8 by have := vin_lt hj; omega) ha9 hi dX8_goThrough_17 ?_
    refine lv_bipush (v := 10) hx hb dX8_goThrough_18 (by decide) ?_
    refine lv_irem hx hb dX8_goThrough_20 (by decide) ?_
    refine lv_topi (fun v3 ev3 => ?_)
    have hB := hB v3 ev3
    refine lv_istore (lv' := [(4, .int v3), (3, .int v2), (0, .ref (ad G 9)), (1, .ref x1), (2, .int x2)]) hx hb dX8_goThrough_21 hl (by decide) rfl (fun ls hl => ?_)
    refine lv_aload_n hx hb dX8_goThrough_23 rfl (lv_at hl 2 rfl) ?_
    refine lv_iload_n hx hb dX8_goThrough_24 rfl (lv_at hl 1 rfl) ?_
    refine lv_iload hx hb dX8_goThrough_25 (lv_at hl 0 rfl) ?_
    refine xcVi [.int v2, .int v3] S hE hA hP hD hS (c_Table_canBe_9 l G z0 H.size v2 v3 _) hB (gw_c lk_X8_83 (gw_c wi_X8_canBe (gw_c we_X8_X8_canBe_X8_canBe (gw_c wn_X8 (gw_c wc_X8_canBe (fun _ h9 => h9)))))) hd_X8_canBe rfl rfl (Nat.le_trans (Nat.le_of_ble_eq_true rfl) hRf) (Nat.le_trans (Nat.le_of_ble_eq_true rfl) hRl) ⟨Nat.zero_le _, Nat.zero_le _⟩ (va_recv hE.1 hP (ci := 7) (q0 := 9) rfl rfl) rfl hl.1 rfl (Nat.le_of_ble_eq_true rfl) dX8_goThrough_27 (fun r4 z1 H locs hB hP hD hS => ?_)
    refine lv_if_ne (tgt := 35) hx hb dX8_goThrough_30 (by decide) (fun c5 => ?_) (fun c5 => ?_)
    · have hB := hB.2 c5
      refine lv_aload_n hx hb dX8_goThrough_35 rfl (lv_at hl 2 rfl) ?_
      refine lv_iload_n hx hb dX8_goThrough_36 rfl (lv_at hl 1 rfl) ?_
      refine lv_iload hx hb dX8_goThrough_37 (lv_at hl 0 rfl) ?_
      refine xcVv [.int v2, .int v3] S hE hA hP hD hS (c_Table_carry_9 l G z1 H.size v2 v3 _) hB (gw_c lk_X8_87 (gw_c wi_X8_carry (gw_c we_X8_X8_carry_X8_carry (gw_c wn_X8 (gw_c wc_X8_carry (fun _ h9 => h9)))))) hd_X8_carry rfl rfl (Nat.le_trans (Nat.le_of_ble_eq_true rfl) hRf) (Nat.le_trans (Nat.le_of_ble_eq_true rfl) hRl) ⟨Nat.zero_le _, Nat.zero_le _⟩ (va_recv hE.1 hP (ci := 7) (q0 := 9) rfl rfl) rfl hl.1 rfl (Nat.le_of_ble_eq_true rfl) dX8_goThrough_39 (fun z2 H locs hB hP hD hS => ?_)
      obtain ⟨v6, ev6⟩ : ∃ y9, y9 = x2 + (1 : Int32) := ⟨_, rfl⟩
      have hB := hB v6 ev6
      refine lv_iinc (v := v6) (lv' := [(2, .int v6), (4, .int v3), (3, .int v2), (0, .ref (ad G 9)), (1, .ref x1)]) hx hb dX8_goThrough_42 hl (k := 4) rfl (by rw [ev6]; rfl) (by decide) rfl (fun ls hl => ?_)
      refine lv_goto (tgt := 2) hx hb dX8_goThrough_45 (by decide) ?_
      exact h2 x1 x1j v6 z2 hB _ _ _ hP hD hS (lv_sub hl [3, 4, 0] rfl)
    · have hB := hB.1 c5
      refine lv_iload_n hx hb dX8_goThrough_33 rfl (lv_at hl 4 rfl) ?_
      exact hret _ _ _ _ _ _ dX8_goThrough_34 hB hP hD hS
def L_Table_goThrough_9_dyn17_2 (post : Int32 → St → Prop) : Nat → Nat → Int32 → Int32 → St → Prop
  | 0 => fun _ _ _ _ => False
  | n + 1 => B_Table_goThrough_9_dyn17_2 post (L_Table_goThrough_9_dyn17_2 post n)
theorem wl_Table_goThrough_9_dyn17_2 {p : Program} {l : Launch} {e : Env} {R : Room} {s : State} {m : MethodId} {args : Array Value} {below : List Frame} {meth : Method} {c : Code} {Q : State → Prop} {G : GX} {A : Nat → Prop} (S : CallFix p m c cX8_goThrough 5 s args GW RX8) (hE : env G A s s.heap) (hA : ∀ q, s.heap.size ≤ q → A q) (hRf : 5 ≤ R.frames) (hRl : 123 ≤ R.locals) {post : Int32 → St → Prop} (hret : RetI p l e R s m args below meth c Q 0 0 wX G A cX8_goThrough post) : ∀ (n : Nat) (x1 : Nat) (x1j : Int32) (x2 : Int32) (z0 : St), L_Table_goThrough_9_dyn17_2 post n x1 x1j x2 z0 → Xw p l e R s m args below meth c Q 0 0 wX G A z0 5 [(0, .ref (ad G 9)), (1, .ref x1), (2, .int x2)] 2 [] := by
  intro n
  induction n with
  | zero => intro x1 x1j x2 z0 hB; exact absurd hB id
  | succ n ih => exact fun x1 x1j x2 z0 hB => w_Table_goThrough_9_dyn17_2 S hE hA hRf hRl hret ih x1 x1j x2 z0 hB
def S_Table_goThrough_9_dyn17 (post : Int32 → St → Prop) (x1 : Nat) (x1j : Int32) (z0 : St) : Prop :=
  (∃ n1, L_Table_goThrough_9_dyn17_2 post n1 x1 x1j (0 : Int32) z0)
set_option maxHeartbeats 4000000 in
set_option maxRecDepth 100000 in
theorem w_Table_goThrough_9_dyn17_0 {p : Program} {l : Launch} {e : Env} {R : Room} {s : State} {m : MethodId} {args : Array Value} {below : List Frame} {meth : Method} {c : Code} {Q : State → Prop} {G : GX} {A : Nat → Prop} (S : CallFix p m c cX8_goThrough 5 s args GW RX8) (hE : env G A s s.heap) (hA : ∀ q, s.heap.size ≤ q → A q) (hRf : 5 ≤ R.frames) (hRl : 123 ≤ R.locals) {post : Int32 → St → Prop} (hret : RetI p l e R s m args below meth c Q 0 0 wX G A cX8_goThrough post) (x1 : Nat) (x1j : Int32) (z0 : St) (hB : S_Table_goThrough_9_dyn17 post x1 x1j z0) : Xw p l e R s m args below meth c Q 0 0 wX G A z0 5 [(0, .ref (ad G 9)), (1, .ref x1)] 0 [] := by
  intro H locs ls hP hD hS hl
  have hx := S.1
  have hb := S.2.1
  refine lv_iconst (v := 0) hx hb dX8_goThrough_0 (by decide) ?_
  refine lv_istore_n (lv' := [(2, .int (0 : Int32)), (0, .ref (ad G 9)), (1, .ref x1)]) hx hb dX8_goThrough_1 rfl hl (by decide) rfl (fun ls hl => ?_)
  obtain ⟨n1, hB⟩ := hB
  exact wl_Table_goThrough_9_dyn17_2 S hE hA hRf hRl hret n1 x1 x1j (0 : Int32) z0 hB _ _ _ hP hD hS (lv_sub hl [1, 2, 0] rfl)
set_option maxHeartbeats 4000000 in
set_option maxRecDepth 100000 in
theorem c_Table_goThrough_9_dyn17 (l : Launch) (G : GX) (z0 : St) (sz : Nat) (x1 : Nat) (x1j : Int32) (post : Int32 → St → Prop) : MetI l wX yX8_goThrough cX8_goThrough 5 (some .int) ({ frames := 5, cells := 0, slots := 0, locals := 123 }) [.ref (ad G 9), .ref x1] G z0 sz (S_Table_goThrough_9_dyn17 post x1 x1j z0) post := by
  refine Met.ofW (cc := cX8_goThrough) (maxL := 5) (ret := (some .int)) (by decide) rfl ?_
  intro p e s m args below meth c s₁ B hml hv
  obtain ⟨rfl, hsz, hP, hD0, hE, hB⟩ := hv
  have S : CallFix p m c cX8_goThrough 5 s _ GW RX8 := ⟨B.exec, B.bytes, hml, findClass_of_methodNamed B.named, fun w h => atoms_spec (ws := Cond.code yX8_goThrough cX8_goThrough 5 (some .int) :: GW) B.pre w (List.mem_cons_of_mem _ h)⟩
  have hlocks := B.notSynchronized
  subst hsz
  have hD := hD0.self (sz := s.heap.size)
  generalize hAe : va_A (wX G z0) s.heap.size = A at hD hE ⊢
  have hA : ∀ q : Nat, s.heap.size ≤ q → A q := fun q h => by rw [← hAe]; exact Or.inr h
  have hS : va_S A s.heap s.heap [] := va_S.rf
  have hl := lv_entry ([.ref (ad G 9), .ref x1]) (n := 5) (Nat.le_of_ble_eq_true rfl)
  rw [lg_entry_eq]
  generalize (lg_sl ([.ref (ad G 9), .ref x1]) ++ List.replicate (5 - (lg_sl ([.ref (ad G 9), .ref x1])).length) Slot.unset).toArray = ls at hl ⊢
  have hl : lv_has ls 5 [(0, .ref (ad G 9)), (1, .ref x1)] := hl
  refine w_Table_goThrough_9_dyn17_0 S hE hA (Nat.le_refl _) (Nat.le_refl _) ?_ x1 x1j z0 hB _ _ _ hP hD hS hl
  intro pc ls r σ H locs hd hp hP hD hS
  exact W.iret (v := r) B.exec B.bytes B.returns (fun t ht hW => ⟨⟨r, σ, rfl, hp, by rw [ht]; exact hP, hD⟩, hS.F ht⟩) hS.2.2 hd
def B_Table_joyOfAll_9_4 (post : Int32 → St → Prop) (ih4 : Int32 → Int32 → St → Prop) (x1 : Int32) (x2 : Int32) (z0 : St) : Prop :=
  (((gI z0 27) ≤ x2 → (post x1 z0)) ∧ (¬ (gI z0 27) ≤ x2 → (vp_in ((16 : Int32) + x2) 28 ∧ (∀ v2 : Int32, v2 = (x1 + (gA z0 24 ((16 : Int32) + x2).toNatClampNeg)) → (∀ v3 : Int32, v3 = x2 + (1 : Int32) → (ih4 v2 v3 z0))))))
set_option maxHeartbeats 4000000 in
set_option maxRecDepth 100000 in
theorem w_Table_joyOfAll_9_4 {p : Program} {l : Launch} {e : Env} {R : Room} {s : State} {m : MethodId} {args : Array Value} {below : List Frame} {meth : Method} {c : Code} {Q : State → Prop} {G : GX} {A : Nat → Prop} (S : CallFix p m c cX8_joyOfAll 3 s args GW RX8) (hE : env G A s s.heap) (hA : ∀ q, s.heap.size ≤ q → A q) (hRf : 0 ≤ R.frames) (hRl : 0 ≤ R.locals) {post : Int32 → St → Prop} (hret : RetI p l e R s m args below meth c Q 0 0 wX G A cX8_joyOfAll post) {ih4 : Int32 → Int32 → St → Prop} (h4 : ∀ (x1 : Int32) (x2 : Int32) (z0 : St), ih4 x1 x2 z0 → Xw p l e R s m args below meth c Q 0 0 wX G A z0 3 [(0, .ref (ad G 9)), (1, .int x1), (2, .int x2)] 4 []) (x1 : Int32) (x2 : Int32) (z0 : St) (hB : B_Table_joyOfAll_9_4 post ih4 x1 x2 z0) : Xw p l e R s m args below meth c Q 0 0 wX G A z0 3 [(0, .ref (ad G 9)), (1, .int x1), (2, .int x2)] 4 [] := by
  intro H locs ls hP hD hS hl
  have hx := S.1
  have hb := S.2.1
  refine lv_iload_n hx hb dX8_joyOfAll_4 rfl (lv_at hl 2 rfl) ?_
  refine lv_aload_n hx hb dX8_joyOfAll_5 rfl (lv_at hl 0 rfl) ?_
  refine xXg_9_house S hE hP lk_X8_15 dX8_joyOfAll_6 ?_
  refine xXg_6_guests S hE hP lk_X8_45 dX8_joyOfAll_9 ?_
  refine lv_icmp_ge (tgt := 33) hx hb dX8_joyOfAll_12 (by decide) (fun c1 => ?_) (fun c1 => ?_)
  · have hB := hB.1 c1
    refine lv_iload_n hx hb dX8_joyOfAll_33 rfl (lv_at hl 1 rfl) ?_
    exact hret _ _ _ _ _ _ dX8_joyOfAll_34 hB hP hD hS
  · have hB := hB.2 c1
    refine lv_iload_n hx hb dX8_joyOfAll_15 rfl (lv_at hl 1 rfl) ?_
    refine lv_aload_n hx hb dX8_joyOfAll_16 rfl (lv_at hl 0 rfl) ?_
    refine xXg_9_cells S hE hP lk_X8_11 dX8_joyOfAll_17 ?_
    refine lv_bipush (v := 16) hx hb dX8_joyOfAll_20 (by decide) ?_
    refine lv_iload_n hx hb dX8_joyOfAll_22 rfl (lv_at hl 2 rfl) ?_
    refine lv_iadd hx hb dX8_joyOfAll_23 ?_
    obtain ⟨hi, hB⟩ := hB
    refine xXl_24 S hE hP hi dX8_joyOfAll_24 ?_
    refine lv_iadd hx hb dX8_joyOfAll_25 ?_
    refine lv_topi (fun v2 ev2 => ?_)
    have hB := hB v2 ev2
    refine lv_istore_n (lv' := [(1, .int v2), (0, .ref (ad G 9)), (2, .int x2)]) hx hb dX8_joyOfAll_26 rfl hl (by decide) rfl (fun ls hl => ?_)
    obtain ⟨v3, ev3⟩ : ∃ y9, y9 = x2 + (1 : Int32) := ⟨_, rfl⟩
    have hB := hB v3 ev3
    refine lv_iinc (v := v3) (lv' := [(2, .int v3), (1, .int v2), (0, .ref (ad G 9))]) hx hb dX8_joyOfAll_27 hl (k := 2) rfl (by rw [ev3]; rfl) (by decide) rfl (fun ls hl => ?_)
    refine lv_goto (tgt := 4) hx hb dX8_joyOfAll_30 (by decide) ?_
    exact h4 v2 v3 z0 hB _ _ _ hP hD hS (lv_sub hl [2, 1, 0] rfl)
def L_Table_joyOfAll_9_4 (post : Int32 → St → Prop) : Nat → Int32 → Int32 → St → Prop
  | 0 => fun _ _ _ => False
  | n + 1 => B_Table_joyOfAll_9_4 post (L_Table_joyOfAll_9_4 post n)
theorem wl_Table_joyOfAll_9_4 {p : Program} {l : Launch} {e : Env} {R : Room} {s : State} {m : MethodId} {args : Array Value} {below : List Frame} {meth : Method} {c : Code} {Q : State → Prop} {G : GX} {A : Nat → Prop} (S : CallFix p m c cX8_joyOfAll 3 s args GW RX8) (hE : env G A s s.heap) (hA : ∀ q, s.heap.size ≤ q → A q) (hRf : 0 ≤ R.frames) (hRl : 0 ≤ R.locals) {post : Int32 → St → Prop} (hret : RetI p l e R s m args below meth c Q 0 0 wX G A cX8_joyOfAll post) : ∀ (n : Nat) (x1 : Int32) (x2 : Int32) (z0 : St), L_Table_joyOfAll_9_4 post n x1 x2 z0 → Xw p l e R s m args below meth c Q 0 0 wX G A z0 3 [(0, .ref (ad G 9)), (1, .int x1), (2, .int x2)] 4 [] := by
  intro n
  induction n with
  | zero => intro x1 x2 z0 hB; exact absurd hB id
  | succ n ih => exact fun x1 x2 z0 hB => w_Table_joyOfAll_9_4 S hE hA hRf hRl hret ih x1 x2 z0 hB
def S_Table_joyOfAll_9 (post : Int32 → St → Prop) (z0 : St) : Prop :=
  (∃ n1, L_Table_joyOfAll_9_4 post n1 (0 : Int32) (0 : Int32) z0)
set_option maxHeartbeats 4000000 in
set_option maxRecDepth 100000 in
theorem w_Table_joyOfAll_9_0 {p : Program} {l : Launch} {e : Env} {R : Room} {s : State} {m : MethodId} {args : Array Value} {below : List Frame} {meth : Method} {c : Code} {Q : State → Prop} {G : GX} {A : Nat → Prop} (S : CallFix p m c cX8_joyOfAll 3 s args GW RX8) (hE : env G A s s.heap) (hA : ∀ q, s.heap.size ≤ q → A q) (hRf : 0 ≤ R.frames) (hRl : 0 ≤ R.locals) {post : Int32 → St → Prop} (hret : RetI p l e R s m args below meth c Q 0 0 wX G A cX8_joyOfAll post) (z0 : St) (hB : S_Table_joyOfAll_9 post z0) : Xw p l e R s m args below meth c Q 0 0 wX G A z0 3 [(0, .ref (ad G 9))] 0 [] := by
  intro H locs ls hP hD hS hl
  have hx := S.1
  have hb := S.2.1
  refine lv_iconst (v := 0) hx hb dX8_joyOfAll_0 (by decide) ?_
  refine lv_istore_n (lv' := [(1, .int (0 : Int32)), (0, .ref (ad G 9))]) hx hb dX8_joyOfAll_1 rfl hl (by decide) rfl (fun ls hl => ?_)
  refine lv_iconst (v := 0) hx hb dX8_joyOfAll_2 (by decide) ?_
  refine lv_istore_n (lv' := [(2, .int (0 : Int32)), (1, .int (0 : Int32)), (0, .ref (ad G 9))]) hx hb dX8_joyOfAll_3 rfl hl (by decide) rfl (fun ls hl => ?_)
  obtain ⟨n1, hB⟩ := hB
  exact wl_Table_joyOfAll_9_4 S hE hA hRf hRl hret n1 (0 : Int32) (0 : Int32) z0 hB _ _ _ hP hD hS (lv_sub hl [2, 1, 0] rfl)
set_option maxHeartbeats 4000000 in
set_option maxRecDepth 100000 in
theorem c_Table_joyOfAll_9 (l : Launch) (G : GX) (z0 : St) (sz : Nat) (post : Int32 → St → Prop) : MetI l wX yX8_joyOfAll cX8_joyOfAll 3 (some .int) ({ frames := 0, cells := 0, slots := 0, locals := 0 }) [.ref (ad G 9)] G z0 sz (S_Table_joyOfAll_9 post z0) post := by
  refine Met.ofW (cc := cX8_joyOfAll) (maxL := 3) (ret := (some .int)) (by decide) rfl ?_
  intro p e s m args below meth c s₁ B hml hv
  obtain ⟨rfl, hsz, hP, hD0, hE, hB⟩ := hv
  have S : CallFix p m c cX8_joyOfAll 3 s _ GW RX8 := ⟨B.exec, B.bytes, hml, findClass_of_methodNamed B.named, fun w h => atoms_spec (ws := Cond.code yX8_joyOfAll cX8_joyOfAll 3 (some .int) :: GW) B.pre w (List.mem_cons_of_mem _ h)⟩
  have hlocks := B.notSynchronized
  subst hsz
  have hD := hD0.self (sz := s.heap.size)
  generalize hAe : va_A (wX G z0) s.heap.size = A at hD hE ⊢
  have hA : ∀ q : Nat, s.heap.size ≤ q → A q := fun q h => by rw [← hAe]; exact Or.inr h
  have hS : va_S A s.heap s.heap [] := va_S.rf
  have hl := lv_entry ([.ref (ad G 9)]) (n := 3) (Nat.le_of_ble_eq_true rfl)
  rw [lg_entry_eq]
  generalize (lg_sl ([.ref (ad G 9)]) ++ List.replicate (3 - (lg_sl ([.ref (ad G 9)])).length) Slot.unset).toArray = ls at hl ⊢
  have hl : lv_has ls 3 [(0, .ref (ad G 9))] := hl
  refine w_Table_joyOfAll_9_0 S hE hA (Nat.le_refl _) (Nat.le_refl _) ?_  z0 hB _ _ _ hP hD hS hl
  intro pc ls r σ H locs hd hp hP hD hS
  exact W.iret (v := r) B.exec B.bytes B.returns (fun t ht hW => ⟨⟨r, σ, rfl, hp, by rw [ht]; exact hP, hD⟩, hS.F ht⟩) hS.2.2 hd
def B_Table_joyOfAll_8_4 (post : Int32 → St → Prop) (ih4 : Int32 → Int32 → St → Prop) (x1 : Int32) (x2 : Int32) (z0 : St) : Prop :=
  (((gI z0 27) ≤ x2 → (post x1 z0)) ∧ (¬ (gI z0 27) ≤ x2 → (vp_in ((16 : Int32) + x2) 28 ∧ (∀ v2 : Int32, v2 = (x1 + (gA z0 23 ((16 : Int32) + x2).toNatClampNeg)) → (∀ v3 : Int32, v3 = x2 + (1 : Int32) → (ih4 v2 v3 z0))))))
set_option maxHeartbeats 4000000 in
set_option maxRecDepth 100000 in
theorem w_Table_joyOfAll_8_4 {p : Program} {l : Launch} {e : Env} {R : Room} {s : State} {m : MethodId} {args : Array Value} {below : List Frame} {meth : Method} {c : Code} {Q : State → Prop} {G : GX} {A : Nat → Prop} (S : CallFix p m c cX8_joyOfAll 3 s args GW RX8) (hE : env G A s s.heap) (hA : ∀ q, s.heap.size ≤ q → A q) (hRf : 0 ≤ R.frames) (hRl : 0 ≤ R.locals) {post : Int32 → St → Prop} (hret : RetI p l e R s m args below meth c Q 0 0 wX G A cX8_joyOfAll post) {ih4 : Int32 → Int32 → St → Prop} (h4 : ∀ (x1 : Int32) (x2 : Int32) (z0 : St), ih4 x1 x2 z0 → Xw p l e R s m args below meth c Q 0 0 wX G A z0 3 [(0, .ref (ad G 8)), (1, .int x1), (2, .int x2)] 4 []) (x1 : Int32) (x2 : Int32) (z0 : St) (hB : B_Table_joyOfAll_8_4 post ih4 x1 x2 z0) : Xw p l e R s m args below meth c Q 0 0 wX G A z0 3 [(0, .ref (ad G 8)), (1, .int x1), (2, .int x2)] 4 [] := by
  intro H locs ls hP hD hS hl
  have hx := S.1
  have hb := S.2.1
  refine lv_iload_n hx hb dX8_joyOfAll_4 rfl (lv_at hl 2 rfl) ?_
  refine lv_aload_n hx hb dX8_joyOfAll_5 rfl (lv_at hl 0 rfl) ?_
  refine xXg_8_house S hE hP lk_X8_15 dX8_joyOfAll_6 ?_
  refine xXg_6_guests S hE hP lk_X8_45 dX8_joyOfAll_9 ?_
  refine lv_icmp_ge (tgt := 33) hx hb dX8_joyOfAll_12 (by decide) (fun c1 => ?_) (fun c1 => ?_)
  · have hB := hB.1 c1
    refine lv_iload_n hx hb dX8_joyOfAll_33 rfl (lv_at hl 1 rfl) ?_
    exact hret _ _ _ _ _ _ dX8_joyOfAll_34 hB hP hD hS
  · have hB := hB.2 c1
    refine lv_iload_n hx hb dX8_joyOfAll_15 rfl (lv_at hl 1 rfl) ?_
    refine lv_aload_n hx hb dX8_joyOfAll_16 rfl (lv_at hl 0 rfl) ?_
    refine xXg_8_cells S hE hP lk_X8_11 dX8_joyOfAll_17 ?_
    refine lv_bipush (v := 16) hx hb dX8_joyOfAll_20 (by decide) ?_
    refine lv_iload_n hx hb dX8_joyOfAll_22 rfl (lv_at hl 2 rfl) ?_
    refine lv_iadd hx hb dX8_joyOfAll_23 ?_
    obtain ⟨hi, hB⟩ := hB
    refine xXl_23 S hE hP hi dX8_joyOfAll_24 ?_
    refine lv_iadd hx hb dX8_joyOfAll_25 ?_
    refine lv_topi (fun v2 ev2 => ?_)
    have hB := hB v2 ev2
    refine lv_istore_n (lv' := [(1, .int v2), (0, .ref (ad G 8)), (2, .int x2)]) hx hb dX8_joyOfAll_26 rfl hl (by decide) rfl (fun ls hl => ?_)
    obtain ⟨v3, ev3⟩ : ∃ y9, y9 = x2 + (1 : Int32) := ⟨_, rfl⟩
    have hB := hB v3 ev3
    refine lv_iinc (v := v3) (lv' := [(2, .int v3), (1, .int v2), (0, .ref (ad G 8))]) hx hb dX8_joyOfAll_27 hl (k := 2) rfl (by rw [ev3]; rfl) (by decide) rfl (fun ls hl => ?_)
    refine lv_goto (tgt := 4) hx hb dX8_joyOfAll_30 (by decide) ?_
    exact h4 v2 v3 z0 hB _ _ _ hP hD hS (lv_sub hl [2, 1, 0] rfl)
def L_Table_joyOfAll_8_4 (post : Int32 → St → Prop) : Nat → Int32 → Int32 → St → Prop
  | 0 => fun _ _ _ => False
  | n + 1 => B_Table_joyOfAll_8_4 post (L_Table_joyOfAll_8_4 post n)
theorem wl_Table_joyOfAll_8_4 {p : Program} {l : Launch} {e : Env} {R : Room} {s : State} {m : MethodId} {args : Array Value} {below : List Frame} {meth : Method} {c : Code} {Q : State → Prop} {G : GX} {A : Nat → Prop} (S : CallFix p m c cX8_joyOfAll 3 s args GW RX8) (hE : env G A s s.heap) (hA : ∀ q, s.heap.size ≤ q → A q) (hRf : 0 ≤ R.frames) (hRl : 0 ≤ R.locals) {post : Int32 → St → Prop} (hret : RetI p l e R s m args below meth c Q 0 0 wX G A cX8_joyOfAll post) : ∀ (n : Nat) (x1 : Int32) (x2 : Int32) (z0 : St), L_Table_joyOfAll_8_4 post n x1 x2 z0 → Xw p l e R s m args below meth c Q 0 0 wX G A z0 3 [(0, .ref (ad G 8)), (1, .int x1), (2, .int x2)] 4 [] := by
  intro n
  induction n with
  | zero => intro x1 x2 z0 hB; exact absurd hB id
  | succ n ih => exact fun x1 x2 z0 hB => w_Table_joyOfAll_8_4 S hE hA hRf hRl hret ih x1 x2 z0 hB
def S_Table_joyOfAll_8 (post : Int32 → St → Prop) (z0 : St) : Prop :=
  (∃ n1, L_Table_joyOfAll_8_4 post n1 (0 : Int32) (0 : Int32) z0)
set_option maxHeartbeats 4000000 in
set_option maxRecDepth 100000 in
theorem w_Table_joyOfAll_8_0 {p : Program} {l : Launch} {e : Env} {R : Room} {s : State} {m : MethodId} {args : Array Value} {below : List Frame} {meth : Method} {c : Code} {Q : State → Prop} {G : GX} {A : Nat → Prop} (S : CallFix p m c cX8_joyOfAll 3 s args GW RX8) (hE : env G A s s.heap) (hA : ∀ q, s.heap.size ≤ q → A q) (hRf : 0 ≤ R.frames) (hRl : 0 ≤ R.locals) {post : Int32 → St → Prop} (hret : RetI p l e R s m args below meth c Q 0 0 wX G A cX8_joyOfAll post) (z0 : St) (hB : S_Table_joyOfAll_8 post z0) : Xw p l e R s m args below meth c Q 0 0 wX G A z0 3 [(0, .ref (ad G 8))] 0 [] := by
  intro H locs ls hP hD hS hl
  have hx := S.1
  have hb := S.2.1
  refine lv_iconst (v := 0) hx hb dX8_joyOfAll_0 (by decide) ?_
  refine lv_istore_n (lv' := [(1, .int (0 : Int32)), (0, .ref (ad G 8))]) hx hb dX8_joyOfAll_1 rfl hl (by decide) rfl (fun ls hl => ?_)
  refine lv_iconst (v := 0) hx hb dX8_joyOfAll_2 (by decide) ?_
  refine lv_istore_n (lv' := [(2, .int (0 : Int32)), (1, .int (0 : Int32)), (0, .ref (ad G 8))]) hx hb dX8_joyOfAll_3 rfl hl (by decide) rfl (fun ls hl => ?_)
  obtain ⟨n1, hB⟩ := hB
  exact wl_Table_joyOfAll_8_4 S hE hA hRf hRl hret n1 (0 : Int32) (0 : Int32) z0 hB _ _ _ hP hD hS (lv_sub hl [2, 1, 0] rfl)
set_option maxHeartbeats 4000000 in
set_option maxRecDepth 100000 in
theorem c_Table_joyOfAll_8 (l : Launch) (G : GX) (z0 : St) (sz : Nat) (post : Int32 → St → Prop) : MetI l wX yX8_joyOfAll cX8_joyOfAll 3 (some .int) ({ frames := 0, cells := 0, slots := 0, locals := 0 }) [.ref (ad G 8)] G z0 sz (S_Table_joyOfAll_8 post z0) post := by
  refine Met.ofW (cc := cX8_joyOfAll) (maxL := 3) (ret := (some .int)) (by decide) rfl ?_
  intro p e s m args below meth c s₁ B hml hv
  obtain ⟨rfl, hsz, hP, hD0, hE, hB⟩ := hv
  have S : CallFix p m c cX8_joyOfAll 3 s _ GW RX8 := ⟨B.exec, B.bytes, hml, findClass_of_methodNamed B.named, fun w h => atoms_spec (ws := Cond.code yX8_joyOfAll cX8_joyOfAll 3 (some .int) :: GW) B.pre w (List.mem_cons_of_mem _ h)⟩
  have hlocks := B.notSynchronized
  subst hsz
  have hD := hD0.self (sz := s.heap.size)
  generalize hAe : va_A (wX G z0) s.heap.size = A at hD hE ⊢
  have hA : ∀ q : Nat, s.heap.size ≤ q → A q := fun q h => by rw [← hAe]; exact Or.inr h
  have hS : va_S A s.heap s.heap [] := va_S.rf
  have hl := lv_entry ([.ref (ad G 8)]) (n := 3) (Nat.le_of_ble_eq_true rfl)
  rw [lg_entry_eq]
  generalize (lg_sl ([.ref (ad G 8)]) ++ List.replicate (3 - (lg_sl ([.ref (ad G 8)])).length) Slot.unset).toArray = ls at hl ⊢
  have hl : lv_has ls 3 [(0, .ref (ad G 8))] := hl
  refine w_Table_joyOfAll_8_0 S hE hA (Nat.le_refl _) (Nat.le_refl _) ?_  z0 hB _ _ _ hP hD hS hl
  intro pc ls r σ H locs hd hp hP hD hS
  exact W.iret (v := r) B.exec B.bytes B.returns (fun t ht hW => ⟨⟨r, σ, rfl, hp, by rw [ht]; exact hP, hD⟩, hS.F ht⟩) hS.2.2 hd
def S_B_run (post : Int32 → St → Prop) (x1 : Int32) (x2 : Int32) (z0 : St) : Prop :=
  (S_House_isTold (fun (r1 : Int32) (z1 : St) => ((r1 = 0 → (post (-1000000 : Int32) z1)) ∧ (¬ r1 = 0 → (S_B_hasWinter (fun (r3 : Int32) (z2 : St) => ((r3 = 0 → (post (-1000000 : Int32) z2)) ∧ (¬ r3 = 0 → ((x2 < 0 → (post (-1000000 : Int32) z2)) ∧ (¬ x2 < 0 → ((x2 ≤ (1 : Int32) → (S_Table_copy_9_r8 (fun (z3 : St) => (vp_in x1 4 ∧ ∀ a7 : Nat, a7 = gZ z3 (0 + x1.toNatClampNeg) → (S_Table_goThrough_9_dyn17 (fun (r8 : Int32) (z4 : St) => ((x2 = (1 : Int32) → (S_Table_joyOfAll_9 (fun (r12 : Int32) (z5 : St) => (S_Table_joyOfAll_8 (fun (r13 : Int32) (z6 : St) => (post (r12 - r13) z6)) z5)) z4)) ∧ (¬ x2 = (1 : Int32) → (vp_in x1 4 ∧ ∀ a10 : Nat, a10 = gZ z4 (0 + x1.toNatClampNeg) → (vp_in x1 4 ∧ a10 = gZ z4 (0 + x1.toNatClampNeg) ∧ ((r8 = (Int32.ofNat (gZ z4 (8 + (0 + x1.toNatClampNeg)))) → (post (-1 : Int32) z4)) ∧ (¬ r8 = (Int32.ofNat (gZ z4 (8 + (0 + x1.toNatClampNeg)))) → (post r8 z4)))))))) a7 x1 z3))) z2)) ∧ (¬ x2 ≤ (1 : Int32) → (post (-1000000 : Int32) z2)))))))) x1 z1)))) z0)
set_option maxHeartbeats 4000000 in
set_option maxRecDepth 100000 in
theorem w_B_run_0 {p : Program} {l : Launch} {e : Env} {R : Room} {s : State} {m : MethodId} {args : Array Value} {below : List Frame} {meth : Method} {c : Code} {Q : State → Prop} {G : GX} {A : Nat → Prop} (S : CallFix p m c cX11_run 4 s args GW RX11) (hE : env G A s s.heap) (hA : ∀ q, s.heap.size ≤ q → A q) (hRf : 6 ≤ R.frames) (hRl : 147 ≤ R.locals) {post : Int32 → St → Prop} (hret : RetI p l e R s m args below meth c Q 0 0 wX G A cX11_run post) (x1 : Int32) (x2 : Int32) (z0 : St) (hB : S_B_run post x1 x2 z0) : Xw p l e R s m args below meth c Q 0 0 wX G A z0 4 [(0, .ref (ad G 0)), (1, .int x1), (2, .int x2)] 0 [] := by
  intro H locs ls hP hD hS hl
  have hx := S.1
  have hb := S.2.1
  refine lv_aload_n hx hb dX11_run_0 rfl (lv_at hl 0 rfl) ?_
  refine xXg_0_house S hE hP lk_X11_64 dX11_run_1 ?_
  refine xcVi [] S hE hA hP hD hS (c_House_isTold l G z0 H.size _) hB (gw_c lk_X11_147 (gw_c wi_X0_isTold (gw_c we_X0_X0_isTold_X0_isTold (gw_c wn_X0 (gw_c wc_X0_isTold (fun _ h9 => h9)))))) hd_X0_isTold rfl rfl (Nat.le_trans (Nat.le_of_ble_eq_true rfl) hRf) (Nat.le_trans (Nat.le_of_ble_eq_true rfl) hRl) ⟨Nat.zero_le _, Nat.zero_le _⟩ (va_recv hE.1 hP (ci := 0) (q0 := 6) rfl rfl) rfl hl.1 rfl (Nat.le_of_ble_eq_true rfl) dX11_run_4 (fun r1 z1 H locs hB hP hD hS => ?_)
  refine lv_if_eq (tgt := 27) hx hb dX11_run_7 (by decide) (fun c2 => ?_) (fun c2 => ?_)
  · have hB := hB.1 c2
    refine lv_ldcw hx hb S.2.2.2.1 (S.2.2.2.2 _ lk_X11_264) dX11_run_27 ?_
    exact hret _ _ _ _ _ _ dX11_run_30 hB hP hD hS
  · have hB := hB.2 c2
    refine lv_aload_n hx hb dX11_run_10 rfl (lv_at hl 0 rfl) ?_
    refine lv_iload_n hx hb dX11_run_11 rfl (lv_at hl 1 rfl) ?_
    refine xcVi [.int x1] S hE hA hP hD hS (c_B_hasWinter l G z1 H.size x1 _) hB (gw_c lk_X11_269 (gw_c wi_X11_hasWinter (gw_c we_X11_X11_hasWinter_X11_hasWinter (gw_c wn_X11 (gw_c wc_X11_hasWinter (fun _ h9 => h9)))))) hd_X11_hasWinter rfl rfl (Nat.le_trans (Nat.le_of_ble_eq_true rfl) hRf) (Nat.le_trans (Nat.le_of_ble_eq_true rfl) hRl) ⟨Nat.zero_le _, Nat.zero_le _⟩ (va_recv hE.1 hP (ci := 10) (q0 := 0) rfl rfl) rfl hl.1 rfl (Nat.le_of_ble_eq_true rfl) dX11_run_12 (fun r3 z2 H locs hB hP hD hS => ?_)
    refine lv_if_eq (tgt := 27) hx hb dX11_run_15 (by decide) (fun c4 => ?_) (fun c4 => ?_)
    · have hB := hB.1 c4
      refine lv_ldcw hx hb S.2.2.2.1 (S.2.2.2.2 _ lk_X11_264) dX11_run_27 ?_
      exact hret _ _ _ _ _ _ dX11_run_30 hB hP hD hS
    · have hB := hB.2 c4
      refine lv_iload_n hx hb dX11_run_18 rfl (lv_at hl 2 rfl) ?_
      refine lv_if_lt (tgt := 27) hx hb dX11_run_19 (by decide) (fun c5 => ?_) (fun c5 => ?_)
      · have hB := hB.1 c5
        refine lv_ldcw hx hb S.2.2.2.1 (S.2.2.2.2 _ lk_X11_264) dX11_run_27 ?_
        exact hret _ _ _ _ _ _ dX11_run_30 hB hP hD hS
      · have hB := hB.2 c5
        refine lv_iload_n hx hb dX11_run_22 rfl (lv_at hl 2 rfl) ?_
        refine lv_iconst (v := 1) hx hb dX11_run_23 (by decide) ?_
        refine lv_icmp_le (tgt := 31) hx hb dX11_run_24 (by decide) (fun c6 => ?_) (fun c6 => ?_)
        · have hB := hB.1 c6
          refine lv_aload_n hx hb dX11_run_31 rfl (lv_at hl 0 rfl) ?_
          refine xXg_0_apart S hE hP lk_X11_76 dX11_run_32 ?_
          refine lv_aload_n hx hb dX11_run_35 rfl (lv_at hl 0 rfl) ?_
          refine xXg_0_table S hE hP lk_X11_72 dX11_run_36 ?_
          refine xcVv [.ref (ad G 8)] S hE hA hP hD hS (c_Table_copy_9_r8 l G z2 H.size _) hB (gw_c lk_X11_272 (gw_c wi_X8_copy (gw_c we_X8_X8_copy_X8_copy (gw_c wn_X8 (gw_c wc_X8_copy (fun _ h9 => h9)))))) hd_X8_copy rfl rfl (Nat.le_trans (Nat.le_of_ble_eq_true rfl) hRf) (Nat.le_trans (Nat.le_of_ble_eq_true rfl) hRl) ⟨Nat.zero_le _, Nat.zero_le _⟩ (va_recv hE.1 hP (ci := 7) (q0 := 9) rfl rfl) rfl hl.1 rfl (Nat.le_of_ble_eq_true rfl) dX11_run_39 (fun z3 H locs hB hP hD hS => ?_)
          refine lv_aload_n hx hb dX11_run_42 rfl (lv_at hl 0 rfl) ?_
          refine xXg_0_apart S hE hP lk_X11_76 dX11_run_43 ?_
          refine lv_aload_n hx hb dX11_run_46 rfl (lv_at hl 0 rfl) ?_
          refine xXg_0_winters S hE hP lk_X11_39 dX11_run_47 ?_
          refine lv_iload_n hx hb dX11_run_50 rfl (lv_at hl 1 rfl) ?_
          obtain ⟨hi, hB⟩ := hB
          refine xXo_17 S hE hP hi dX11_run_51 ?_
          obtain ⟨a7, ea7⟩ : ∃ y9, y9 = gZ z3 (0 + x1.toNatClampNeg) := ⟨_, rfl⟩
          have hB := hB a7 ea7
          rw [← ea7]
          refine xcVi [.ref a7] S hE hA hP hD hS (c_Table_goThrough_9_dyn17 l G z3 H.size a7 x1 _) hB (gw_c lk_X11_276 (gw_c wi_X8_goThrough (gw_c we_X8_X8_goThrough_X8_goThrough (gw_c wn_X8 (gw_c wc_X8_goThrough (fun _ h9 => h9)))))) hd_X8_goThrough rfl rfl (Nat.le_trans (Nat.le_of_ble_eq_true rfl) hRf) (Nat.le_trans (Nat.le_of_ble_eq_true rfl) hRl) ⟨Nat.zero_le _, Nat.zero_le _⟩ (va_recv hE.1 hP (ci := 7) (q0 := 9) rfl rfl) rfl hl.1 rfl (Nat.le_of_ble_eq_true rfl) dX11_run_52 (fun r8 z4 H locs hB hP hD hS => ?_)
          refine lv_istore_n (lv' := [(3, .int r8), (0, .ref (ad G 0)), (1, .int x1), (2, .int x2)]) hx hb dX11_run_55 rfl hl (by decide) rfl (fun ls hl => ?_)
          refine lv_iload_n hx hb dX11_run_56 rfl (lv_at hl 3 rfl) ?_
          refine lv_iconst (v := 1) hx hb dX11_run_57 (by decide) ?_
          refine lv_icmp_ne (tgt := 77) hx hb dX11_run_58 (by decide) (fun c9 => ?_) (fun c9 => ?_)
          · have hB := hB.2 c9
            refine lv_iload_n hx hb dX11_run_77 rfl (lv_at hl 0 rfl) ?_
            refine lv_aload_n hx hb dX11_run_78 rfl (lv_at hl 1 rfl) ?_
            refine xXg_0_winters S hE hP lk_X11_39 dX11_run_79 ?_
            refine lv_iload_n hx hb dX11_run_82 rfl (lv_at hl 2 rfl) ?_
            obtain ⟨hi, hB⟩ := hB
            refine xXo_17 S hE hP hi dX11_run_83 ?_
            obtain ⟨a10, ea10⟩ : ∃ y9, y9 = gZ z4 (0 + x1.toNatClampNeg) := ⟨_, rfl⟩
            have hB := hB a10 ea10
            rw [← ea10]
            obtain ⟨hj, ha9, hB⟩ := hB
            refine xXdn S hE hP (show 0 + x1.toNatClampNeg < 8 by have := vin_lt hj; omega) ha9 dX11_run_84 ?_
            refine lv_icmp_ne (tgt := 92) hx hb dX11_run_85 (by decide) (fun c11 => ?_) (fun c11 => ?_)
            · have hB := hB.2 c11
              refine lv_iload_n hx hb dX11_run_92 rfl (lv_at hl 0 rfl) ?_
              exact hret _ _ _ _ _ _ dX11_run_93 hB hP hD hS
            · have hB := hB.1 c11
              refine lv_iconst (v := -1) hx hb dX11_run_88 (by decide) ?_
              refine lv_goto (tgt := 93) hx hb dX11_run_89 (by decide) ?_
              exact hret _ _ _ _ _ _ dX11_run_93 hB hP hD hS
          · have hB := hB.1 c9
            refine lv_aload_n hx hb dX11_run_61 rfl (lv_at hl 1 rfl) ?_
            refine xXg_0_apart S hE hP lk_X11_76 dX11_run_62 ?_
            refine xcVi [] S hE hA hP hD hS (c_Table_joyOfAll_9 l G z4 H.size _) hB (gw_c lk_X11_280 (gw_c wi_X8_joyOfAll (gw_c we_X8_X8_joyOfAll_X8_joyOfAll (gw_c wn_X8 (gw_c wc_X8_joyOfAll (fun _ h9 => h9)))))) hd_X8_joyOfAll rfl rfl (Nat.le_trans (Nat.le_of_ble_eq_true rfl) hRf) (Nat.le_trans (Nat.le_of_ble_eq_true rfl) hRl) ⟨Nat.zero_le _, Nat.zero_le _⟩ (va_recv hE.1 hP (ci := 7) (q0 := 9) rfl rfl) rfl hl.1 rfl (Nat.le_of_ble_eq_true rfl) dX11_run_65 (fun r12 z5 H locs hB hP hD hS => ?_)
            refine lv_aload_n hx hb dX11_run_68 rfl (lv_at hl 1 rfl) ?_
            refine xXg_0_table S hE hP lk_X11_72 dX11_run_69 ?_
            refine xcVi [] S hE hA hP hD hS (c_Table_joyOfAll_8 l G z5 H.size _) hB (gw_c lk_X11_280 (gw_c wi_X8_joyOfAll (gw_c we_X8_X8_joyOfAll_X8_joyOfAll (gw_c wn_X8 (gw_c wc_X8_joyOfAll (fun _ h9 => h9)))))) hd_X8_joyOfAll rfl rfl (Nat.le_trans (Nat.le_of_ble_eq_true rfl) hRf) (Nat.le_trans (Nat.le_of_ble_eq_true rfl) hRl) ⟨Nat.zero_le _, Nat.zero_le _⟩ (va_recv hE.1 hP (ci := 7) (q0 := 8) rfl rfl) rfl hl.1 rfl (Nat.le_of_ble_eq_true rfl) dX11_run_72 (fun r13 z6 H locs hB hP hD hS => ?_)
            refine lv_isub hx hb dX11_run_75 ?_
            exact hret _ _ _ _ _ _ dX11_run_76 hB hP hD hS
        · have hB := hB.2 c6
          refine lv_ldcw hx hb S.2.2.2.1 (S.2.2.2.2 _ lk_X11_264) dX11_run_27 ?_
          exact hret _ _ _ _ _ _ dX11_run_30 hB hP hD hS
set_option maxHeartbeats 4000000 in
set_option maxRecDepth 100000 in
theorem c_B_run (l : Launch) (G : GX) (z0 : St) (sz : Nat) (x1 : Int32) (x2 : Int32) (post : Int32 → St → Prop) : MetI l wX yX11_run cX11_run 4 (some .int) ({ frames := 6, cells := 0, slots := 0, locals := 147 }) [.ref (ad G 0), .int x1, .int x2] G z0 sz (S_B_run post x1 x2 z0) post := by
  refine Met.ofW (cc := cX11_run) (maxL := 4) (ret := (some .int)) (by decide) rfl ?_
  intro p e s m args below meth c s₁ B hml hv
  obtain ⟨rfl, hsz, hP, hD0, hE, hB⟩ := hv
  have S : CallFix p m c cX11_run 4 s _ GW RX11 := ⟨B.exec, B.bytes, hml, findClass_of_methodNamed B.named, fun w h => atoms_spec (ws := Cond.code yX11_run cX11_run 4 (some .int) :: GW) B.pre w (List.mem_cons_of_mem _ h)⟩
  have hlocks := B.notSynchronized
  subst hsz
  have hD := hD0.self (sz := s.heap.size)
  generalize hAe : va_A (wX G z0) s.heap.size = A at hD hE ⊢
  have hA : ∀ q : Nat, s.heap.size ≤ q → A q := fun q h => by rw [← hAe]; exact Or.inr h
  have hS : va_S A s.heap s.heap [] := va_S.rf
  have hl := lv_entry ([.ref (ad G 0), .int x1, .int x2]) (n := 4) (Nat.le_of_ble_eq_true rfl)
  rw [lg_entry_eq]
  generalize (lg_sl ([.ref (ad G 0), .int x1, .int x2]) ++ List.replicate (4 - (lg_sl ([.ref (ad G 0), .int x1, .int x2])).length) Slot.unset).toArray = ls at hl ⊢
  have hl : lv_has ls 4 [(0, .ref (ad G 0)), (1, .int x1), (2, .int x2)] := hl
  refine w_B_run_0 S hE hA (Nat.le_refl _) (Nat.le_refl _) ?_ x1 x2 z0 hB _ _ _ hP hD hS hl
  intro pc ls r σ H locs hd hp hP hD hS
  exact W.iret (v := r) B.exec B.bytes B.returns (fun t ht hW => ⟨⟨r, σ, rfl, hp, by rw [ht]; exact hP, hD⟩, hS.F ht⟩) hS.2.2 hd
