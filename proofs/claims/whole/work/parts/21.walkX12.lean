def B_M_bytesIn_25 (post : Int32 → St → Prop) (ih5 : Int32 → Int32 → Int32 → St → Prop) (x0 : Int32) (x2 : Int32) (s0 : Int32) (s1 : Int32) (z0 : St) : Prop :=
  (∀ v1 : Int32, v1 = (s1 + s0) → (∀ v2 : Int32, v2 = x2 + (-8 : Int32) → (ih5 x0 v1 v2 z0)))
set_option maxHeartbeats 4000000 in
set_option maxRecDepth 100000 in
theorem w_M_bytesIn_25 {p : Program} {l : Launch} {e : Env} {R : Room} {s : State} {m : MethodId} {args : Array Value} {below : List Frame} {meth : Method} {c : Code} {Q : State → Prop} {G : GX} {A : Nat → Prop} (S : CallFix p m c cX12_bytesIn 3 s args GW RX12) (hE : env G A s s.heap) (hA : ∀ q, s.heap.size ≤ q → A q) (hRf : 0 ≤ R.frames) (hRl : 0 ≤ R.locals) {post : Int32 → St → Prop} (hret : RetI p l e R s m args below meth c Q 0 0 wM G A cX12_bytesIn post) {ih5 : Int32 → Int32 → Int32 → St → Prop} (h5 : ∀ (x0 : Int32) (x1 : Int32) (x2 : Int32) (z0 : St), ih5 x0 x1 x2 z0 → Xw p l e R s m args below meth c Q 0 0 wM G A z0 3 [(0, .int x0), (1, .int x1), (2, .int x2)] 5 []) (x0 : Int32) (x2 : Int32) (s0 : Int32) (s1 : Int32) (z0 : St) (hB : B_M_bytesIn_25 post ih5 x0 x2 s0 s1 z0) : Xw p l e R s m args below meth c Q 0 0 wM G A z0 3 [(0, .int x0), (2, .int x2)] 25 [.int s0, .int s1] := by
  intro H locs ls hP hD hS hl
  have hx := S.1
  have hb := S.2.1
  refine lv_iadd hx hb dX12_bytesIn_25 ?_
  refine lv_topi (fun v1 ev1 => ?_)
  have hB := hB v1 ev1
  refine lv_istore_n (lv' := [(1, .int v1), (0, .int x0), (2, .int x2)]) hx hb dX12_bytesIn_26 rfl hl (by decide) rfl (fun ls hl => ?_)
  obtain ⟨v2, ev2⟩ : ∃ y9, y9 = x2 + (-8 : Int32) := ⟨_, rfl⟩
  have hB := hB v2 ev2
  refine lv_iinc (v := v2) (lv' := [(2, .int v2), (1, .int v1), (0, .int x0)]) hx hb dX12_bytesIn_27 hl (k := 2) rfl (by rw [ev2]; rfl) (by decide) rfl (fun ls hl => ?_)
  refine lv_goto (tgt := 5) hx hb dX12_bytesIn_30 (by decide) ?_
  exact h5 x0 v1 v2 z0 hB _ _ _ hP hD hS (lv_sub hl [2, 1, 0] rfl)
def B_M_bytesIn_5 (post : Int32 → St → Prop) (ih5 : Int32 → Int32 → Int32 → St → Prop) (x0 : Int32) (x1 : Int32) (x2 : Int32) (z0 : St) : Prop :=
  ((x2 < 0 → (post x1 z0)) ∧ (¬ x2 < 0 → ((((x0 >>> (x2 &&& 31)) &&& (255 : Int32)) = 0 → (B_M_bytesIn_25 post ih5 x0 x2 (0 : Int32) x1 z0)) ∧ (¬ ((x0 >>> (x2 &&& 31)) &&& (255 : Int32)) = 0 → (B_M_bytesIn_25 post ih5 x0 x2 (1 : Int32) x1 z0)))))
set_option maxHeartbeats 4000000 in
set_option maxRecDepth 100000 in
theorem w_M_bytesIn_5 {p : Program} {l : Launch} {e : Env} {R : Room} {s : State} {m : MethodId} {args : Array Value} {below : List Frame} {meth : Method} {c : Code} {Q : State → Prop} {G : GX} {A : Nat → Prop} (S : CallFix p m c cX12_bytesIn 3 s args GW RX12) (hE : env G A s s.heap) (hA : ∀ q, s.heap.size ≤ q → A q) (hRf : 0 ≤ R.frames) (hRl : 0 ≤ R.locals) {post : Int32 → St → Prop} (hret : RetI p l e R s m args below meth c Q 0 0 wM G A cX12_bytesIn post) {ih5 : Int32 → Int32 → Int32 → St → Prop} (h5 : ∀ (x0 : Int32) (x1 : Int32) (x2 : Int32) (z0 : St), ih5 x0 x1 x2 z0 → Xw p l e R s m args below meth c Q 0 0 wM G A z0 3 [(0, .int x0), (1, .int x1), (2, .int x2)] 5 []) (x0 : Int32) (x1 : Int32) (x2 : Int32) (z0 : St) (hB : B_M_bytesIn_5 post ih5 x0 x1 x2 z0) : Xw p l e R s m args below meth c Q 0 0 wM G A z0 3 [(0, .int x0), (1, .int x1), (2, .int x2)] 5 [] := by
  intro H locs ls hP hD hS hl
  have hx := S.1
  have hb := S.2.1
  refine lv_iload_n hx hb dX12_bytesIn_5 rfl (lv_at hl 2 rfl) ?_
  refine lv_if_lt (tgt := 33) hx hb dX12_bytesIn_6 (by decide) (fun c1 => ?_) (fun c1 => ?_)
  · have hB := hB.1 c1
    refine lv_iload_n hx hb dX12_bytesIn_33 rfl (lv_at hl 1 rfl) ?_
    exact hret _ _ _ _ _ _ dX12_bytesIn_34 hB hP hD hS
  · have hB := hB.2 c1
    refine lv_iload_n hx hb dX12_bytesIn_9 rfl (lv_at hl 1 rfl) ?_
    refine lv_iload_n hx hb dX12_bytesIn_10 rfl (lv_at hl 0 rfl) ?_
    refine lv_iload_n hx hb dX12_bytesIn_11 rfl (lv_at hl 2 rfl) ?_
    refine lv_ishr hx hb dX12_bytesIn_12 ?_
    refine lv_sipush (v := 255) hx hb dX12_bytesIn_13 (by decide) ?_
    refine lv_iand hx hb dX12_bytesIn_16 ?_
    refine lv_if_eq (tgt := 24) hx hb dX12_bytesIn_17 (by decide) (fun c2 => ?_) (fun c2 => ?_)
    · have hB := hB.1 c2
      refine lv_iconst (v := 0) hx hb dX12_bytesIn_24 (by decide) ?_
      exact w_M_bytesIn_25 S hE hA hRf hRl hret h5 x0 x2 (0 : Int32) x1 z0 hB _ _ _ hP hD hS (lv_sub hl [0, 2] rfl)
    · have hB := hB.2 c2
      refine lv_iconst (v := 1) hx hb dX12_bytesIn_20 (by decide) ?_
      refine lv_goto (tgt := 25) hx hb dX12_bytesIn_21 (by decide) ?_
      exact w_M_bytesIn_25 S hE hA hRf hRl hret h5 x0 x2 (1 : Int32) x1 z0 hB _ _ _ hP hD hS (lv_sub hl [0, 2] rfl)
def L_M_bytesIn_5 (post : Int32 → St → Prop) : Nat → Int32 → Int32 → Int32 → St → Prop
  | 0 => fun _ _ _ _ => False
  | n + 1 => B_M_bytesIn_5 post (L_M_bytesIn_5 post n)
theorem wl_M_bytesIn_5 {p : Program} {l : Launch} {e : Env} {R : Room} {s : State} {m : MethodId} {args : Array Value} {below : List Frame} {meth : Method} {c : Code} {Q : State → Prop} {G : GX} {A : Nat → Prop} (S : CallFix p m c cX12_bytesIn 3 s args GW RX12) (hE : env G A s s.heap) (hA : ∀ q, s.heap.size ≤ q → A q) (hRf : 0 ≤ R.frames) (hRl : 0 ≤ R.locals) {post : Int32 → St → Prop} (hret : RetI p l e R s m args below meth c Q 0 0 wM G A cX12_bytesIn post) : ∀ (n : Nat) (x0 : Int32) (x1 : Int32) (x2 : Int32) (z0 : St), L_M_bytesIn_5 post n x0 x1 x2 z0 → Xw p l e R s m args below meth c Q 0 0 wM G A z0 3 [(0, .int x0), (1, .int x1), (2, .int x2)] 5 [] := by
  intro n
  induction n with
  | zero => intro x0 x1 x2 z0 hB; exact absurd hB id
  | succ n ih => exact fun x0 x1 x2 z0 hB => w_M_bytesIn_5 S hE hA hRf hRl hret ih x0 x1 x2 z0 hB
def S_M_bytesIn (post : Int32 → St → Prop) (x0 : Int32) (z0 : St) : Prop :=
  (∃ n1, L_M_bytesIn_5 post n1 x0 (0 : Int32) (24 : Int32) z0)
set_option maxHeartbeats 4000000 in
set_option maxRecDepth 100000 in
theorem w_M_bytesIn_0 {p : Program} {l : Launch} {e : Env} {R : Room} {s : State} {m : MethodId} {args : Array Value} {below : List Frame} {meth : Method} {c : Code} {Q : State → Prop} {G : GX} {A : Nat → Prop} (S : CallFix p m c cX12_bytesIn 3 s args GW RX12) (hE : env G A s s.heap) (hA : ∀ q, s.heap.size ≤ q → A q) (hRf : 0 ≤ R.frames) (hRl : 0 ≤ R.locals) {post : Int32 → St → Prop} (hret : RetI p l e R s m args below meth c Q 0 0 wM G A cX12_bytesIn post) (x0 : Int32) (z0 : St) (hB : S_M_bytesIn post x0 z0) : Xw p l e R s m args below meth c Q 0 0 wM G A z0 3 [(0, .int x0)] 0 [] := by
  intro H locs ls hP hD hS hl
  have hx := S.1
  have hb := S.2.1
  refine lv_iconst (v := 0) hx hb dX12_bytesIn_0 (by decide) ?_
  refine lv_istore_n (lv' := [(1, .int (0 : Int32)), (0, .int x0)]) hx hb dX12_bytesIn_1 rfl hl (by decide) rfl (fun ls hl => ?_)
  refine lv_bipush (v := 24) hx hb dX12_bytesIn_2 (by decide) ?_
  refine lv_istore_n (lv' := [(2, .int (24 : Int32)), (1, .int (0 : Int32)), (0, .int x0)]) hx hb dX12_bytesIn_4 rfl hl (by decide) rfl (fun ls hl => ?_)
  obtain ⟨n1, hB⟩ := hB
  exact wl_M_bytesIn_5 S hE hA hRf hRl hret n1 x0 (0 : Int32) (24 : Int32) z0 hB _ _ _ hP hD hS (lv_sub hl [2, 1, 0] rfl)
set_option maxHeartbeats 4000000 in
set_option maxRecDepth 100000 in
theorem c_M_bytesIn (l : Launch) (G : GX) (z0 : St) (sz : Nat) (x0 : Int32) (post : Int32 → St → Prop) : MetI l wM yX12_bytesIn cX12_bytesIn 3 (some .int) ({ frames := 0, cells := 0, slots := 0, locals := 0 }) [.int x0] G z0 sz (S_M_bytesIn post x0 z0) post := by
  refine Met.ofW (cc := cX12_bytesIn) (maxL := 3) (ret := (some .int)) (by decide) rfl ?_
  intro p e s m args below meth c s₁ B hml hv
  obtain ⟨rfl, hsz, hP, hD0, hE, hB⟩ := hv
  have S : CallFix p m c cX12_bytesIn 3 s _ GW RX12 := ⟨B.exec, B.bytes, hml, findClass_of_methodNamed B.named, fun w h => atoms_spec (ws := Cond.code yX12_bytesIn cX12_bytesIn 3 (some .int) :: GW) B.pre w (List.mem_cons_of_mem _ h)⟩
  have hlocks := B.notSynchronized
  subst hsz
  have hD := hD0.self (sz := s.heap.size)
  generalize hAe : va_A (wM G z0) s.heap.size = A at hD hE ⊢
  have hA : ∀ q : Nat, s.heap.size ≤ q → A q := fun q h => by rw [← hAe]; exact Or.inr h
  have hS : va_S A s.heap s.heap [] := va_S.rf
  have hl := lv_entry ([.int x0]) (n := 3) (Nat.le_of_ble_eq_true rfl)
  rw [lg_entry_eq]
  generalize (lg_sl ([.int x0]) ++ List.replicate (3 - (lg_sl ([.int x0])).length) Slot.unset).toArray = ls at hl ⊢
  have hl : lv_has ls 3 [(0, .int x0)] := hl
  refine w_M_bytesIn_0 S hE hA (Nat.le_refl _) (Nat.le_refl _) ?_ x0 z0 hB _ _ _ hP hD hS hl
  intro pc ls r σ H locs hd hp hP hD hS
  exact W.iret (v := r) B.exec B.bytes B.returns (fun t ht hW => ⟨⟨r, σ, rfl, hp, by rw [ht]; exact hP, hD⟩, hS.F ht⟩) hS.2.2 hd
def B_M_put_43 (post : St → Prop) (ih3 : Int32 → Int32 → St → Prop) (x1 : Int32) (x2 : Int32) (z0 : St) : Prop :=
  (∀ v1 : Int32, v1 = x2 + (-8 : Int32) → (ih3 x1 v1 z0))
set_option maxHeartbeats 4000000 in
set_option maxRecDepth 100000 in
theorem w_M_put_43 {p : Program} {l : Launch} {e : Env} {R : Room} {s : State} {m : MethodId} {args : Array Value} {below : List Frame} {meth : Method} {c : Code} {Q : State → Prop} {G : GX} {A : Nat → Prop} (S : CallFix p m c cX12_put 3 s args GW RX12) (hE : env G A s s.heap) (hA : ∀ q, s.heap.size ≤ q → A q) (hRf : 0 ≤ R.frames) (hRl : 0 ≤ R.locals) {post : St → Prop} (hret : RetV p l e R s m args below meth c Q 0 0 wM G A cX12_put post) {ih3 : Int32 → Int32 → St → Prop} (h3 : ∀ (x1 : Int32) (x2 : Int32) (z0 : St), ih3 x1 x2 z0 → Xw p l e R s m args below meth c Q 0 0 wM G A z0 3 [(0, .ref (ad G 100)), (1, .int x1), (2, .int x2)] 3 []) (x1 : Int32) (x2 : Int32) (z0 : St) (hB : B_M_put_43 post ih3 x1 x2 z0) : Xw p l e R s m args below meth c Q 0 0 wM G A z0 3 [(0, .ref (ad G 100)), (1, .int x1), (2, .int x2)] 43 [] := by
  intro H locs ls hP hD hS hl
  have hx := S.1
  have hb := S.2.1
  obtain ⟨v1, ev1⟩ : ∃ y9, y9 = x2 + (-8 : Int32) := ⟨_, rfl⟩
  have hB := hB v1 ev1
  refine lv_iinc (v := v1) (lv' := [(2, .int v1), (0, .ref (ad G 100)), (1, .int x1)]) hx hb dX12_put_43 hl (k := 2) rfl (by rw [ev1]; rfl) (by decide) rfl (fun ls hl => ?_)
  refine lv_goto (tgt := 3) hx hb dX12_put_46 (by decide) ?_
  exact h3 x1 v1 z0 hB _ _ _ hP hD hS (lv_sub hl [1, 2, 0] rfl)
def B_M_put_3 (post : St → Prop) (ih3 : Int32 → Int32 → St → Prop) (x1 : Int32) (x2 : Int32) (z0 : St) : Prop :=
  ((x2 < 0 → (post z0)) ∧ (¬ x2 < 0 → ((((x1 >>> (x2 &&& 31)) &&& (255 : Int32)) = 0 → (B_M_put_43 post ih3 x1 x2 z0)) ∧ (¬ ((x1 >>> (x2 &&& 31)) &&& (255 : Int32)) = 0 → (vp_in (gI z0 101) 240 ∧ (∀ z1 : St, z1 = sA z0 101 (gI z0 101).toNatClampNeg (vp_nar .byte (((x1 >>> (x2 &&& 31))).toInt8.toInt32)) → (∀ z2 : St, z2 = sI z1 101 ((gI z1 101) + (1 : Int32)) → (B_M_put_43 post ih3 x1 x2 z2))))))))
set_option maxHeartbeats 4000000 in
set_option maxRecDepth 100000 in
theorem w_M_put_3 {p : Program} {l : Launch} {e : Env} {R : Room} {s : State} {m : MethodId} {args : Array Value} {below : List Frame} {meth : Method} {c : Code} {Q : State → Prop} {G : GX} {A : Nat → Prop} (S : CallFix p m c cX12_put 3 s args GW RX12) (hE : env G A s s.heap) (hA : ∀ q, s.heap.size ≤ q → A q) (hRf : 0 ≤ R.frames) (hRl : 0 ≤ R.locals) {post : St → Prop} (hret : RetV p l e R s m args below meth c Q 0 0 wM G A cX12_put post) {ih3 : Int32 → Int32 → St → Prop} (h3 : ∀ (x1 : Int32) (x2 : Int32) (z0 : St), ih3 x1 x2 z0 → Xw p l e R s m args below meth c Q 0 0 wM G A z0 3 [(0, .ref (ad G 100)), (1, .int x1), (2, .int x2)] 3 []) (x1 : Int32) (x2 : Int32) (z0 : St) (hB : B_M_put_3 post ih3 x1 x2 z0) : Xw p l e R s m args below meth c Q 0 0 wM G A z0 3 [(0, .ref (ad G 100)), (1, .int x1), (2, .int x2)] 3 [] := by
  intro H locs ls hP hD hS hl
  have hx := S.1
  have hb := S.2.1
  refine lv_iload_n hx hb dX12_put_3 rfl (lv_at hl 2 rfl) ?_
  refine lv_if_lt (tgt := 49) hx hb dX12_put_4 (by decide) (fun c1 => ?_) (fun c1 => ?_)
  · have hB := hB.1 c1
    exact hret _ _ _ _ _ dX12_put_49 hB hP hD hS
  · have hB := hB.2 c1
    refine lv_iload_n hx hb dX12_put_7 rfl (lv_at hl 1 rfl) ?_
    refine lv_iload_n hx hb dX12_put_8 rfl (lv_at hl 2 rfl) ?_
    refine lv_ishr hx hb dX12_put_9 ?_
    refine lv_sipush (v := 255) hx hb dX12_put_10 (by decide) ?_
    refine lv_iand hx hb dX12_put_13 ?_
    refine lv_if_ne (tgt := 20) hx hb dX12_put_14 (by decide) (fun c2 => ?_) (fun c2 => ?_)
    · have hB := hB.2 c2
      refine lv_aload_n hx hb dX12_put_20 rfl (lv_at hl 0 rfl) ?_
      refine xMg_100_tape S hE hP lk_X12_9 dX12_put_21 ?_
      refine lv_aload_n hx hb dX12_put_24 rfl (lv_at hl 0 rfl) ?_
      refine xMg_100_length S hE hP lk_X12_102 dX12_put_25 ?_
      refine lv_iload_n hx hb dX12_put_28 rfl (lv_at hl 1 rfl) ?_
      refine lv_iload_n hx hb dX12_put_29 rfl (lv_at hl 2 rfl) ?_
      refine lv_ishr hx hb dX12_put_30 ?_
      refine lv_i2b hx hb dX12_put_31 rfl ?_
      obtain ⟨hi, hB⟩ := hB
      obtain ⟨z1, ez1⟩ : ∃ z9, z9 = sA z0 101 (gI z0 101).toNatClampNeg (vp_nar .byte (((x1 >>> (x2 &&& 31))).toInt8.toInt32)) := ⟨_, rfl⟩
      have hB := hB z1 ez1
      refine xMs_101 S hE hP hD hS _ rfl hi dX12_put_32 (fun H locs hP hD hS => ?_)
      rw [← ez1] at hP hD
      refine lv_aload_n hx hb dX12_put_33 rfl (lv_at hl 0 rfl) ?_
      refine lv_dup hx hb dX12_put_34 rfl ?_
      refine xMg_100_length S hE hP lk_X12_102 dX12_put_35 ?_
      refine lv_iconst (v := 1) hx hb dX12_put_38 (by decide) ?_
      refine lv_iadd hx hb dX12_put_39 ?_
      obtain ⟨z2, ez2⟩ : ∃ z9, z9 = sI z1 101 ((gI z1 101) + (1 : Int32)) := ⟨_, rfl⟩
      have hB := hB z2 ez2
      refine xMp_100_length S hE hP hD hS lk_X12_102 dX12_put_40 (fun H locs hP hD hS => ?_)
      rw [← ez2] at hP hD
      exact w_M_put_43 S hE hA hRf hRl hret h3 x1 x2 z2 hB _ _ _ hP hD hS (lv_sub hl [0, 1, 2] rfl)
    · have hB := hB.1 c2
      refine lv_goto (tgt := 43) hx hb dX12_put_17 (by decide) ?_
      exact w_M_put_43 S hE hA hRf hRl hret h3 x1 x2 z0 hB _ _ _ hP hD hS (lv_sub hl [0, 1, 2] rfl)
def L_M_put_3 (post : St → Prop) : Nat → Int32 → Int32 → St → Prop
  | 0 => fun _ _ _ => False
  | n + 1 => B_M_put_3 post (L_M_put_3 post n)
theorem wl_M_put_3 {p : Program} {l : Launch} {e : Env} {R : Room} {s : State} {m : MethodId} {args : Array Value} {below : List Frame} {meth : Method} {c : Code} {Q : State → Prop} {G : GX} {A : Nat → Prop} (S : CallFix p m c cX12_put 3 s args GW RX12) (hE : env G A s s.heap) (hA : ∀ q, s.heap.size ≤ q → A q) (hRf : 0 ≤ R.frames) (hRl : 0 ≤ R.locals) {post : St → Prop} (hret : RetV p l e R s m args below meth c Q 0 0 wM G A cX12_put post) : ∀ (n : Nat) (x1 : Int32) (x2 : Int32) (z0 : St), L_M_put_3 post n x1 x2 z0 → Xw p l e R s m args below meth c Q 0 0 wM G A z0 3 [(0, .ref (ad G 100)), (1, .int x1), (2, .int x2)] 3 [] := by
  intro n
  induction n with
  | zero => intro x1 x2 z0 hB; exact absurd hB id
  | succ n ih => exact fun x1 x2 z0 hB => w_M_put_3 S hE hA hRf hRl hret ih x1 x2 z0 hB
def S_M_put (post : St → Prop) (x1 : Int32) (z0 : St) : Prop :=
  (∃ n1, L_M_put_3 post n1 x1 (24 : Int32) z0)
set_option maxHeartbeats 4000000 in
set_option maxRecDepth 100000 in
theorem w_M_put_0 {p : Program} {l : Launch} {e : Env} {R : Room} {s : State} {m : MethodId} {args : Array Value} {below : List Frame} {meth : Method} {c : Code} {Q : State → Prop} {G : GX} {A : Nat → Prop} (S : CallFix p m c cX12_put 3 s args GW RX12) (hE : env G A s s.heap) (hA : ∀ q, s.heap.size ≤ q → A q) (hRf : 0 ≤ R.frames) (hRl : 0 ≤ R.locals) {post : St → Prop} (hret : RetV p l e R s m args below meth c Q 0 0 wM G A cX12_put post) (x1 : Int32) (z0 : St) (hB : S_M_put post x1 z0) : Xw p l e R s m args below meth c Q 0 0 wM G A z0 3 [(0, .ref (ad G 100)), (1, .int x1)] 0 [] := by
  intro H locs ls hP hD hS hl
  have hx := S.1
  have hb := S.2.1
  refine lv_bipush (v := 24) hx hb dX12_put_0 (by decide) ?_
  refine lv_istore_n (lv' := [(2, .int (24 : Int32)), (0, .ref (ad G 100)), (1, .int x1)]) hx hb dX12_put_2 rfl hl (by decide) rfl (fun ls hl => ?_)
  obtain ⟨n1, hB⟩ := hB
  exact wl_M_put_3 S hE hA hRf hRl hret n1 x1 (24 : Int32) z0 hB _ _ _ hP hD hS (lv_sub hl [1, 2, 0] rfl)
set_option maxHeartbeats 4000000 in
set_option maxRecDepth 100000 in
theorem c_M_put (l : Launch) (G : GX) (z0 : St) (sz : Nat) (x1 : Int32) (post : St → Prop) : MetV l wM yX12_put cX12_put 3 none ({ frames := 0, cells := 0, slots := 0, locals := 0 }) [.ref (ad G 100), .int x1] G z0 sz (S_M_put post x1 z0) post := by
  refine Met.ofW (cc := cX12_put) (maxL := 3) (ret := none) (by decide) rfl ?_
  intro p e s m args below meth c s₁ B hml hv
  obtain ⟨rfl, hsz, hP, hD0, hE, hB⟩ := hv
  have S : CallFix p m c cX12_put 3 s _ GW RX12 := ⟨B.exec, B.bytes, hml, findClass_of_methodNamed B.named, fun w h => atoms_spec (ws := Cond.code yX12_put cX12_put 3 none :: GW) B.pre w (List.mem_cons_of_mem _ h)⟩
  have hlocks := B.notSynchronized
  subst hsz
  have hD := hD0.self (sz := s.heap.size)
  generalize hAe : va_A (wM G z0) s.heap.size = A at hD hE ⊢
  have hA : ∀ q : Nat, s.heap.size ≤ q → A q := fun q h => by rw [← hAe]; exact Or.inr h
  have hS : va_S A s.heap s.heap [] := va_S.rf
  have hl := lv_entry ([.ref (ad G 100), .int x1]) (n := 3) (Nat.le_of_ble_eq_true rfl)
  rw [lg_entry_eq]
  generalize (lg_sl ([.ref (ad G 100), .int x1]) ++ List.replicate (3 - (lg_sl ([.ref (ad G 100), .int x1])).length) Slot.unset).toArray = ls at hl ⊢
  have hl : lv_has ls 3 [(0, .ref (ad G 100)), (1, .int x1)] := hl
  refine w_M_put_0 S hE hA (Nat.le_refl _) (Nat.le_refl _) ?_ x1 z0 hB _ _ _ hP hD hS hl
  intro pc ls σ H locs hd hp hP hD hS
  exact W.vret B.exec B.bytes B.returns (fun t ht hW => ⟨⟨σ, rfl, hp, by rw [ht]; exact hP, hD⟩, hS.F ht⟩) hS.2.2 hd
def S_M_feed (post : Int32 → St → Prop) (x1 : Int32) (x2 : Int32) (x3 : Int32) (x4 : Int32) (x5 : Int32) (z0 : St) : Prop :=
  (∀ z1 : St, z1 = sI z0 100 (0 : Int32) → (S_M_bytesIn (fun (r1 : Int32) (z2 : St) => (S_M_bytesIn (fun (r2 : Int32) (z3 : St) => (S_M_bytesIn (fun (r3 : Int32) (z4 : St) => (S_M_bytesIn (fun (r4 : Int32) (z5 : St) => (S_M_bytesIn (fun (r5 : Int32) (z6 : St) => ((((((((gI z1 101) + r1) + r2) + r3) + r4) + r5) ≤ (240 : Int32) → (S_M_put (fun (z7 : St) => (S_M_put (fun (z8 : St) => (S_M_put (fun (z9 : St) => (S_M_put (fun (z10 : St) => (S_M_put (fun (z11 : St) => (post (gI z11 101) z11)) x5 z10)) x4 z9)) x3 z8)) x2 z7)) x1 z6)) ∧ (¬ ((((((gI z1 101) + r1) + r2) + r3) + r4) + r5) ≤ (240 : Int32) → (post (-1 : Int32) z6)))) x5 z5)) x4 z4)) x3 z3)) x2 z2)) x1 z1))
set_option maxHeartbeats 4000000 in
set_option maxRecDepth 100000 in
theorem w_M_feed_0 {p : Program} {l : Launch} {e : Env} {R : Room} {s : State} {m : MethodId} {args : Array Value} {below : List Frame} {meth : Method} {c : Code} {Q : State → Prop} {G : GX} {A : Nat → Prop} (S : CallFix p m c cX12_feed 6 s args GW RX12) (hE : env G A s s.heap) (hA : ∀ q, s.heap.size ≤ q → A q) (hRf : 1 ≤ R.frames) (hRl : 22 ≤ R.locals) {post : Int32 → St → Prop} (hret : RetI p l e R s m args below meth c Q 0 0 wM G A cX12_feed post) (x1 : Int32) (x2 : Int32) (x3 : Int32) (x4 : Int32) (x5 : Int32) (z0 : St) (hB : S_M_feed post x1 x2 x3 x4 x5 z0) : Xw p l e R s m args below meth c Q 0 0 wM G A z0 6 [(0, .ref (ad G 100)), (1, .int x1), (2, .int x2), (3, .int x3), (4, .int x4), (5, .int x5)] 0 [] := by
  intro H locs ls hP hD hS hl
  have hx := S.1
  have hb := S.2.1
  refine lv_aload_n hx hb dX12_feed_0 rfl (lv_at hl 0 rfl) ?_
  refine lv_iconst (v := 0) hx hb dX12_feed_1 (by decide) ?_
  obtain ⟨z1, ez1⟩ : ∃ z9, z9 = sI z0 100 (0 : Int32) := ⟨_, rfl⟩
  have hB := hB z1 ez1
  refine xMp_100_thrown S hE hP hD hS lk_X12_89 dX12_feed_2 (fun H locs hP hD hS => ?_)
  rw [← ez1] at hP hD
  refine lv_aload_n hx hb dX12_feed_5 rfl (lv_at hl 0 rfl) ?_
  refine xMg_100_length S hE hP lk_X12_102 dX12_feed_6 ?_
  refine lv_iload_n hx hb dX12_feed_9 rfl (lv_at hl 1 rfl) ?_
  refine xcSi [.int x1] S hE hA hP hD hS (c_M_bytesIn l G z1 H.size x1 _) hB (gw_c lk_X12_104 (gw_c wt_X12_bytesIn (gw_c wn_X12 (gw_c wc_X12_bytesIn (fun _ h9 => h9))))) hs_X12_bytesIn rfl rfl (Nat.le_trans (Nat.le_of_ble_eq_true rfl) hRf) (Nat.le_trans (Nat.le_of_ble_eq_true rfl) hRl) ⟨Nat.zero_le _, Nat.zero_le _⟩ rfl hl.1 rfl (Nat.le_of_ble_eq_true rfl) dX12_feed_10 (fun r1 z2 H locs hB hP hD hS => ?_)
  refine lv_iadd hx hb dX12_feed_13 ?_
  refine lv_iload_n hx hb dX12_feed_14 rfl (lv_at hl 2 rfl) ?_
  refine xcSi [.int x2] S hE hA hP hD hS (c_M_bytesIn l G z2 H.size x2 _) hB (gw_c lk_X12_104 (gw_c wt_X12_bytesIn (gw_c wn_X12 (gw_c wc_X12_bytesIn (fun _ h9 => h9))))) hs_X12_bytesIn rfl rfl (Nat.le_trans (Nat.le_of_ble_eq_true rfl) hRf) (Nat.le_trans (Nat.le_of_ble_eq_true rfl) hRl) ⟨Nat.zero_le _, Nat.zero_le _⟩ rfl hl.1 rfl (Nat.le_of_ble_eq_true rfl) dX12_feed_15 (fun r2 z3 H locs hB hP hD hS => ?_)
  refine lv_iadd hx hb dX12_feed_18 ?_
  refine lv_iload_n hx hb dX12_feed_19 rfl (lv_at hl 3 rfl) ?_
  refine xcSi [.int x3] S hE hA hP hD hS (c_M_bytesIn l G z3 H.size x3 _) hB (gw_c lk_X12_104 (gw_c wt_X12_bytesIn (gw_c wn_X12 (gw_c wc_X12_bytesIn (fun _ h9 => h9))))) hs_X12_bytesIn rfl rfl (Nat.le_trans (Nat.le_of_ble_eq_true rfl) hRf) (Nat.le_trans (Nat.le_of_ble_eq_true rfl) hRl) ⟨Nat.zero_le _, Nat.zero_le _⟩ rfl hl.1 rfl (Nat.le_of_ble_eq_true rfl) dX12_feed_20 (fun r3 z4 H locs hB hP hD hS => ?_)
  refine lv_iadd hx hb dX12_feed_23 ?_
  refine lv_iload hx hb dX12_feed_24 (lv_at hl 4 rfl) ?_
  refine xcSi [.int x4] S hE hA hP hD hS (c_M_bytesIn l G z4 H.size x4 _) hB (gw_c lk_X12_104 (gw_c wt_X12_bytesIn (gw_c wn_X12 (gw_c wc_X12_bytesIn (fun _ h9 => h9))))) hs_X12_bytesIn rfl rfl (Nat.le_trans (Nat.le_of_ble_eq_true rfl) hRf) (Nat.le_trans (Nat.le_of_ble_eq_true rfl) hRl) ⟨Nat.zero_le _, Nat.zero_le _⟩ rfl hl.1 rfl (Nat.le_of_ble_eq_true rfl) dX12_feed_26 (fun r4 z5 H locs hB hP hD hS => ?_)
  refine lv_iadd hx hb dX12_feed_29 ?_
  refine lv_iload hx hb dX12_feed_30 (lv_at hl 5 rfl) ?_
  refine xcSi [.int x5] S hE hA hP hD hS (c_M_bytesIn l G z5 H.size x5 _) hB (gw_c lk_X12_104 (gw_c wt_X12_bytesIn (gw_c wn_X12 (gw_c wc_X12_bytesIn (fun _ h9 => h9))))) hs_X12_bytesIn rfl rfl (Nat.le_trans (Nat.le_of_ble_eq_true rfl) hRf) (Nat.le_trans (Nat.le_of_ble_eq_true rfl) hRl) ⟨Nat.zero_le _, Nat.zero_le _⟩ rfl hl.1 rfl (Nat.le_of_ble_eq_true rfl) dX12_feed_32 (fun r5 z6 H locs hB hP hD hS => ?_)
  refine lv_iadd hx hb dX12_feed_35 ?_
  refine lv_sipush (v := 240) hx hb dX12_feed_36 (by decide) ?_
  refine lv_icmp_le (tgt := 44) hx hb dX12_feed_39 (by decide) (fun c6 => ?_) (fun c6 => ?_)
  · have hB := hB.1 c6
    refine lv_aload_n hx hb dX12_feed_44 rfl (lv_at hl 0 rfl) ?_
    refine lv_iload_n hx hb dX12_feed_45 rfl (lv_at hl 1 rfl) ?_
    refine xcVv [.int x1] S hE hA hP hD hS (c_M_put l G z6 H.size x1 _) hB (gw_c lk_X12_108 (gw_c wi_X12_put (gw_c we_X12_X12_put_X12_put (gw_c wn_X12 (gw_c wc_X12_put (fun _ h9 => h9)))))) hd_X12_put rfl rfl (Nat.le_trans (Nat.le_of_ble_eq_true rfl) hRf) (Nat.le_trans (Nat.le_of_ble_eq_true rfl) hRl) ⟨Nat.zero_le _, Nat.zero_le _⟩ (va_recv hE.1 hP (ci := 11) (q0 := 0) rfl rfl) rfl hl.1 rfl (Nat.le_of_ble_eq_true rfl) dX12_feed_46 (fun z7 H locs hB hP hD hS => ?_)
    refine lv_aload_n hx hb dX12_feed_49 rfl (lv_at hl 0 rfl) ?_
    refine lv_iload_n hx hb dX12_feed_50 rfl (lv_at hl 2 rfl) ?_
    refine xcVv [.int x2] S hE hA hP hD hS (c_M_put l G z7 H.size x2 _) hB (gw_c lk_X12_108 (gw_c wi_X12_put (gw_c we_X12_X12_put_X12_put (gw_c wn_X12 (gw_c wc_X12_put (fun _ h9 => h9)))))) hd_X12_put rfl rfl (Nat.le_trans (Nat.le_of_ble_eq_true rfl) hRf) (Nat.le_trans (Nat.le_of_ble_eq_true rfl) hRl) ⟨Nat.zero_le _, Nat.zero_le _⟩ (va_recv hE.1 hP (ci := 11) (q0 := 0) rfl rfl) rfl hl.1 rfl (Nat.le_of_ble_eq_true rfl) dX12_feed_51 (fun z8 H locs hB hP hD hS => ?_)
    refine lv_aload_n hx hb dX12_feed_54 rfl (lv_at hl 0 rfl) ?_
    refine lv_iload_n hx hb dX12_feed_55 rfl (lv_at hl 3 rfl) ?_
    refine xcVv [.int x3] S hE hA hP hD hS (c_M_put l G z8 H.size x3 _) hB (gw_c lk_X12_108 (gw_c wi_X12_put (gw_c we_X12_X12_put_X12_put (gw_c wn_X12 (gw_c wc_X12_put (fun _ h9 => h9)))))) hd_X12_put rfl rfl (Nat.le_trans (Nat.le_of_ble_eq_true rfl) hRf) (Nat.le_trans (Nat.le_of_ble_eq_true rfl) hRl) ⟨Nat.zero_le _, Nat.zero_le _⟩ (va_recv hE.1 hP (ci := 11) (q0 := 0) rfl rfl) rfl hl.1 rfl (Nat.le_of_ble_eq_true rfl) dX12_feed_56 (fun z9 H locs hB hP hD hS => ?_)
    refine lv_aload_n hx hb dX12_feed_59 rfl (lv_at hl 0 rfl) ?_
    refine lv_iload hx hb dX12_feed_60 (lv_at hl 4 rfl) ?_
    refine xcVv [.int x4] S hE hA hP hD hS (c_M_put l G z9 H.size x4 _) hB (gw_c lk_X12_108 (gw_c wi_X12_put (gw_c we_X12_X12_put_X12_put (gw_c wn_X12 (gw_c wc_X12_put (fun _ h9 => h9)))))) hd_X12_put rfl rfl (Nat.le_trans (Nat.le_of_ble_eq_true rfl) hRf) (Nat.le_trans (Nat.le_of_ble_eq_true rfl) hRl) ⟨Nat.zero_le _, Nat.zero_le _⟩ (va_recv hE.1 hP (ci := 11) (q0 := 0) rfl rfl) rfl hl.1 rfl (Nat.le_of_ble_eq_true rfl) dX12_feed_62 (fun z10 H locs hB hP hD hS => ?_)
    refine lv_aload_n hx hb dX12_feed_65 rfl (lv_at hl 0 rfl) ?_
    refine lv_iload hx hb dX12_feed_66 (lv_at hl 5 rfl) ?_
    refine xcVv [.int x5] S hE hA hP hD hS (c_M_put l G z10 H.size x5 _) hB (gw_c lk_X12_108 (gw_c wi_X12_put (gw_c we_X12_X12_put_X12_put (gw_c wn_X12 (gw_c wc_X12_put (fun _ h9 => h9)))))) hd_X12_put rfl rfl (Nat.le_trans (Nat.le_of_ble_eq_true rfl) hRf) (Nat.le_trans (Nat.le_of_ble_eq_true rfl) hRl) ⟨Nat.zero_le _, Nat.zero_le _⟩ (va_recv hE.1 hP (ci := 11) (q0 := 0) rfl rfl) rfl hl.1 rfl (Nat.le_of_ble_eq_true rfl) dX12_feed_68 (fun z11 H locs hB hP hD hS => ?_)
    refine lv_aload_n hx hb dX12_feed_71 rfl (lv_at hl 0 rfl) ?_
    refine xMg_100_length S hE hP lk_X12_102 dX12_feed_72 ?_
    exact hret _ _ _ _ _ _ dX12_feed_75 hB hP hD hS
  · have hB := hB.2 c6
    refine lv_iconst (v := -1) hx hb dX12_feed_42 (by decide) ?_
    exact hret _ _ _ _ _ _ dX12_feed_43 hB hP hD hS
set_option maxHeartbeats 4000000 in
set_option maxRecDepth 100000 in
theorem c_M_feed (l : Launch) (G : GX) (z0 : St) (sz : Nat) (x1 : Int32) (x2 : Int32) (x3 : Int32) (x4 : Int32) (x5 : Int32) (post : Int32 → St → Prop) : MetI l wM yX12_feed cX12_feed 6 (some .int) ({ frames := 1, cells := 0, slots := 0, locals := 22 }) [.ref (ad G 100), .int x1, .int x2, .int x3, .int x4, .int x5] G z0 sz (S_M_feed post x1 x2 x3 x4 x5 z0) post := by
  refine Met.ofW (cc := cX12_feed) (maxL := 6) (ret := (some .int)) (by decide) rfl ?_
  intro p e s m args below meth c s₁ B hml hv
  obtain ⟨rfl, hsz, hP, hD0, hE, hB⟩ := hv
  have S : CallFix p m c cX12_feed 6 s _ GW RX12 := ⟨B.exec, B.bytes, hml, findClass_of_methodNamed B.named, fun w h => atoms_spec (ws := Cond.code yX12_feed cX12_feed 6 (some .int) :: GW) B.pre w (List.mem_cons_of_mem _ h)⟩
  have hlocks := B.notSynchronized
  subst hsz
  have hD := hD0.self (sz := s.heap.size)
  generalize hAe : va_A (wM G z0) s.heap.size = A at hD hE ⊢
  have hA : ∀ q : Nat, s.heap.size ≤ q → A q := fun q h => by rw [← hAe]; exact Or.inr h
  have hS : va_S A s.heap s.heap [] := va_S.rf
  have hl := lv_entry ([.ref (ad G 100), .int x1, .int x2, .int x3, .int x4, .int x5]) (n := 6) (Nat.le_of_ble_eq_true rfl)
  rw [lg_entry_eq]
  generalize (lg_sl ([.ref (ad G 100), .int x1, .int x2, .int x3, .int x4, .int x5]) ++ List.replicate (6 - (lg_sl ([.ref (ad G 100), .int x1, .int x2, .int x3, .int x4, .int x5])).length) Slot.unset).toArray = ls at hl ⊢
  have hl : lv_has ls 6 [(0, .ref (ad G 100)), (1, .int x1), (2, .int x2), (3, .int x3), (4, .int x4), (5, .int x5)] := hl
  refine w_M_feed_0 S hE hA (Nat.le_refl _) (Nat.le_refl _) ?_ x1 x2 x3 x4 x5 z0 hB _ _ _ hP hD hS hl
  intro pc ls r σ H locs hd hp hP hD hS
  exact W.iret (v := r) B.exec B.bytes B.returns (fun t ht hW => ⟨⟨r, σ, rfl, hp, by rw [ht]; exact hP, hD⟩, hS.F ht⟩) hS.2.2 hd
def S_M_end (post : Int32 → St → Prop) (x1 : Int32) (z0 : St) : Prop :=
  (∀ z1 : St, z1 = sI z0 100 (0 : Int32) → ((x1 < 0 → (post (0 : Int32) z1)) ∧ (¬ x1 < 0 → ((x1 ≤ (gI z1 101) → (∀ z2 : St, z2 = sI z1 101 x1 → (post (1 : Int32) z2))) ∧ (¬ x1 ≤ (gI z1 101) → (post (0 : Int32) z1))))))
set_option maxHeartbeats 4000000 in
set_option maxRecDepth 100000 in
theorem w_M_end_0 {p : Program} {l : Launch} {e : Env} {R : Room} {s : State} {m : MethodId} {args : Array Value} {below : List Frame} {meth : Method} {c : Code} {Q : State → Prop} {G : GX} {A : Nat → Prop} (S : CallFix p m c cX12_end 2 s args GW RX12) (hE : env G A s s.heap) (hA : ∀ q, s.heap.size ≤ q → A q) (hRf : 0 ≤ R.frames) (hRl : 0 ≤ R.locals) {post : Int32 → St → Prop} (hret : RetZ p l e R s m args below meth c Q 0 0 wM G A cX12_end post) (x1 : Int32) (z0 : St) (hB : S_M_end post x1 z0) : Xw p l e R s m args below meth c Q 0 0 wM G A z0 2 [(0, .ref (ad G 100)), (1, .int x1)] 0 [] := by
  intro H locs ls hP hD hS hl
  have hx := S.1
  have hb := S.2.1
  refine lv_aload_n hx hb dX12_end_0 rfl (lv_at hl 0 rfl) ?_
  refine lv_iconst (v := 0) hx hb dX12_end_1 (by decide) ?_
  obtain ⟨z1, ez1⟩ : ∃ z9, z9 = sI z0 100 (0 : Int32) := ⟨_, rfl⟩
  have hB := hB z1 ez1
  refine xMp_100_thrown S hE hP hD hS lk_X12_89 dX12_end_2 (fun H locs hP hD hS => ?_)
  rw [← ez1] at hP hD
  refine lv_iload_n hx hb dX12_end_5 rfl (lv_at hl 1 rfl) ?_
  refine lv_if_lt (tgt := 17) hx hb dX12_end_6 (by decide) (fun c1 => ?_) (fun c1 => ?_)
  · have hB := hB.1 c1
    refine lv_iconst (v := 0) hx hb dX12_end_17 (by decide) ?_
    exact hret _ _ _ _ _ _ dX12_end_18 ⟨by decide, hB⟩ hP hD hS
  · have hB := hB.2 c1
    refine lv_iload_n hx hb dX12_end_9 rfl (lv_at hl 1 rfl) ?_
    refine lv_aload_n hx hb dX12_end_10 rfl (lv_at hl 0 rfl) ?_
    refine xMg_100_length S hE hP lk_X12_102 dX12_end_11 ?_
    refine lv_icmp_le (tgt := 19) hx hb dX12_end_14 (by decide) (fun c2 => ?_) (fun c2 => ?_)
    · have hB := hB.1 c2
      refine lv_aload_n hx hb dX12_end_19 rfl (lv_at hl 0 rfl) ?_
      refine lv_iload_n hx hb dX12_end_20 rfl (lv_at hl 1 rfl) ?_
      obtain ⟨z2, ez2⟩ : ∃ z9, z9 = sI z1 101 x1 := ⟨_, rfl⟩
      have hB := hB z2 ez2
      refine xMp_100_length S hE hP hD hS lk_X12_102 dX12_end_21 (fun H locs hP hD hS => ?_)
      rw [← ez2] at hP hD
      refine lv_iconst (v := 1) hx hb dX12_end_24 (by decide) ?_
      exact hret _ _ _ _ _ _ dX12_end_25 ⟨by decide, hB⟩ hP hD hS
    · have hB := hB.2 c2
      refine lv_iconst (v := 0) hx hb dX12_end_17 (by decide) ?_
      exact hret _ _ _ _ _ _ dX12_end_18 ⟨by decide, hB⟩ hP hD hS
set_option maxHeartbeats 4000000 in
set_option maxRecDepth 100000 in
theorem c_M_end (l : Launch) (G : GX) (z0 : St) (sz : Nat) (x1 : Int32) (post : Int32 → St → Prop) : MetI l wM yX12_end cX12_end 2 (some .boolean) ({ frames := 0, cells := 0, slots := 0, locals := 0 }) [.ref (ad G 100), .int x1] G z0 sz (S_M_end post x1 z0) post := by
  refine Met.ofW (cc := cX12_end) (maxL := 2) (ret := (some .boolean)) (by decide) rfl ?_
  intro p e s m args below meth c s₁ B hml hv
  obtain ⟨rfl, hsz, hP, hD0, hE, hB⟩ := hv
  have S : CallFix p m c cX12_end 2 s _ GW RX12 := ⟨B.exec, B.bytes, hml, findClass_of_methodNamed B.named, fun w h => atoms_spec (ws := Cond.code yX12_end cX12_end 2 (some .boolean) :: GW) B.pre w (List.mem_cons_of_mem _ h)⟩
  have hlocks := B.notSynchronized
  subst hsz
  have hD := hD0.self (sz := s.heap.size)
  generalize hAe : va_A (wM G z0) s.heap.size = A at hD hE ⊢
  have hA : ∀ q : Nat, s.heap.size ≤ q → A q := fun q h => by rw [← hAe]; exact Or.inr h
  have hS : va_S A s.heap s.heap [] := va_S.rf
  have hl := lv_entry ([.ref (ad G 100), .int x1]) (n := 2) (Nat.le_of_ble_eq_true rfl)
  rw [lg_entry_eq]
  generalize (lg_sl ([.ref (ad G 100), .int x1]) ++ List.replicate (2 - (lg_sl ([.ref (ad G 100), .int x1])).length) Slot.unset).toArray = ls at hl ⊢
  have hl : lv_has ls 2 [(0, .ref (ad G 100)), (1, .int x1)] := hl
  refine w_M_end_0 S hE hA (Nat.le_refl _) (Nat.le_refl _) ?_ x1 z0 hB _ _ _ hP hD hS hl
  intro pc ls r σ H locs hd hp hP hD hS
  exact W.zret (v := r) B.exec B.bytes B.returns (xboolc r hp.1) (fun t ht hW => ⟨⟨r, σ, rfl, hp.2, by rw [ht]; exact hP, hD⟩, hS.F ht⟩) hS.2.2 hd
def S_M_isIn (post : Int32 → St → Prop) (x0 : Int64) (x2 : Int64) (x4 : Int64) (z0 : St) : Prop :=
  (((lg_cmp x0 x2) < 0 → (post (0 : Int32) z0)) ∧ (¬ (lg_cmp x0 x2) < 0 → ((0 < (lg_cmp x0 x4) → (post (0 : Int32) z0)) ∧ (¬ 0 < (lg_cmp x0 x4) → (post (1 : Int32) z0)))))
set_option maxHeartbeats 4000000 in
set_option maxRecDepth 100000 in
theorem w_M_isIn_0 {p : Program} {l : Launch} {e : Env} {R : Room} {s : State} {m : MethodId} {args : Array Value} {below : List Frame} {meth : Method} {c : Code} {Q : State → Prop} {G : GX} {A : Nat → Prop} (S : CallFix p m c cX12_isIn 6 s args GW RX12) (hE : env G A s s.heap) (hA : ∀ q, s.heap.size ≤ q → A q) (hRf : 0 ≤ R.frames) (hRl : 0 ≤ R.locals) {post : Int32 → St → Prop} (hret : RetZ p l e R s m args below meth c Q 0 0 wM G A cX12_isIn post) (x0 : Int64) (x2 : Int64) (x4 : Int64) (z0 : St) (hB : S_M_isIn post x0 x2 x4 z0) : Xw p l e R s m args below meth c Q 0 0 wM G A z0 6 [(0, .long x0), (2, .long x2), (4, .long x4)] 0 [] := by
  intro H locs ls hP hD hS hl
  have hx := S.1
  have hb := S.2.1
  refine lv_lload_n hx hb dX12_isIn_0 rfl (lv_at hl 0 rfl) ?_
  refine lv_lload_n hx hb dX12_isIn_1 rfl (lv_at hl 1 rfl) ?_
  refine W.lcmp hx hb dX12_isIn_2 ?_
  refine lv_if_lt (tgt := 17) hx hb dX12_isIn_3 (by decide) (fun c1 => ?_) (fun c1 => ?_)
  · have hB := hB.1 c1
    refine lv_iconst (v := 0) hx hb dX12_isIn_17 (by decide) ?_
    exact hret _ _ _ _ _ _ dX12_isIn_18 ⟨by decide, hB⟩ hP hD hS
  · have hB := hB.2 c1
    refine lv_lload_n hx hb dX12_isIn_6 rfl (lv_at hl 0 rfl) ?_
    refine lv_lload hx hb dX12_isIn_7 (lv_at hl 2 rfl) ?_
    refine W.lcmp hx hb dX12_isIn_9 ?_
    refine lv_if_gt (tgt := 17) hx hb dX12_isIn_10 (by decide) (fun c2 => ?_) (fun c2 => ?_)
    · have hB := hB.1 c2
      refine lv_iconst (v := 0) hx hb dX12_isIn_17 (by decide) ?_
      exact hret _ _ _ _ _ _ dX12_isIn_18 ⟨by decide, hB⟩ hP hD hS
    · have hB := hB.2 c2
      refine lv_iconst (v := 1) hx hb dX12_isIn_13 (by decide) ?_
      refine lv_goto (tgt := 18) hx hb dX12_isIn_14 (by decide) ?_
      exact hret _ _ _ _ _ _ dX12_isIn_18 ⟨by decide, hB⟩ hP hD hS
set_option maxHeartbeats 4000000 in
set_option maxRecDepth 100000 in
theorem c_M_isIn (l : Launch) (G : GX) (z0 : St) (sz : Nat) (x0 : Int64) (x2 : Int64) (x4 : Int64) (post : Int32 → St → Prop) : MetI l wM yX12_isIn cX12_isIn 6 (some .boolean) ({ frames := 0, cells := 0, slots := 0, locals := 0 }) [.long x0, .long x2, .long x4] G z0 sz (S_M_isIn post x0 x2 x4 z0) post := by
  refine Met.ofW (cc := cX12_isIn) (maxL := 6) (ret := (some .boolean)) (by decide) rfl ?_
  intro p e s m args below meth c s₁ B hml hv
  obtain ⟨rfl, hsz, hP, hD0, hE, hB⟩ := hv
  have S : CallFix p m c cX12_isIn 6 s _ GW RX12 := ⟨B.exec, B.bytes, hml, findClass_of_methodNamed B.named, fun w h => atoms_spec (ws := Cond.code yX12_isIn cX12_isIn 6 (some .boolean) :: GW) B.pre w (List.mem_cons_of_mem _ h)⟩
  have hlocks := B.notSynchronized
  subst hsz
  have hD := hD0.self (sz := s.heap.size)
  generalize hAe : va_A (wM G z0) s.heap.size = A at hD hE ⊢
  have hA : ∀ q : Nat, s.heap.size ≤ q → A q := fun q h => by rw [← hAe]; exact Or.inr h
  have hS : va_S A s.heap s.heap [] := va_S.rf
  have hl := lv_entry ([.long x0, .long x2, .long x4]) (n := 6) (Nat.le_of_ble_eq_true rfl)
  rw [lg_entry_eq]
  generalize (lg_sl ([.long x0, .long x2, .long x4]) ++ List.replicate (6 - (lg_sl ([.long x0, .long x2, .long x4])).length) Slot.unset).toArray = ls at hl ⊢
  have hl : lv_has ls 6 [(0, .long x0), (2, .long x2), (4, .long x4)] := hl
  refine w_M_isIn_0 S hE hA (Nat.le_refl _) (Nat.le_refl _) ?_ x0 x2 x4 z0 hB _ _ _ hP hD hS hl
  intro pc ls r σ H locs hd hp hP hD hS
  exact W.zret (v := r) B.exec B.bytes B.returns (xboolc r hp.1) (fun t ht hW => ⟨⟨r, σ, rfl, hp.2, by rw [ht]; exact hP, hD⟩, hS.F ht⟩) hS.2.2 hd
def S_M_starts_r101 (post : St → Prop) (x2 : Int32) (x3 : Int32) (z0 : St) : Prop :=
  (∀ z1 : St, z1 = sT z0 1 101 → (∀ z2 : St, z2 = sI z1 103 x2 → (∀ z3 : St, z3 = sI z2 104 x3 → (∀ z4 : St, z4 = sI z3 105 (0 : Int32) → (∀ z5 : St, z5 = sI z4 106 (-1 : Int32) → (post z5))))))
set_option maxHeartbeats 4000000 in
set_option maxRecDepth 100000 in
theorem w_M_starts_r101_0 {p : Program} {l : Launch} {e : Env} {R : Room} {s : State} {m : MethodId} {args : Array Value} {below : List Frame} {meth : Method} {c : Code} {Q : State → Prop} {G : GX} {A : Nat → Prop} (S : CallFix p m c cX12_starts 4 s args GW RX12) (hE : env G A s s.heap) (hA : ∀ q, s.heap.size ≤ q → A q) (hRf : 0 ≤ R.frames) (hRl : 0 ≤ R.locals) {post : St → Prop} (hret : RetV p l e R s m args below meth c Q 0 0 wM G A cX12_starts post) (x2 : Int32) (x3 : Int32) (z0 : St) (hB : S_M_starts_r101 post x2 x3 z0) : Xw p l e R s m args below meth c Q 0 0 wM G A z0 4 [(0, .ref (ad G 100)), (1, .ref (ad G 101)), (2, .int x2), (3, .int x3)] 0 [] := by
  intro H locs ls hP hD hS hl
  have hx := S.1
  have hb := S.2.1
  refine lv_aload_n hx hb dX12_starts_0 rfl (lv_at hl 0 rfl) ?_
  refine lv_aload_n hx hb dX12_starts_1 rfl (lv_at hl 1 rfl) ?_
  obtain ⟨z1, ez1⟩ : ∃ z9, z9 = sT z0 1 101 := ⟨_, rfl⟩
  have hB := hB z1 ez1
  refine xMp_100_text S hE hP hD hS lk_X12_23 dX12_starts_2 (fun H locs hP hD hS => ?_)
  rw [← ez1] at hP hD
  refine lv_aload_n hx hb dX12_starts_5 rfl (lv_at hl 0 rfl) ?_
  refine lv_iload_n hx hb dX12_starts_6 rfl (lv_at hl 2 rfl) ?_
  obtain ⟨z2, ez2⟩ : ∃ z9, z9 = sI z1 103 x2 := ⟨_, rfl⟩
  have hB := hB z2 ez2
  refine xMp_100_begins S hE hP hD hS lk_X12_118 dX12_starts_7 (fun H locs hP hD hS => ?_)
  rw [← ez2] at hP hD
  refine lv_aload_n hx hb dX12_starts_10 rfl (lv_at hl 0 rfl) ?_
  refine lv_iload_n hx hb dX12_starts_11 rfl (lv_at hl 3 rfl) ?_
  obtain ⟨z3, ez3⟩ : ∃ z9, z9 = sI z2 104 x3 := ⟨_, rfl⟩
  have hB := hB z3 ez3
  refine xMp_100_ends S hE hP hD hS lk_X12_115 dX12_starts_12 (fun H locs hP hD hS => ?_)
  rw [← ez3] at hP hD
  refine lv_aload_n hx hb dX12_starts_15 rfl (lv_at hl 0 rfl) ?_
  refine lv_iconst (v := 0) hx hb dX12_starts_16 (by decide) ?_
  obtain ⟨z4, ez4⟩ : ∃ z9, z9 = sI z3 105 (0 : Int32) := ⟨_, rfl⟩
  have hB := hB z4 ez4
  refine xMp_100_at S hE hP hD hS lk_X12_112 dX12_starts_17 (fun H locs hP hD hS => ?_)
  rw [← ez4] at hP hD
  refine lv_aload_n hx hb dX12_starts_20 rfl (lv_at hl 0 rfl) ?_
  refine lv_iconst (v := -1) hx hb dX12_starts_21 (by decide) ?_
  obtain ⟨z5, ez5⟩ : ∃ z9, z9 = sI z4 106 (-1 : Int32) := ⟨_, rfl⟩
  have hB := hB z5 ez5
  refine xMp_100_fault S hE hP hD hS lk_X12_121 dX12_starts_22 (fun H locs hP hD hS => ?_)
  rw [← ez5] at hP hD
  exact hret _ _ _ _ _ dX12_starts_25 hB hP hD hS
set_option maxHeartbeats 4000000 in
set_option maxRecDepth 100000 in
theorem c_M_starts_r101 (l : Launch) (G : GX) (z0 : St) (sz : Nat) (x2 : Int32) (x3 : Int32) (post : St → Prop) : MetV l wM yX12_starts cX12_starts 4 none ({ frames := 0, cells := 0, slots := 0, locals := 0 }) [.ref (ad G 100), .ref (ad G 101), .int x2, .int x3] G z0 sz (S_M_starts_r101 post x2 x3 z0) post := by
  refine Met.ofW (cc := cX12_starts) (maxL := 4) (ret := none) (by decide) rfl ?_
  intro p e s m args below meth c s₁ B hml hv
  obtain ⟨rfl, hsz, hP, hD0, hE, hB⟩ := hv
  have S : CallFix p m c cX12_starts 4 s _ GW RX12 := ⟨B.exec, B.bytes, hml, findClass_of_methodNamed B.named, fun w h => atoms_spec (ws := Cond.code yX12_starts cX12_starts 4 none :: GW) B.pre w (List.mem_cons_of_mem _ h)⟩
  have hlocks := B.notSynchronized
  subst hsz
  have hD := hD0.self (sz := s.heap.size)
  generalize hAe : va_A (wM G z0) s.heap.size = A at hD hE ⊢
  have hA : ∀ q : Nat, s.heap.size ≤ q → A q := fun q h => by rw [← hAe]; exact Or.inr h
  have hS : va_S A s.heap s.heap [] := va_S.rf
  have hl := lv_entry ([.ref (ad G 100), .ref (ad G 101), .int x2, .int x3]) (n := 4) (Nat.le_of_ble_eq_true rfl)
  rw [lg_entry_eq]
  generalize (lg_sl ([.ref (ad G 100), .ref (ad G 101), .int x2, .int x3]) ++ List.replicate (4 - (lg_sl ([.ref (ad G 100), .ref (ad G 101), .int x2, .int x3])).length) Slot.unset).toArray = ls at hl ⊢
  have hl : lv_has ls 4 [(0, .ref (ad G 100)), (1, .ref (ad G 101)), (2, .int x2), (3, .int x3)] := hl
  refine w_M_starts_r101_0 S hE hA (Nat.le_refl _) (Nat.le_refl _) ?_ x2 x3 z0 hB _ _ _ hP hD hS hl
  intro pc ls σ H locs hd hp hP hD hS
  exact W.vret B.exec B.bytes B.returns (fun t ht hW => ⟨⟨σ, rfl, hp, by rw [ht]; exact hP, hD⟩, hS.F ht⟩) hS.2.2 hd
def B_M_look_43 (post : Int32 → St → Prop) (z0 : St) : Prop :=
  (((gI z0 104) ≤ (gI z0 105) → (post (-1 : Int32) z0)) ∧ (¬ (gI z0 104) ≤ (gI z0 105) → (txIn z0 ((gI z0 103) + (gI z0 105)) ∧ (post ((gA z0 (gT z0 1) ((gI z0 103) + (gI z0 105)).toNatClampNeg) &&& (255 : Int32)) z0))))
set_option maxHeartbeats 4000000 in
set_option maxRecDepth 100000 in
theorem w_M_look_43 {p : Program} {l : Launch} {e : Env} {R : Room} {s : State} {m : MethodId} {args : Array Value} {below : List Frame} {meth : Method} {c : Code} {Q : State → Prop} {G : GX} {A : Nat → Prop} (S : CallFix p m c cX12_look 1 s args GW RX12) (hE : env G A s s.heap) (hA : ∀ q, s.heap.size ≤ q → A q) (hRf : 0 ≤ R.frames) (hRl : 0 ≤ R.locals) {post : Int32 → St → Prop} (hret : RetI p l e R s m args below meth c Q 0 0 wM G A cX12_look post) (z0 : St) (hB : B_M_look_43 post z0) : Xw p l e R s m args below meth c Q 0 0 wM G A z0 1 [(0, .ref (ad G 100))] 43 [] := by
  intro H locs ls hP hD hS hl
  have hx := S.1
  have hb := S.2.1
  refine lv_aload_n hx hb dX12_look_43 rfl (lv_at hl 0 rfl) ?_
  refine xMg_100_at S hE hP lk_X12_112 dX12_look_44 ?_
  refine lv_aload_n hx hb dX12_look_47 rfl (lv_at hl 0 rfl) ?_
  refine xMg_100_ends S hE hP lk_X12_115 dX12_look_48 ?_
  refine lv_icmp_ge (tgt := 75) hx hb dX12_look_51 (by decide) (fun c1 => ?_) (fun c1 => ?_)
  · have hB := hB.1 c1
    refine lv_iconst (v := -1) hx hb dX12_look_75 (by decide) ?_
    exact hret _ _ _ _ _ _ dX12_look_76 hB hP hD hS
  · have hB := hB.2 c1
    refine lv_aload_n hx hb dX12_look_54 rfl (lv_at hl 0 rfl) ?_
    refine xMg_100_text S hE hP lk_X12_23 dX12_look_55 ?_
    refine lv_aload_n hx hb dX12_look_58 rfl (lv_at hl 0 rfl) ?_
    refine xMg_100_begins S hE hP lk_X12_118 dX12_look_59 ?_
    refine lv_aload_n hx hb dX12_look_62 rfl (lv_at hl 0 rfl) ?_
    refine xMg_100_at S hE hP lk_X12_112 dX12_look_63 ?_
    refine lv_iadd hx hb dX12_look_66 ?_
    obtain ⟨hi, hB⟩ := hB
    refine xMt S hE hP hi dX12_look_67 ?_
    refine lv_sipush (v := 255) hx hb dX12_look_68 (by decide) ?_
    refine lv_iand hx hb dX12_look_71 ?_
    refine lv_goto (tgt := 76) hx hb dX12_look_72 (by decide) ?_
    exact hret _ _ _ _ _ _ dX12_look_76 hB hP hD hS
def B_M_look_0 (post : Int32 → St → Prop) (ih0 : St → Prop) (z0 : St) : Prop :=
  (((gI z0 104) ≤ (gI z0 105) → (B_M_look_43 post z0)) ∧ (¬ (gI z0 104) ≤ (gI z0 105) → (txIn z0 ((gI z0 103) + (gI z0 105)) ∧ (((gA z0 (gT z0 1) ((gI z0 103) + (gI z0 105)).toNatClampNeg) = (32 : Int32) → (∀ z1 : St, z1 = sI z0 105 ((gI z0 105) + (1 : Int32)) → (ih0 z1))) ∧ (¬ (gA z0 (gT z0 1) ((gI z0 103) + (gI z0 105)).toNatClampNeg) = (32 : Int32) → (B_M_look_43 post z0))))))
set_option maxHeartbeats 4000000 in
set_option maxRecDepth 100000 in
theorem w_M_look_0 {p : Program} {l : Launch} {e : Env} {R : Room} {s : State} {m : MethodId} {args : Array Value} {below : List Frame} {meth : Method} {c : Code} {Q : State → Prop} {G : GX} {A : Nat → Prop} (S : CallFix p m c cX12_look 1 s args GW RX12) (hE : env G A s s.heap) (hA : ∀ q, s.heap.size ≤ q → A q) (hRf : 0 ≤ R.frames) (hRl : 0 ≤ R.locals) {post : Int32 → St → Prop} (hret : RetI p l e R s m args below meth c Q 0 0 wM G A cX12_look post) {ih0 : St → Prop} (h0 : ∀ (z0 : St), ih0 z0 → Xw p l e R s m args below meth c Q 0 0 wM G A z0 1 [(0, .ref (ad G 100))] 0 []) (z0 : St) (hB : B_M_look_0 post ih0 z0) : Xw p l e R s m args below meth c Q 0 0 wM G A z0 1 [(0, .ref (ad G 100))] 0 [] := by
  intro H locs ls hP hD hS hl
  have hx := S.1
  have hb := S.2.1
  refine lv_aload_n hx hb dX12_look_0 rfl (lv_at hl 0 rfl) ?_
  refine xMg_100_at S hE hP lk_X12_112 dX12_look_1 ?_
  refine lv_aload_n hx hb dX12_look_4 rfl (lv_at hl 0 rfl) ?_
  refine xMg_100_ends S hE hP lk_X12_115 dX12_look_5 ?_
  refine lv_icmp_ge (tgt := 43) hx hb dX12_look_8 (by decide) (fun c1 => ?_) (fun c1 => ?_)
  · have hB := hB.1 c1
    exact w_M_look_43 S hE hA hRf hRl hret z0 hB _ _ _ hP hD hS (lv_sub hl [0] rfl)
  · have hB := hB.2 c1
    refine lv_aload_n hx hb dX12_look_11 rfl (lv_at hl 0 rfl) ?_
    refine xMg_100_text S hE hP lk_X12_23 dX12_look_12 ?_
    refine lv_aload_n hx hb dX12_look_15 rfl (lv_at hl 0 rfl) ?_
    refine xMg_100_begins S hE hP lk_X12_118 dX12_look_16 ?_
    refine lv_aload_n hx hb dX12_look_19 rfl (lv_at hl 0 rfl) ?_
    refine xMg_100_at S hE hP lk_X12_112 dX12_look_20 ?_
    refine lv_iadd hx hb dX12_look_23 ?_
    obtain ⟨hi, hB⟩ := hB
    refine xMt S hE hP hi dX12_look_24 ?_
    refine lv_bipush (v := 32) hx hb dX12_look_25 (by decide) ?_
    refine lv_icmp_ne (tgt := 43) hx hb dX12_look_27 (by decide) (fun c2 => ?_) (fun c2 => ?_)
    · have hB := hB.2 c2
      exact w_M_look_43 S hE hA hRf hRl hret z0 hB _ _ _ hP hD hS (lv_sub hl [0] rfl)
    · have hB := hB.1 c2
      refine lv_aload_n hx hb dX12_look_30 rfl (lv_at hl 0 rfl) ?_
      refine lv_dup hx hb dX12_look_31 rfl ?_
      refine xMg_100_at S hE hP lk_X12_112 dX12_look_32 ?_
      refine lv_iconst (v := 1) hx hb dX12_look_35 (by decide) ?_
      refine lv_iadd hx hb dX12_look_36 ?_
      obtain ⟨z1, ez1⟩ : ∃ z9, z9 = sI z0 105 ((gI z0 105) + (1 : Int32)) := ⟨_, rfl⟩
      have hB := hB z1 ez1
      refine xMp_100_at S hE hP hD hS lk_X12_112 dX12_look_37 (fun H locs hP hD hS => ?_)
      rw [← ez1] at hP hD
      refine lv_goto (tgt := 0) hx hb dX12_look_40 (by decide) ?_
      exact h0 z1 hB _ _ _ hP hD hS (lv_sub hl [0] rfl)
def L_M_look_0 (post : Int32 → St → Prop) : Nat → St → Prop
  | 0 => fun _ => False
  | n + 1 => B_M_look_0 post (L_M_look_0 post n)
theorem wl_M_look_0 {p : Program} {l : Launch} {e : Env} {R : Room} {s : State} {m : MethodId} {args : Array Value} {below : List Frame} {meth : Method} {c : Code} {Q : State → Prop} {G : GX} {A : Nat → Prop} (S : CallFix p m c cX12_look 1 s args GW RX12) (hE : env G A s s.heap) (hA : ∀ q, s.heap.size ≤ q → A q) (hRf : 0 ≤ R.frames) (hRl : 0 ≤ R.locals) {post : Int32 → St → Prop} (hret : RetI p l e R s m args below meth c Q 0 0 wM G A cX12_look post) : ∀ (n : Nat) (z0 : St), L_M_look_0 post n z0 → Xw p l e R s m args below meth c Q 0 0 wM G A z0 1 [(0, .ref (ad G 100))] 0 [] := by
  intro n
  induction n with
  | zero => intro z0 hB; exact absurd hB id
  | succ n ih => exact fun z0 hB => w_M_look_0 S hE hA hRf hRl hret ih z0 hB
def S_M_look (post : Int32 → St → Prop) (z0 : St) : Prop := ∃ n, L_M_look_0 post n  z0
set_option maxHeartbeats 4000000 in
set_option maxRecDepth 100000 in
theorem c_M_look (l : Launch) (G : GX) (z0 : St) (sz : Nat) (post : Int32 → St → Prop) : MetI l wM yX12_look cX12_look 1 (some .int) ({ frames := 0, cells := 0, slots := 0, locals := 0 }) [.ref (ad G 100)] G z0 sz (S_M_look post z0) post := by
  refine Met.ofW (cc := cX12_look) (maxL := 1) (ret := (some .int)) (by decide) rfl ?_
  intro p e s m args below meth c s₁ B hml hv
  obtain ⟨rfl, hsz, hP, hD0, hE, hB⟩ := hv
  have S : CallFix p m c cX12_look 1 s _ GW RX12 := ⟨B.exec, B.bytes, hml, findClass_of_methodNamed B.named, fun w h => atoms_spec (ws := Cond.code yX12_look cX12_look 1 (some .int) :: GW) B.pre w (List.mem_cons_of_mem _ h)⟩
  have hlocks := B.notSynchronized
  subst hsz
  have hD := hD0.self (sz := s.heap.size)
  generalize hAe : va_A (wM G z0) s.heap.size = A at hD hE ⊢
  have hA : ∀ q : Nat, s.heap.size ≤ q → A q := fun q h => by rw [← hAe]; exact Or.inr h
  have hS : va_S A s.heap s.heap [] := va_S.rf
  have hl := lv_entry ([.ref (ad G 100)]) (n := 1) (Nat.le_of_ble_eq_true rfl)
  rw [lg_entry_eq]
  generalize (lg_sl ([.ref (ad G 100)]) ++ List.replicate (1 - (lg_sl ([.ref (ad G 100)])).length) Slot.unset).toArray = ls at hl ⊢
  have hl : lv_has ls 1 [(0, .ref (ad G 100))] := hl
  obtain ⟨n0, hB⟩ := hB
  refine wl_M_look_0 S hE hA (Nat.le_refl _) (Nat.le_refl _) ?_ n0  z0 hB _ _ _ hP hD hS (lv_sub hl [0] rfl)
  intro pc ls r σ H locs hd hp hP hD hS
  exact W.iret (v := r) B.exec B.bytes B.returns (fun t ht hW => ⟨⟨r, σ, rfl, hp, by rw [ht]; exact hP, hD⟩, hS.F ht⟩) hS.2.2 hd
def S_M_fails (post : Int32 → St → Prop) (z0 : St) : Prop :=
  (((gI z0 106) = (-1 : Int32) → (∀ z1 : St, z1 = sI z0 106 (gI z0 105) → (post (0 : Int32) z1))) ∧ (¬ (gI z0 106) = (-1 : Int32) → (post (0 : Int32) z0)))
set_option maxHeartbeats 4000000 in
set_option maxRecDepth 100000 in
theorem w_M_fails_0 {p : Program} {l : Launch} {e : Env} {R : Room} {s : State} {m : MethodId} {args : Array Value} {below : List Frame} {meth : Method} {c : Code} {Q : State → Prop} {G : GX} {A : Nat → Prop} (S : CallFix p m c cX12_fails 1 s args GW RX12) (hE : env G A s s.heap) (hA : ∀ q, s.heap.size ≤ q → A q) (hRf : 0 ≤ R.frames) (hRl : 0 ≤ R.locals) {post : Int32 → St → Prop} (hret : RetZ p l e R s m args below meth c Q 0 0 wM G A cX12_fails post) (z0 : St) (hB : S_M_fails post z0) : Xw p l e R s m args below meth c Q 0 0 wM G A z0 1 [(0, .ref (ad G 100))] 0 [] := by
  intro H locs ls hP hD hS hl
  have hx := S.1
  have hb := S.2.1
  refine lv_aload_n hx hb dX12_fails_0 rfl (lv_at hl 0 rfl) ?_
  refine xMg_100_fault S hE hP lk_X12_121 dX12_fails_1 ?_
  refine lv_iconst (v := -1) hx hb dX12_fails_4 (by decide) ?_
  refine lv_icmp_ne (tgt := 16) hx hb dX12_fails_5 (by decide) (fun c1 => ?_) (fun c1 => ?_)
  · have hB := hB.2 c1
    refine lv_iconst (v := 0) hx hb dX12_fails_16 (by decide) ?_
    exact hret _ _ _ _ _ _ dX12_fails_17 ⟨by decide, hB⟩ hP hD hS
  · have hB := hB.1 c1
    refine lv_aload_n hx hb dX12_fails_8 rfl (lv_at hl 0 rfl) ?_
    refine lv_aload_n hx hb dX12_fails_9 rfl (lv_at hl 0 rfl) ?_
    refine xMg_100_at S hE hP lk_X12_112 dX12_fails_10 ?_
    obtain ⟨z1, ez1⟩ : ∃ z9, z9 = sI z0 106 (gI z0 105) := ⟨_, rfl⟩
    have hB := hB z1 ez1
    refine xMp_100_fault S hE hP hD hS lk_X12_121 dX12_fails_13 (fun H locs hP hD hS => ?_)
    rw [← ez1] at hP hD
    refine lv_iconst (v := 0) hx hb dX12_fails_16 (by decide) ?_
    exact hret _ _ _ _ _ _ dX12_fails_17 ⟨by decide, hB⟩ hP hD hS
set_option maxHeartbeats 4000000 in
set_option maxRecDepth 100000 in
theorem c_M_fails (l : Launch) (G : GX) (z0 : St) (sz : Nat) (post : Int32 → St → Prop) : MetI l wM yX12_fails cX12_fails 1 (some .boolean) ({ frames := 0, cells := 0, slots := 0, locals := 0 }) [.ref (ad G 100)] G z0 sz (S_M_fails post z0) post := by
  refine Met.ofW (cc := cX12_fails) (maxL := 1) (ret := (some .boolean)) (by decide) rfl ?_
  intro p e s m args below meth c s₁ B hml hv
  obtain ⟨rfl, hsz, hP, hD0, hE, hB⟩ := hv
  have S : CallFix p m c cX12_fails 1 s _ GW RX12 := ⟨B.exec, B.bytes, hml, findClass_of_methodNamed B.named, fun w h => atoms_spec (ws := Cond.code yX12_fails cX12_fails 1 (some .boolean) :: GW) B.pre w (List.mem_cons_of_mem _ h)⟩
  have hlocks := B.notSynchronized
  subst hsz
  have hD := hD0.self (sz := s.heap.size)
  generalize hAe : va_A (wM G z0) s.heap.size = A at hD hE ⊢
  have hA : ∀ q : Nat, s.heap.size ≤ q → A q := fun q h => by rw [← hAe]; exact Or.inr h
  have hS : va_S A s.heap s.heap [] := va_S.rf
  have hl := lv_entry ([.ref (ad G 100)]) (n := 1) (Nat.le_of_ble_eq_true rfl)
  rw [lg_entry_eq]
  generalize (lg_sl ([.ref (ad G 100)]) ++ List.replicate (1 - (lg_sl ([.ref (ad G 100)])).length) Slot.unset).toArray = ls at hl ⊢
  have hl : lv_has ls 1 [(0, .ref (ad G 100))] := hl
  refine w_M_fails_0 S hE hA (Nat.le_refl _) (Nat.le_refl _) ?_  z0 hB _ _ _ hP hD hS hl
  intro pc ls r σ H locs hd hp hP hD hS
  exact W.zret (v := r) B.exec B.bytes B.returns (xboolc r hp.1) (fun t ht hW => ⟨⟨r, σ, rfl, hp.2, by rw [ht]; exact hP, hD⟩, hS.F ht⟩) hS.2.2 hd
def S_String_coder_7d493_M (post : Int32 → St → Prop) (x0 : Nat) (z0 : St) : Prop :=
  (((1 : Int32) = 0 → (narrow .byte (.int (1 : Int32)) = .int (1 : Int32) ∧ post (1 : Int32) z0)) ∧ (¬ (1 : Int32) = 0 → (x0 < 8 ∧ (narrow .byte (.int (0 : Int32)) = .int (0 : Int32) ∧ post (0 : Int32) z0))))
set_option maxHeartbeats 4000000 in
set_option maxRecDepth 100000 in
theorem w_String_coder_7d493_M_0 {p : Program} {l : Launch} {e : Env} {R : Room} {s : State} {m : MethodId} {args : Array Value} {below : List Frame} {meth : Method} {c : Code} {Q : State → Prop} {G : GX} {A : Nat → Prop} (S : CallFix p m c cJ0_coder_7d493 1 s args GW RJ0) (hE : env G A s s.heap) (hA : ∀ q, s.heap.size ≤ q → A q) (hRf : 0 ≤ R.frames) (hRl : 0 ≤ R.locals) {post : Int32 → St → Prop} (hret : RetB p l e R s m args below meth c Q 0 0 wM G A cJ0_coder_7d493 post) (x0 : Nat) (z0 : St) (hB : S_String_coder_7d493_M post x0 z0) : Xw p l e R s m args below meth c Q 0 0 wM G A z0 1 [(0, .ref (tx G x0))] 0 [] := by
  intro H locs ls hP hD hS hl
  have hx := S.1
  have hb := S.2.1
  refine va_gets hx hb (ez_J0_COMPACT_STRINGS hE.2) hS S.2.2.2.1 (S.2.2.2.2 _ lk_J0_38) (fun _ h9 => h9) dJ0_coder_7d493_0 ?_
  refine lv_if_eq (tgt := 13) hx hb dJ0_coder_7d493_3 (by decide) (fun c1 => ?_) (fun c1 => ?_)
  · have hB := hB.1 c1
    refine lv_iconst (v := 1) hx hb dJ0_coder_7d493_13 (by decide) ?_
    exact hret _ _ _ _ _ _ dJ0_coder_7d493_14 hB hP hD hS
  · have hB := hB.2 c1
    refine lv_aload_n hx hb dJ0_coder_7d493_6 rfl (lv_at hl 0 rfl) ?_
    obtain ⟨hk9, hB⟩ := hB
    refine vk_getf hx hb ((eS hE.2).1 _ hk9).2.1 hS S.2.2.2.1 (S.2.2.2.2 _ lk_J0_15) (fun _ h9 => h9) dJ0_coder_7d493_7 ?_
    refine lv_goto (tgt := 14) hx hb dJ0_coder_7d493_10 (by decide) ?_
    exact hret _ _ _ _ _ _ dJ0_coder_7d493_14 hB hP hD hS
set_option maxHeartbeats 4000000 in
set_option maxRecDepth 100000 in
theorem c_String_coder_7d493_M (l : Launch) (G : GX) (z0 : St) (sz : Nat) (x0 : Nat) (post : Int32 → St → Prop) : MetI l wM yJ0_coder_7d493 cJ0_coder_7d493 1 (some .byte) ({ frames := 0, cells := 0, slots := 0, locals := 0 }) [.ref (tx G x0)] G z0 sz (S_String_coder_7d493_M post x0 z0) post := by
  refine Met.ofW (cc := cJ0_coder_7d493) (maxL := 1) (ret := (some .byte)) (by decide) rfl ?_
  intro p e s m args below meth c s₁ B hml hv
  obtain ⟨rfl, hsz, hP, hD0, hE, hB⟩ := hv
  have S : CallFix p m c cJ0_coder_7d493 1 s _ GW RJ0 := ⟨B.exec, B.bytes, hml, findClass_of_methodNamed B.named, fun w h => atoms_spec (ws := Cond.code yJ0_coder_7d493 cJ0_coder_7d493 1 (some .byte) :: GW) B.pre w (List.mem_cons_of_mem _ h)⟩
  have hlocks := B.notSynchronized
  subst hsz
  have hD := hD0.self (sz := s.heap.size)
  generalize hAe : va_A (wM G z0) s.heap.size = A at hD hE ⊢
  have hA : ∀ q : Nat, s.heap.size ≤ q → A q := fun q h => by rw [← hAe]; exact Or.inr h
  have hS : va_S A s.heap s.heap [] := va_S.rf
  have hl := lv_entry ([.ref (tx G x0)]) (n := 1) (Nat.le_of_ble_eq_true rfl)
  rw [lg_entry_eq]
  generalize (lg_sl ([.ref (tx G x0)]) ++ List.replicate (1 - (lg_sl ([.ref (tx G x0)])).length) Slot.unset).toArray = ls at hl ⊢
  have hl : lv_has ls 1 [(0, .ref (tx G x0))] := hl
  refine w_String_coder_7d493_M_0 S hE hA (Nat.le_refl _) (Nat.le_refl _) ?_ x0 z0 hB _ _ _ hP hD hS hl
  intro pc ls r σ H locs hd hp hP hD hS
  exact W.zret (v := r) B.exec B.bytes B.returns hp.1 (fun t ht hW => ⟨⟨r, σ, rfl, hp.2, by rw [ht]; exact hP, hD⟩, hS.F ht⟩) hS.2.2 hd
def S_String_length_8abf5_M (post : Int32 → St → Prop) (x0 : Nat) (z0 : St) : Prop :=
  (x0 < 8 ∧ (x0 < 8 ∧ (x0 < 8 ∧ (S_String_coder_7d493_M (fun (r1 : Int32) (z1 : St) => (post ((Int32.ofNat (slen.getD x0 0)) >>> (r1 &&& 31)) z1)) x0 z0))))
set_option maxHeartbeats 4000000 in
set_option maxRecDepth 100000 in
theorem w_String_length_8abf5_M_0 {p : Program} {l : Launch} {e : Env} {R : Room} {s : State} {m : MethodId} {args : Array Value} {below : List Frame} {meth : Method} {c : Code} {Q : State → Prop} {G : GX} {A : Nat → Prop} (S : CallFix p m c cJ0_length_8abf5 1 s args GW RJ0) (hE : env G A s s.heap) (hA : ∀ q, s.heap.size ≤ q → A q) (hRf : 1 ≤ R.frames) (hRl : 20 ≤ R.locals) {post : Int32 → St → Prop} (hret : RetI p l e R s m args below meth c Q 0 0 wM G A cJ0_length_8abf5 post) (x0 : Nat) (z0 : St) (hB : S_String_length_8abf5_M post x0 z0) : Xw p l e R s m args below meth c Q 0 0 wM G A z0 1 [(0, .ref (tx G x0))] 0 [] := by
  intro H locs ls hP hD hS hl
  have hx := S.1
  have hb := S.2.1
  refine lv_aload_n hx hb dJ0_length_8abf5_0 rfl (lv_at hl 0 rfl) ?_
  obtain ⟨hk9, hB⟩ := hB
  refine vk_getf hx hb ((eS hE.2).1 _ hk9).2.2.1 hS S.2.2.2.1 (S.2.2.2.2 _ lk_J0_9) (fun _ h9 => h9) dJ0_length_8abf5_1 ?_
  obtain ⟨hk9, hB⟩ := hB
  refine va_tlen hx hb ((eS hE.2).1 _ hk9).2.2.2 hS rfl dJ0_length_8abf5_4 ?_
  refine lv_aload_n hx hb dJ0_length_8abf5_5 rfl (lv_at hl 0 rfl) ?_
  obtain ⟨hk9, hB⟩ := hB
  have hrv9 := vk_recv (eS hE.2) hk9 hS
  refine xcVi [] S hE hA hP hD hS (c_String_coder_7d493_M l G z0 H.size x0 _) hB (gw_c lk_J0_335 (gw_c wi_J0_coder_7d493 (gw_c we_J0_J0_coder_7d493_J0_coder_7d493 (gw_c wn_J0 (gw_c wc_J0_coder_7d493 (fun _ h9 => h9)))))) hd_J0_coder_7d493 rfl rfl (Nat.le_trans (Nat.le_of_ble_eq_true rfl) hRf) (Nat.le_trans (Nat.le_of_ble_eq_true rfl) hRl) ⟨Nat.zero_le _, Nat.zero_le _⟩ hrv9 rfl hl.1 rfl (Nat.le_of_ble_eq_true rfl) dJ0_length_8abf5_6 (fun r1 z1 H locs hB hP hD hS => ?_)
  refine lv_ishr hx hb dJ0_length_8abf5_9 ?_
  exact hret _ _ _ _ _ _ dJ0_length_8abf5_10 hB hP hD hS
set_option maxHeartbeats 4000000 in
set_option maxRecDepth 100000 in
theorem c_String_length_8abf5_M (l : Launch) (G : GX) (z0 : St) (sz : Nat) (x0 : Nat) (post : Int32 → St → Prop) : MetI l wM yJ0_length_8abf5 cJ0_length_8abf5 1 (some .int) ({ frames := 1, cells := 0, slots := 0, locals := 20 }) [.ref (tx G x0)] G z0 sz (S_String_length_8abf5_M post x0 z0) post := by
  refine Met.ofW (cc := cJ0_length_8abf5) (maxL := 1) (ret := (some .int)) (by decide) rfl ?_
  intro p e s m args below meth c s₁ B hml hv
  obtain ⟨rfl, hsz, hP, hD0, hE, hB⟩ := hv
  have S : CallFix p m c cJ0_length_8abf5 1 s _ GW RJ0 := ⟨B.exec, B.bytes, hml, findClass_of_methodNamed B.named, fun w h => atoms_spec (ws := Cond.code yJ0_length_8abf5 cJ0_length_8abf5 1 (some .int) :: GW) B.pre w (List.mem_cons_of_mem _ h)⟩
  have hlocks := B.notSynchronized
  subst hsz
  have hD := hD0.self (sz := s.heap.size)
  generalize hAe : va_A (wM G z0) s.heap.size = A at hD hE ⊢
  have hA : ∀ q : Nat, s.heap.size ≤ q → A q := fun q h => by rw [← hAe]; exact Or.inr h
  have hS : va_S A s.heap s.heap [] := va_S.rf
  have hl := lv_entry ([.ref (tx G x0)]) (n := 1) (Nat.le_of_ble_eq_true rfl)
  rw [lg_entry_eq]
  generalize (lg_sl ([.ref (tx G x0)]) ++ List.replicate (1 - (lg_sl ([.ref (tx G x0)])).length) Slot.unset).toArray = ls at hl ⊢
  have hl : lv_has ls 1 [(0, .ref (tx G x0))] := hl
  refine w_String_length_8abf5_M_0 S hE hA (Nat.le_refl _) (Nat.le_refl _) ?_ x0 z0 hB _ _ _ hP hD hS hl
  intro pc ls r σ H locs hd hp hP hD hS
  exact W.iret (v := r) B.exec B.bytes B.returns (fun t ht hW => ⟨⟨r, σ, rfl, hp, by rw [ht]; exact hP, hD⟩, hS.F ht⟩) hS.2.2 hd
def S_String_isLatin1_aae02_M (post : Int32 → St → Prop) (x0 : Nat) (z0 : St) : Prop :=
  (((1 : Int32) = 0 → (post (0 : Int32) z0)) ∧ (¬ (1 : Int32) = 0 → (x0 < 8 ∧ (((0 : Int32) = 0 → (post (1 : Int32) z0)) ∧ (¬ (0 : Int32) = 0 → (post (0 : Int32) z0))))))
set_option maxHeartbeats 4000000 in
set_option maxRecDepth 100000 in
theorem w_String_isLatin1_aae02_M_0 {p : Program} {l : Launch} {e : Env} {R : Room} {s : State} {m : MethodId} {args : Array Value} {below : List Frame} {meth : Method} {c : Code} {Q : State → Prop} {G : GX} {A : Nat → Prop} (S : CallFix p m c cJ0_isLatin1_aae02 1 s args GW RJ0) (hE : env G A s s.heap) (hA : ∀ q, s.heap.size ≤ q → A q) (hRf : 0 ≤ R.frames) (hRl : 0 ≤ R.locals) {post : Int32 → St → Prop} (hret : RetZ p l e R s m args below meth c Q 0 0 wM G A cJ0_isLatin1_aae02 post) (x0 : Nat) (z0 : St) (hB : S_String_isLatin1_aae02_M post x0 z0) : Xw p l e R s m args below meth c Q 0 0 wM G A z0 1 [(0, .ref (tx G x0))] 0 [] := by
  intro H locs ls hP hD hS hl
  have hx := S.1
  have hb := S.2.1
  refine va_gets hx hb (ez_J0_COMPACT_STRINGS hE.2) hS S.2.2.2.1 (S.2.2.2.2 _ lk_J0_38) (fun _ h9 => h9) dJ0_isLatin1_aae02_0 ?_
  refine lv_if_eq (tgt := 17) hx hb dJ0_isLatin1_aae02_3 (by decide) (fun c1 => ?_) (fun c1 => ?_)
  · have hB := hB.1 c1
    refine lv_iconst (v := 0) hx hb dJ0_isLatin1_aae02_17 (by decide) ?_
    exact hret _ _ _ _ _ _ dJ0_isLatin1_aae02_18 ⟨by decide, hB⟩ hP hD hS
  · have hB := hB.2 c1
    refine lv_aload_n hx hb dJ0_isLatin1_aae02_6 rfl (lv_at hl 0 rfl) ?_
    obtain ⟨hk9, hB⟩ := hB
    refine vk_getf hx hb ((eS hE.2).1 _ hk9).2.1 hS S.2.2.2.1 (S.2.2.2.2 _ lk_J0_15) (fun _ h9 => h9) dJ0_isLatin1_aae02_7 ?_
    refine lv_if_ne (tgt := 17) hx hb dJ0_isLatin1_aae02_10 (by decide) (fun c2 => ?_) (fun c2 => ?_)
    · have hB := hB.2 c2
      refine lv_iconst (v := 0) hx hb dJ0_isLatin1_aae02_17 (by decide) ?_
      exact hret _ _ _ _ _ _ dJ0_isLatin1_aae02_18 ⟨by decide, hB⟩ hP hD hS
    · have hB := hB.1 c2
      refine lv_iconst (v := 1) hx hb dJ0_isLatin1_aae02_13 (by decide) ?_
      refine lv_goto (tgt := 18) hx hb dJ0_isLatin1_aae02_14 (by decide) ?_
      exact hret _ _ _ _ _ _ dJ0_isLatin1_aae02_18 ⟨by decide, hB⟩ hP hD hS
set_option maxHeartbeats 4000000 in
set_option maxRecDepth 100000 in
theorem c_String_isLatin1_aae02_M (l : Launch) (G : GX) (z0 : St) (sz : Nat) (x0 : Nat) (post : Int32 → St → Prop) : MetI l wM yJ0_isLatin1_aae02 cJ0_isLatin1_aae02 1 (some .boolean) ({ frames := 0, cells := 0, slots := 0, locals := 0 }) [.ref (tx G x0)] G z0 sz (S_String_isLatin1_aae02_M post x0 z0) post := by
  refine Met.ofW (cc := cJ0_isLatin1_aae02) (maxL := 1) (ret := (some .boolean)) (by decide) rfl ?_
  intro p e s m args below meth c s₁ B hml hv
  obtain ⟨rfl, hsz, hP, hD0, hE, hB⟩ := hv
  have S : CallFix p m c cJ0_isLatin1_aae02 1 s _ GW RJ0 := ⟨B.exec, B.bytes, hml, findClass_of_methodNamed B.named, fun w h => atoms_spec (ws := Cond.code yJ0_isLatin1_aae02 cJ0_isLatin1_aae02 1 (some .boolean) :: GW) B.pre w (List.mem_cons_of_mem _ h)⟩
  have hlocks := B.notSynchronized
  subst hsz
  have hD := hD0.self (sz := s.heap.size)
  generalize hAe : va_A (wM G z0) s.heap.size = A at hD hE ⊢
  have hA : ∀ q : Nat, s.heap.size ≤ q → A q := fun q h => by rw [← hAe]; exact Or.inr h
  have hS : va_S A s.heap s.heap [] := va_S.rf
  have hl := lv_entry ([.ref (tx G x0)]) (n := 1) (Nat.le_of_ble_eq_true rfl)
  rw [lg_entry_eq]
  generalize (lg_sl ([.ref (tx G x0)]) ++ List.replicate (1 - (lg_sl ([.ref (tx G x0)])).length) Slot.unset).toArray = ls at hl ⊢
  have hl : lv_has ls 1 [(0, .ref (tx G x0))] := hl
  refine w_String_isLatin1_aae02_M_0 S hE hA (Nat.le_refl _) (Nat.le_refl _) ?_ x0 z0 hB _ _ _ hP hD hS hl
  intro pc ls r σ H locs hd hp hP hD hS
  exact W.zret (v := r) B.exec B.bytes B.returns (xboolc r hp.1) (fun t ht hW => ⟨⟨r, σ, rfl, hp.2, by rw [ht]; exact hP, hD⟩, hS.F ht⟩) hS.2.2 hd
def B_Preconditions_checkIndex_8e157_M_n_9 (post : Int32 → St → Prop) (x0 : Int32) (x1 : Int32) (z0 : St) : Prop :=
  False
set_option maxHeartbeats 4000000 in
set_option maxRecDepth 100000 in
theorem w_Preconditions_checkIndex_8e157_M_n_9 {p : Program} {l : Launch} {e : Env} {R : Room} {s : State} {m : MethodId} {args : Array Value} {below : List Frame} {meth : Method} {c : Code} {Q : State → Prop} {G : GX} {A : Nat → Prop} (S : CallFix p m c cJ3_checkIndex_8e157 3 s args GW RJ3) (hE : env G A s s.heap) (hA : ∀ q, s.heap.size ≤ q → A q) (hRf : 0 ≤ R.frames) (hRl : 0 ≤ R.locals) {post : Int32 → St → Prop} (hret : RetI p l e R s m args below meth c Q 0 0 wM G A cJ3_checkIndex_8e157 post) (x0 : Int32) (x1 : Int32) (z0 : St) (hB : B_Preconditions_checkIndex_8e157_M_n_9 post x0 x1 z0) : Xw p l e R s m args below meth c Q 0 0 wM G A z0 3 [(0, .int x0), (1, .int x1), (2, .null)] 9 [] := by
  intro H locs ls hP hD hS hl
  have hx := S.1
  have hb := S.2.1
  refine lv_aload_nN hx hb dJ3_checkIndex_8e157_9 rfl (lv_at hl 2 rfl) ?_
  refine lv_iload_n hx hb dJ3_checkIndex_8e157_10 rfl (lv_at hl 0 rfl) ?_
  refine lv_iload_n hx hb dJ3_checkIndex_8e157_11 rfl (lv_at hl 1 rfl) ?_
  exact hB.elim
def S_Preconditions_checkIndex_8e157_M_n (post : Int32 → St → Prop) (x0 : Int32) (x1 : Int32) (z0 : St) : Prop :=
  ((x0 < 0 → (B_Preconditions_checkIndex_8e157_M_n_9 post x0 x1 z0)) ∧ (¬ x0 < 0 → ((x0 < x1 → (post x0 z0)) ∧ (¬ x0 < x1 → (B_Preconditions_checkIndex_8e157_M_n_9 post x0 x1 z0)))))
set_option maxHeartbeats 4000000 in
set_option maxRecDepth 100000 in
theorem w_Preconditions_checkIndex_8e157_M_n_0 {p : Program} {l : Launch} {e : Env} {R : Room} {s : State} {m : MethodId} {args : Array Value} {below : List Frame} {meth : Method} {c : Code} {Q : State → Prop} {G : GX} {A : Nat → Prop} (S : CallFix p m c cJ3_checkIndex_8e157 3 s args GW RJ3) (hE : env G A s s.heap) (hA : ∀ q, s.heap.size ≤ q → A q) (hRf : 0 ≤ R.frames) (hRl : 0 ≤ R.locals) {post : Int32 → St → Prop} (hret : RetI p l e R s m args below meth c Q 0 0 wM G A cJ3_checkIndex_8e157 post) (x0 : Int32) (x1 : Int32) (z0 : St) (hB : S_Preconditions_checkIndex_8e157_M_n post x0 x1 z0) : Xw p l e R s m args below meth c Q 0 0 wM G A z0 3 [(0, .int x0), (1, .int x1), (2, .null)] 0 [] := by
  intro H locs ls hP hD hS hl
  have hx := S.1
  have hb := S.2.1
  refine lv_iload_n hx hb dJ3_checkIndex_8e157_0 rfl (lv_at hl 0 rfl) ?_
  refine lv_if_lt (tgt := 9) hx hb dJ3_checkIndex_8e157_1 (by decide) (fun c1 => ?_) (fun c1 => ?_)
  · have hB := hB.1 c1
    exact w_Preconditions_checkIndex_8e157_M_n_9 S hE hA hRf hRl hret x0 x1 z0 hB _ _ _ hP hD hS (lv_sub hl [0, 1, 2] rfl)
  · have hB := hB.2 c1
    refine lv_iload_n hx hb dJ3_checkIndex_8e157_4 rfl (lv_at hl 0 rfl) ?_
    refine lv_iload_n hx hb dJ3_checkIndex_8e157_5 rfl (lv_at hl 1 rfl) ?_
    refine lv_icmp_lt (tgt := 16) hx hb dJ3_checkIndex_8e157_6 (by decide) (fun c2 => ?_) (fun c2 => ?_)
    · have hB := hB.1 c2
      refine lv_iload_n hx hb dJ3_checkIndex_8e157_16 rfl (lv_at hl 0 rfl) ?_
      exact hret _ _ _ _ _ _ dJ3_checkIndex_8e157_17 hB hP hD hS
    · have hB := hB.2 c2
      exact w_Preconditions_checkIndex_8e157_M_n_9 S hE hA hRf hRl hret x0 x1 z0 hB _ _ _ hP hD hS (lv_sub hl [0, 1, 2] rfl)
set_option maxHeartbeats 4000000 in
set_option maxRecDepth 100000 in
theorem c_Preconditions_checkIndex_8e157_M_n (l : Launch) (G : GX) (z0 : St) (sz : Nat) (x0 : Int32) (x1 : Int32) (post : Int32 → St → Prop) : MetI l wM yJ3_checkIndex_8e157 cJ3_checkIndex_8e157 3 (some .int) ({ frames := 0, cells := 0, slots := 0, locals := 0 }) [.int x0, .int x1, .null] G z0 sz (S_Preconditions_checkIndex_8e157_M_n post x0 x1 z0) post := by
  refine Met.ofW (cc := cJ3_checkIndex_8e157) (maxL := 3) (ret := (some .int)) (by decide) rfl ?_
  intro p e s m args below meth c s₁ B hml hv
  obtain ⟨rfl, hsz, hP, hD0, hE, hB⟩ := hv
  have S : CallFix p m c cJ3_checkIndex_8e157 3 s _ GW RJ3 := ⟨B.exec, B.bytes, hml, findClass_of_methodNamed B.named, fun w h => atoms_spec (ws := Cond.code yJ3_checkIndex_8e157 cJ3_checkIndex_8e157 3 (some .int) :: GW) B.pre w (List.mem_cons_of_mem _ h)⟩
  have hlocks := B.notSynchronized
  subst hsz
  have hD := hD0.self (sz := s.heap.size)
  generalize hAe : va_A (wM G z0) s.heap.size = A at hD hE ⊢
  have hA : ∀ q : Nat, s.heap.size ≤ q → A q := fun q h => by rw [← hAe]; exact Or.inr h
  have hS : va_S A s.heap s.heap [] := va_S.rf
  have hl := lv_entry ([.int x0, .int x1, .null]) (n := 3) (Nat.le_of_ble_eq_true rfl)
  rw [lg_entry_eq]
  generalize (lg_sl ([.int x0, .int x1, .null]) ++ List.replicate (3 - (lg_sl ([.int x0, .int x1, .null])).length) Slot.unset).toArray = ls at hl ⊢
  have hl : lv_has ls 3 [(0, .int x0), (1, .int x1), (2, .null)] := hl
  refine w_Preconditions_checkIndex_8e157_M_n_0 S hE hA (Nat.le_refl _) (Nat.le_refl _) ?_ x0 x1 z0 hB _ _ _ hP hD hS hl
  intro pc ls r σ H locs hd hp hP hD hS
  exact W.iret (v := r) B.exec B.bytes B.returns (fun t ht hW => ⟨⟨r, σ, rfl, hp, by rw [ht]; exact hP, hD⟩, hS.F ht⟩) hS.2.2 hd
def B_Preconditions_checkIndex_8e157_M_9 (post : Int32 → St → Prop) (x0 : Int32) (x1 : Int32) (x2 : Nat) (z0 : St) : Prop :=
  False
set_option maxHeartbeats 4000000 in
set_option maxRecDepth 100000 in
theorem w_Preconditions_checkIndex_8e157_M_9 {p : Program} {l : Launch} {e : Env} {R : Room} {s : State} {m : MethodId} {args : Array Value} {below : List Frame} {meth : Method} {c : Code} {Q : State → Prop} {G : GX} {A : Nat → Prop} (S : CallFix p m c cJ3_checkIndex_8e157 3 s args GW RJ3) (hE : env G A s s.heap) (hA : ∀ q, s.heap.size ≤ q → A q) (hRf : 0 ≤ R.frames) (hRl : 0 ≤ R.locals) {post : Int32 → St → Prop} (hret : RetI p l e R s m args below meth c Q 0 0 wM G A cJ3_checkIndex_8e157 post) (x0 : Int32) (x1 : Int32) (x2 : Nat) (z0 : St) (hB : B_Preconditions_checkIndex_8e157_M_9 post x0 x1 x2 z0) : Xw p l e R s m args below meth c Q 0 0 wM G A z0 3 [(0, .int x0), (1, .int x1), (2, .ref x2)] 9 [] := by
  intro H locs ls hP hD hS hl
  have hx := S.1
  have hb := S.2.1
  refine lv_aload_n hx hb dJ3_checkIndex_8e157_9 rfl (lv_at hl 2 rfl) ?_
  refine lv_iload_n hx hb dJ3_checkIndex_8e157_10 rfl (lv_at hl 0 rfl) ?_
  refine lv_iload_n hx hb dJ3_checkIndex_8e157_11 rfl (lv_at hl 1 rfl) ?_
  exact hB.elim
def S_Preconditions_checkIndex_8e157_M (post : Int32 → St → Prop) (x0 : Int32) (x1 : Int32) (x2 : Nat) (z0 : St) : Prop :=
  ((x0 < 0 → (B_Preconditions_checkIndex_8e157_M_9 post x0 x1 x2 z0)) ∧ (¬ x0 < 0 → ((x0 < x1 → (post x0 z0)) ∧ (¬ x0 < x1 → (B_Preconditions_checkIndex_8e157_M_9 post x0 x1 x2 z0)))))
set_option maxHeartbeats 4000000 in
set_option maxRecDepth 100000 in
theorem w_Preconditions_checkIndex_8e157_M_0 {p : Program} {l : Launch} {e : Env} {R : Room} {s : State} {m : MethodId} {args : Array Value} {below : List Frame} {meth : Method} {c : Code} {Q : State → Prop} {G : GX} {A : Nat → Prop} (S : CallFix p m c cJ3_checkIndex_8e157 3 s args GW RJ3) (hE : env G A s s.heap) (hA : ∀ q, s.heap.size ≤ q → A q) (hRf : 0 ≤ R.frames) (hRl : 0 ≤ R.locals) {post : Int32 → St → Prop} (hret : RetI p l e R s m args below meth c Q 0 0 wM G A cJ3_checkIndex_8e157 post) (x0 : Int32) (x1 : Int32) (x2 : Nat) (z0 : St) (hB : S_Preconditions_checkIndex_8e157_M post x0 x1 x2 z0) : Xw p l e R s m args below meth c Q 0 0 wM G A z0 3 [(0, .int x0), (1, .int x1), (2, .ref x2)] 0 [] := by
  intro H locs ls hP hD hS hl
  have hx := S.1
  have hb := S.2.1
  refine lv_iload_n hx hb dJ3_checkIndex_8e157_0 rfl (lv_at hl 0 rfl) ?_
  refine lv_if_lt (tgt := 9) hx hb dJ3_checkIndex_8e157_1 (by decide) (fun c1 => ?_) (fun c1 => ?_)
  · have hB := hB.1 c1
    exact w_Preconditions_checkIndex_8e157_M_9 S hE hA hRf hRl hret x0 x1 x2 z0 hB _ _ _ hP hD hS (lv_sub hl [0, 1, 2] rfl)
  · have hB := hB.2 c1
    refine lv_iload_n hx hb dJ3_checkIndex_8e157_4 rfl (lv_at hl 0 rfl) ?_
    refine lv_iload_n hx hb dJ3_checkIndex_8e157_5 rfl (lv_at hl 1 rfl) ?_
    refine lv_icmp_lt (tgt := 16) hx hb dJ3_checkIndex_8e157_6 (by decide) (fun c2 => ?_) (fun c2 => ?_)
    · have hB := hB.1 c2
      refine lv_iload_n hx hb dJ3_checkIndex_8e157_16 rfl (lv_at hl 0 rfl) ?_
      exact hret _ _ _ _ _ _ dJ3_checkIndex_8e157_17 hB hP hD hS
    · have hB := hB.2 c2
      exact w_Preconditions_checkIndex_8e157_M_9 S hE hA hRf hRl hret x0 x1 x2 z0 hB _ _ _ hP hD hS (lv_sub hl [0, 1, 2] rfl)
set_option maxHeartbeats 4000000 in
set_option maxRecDepth 100000 in
theorem c_Preconditions_checkIndex_8e157_M (l : Launch) (G : GX) (z0 : St) (sz : Nat) (x0 : Int32) (x1 : Int32) (x2 : Nat) (post : Int32 → St → Prop) : MetI l wM yJ3_checkIndex_8e157 cJ3_checkIndex_8e157 3 (some .int) ({ frames := 0, cells := 0, slots := 0, locals := 0 }) [.int x0, .int x1, .ref x2] G z0 sz (S_Preconditions_checkIndex_8e157_M post x0 x1 x2 z0) post := by
  refine Met.ofW (cc := cJ3_checkIndex_8e157) (maxL := 3) (ret := (some .int)) (by decide) rfl ?_
  intro p e s m args below meth c s₁ B hml hv
  obtain ⟨rfl, hsz, hP, hD0, hE, hB⟩ := hv
  have S : CallFix p m c cJ3_checkIndex_8e157 3 s _ GW RJ3 := ⟨B.exec, B.bytes, hml, findClass_of_methodNamed B.named, fun w h => atoms_spec (ws := Cond.code yJ3_checkIndex_8e157 cJ3_checkIndex_8e157 3 (some .int) :: GW) B.pre w (List.mem_cons_of_mem _ h)⟩
  have hlocks := B.notSynchronized
  subst hsz
  have hD := hD0.self (sz := s.heap.size)
  generalize hAe : va_A (wM G z0) s.heap.size = A at hD hE ⊢
  have hA : ∀ q : Nat, s.heap.size ≤ q → A q := fun q h => by rw [← hAe]; exact Or.inr h
  have hS : va_S A s.heap s.heap [] := va_S.rf
  have hl := lv_entry ([.int x0, .int x1, .ref x2]) (n := 3) (Nat.le_of_ble_eq_true rfl)
  rw [lg_entry_eq]
  generalize (lg_sl ([.int x0, .int x1, .ref x2]) ++ List.replicate (3 - (lg_sl ([.int x0, .int x1, .ref x2])).length) Slot.unset).toArray = ls at hl ⊢
  have hl : lv_has ls 3 [(0, .int x0), (1, .int x1), (2, .ref x2)] := hl
  refine w_Preconditions_checkIndex_8e157_M_0 S hE hA (Nat.le_refl _) (Nat.le_refl _) ?_ x0 x1 x2 z0 hB _ _ _ hP hD hS hl
  intro pc ls r σ H locs hd hp hP hD hS
  exact W.iret (v := r) B.exec B.bytes B.returns (fun t ht hW => ⟨⟨r, σ, rfl, hp, by rw [ht]; exact hP, hD⟩, hS.F ht⟩) hS.2.2 hd
def S_String_checkIndex_df160_M (post : St → Prop) (x0 : Int32) (x1 : Int32) (z0 : St) : Prop :=
  ((S_Preconditions_checkIndex_8e157_M_n (fun (r2 : Int32) (z1 : St) => (post z1)) x0 x1 z0) ∧ ∀ a1 : Nat, (S_Preconditions_checkIndex_8e157_M (fun (r3 : Int32) (z2 : St) => (post z2)) x0 x1 a1 z0))
set_option maxHeartbeats 4000000 in
set_option maxRecDepth 100000 in
theorem w_String_checkIndex_df160_M_0 {p : Program} {l : Launch} {e : Env} {R : Room} {s : State} {m : MethodId} {args : Array Value} {below : List Frame} {meth : Method} {c : Code} {Q : State → Prop} {G : GX} {A : Nat → Prop} (S : CallFix p m c cJ0_checkIndex_df160 2 s args GW RJ0) (hE : env G A s s.heap) (hA : ∀ q, s.heap.size ≤ q → A q) (hRf : 1 ≤ R.frames) (hRl : 22 ≤ R.locals) {post : St → Prop} (hret : RetV p l e R s m args below meth c Q 0 0 wM G A cJ0_checkIndex_df160 post) (x0 : Int32) (x1 : Int32) (z0 : St) (hB : S_String_checkIndex_df160_M post x0 x1 z0) : Xw p l e R s m args below meth c Q 0 0 wM G A z0 2 [(0, .int x0), (1, .int x1)] 0 [] := by
  intro H locs ls hP hD hS hl
  have hx := S.1
  have hb := S.2.1
  refine lv_iload_n hx hb dJ0_checkIndex_df160_0 rfl (lv_at hl 0 rfl) ?_
  refine lv_iload_n hx hb dJ0_checkIndex_df160_1 rfl (lv_at hl 1 rfl) ?_
  rcases ez_SIOOBE hE.2 with hz | ⟨a1, hz⟩
  · have hB := hB.1
    refine va_gets hx hb hz hS S.2.2.2.1 (S.2.2.2.2 _ lk_J0_1053) (fun _ h9 => h9) dJ0_checkIndex_df160_2 ?_
    refine xcSi [.int x0, .int x1, .null] S hE hA hP hD hS (c_Preconditions_checkIndex_8e157_M_n l G z0 H.size x0 x1 _) hB (gw_c lk_J0_1059 (gw_c wt_J3_checkIndex_8e157 (gw_c wn_J3 (gw_c wc_J3_checkIndex_8e157 (fun _ h9 => h9))))) hs_J3_checkIndex_8e157 rfl rfl (Nat.le_trans (Nat.le_of_ble_eq_true rfl) hRf) (Nat.le_trans (Nat.le_of_ble_eq_true rfl) hRl) ⟨Nat.zero_le _, Nat.zero_le _⟩ rfl hl.1 rfl (Nat.le_of_ble_eq_true rfl) dJ0_checkIndex_df160_5 (fun r2 z1 H locs hB hP hD hS => ?_)
    refine lv_pop hx hb dJ0_checkIndex_df160_8 rfl ?_
    exact hret _ _ _ _ _ dJ0_checkIndex_df160_9 hB hP hD hS
  · have hB := hB.2 a1
    refine va_gets hx hb hz hS S.2.2.2.1 (S.2.2.2.2 _ lk_J0_1053) (fun _ h9 => h9) dJ0_checkIndex_df160_2 ?_
    refine xcSi [.int x0, .int x1, .ref a1] S hE hA hP hD hS (c_Preconditions_checkIndex_8e157_M l G z0 H.size x0 x1 a1 _) hB (gw_c lk_J0_1059 (gw_c wt_J3_checkIndex_8e157 (gw_c wn_J3 (gw_c wc_J3_checkIndex_8e157 (fun _ h9 => h9))))) hs_J3_checkIndex_8e157 rfl rfl (Nat.le_trans (Nat.le_of_ble_eq_true rfl) hRf) (Nat.le_trans (Nat.le_of_ble_eq_true rfl) hRl) ⟨Nat.zero_le _, Nat.zero_le _⟩ rfl hl.1 rfl (Nat.le_of_ble_eq_true rfl) dJ0_checkIndex_df160_5 (fun r3 z2 H locs hB hP hD hS => ?_)
    refine lv_pop hx hb dJ0_checkIndex_df160_8 rfl ?_
    exact hret _ _ _ _ _ dJ0_checkIndex_df160_9 hB hP hD hS
set_option maxHeartbeats 4000000 in
set_option maxRecDepth 100000 in
theorem c_String_checkIndex_df160_M (l : Launch) (G : GX) (z0 : St) (sz : Nat) (x0 : Int32) (x1 : Int32) (post : St → Prop) : MetV l wM yJ0_checkIndex_df160 cJ0_checkIndex_df160 2 none ({ frames := 1, cells := 0, slots := 0, locals := 22 }) [.int x0, .int x1] G z0 sz (S_String_checkIndex_df160_M post x0 x1 z0) post := by
  refine Met.ofW (cc := cJ0_checkIndex_df160) (maxL := 2) (ret := none) (by decide) rfl ?_
  intro p e s m args below meth c s₁ B hml hv
  obtain ⟨rfl, hsz, hP, hD0, hE, hB⟩ := hv
  have S : CallFix p m c cJ0_checkIndex_df160 2 s _ GW RJ0 := ⟨B.exec, B.bytes, hml, findClass_of_methodNamed B.named, fun w h => atoms_spec (ws := Cond.code yJ0_checkIndex_df160 cJ0_checkIndex_df160 2 none :: GW) B.pre w (List.mem_cons_of_mem _ h)⟩
  have hlocks := B.notSynchronized
  subst hsz
  have hD := hD0.self (sz := s.heap.size)
  generalize hAe : va_A (wM G z0) s.heap.size = A at hD hE ⊢
  have hA : ∀ q : Nat, s.heap.size ≤ q → A q := fun q h => by rw [← hAe]; exact Or.inr h
  have hS : va_S A s.heap s.heap [] := va_S.rf
  have hl := lv_entry ([.int x0, .int x1]) (n := 2) (Nat.le_of_ble_eq_true rfl)
  rw [lg_entry_eq]
  generalize (lg_sl ([.int x0, .int x1]) ++ List.replicate (2 - (lg_sl ([.int x0, .int x1])).length) Slot.unset).toArray = ls at hl ⊢
  have hl : lv_has ls 2 [(0, .int x0), (1, .int x1)] := hl
  refine w_String_checkIndex_df160_M_0 S hE hA (Nat.le_refl _) (Nat.le_refl _) ?_ x0 x1 z0 hB _ _ _ hP hD hS hl
  intro pc ls σ H locs hd hp hP hD hS
  exact W.vret B.exec B.bytes B.returns (fun t ht hW => ⟨⟨σ, rfl, hp, by rw [ht]; exact hP, hD⟩, hS.F ht⟩) hS.2.2 hd
def S_StringLatin1_charAt_3b067_M (post : Int32 → St → Prop) (x0 : Nat) (x1 : Int32) (z0 : St) : Prop :=
  (x0 < 8 ∧ (S_String_checkIndex_df160_M (fun (z1 : St) => (x0 < 8 ∧ vp_in x1 (slen.getD x0 0) ∧ (narrow .char (.int ((((((sbyt.getD x0 []).getD x1.toNatClampNeg 0) &&& (255 : Int32))).toUInt32 % 65536).toInt32)) = .int ((((((sbyt.getD x0 []).getD x1.toNatClampNeg 0) &&& (255 : Int32))).toUInt32 % 65536).toInt32) ∧ post ((((((sbyt.getD x0 []).getD x1.toNatClampNeg 0) &&& (255 : Int32))).toUInt32 % 65536).toInt32) z1))) x1 (Int32.ofNat (slen.getD x0 0)) z0))
set_option maxHeartbeats 4000000 in
set_option maxRecDepth 100000 in
theorem w_StringLatin1_charAt_3b067_M_0 {p : Program} {l : Launch} {e : Env} {R : Room} {s : State} {m : MethodId} {args : Array Value} {below : List Frame} {meth : Method} {c : Code} {Q : State → Prop} {G : GX} {A : Nat → Prop} (S : CallFix p m c cJ1_charAt_3b067 2 s args GW RJ1) (hE : env G A s s.heap) (hA : ∀ q, s.heap.size ≤ q → A q) (hRf : 2 ≤ R.frames) (hRl : 43 ≤ R.locals) {post : Int32 → St → Prop} (hret : RetC p l e R s m args below meth c Q 0 0 wM G A cJ1_charAt_3b067 post) (x0 : Nat) (x1 : Int32) (z0 : St) (hB : S_StringLatin1_charAt_3b067_M post x0 x1 z0) : Xw p l e R s m args below meth c Q 0 0 wM G A z0 2 [(0, .ref (tv G x0)), (1, .int x1)] 0 [] := by
  intro H locs ls hP hD hS hl
  have hx := S.1
  have hb := S.2.1
  refine lv_iload_n hx hb dJ1_charAt_3b067_0 rfl (lv_at hl 1 rfl) ?_
  refine lv_aload_n hx hb dJ1_charAt_3b067_1 rfl (lv_at hl 0 rfl) ?_
  obtain ⟨hk9, hB⟩ := hB
  refine va_tlen hx hb ((eS hE.2).1 _ hk9).2.2.2 hS rfl dJ1_charAt_3b067_2 ?_
  refine xcSv [.int x1, .int (Int32.ofNat (slen.getD x0 0))] S hE hA hP hD hS (c_String_checkIndex_df160_M l G z0 H.size x1 (Int32.ofNat (slen.getD x0 0)) _) hB (gw_c lk_J1_9 (gw_c wt_J0_checkIndex_df160 (gw_c wn_J0 (gw_c wc_J0_checkIndex_df160 (fun _ h9 => h9))))) hs_J0_checkIndex_df160 rfl rfl (Nat.le_trans (Nat.le_of_ble_eq_true rfl) hRf) (Nat.le_trans (Nat.le_of_ble_eq_true rfl) hRl) ⟨Nat.zero_le _, Nat.zero_le _⟩ rfl hl.1 rfl (Nat.le_of_ble_eq_true rfl) dJ1_charAt_3b067_3 (fun z1 H locs hB hP hD hS => ?_)
  refine lv_aload_n hx hb dJ1_charAt_3b067_6 rfl (lv_at hl 0 rfl) ?_
  refine lv_iload_n hx hb dJ1_charAt_3b067_7 rfl (lv_at hl 1 rfl) ?_
  obtain ⟨hk9, hi, hB⟩ := hB
  refine va_tb hx hb ((eS hE.2).1 _ hk9).2.2.2 hS hi rfl dJ1_charAt_3b067_8 ?_
  refine lv_sipush (v := 255) hx hb dJ1_charAt_3b067_9 (by decide) ?_
  refine lv_iand hx hb dJ1_charAt_3b067_12 ?_
  refine lv_i2c hx hb dJ1_charAt_3b067_13 rfl ?_
  exact hret _ _ _ _ _ _ dJ1_charAt_3b067_14 hB hP hD hS
set_option maxHeartbeats 4000000 in
set_option maxRecDepth 100000 in
theorem c_StringLatin1_charAt_3b067_M (l : Launch) (G : GX) (z0 : St) (sz : Nat) (x0 : Nat) (x1 : Int32) (post : Int32 → St → Prop) : MetI l wM yJ1_charAt_3b067 cJ1_charAt_3b067 2 (some .char) ({ frames := 2, cells := 0, slots := 0, locals := 43 }) [.ref (tv G x0), .int x1] G z0 sz (S_StringLatin1_charAt_3b067_M post x0 x1 z0) post := by
  refine Met.ofW (cc := cJ1_charAt_3b067) (maxL := 2) (ret := (some .char)) (by decide) rfl ?_
  intro p e s m args below meth c s₁ B hml hv
  obtain ⟨rfl, hsz, hP, hD0, hE, hB⟩ := hv
  have S : CallFix p m c cJ1_charAt_3b067 2 s _ GW RJ1 := ⟨B.exec, B.bytes, hml, findClass_of_methodNamed B.named, fun w h => atoms_spec (ws := Cond.code yJ1_charAt_3b067 cJ1_charAt_3b067 2 (some .char) :: GW) B.pre w (List.mem_cons_of_mem _ h)⟩
  have hlocks := B.notSynchronized
  subst hsz
  have hD := hD0.self (sz := s.heap.size)
  generalize hAe : va_A (wM G z0) s.heap.size = A at hD hE ⊢
  have hA : ∀ q : Nat, s.heap.size ≤ q → A q := fun q h => by rw [← hAe]; exact Or.inr h
  have hS : va_S A s.heap s.heap [] := va_S.rf
  have hl := lv_entry ([.ref (tv G x0), .int x1]) (n := 2) (Nat.le_of_ble_eq_true rfl)
  rw [lg_entry_eq]
  generalize (lg_sl ([.ref (tv G x0), .int x1]) ++ List.replicate (2 - (lg_sl ([.ref (tv G x0), .int x1])).length) Slot.unset).toArray = ls at hl ⊢
  have hl : lv_has ls 2 [(0, .ref (tv G x0)), (1, .int x1)] := hl
  refine w_StringLatin1_charAt_3b067_M_0 S hE hA (Nat.le_refl _) (Nat.le_refl _) ?_ x0 x1 z0 hB _ _ _ hP hD hS hl
  intro pc ls r σ H locs hd hp hP hD hS
  exact W.zret (v := r) B.exec B.bytes B.returns hp.1 (fun t ht hW => ⟨⟨r, σ, rfl, hp.2, by rw [ht]; exact hP, hD⟩, hS.F ht⟩) hS.2.2 hd
def S_String_charAt_5068e_M (post : Int32 → St → Prop) (x0 : Nat) (x1 : Int32) (z0 : St) : Prop :=
  (x0 < 8 ∧ (S_String_isLatin1_aae02_M (fun (r1 : Int32) (z1 : St) => ((r1 = 0 → (x0 < 8 ∧ False)) ∧ (¬ r1 = 0 → (x0 < 8 ∧ (S_StringLatin1_charAt_3b067_M (fun (r3 : Int32) (z2 : St) => (narrow .char (.int r3) = .int r3 ∧ post r3 z2)) x0 x1 z1))))) x0 z0))
set_option maxHeartbeats 4000000 in
set_option maxRecDepth 100000 in
theorem w_String_charAt_5068e_M_0 {p : Program} {l : Launch} {e : Env} {R : Room} {s : State} {m : MethodId} {args : Array Value} {below : List Frame} {meth : Method} {c : Code} {Q : State → Prop} {G : GX} {A : Nat → Prop} (S : CallFix p m c cJ0_charAt_5068e 2 s args GW RJ0) (hE : env G A s s.heap) (hA : ∀ q, s.heap.size ≤ q → A q) (hRf : 3 ≤ R.frames) (hRl : 64 ≤ R.locals) {post : Int32 → St → Prop} (hret : RetC p l e R s m args below meth c Q 0 0 wM G A cJ0_charAt_5068e post) (x0 : Nat) (x1 : Int32) (z0 : St) (hB : S_String_charAt_5068e_M post x0 x1 z0) : Xw p l e R s m args below meth c Q 0 0 wM G A z0 2 [(0, .ref (tx G x0)), (1, .int x1)] 0 [] := by
  intro H locs ls hP hD hS hl
  have hx := S.1
  have hb := S.2.1
  refine lv_aload_n hx hb dJ0_charAt_5068e_0 rfl (lv_at hl 0 rfl) ?_
  obtain ⟨hk9, hB⟩ := hB
  have hrv9 := vk_recv (eS hE.2) hk9 hS
  refine xcVi [] S hE hA hP hD hS (c_String_isLatin1_aae02_M l G z0 H.size x0 _) hB (gw_c lk_J0_492 (gw_c wi_J0_isLatin1_aae02 (gw_c we_J0_J0_isLatin1_aae02_J0_isLatin1_aae02 (gw_c wn_J0 (gw_c wc_J0_isLatin1_aae02 (fun _ h9 => h9)))))) hd_J0_isLatin1_aae02 rfl rfl (Nat.le_trans (Nat.le_of_ble_eq_true rfl) hRf) (Nat.le_trans (Nat.le_of_ble_eq_true rfl) hRl) ⟨Nat.zero_le _, Nat.zero_le _⟩ hrv9 rfl hl.1 rfl (Nat.le_of_ble_eq_true rfl) dJ0_charAt_5068e_1 (fun r1 z1 H locs hB hP hD hS => ?_)
  refine lv_if_eq (tgt := 16) hx hb dJ0_charAt_5068e_4 (by decide) (fun c2 => ?_) (fun c2 => ?_)
  · have hB := hB.1 c2
    refine lv_aload_n hx hb dJ0_charAt_5068e_16 rfl (lv_at hl 0 rfl) ?_
    obtain ⟨hk9, hB⟩ := hB
    refine vk_getf hx hb ((eS hE.2).1 _ hk9).2.2.1 hS S.2.2.2.1 (S.2.2.2.2 _ lk_J0_9) (fun _ h9 => h9) dJ0_charAt_5068e_17 ?_
    refine lv_iload_n hx hb dJ0_charAt_5068e_20 rfl (lv_at hl 1 rfl) ?_
    exact hB.elim
  · have hB := hB.2 c2
    refine lv_aload_n hx hb dJ0_charAt_5068e_7 rfl (lv_at hl 0 rfl) ?_
    obtain ⟨hk9, hB⟩ := hB
    refine vk_getf hx hb ((eS hE.2).1 _ hk9).2.2.1 hS S.2.2.2.1 (S.2.2.2.2 _ lk_J0_9) (fun _ h9 => h9) dJ0_charAt_5068e_8 ?_
    refine lv_iload_n hx hb dJ0_charAt_5068e_11 rfl (lv_at hl 1 rfl) ?_
    refine xcSi [.ref (tv G x0), .int x1] S hE hA hP hD hS (c_StringLatin1_charAt_3b067_M l G z1 H.size x0 x1 _) hB (gw_c lk_J0_495 (gw_c wt_J1_charAt_3b067 (gw_c wn_J1 (gw_c wc_J1_charAt_3b067 (fun _ h9 => h9))))) hs_J1_charAt_3b067 rfl rfl (Nat.le_trans (Nat.le_of_ble_eq_true rfl) hRf) (Nat.le_trans (Nat.le_of_ble_eq_true rfl) hRl) ⟨Nat.zero_le _, Nat.zero_le _⟩ rfl hl.1 rfl (Nat.le_of_ble_eq_true rfl) dJ0_charAt_5068e_12 (fun r3 z2 H locs hB hP hD hS => ?_)
    exact hret _ _ _ _ _ _ dJ0_charAt_5068e_15 hB hP hD hS
set_option maxHeartbeats 4000000 in
set_option maxRecDepth 100000 in
theorem c_String_charAt_5068e_M (l : Launch) (G : GX) (z0 : St) (sz : Nat) (x0 : Nat) (x1 : Int32) (post : Int32 → St → Prop) : MetI l wM yJ0_charAt_5068e cJ0_charAt_5068e 2 (some .char) ({ frames := 3, cells := 0, slots := 0, locals := 64 }) [.ref (tx G x0), .int x1] G z0 sz (S_String_charAt_5068e_M post x0 x1 z0) post := by
  refine Met.ofW (cc := cJ0_charAt_5068e) (maxL := 2) (ret := (some .char)) (by decide) rfl ?_
  intro p e s m args below meth c s₁ B hml hv
  obtain ⟨rfl, hsz, hP, hD0, hE, hB⟩ := hv
  have S : CallFix p m c cJ0_charAt_5068e 2 s _ GW RJ0 := ⟨B.exec, B.bytes, hml, findClass_of_methodNamed B.named, fun w h => atoms_spec (ws := Cond.code yJ0_charAt_5068e cJ0_charAt_5068e 2 (some .char) :: GW) B.pre w (List.mem_cons_of_mem _ h)⟩
  have hlocks := B.notSynchronized
  subst hsz
  have hD := hD0.self (sz := s.heap.size)
  generalize hAe : va_A (wM G z0) s.heap.size = A at hD hE ⊢
  have hA : ∀ q : Nat, s.heap.size ≤ q → A q := fun q h => by rw [← hAe]; exact Or.inr h
  have hS : va_S A s.heap s.heap [] := va_S.rf
  have hl := lv_entry ([.ref (tx G x0), .int x1]) (n := 2) (Nat.le_of_ble_eq_true rfl)
  rw [lg_entry_eq]
  generalize (lg_sl ([.ref (tx G x0), .int x1]) ++ List.replicate (2 - (lg_sl ([.ref (tx G x0), .int x1])).length) Slot.unset).toArray = ls at hl ⊢
  have hl : lv_has ls 2 [(0, .ref (tx G x0)), (1, .int x1)] := hl
  refine w_String_charAt_5068e_M_0 S hE hA (Nat.le_refl _) (Nat.le_refl _) ?_ x0 x1 z0 hB _ _ _ hP hD hS hl
  intro pc ls r σ H locs hd hp hP hD hS
  exact W.zret (v := r) B.exec B.bytes B.returns hp.1 (fun t ht hW => ⟨⟨r, σ, rfl, hp.2, by rw [ht]; exact hP, hD⟩, hS.F ht⟩) hS.2.2 hd
def B_M_spotOf_2 (post : Int32 → St → Prop) (ih2 : Nat → Int32 → Int32 → St → Prop) (x0 : Nat) (x1 : Int32) (x2 : Int32) (z0 : St) : Prop :=
  (x0 < 8 ∧ (S_String_length_8abf5_M (fun (r1 : Int32) (z1 : St) => ((r1 ≤ x2 → (post (-1 : Int32) z1)) ∧ (¬ r1 ≤ x2 → (x0 < 8 ∧ (S_String_charAt_5068e_M (fun (r3 : Int32) (z2 : St) => ((r3 = x1 → (post x2 z2)) ∧ (¬ r3 = x1 → (∀ v5 : Int32, v5 = x2 + (1 : Int32) → (ih2 x0 x1 v5 z2))))) x0 x2 z1))))) x0 z0))
set_option maxHeartbeats 4000000 in
set_option maxRecDepth 100000 in
theorem w_M_spotOf_2 {p : Program} {l : Launch} {e : Env} {R : Room} {s : State} {m : MethodId} {args : Array Value} {below : List Frame} {meth : Method} {c : Code} {Q : State → Prop} {G : GX} {A : Nat → Prop} (S : CallFix p m c cX12_spotOf 3 s args GW RX12) (hE : env G A s s.heap) (hA : ∀ q, s.heap.size ≤ q → A q) (hRf : 4 ≤ R.frames) (hRl : 85 ≤ R.locals) {post : Int32 → St → Prop} (hret : RetI p l e R s m args below meth c Q 0 0 wM G A cX12_spotOf post) {ih2 : Nat → Int32 → Int32 → St → Prop} (h2 : ∀ (x0 : Nat) (x1 : Int32) (x2 : Int32) (z0 : St), ih2 x0 x1 x2 z0 → Xw p l e R s m args below meth c Q 0 0 wM G A z0 3 [(0, .ref (tx G x0)), (1, .int x1), (2, .int x2)] 2 []) (x0 : Nat) (x1 : Int32) (x2 : Int32) (z0 : St) (hB : B_M_spotOf_2 post ih2 x0 x1 x2 z0) : Xw p l e R s m args below meth c Q 0 0 wM G A z0 3 [(0, .ref (tx G x0)), (1, .int x1), (2, .int x2)] 2 [] := by
  intro H locs ls hP hD hS hl
  have hx := S.1
  have hb := S.2.1
  refine lv_iload_n hx hb dX12_spotOf_2 rfl (lv_at hl 2 rfl) ?_
  refine lv_aload_n hx hb dX12_spotOf_3 rfl (lv_at hl 0 rfl) ?_
  obtain ⟨hk9, hB⟩ := hB
  have hrv9 := vk_recv (eS hE.2) hk9 hS
  refine xcVi [] S hE hA hP hD hS (c_String_length_8abf5_M l G z0 H.size x0 _) hB (gw_c lk_X12_92 (gw_c wi_J0_length_8abf5 (gw_c we_J0_J0_length_8abf5_J0_length_8abf5 (gw_c wn_J0 (gw_c wc_J0_length_8abf5 (fun _ h9 => h9)))))) hd_J0_length_8abf5 rfl rfl (Nat.le_trans (Nat.le_of_ble_eq_true rfl) hRf) (Nat.le_trans (Nat.le_of_ble_eq_true rfl) hRl) ⟨Nat.zero_le _, Nat.zero_le _⟩ hrv9 rfl hl.1 rfl (Nat.le_of_ble_eq_true rfl) dX12_spotOf_4 (fun r1 z1 H locs hB hP hD hS => ?_)
  refine lv_icmp_ge (tgt := 27) hx hb dX12_spotOf_7 (by decide) (fun c2 => ?_) (fun c2 => ?_)
  · have hB := hB.1 c2
    refine lv_iconst (v := -1) hx hb dX12_spotOf_27 (by decide) ?_
    exact hret _ _ _ _ _ _ dX12_spotOf_28 hB hP hD hS
  · have hB := hB.2 c2
    refine lv_aload_n hx hb dX12_spotOf_10 rfl (lv_at hl 0 rfl) ?_
    refine lv_iload_n hx hb dX12_spotOf_11 rfl (lv_at hl 2 rfl) ?_
    obtain ⟨hk9, hB⟩ := hB
    have hrv9 := vk_recv (eS hE.2) hk9 hS
    refine xcVi [.int x2] S hE hA hP hD hS (c_String_charAt_5068e_M l G z1 H.size x0 x2 _) hB (gw_c lk_X12_98 (gw_c wi_J0_charAt_5068e (gw_c we_J0_J0_charAt_5068e_J0_charAt_5068e (gw_c wn_J0 (gw_c wc_J0_charAt_5068e (fun _ h9 => h9)))))) hd_J0_charAt_5068e rfl rfl (Nat.le_trans (Nat.le_of_ble_eq_true rfl) hRf) (Nat.le_trans (Nat.le_of_ble_eq_true rfl) hRl) ⟨Nat.zero_le _, Nat.zero_le _⟩ hrv9 rfl hl.1 rfl (Nat.le_of_ble_eq_true rfl) dX12_spotOf_12 (fun r3 z2 H locs hB hP hD hS => ?_)
    refine lv_iload_n hx hb dX12_spotOf_15 rfl (lv_at hl 1 rfl) ?_
    refine lv_icmp_ne (tgt := 21) hx hb dX12_spotOf_16 (by decide) (fun c4 => ?_) (fun c4 => ?_)
    · have hB := hB.2 c4
      obtain ⟨v5, ev5⟩ : ∃ y9, y9 = x2 + (1 : Int32) := ⟨_, rfl⟩
      have hB := hB v5 ev5
      refine lv_iinc (v := v5) (lv' := [(2, .int v5), (0, .ref (tx G x0)), (1, .int x1)]) hx hb dX12_spotOf_21 hl (k := 2) rfl (by rw [ev5]; rfl) (by decide) rfl (fun ls hl => ?_)
      refine lv_goto (tgt := 2) hx hb dX12_spotOf_24 (by decide) ?_
      exact h2 x0 x1 v5 z2 hB _ _ _ hP hD hS (lv_sub hl [1, 2, 0] rfl)
    · have hB := hB.1 c4
      refine lv_iload_n hx hb dX12_spotOf_19 rfl (lv_at hl 2 rfl) ?_
      exact hret _ _ _ _ _ _ dX12_spotOf_20 hB hP hD hS
def L_M_spotOf_2 (post : Int32 → St → Prop) : Nat → Nat → Int32 → Int32 → St → Prop
  | 0 => fun _ _ _ _ => False
  | n + 1 => B_M_spotOf_2 post (L_M_spotOf_2 post n)
theorem wl_M_spotOf_2 {p : Program} {l : Launch} {e : Env} {R : Room} {s : State} {m : MethodId} {args : Array Value} {below : List Frame} {meth : Method} {c : Code} {Q : State → Prop} {G : GX} {A : Nat → Prop} (S : CallFix p m c cX12_spotOf 3 s args GW RX12) (hE : env G A s s.heap) (hA : ∀ q, s.heap.size ≤ q → A q) (hRf : 4 ≤ R.frames) (hRl : 85 ≤ R.locals) {post : Int32 → St → Prop} (hret : RetI p l e R s m args below meth c Q 0 0 wM G A cX12_spotOf post) : ∀ (n : Nat) (x0 : Nat) (x1 : Int32) (x2 : Int32) (z0 : St), L_M_spotOf_2 post n x0 x1 x2 z0 → Xw p l e R s m args below meth c Q 0 0 wM G A z0 3 [(0, .ref (tx G x0)), (1, .int x1), (2, .int x2)] 2 [] := by
  intro n
  induction n with
  | zero => intro x0 x1 x2 z0 hB; exact absurd hB id
  | succ n ih => exact fun x0 x1 x2 z0 hB => w_M_spotOf_2 S hE hA hRf hRl hret ih x0 x1 x2 z0 hB
def S_M_spotOf (post : Int32 → St → Prop) (x0 : Nat) (x1 : Int32) (z0 : St) : Prop :=
  (∃ n1, L_M_spotOf_2 post n1 x0 x1 (0 : Int32) z0)
set_option maxHeartbeats 4000000 in
set_option maxRecDepth 100000 in
theorem w_M_spotOf_0 {p : Program} {l : Launch} {e : Env} {R : Room} {s : State} {m : MethodId} {args : Array Value} {below : List Frame} {meth : Method} {c : Code} {Q : State → Prop} {G : GX} {A : Nat → Prop} (S : CallFix p m c cX12_spotOf 3 s args GW RX12) (hE : env G A s s.heap) (hA : ∀ q, s.heap.size ≤ q → A q) (hRf : 4 ≤ R.frames) (hRl : 85 ≤ R.locals) {post : Int32 → St → Prop} (hret : RetI p l e R s m args below meth c Q 0 0 wM G A cX12_spotOf post) (x0 : Nat) (x1 : Int32) (z0 : St) (hB : S_M_spotOf post x0 x1 z0) : Xw p l e R s m args below meth c Q 0 0 wM G A z0 3 [(0, .ref (tx G x0)), (1, .int x1)] 0 [] := by
  intro H locs ls hP hD hS hl
  have hx := S.1
  have hb := S.2.1
  refine lv_iconst (v := 0) hx hb dX12_spotOf_0 (by decide) ?_
  refine lv_istore_n (lv' := [(2, .int (0 : Int32)), (0, .ref (tx G x0)), (1, .int x1)]) hx hb dX12_spotOf_1 rfl hl (by decide) rfl (fun ls hl => ?_)
  obtain ⟨n1, hB⟩ := hB
  exact wl_M_spotOf_2 S hE hA hRf hRl hret n1 x0 x1 (0 : Int32) z0 hB _ _ _ hP hD hS (lv_sub hl [1, 2, 0] rfl)
set_option maxHeartbeats 4000000 in
set_option maxRecDepth 100000 in
theorem c_M_spotOf (l : Launch) (G : GX) (z0 : St) (sz : Nat) (x0 : Nat) (x1 : Int32) (post : Int32 → St → Prop) : MetI l wM yX12_spotOf cX12_spotOf 3 (some .int) ({ frames := 4, cells := 0, slots := 0, locals := 85 }) [.ref (tx G x0), .int x1] G z0 sz (S_M_spotOf post x0 x1 z0) post := by
  refine Met.ofW (cc := cX12_spotOf) (maxL := 3) (ret := (some .int)) (by decide) rfl ?_
  intro p e s m args below meth c s₁ B hml hv
  obtain ⟨rfl, hsz, hP, hD0, hE, hB⟩ := hv
  have S : CallFix p m c cX12_spotOf 3 s _ GW RX12 := ⟨B.exec, B.bytes, hml, findClass_of_methodNamed B.named, fun w h => atoms_spec (ws := Cond.code yX12_spotOf cX12_spotOf 3 (some .int) :: GW) B.pre w (List.mem_cons_of_mem _ h)⟩
  have hlocks := B.notSynchronized
  subst hsz
  have hD := hD0.self (sz := s.heap.size)
  generalize hAe : va_A (wM G z0) s.heap.size = A at hD hE ⊢
  have hA : ∀ q : Nat, s.heap.size ≤ q → A q := fun q h => by rw [← hAe]; exact Or.inr h
  have hS : va_S A s.heap s.heap [] := va_S.rf
  have hl := lv_entry ([.ref (tx G x0), .int x1]) (n := 3) (Nat.le_of_ble_eq_true rfl)
  rw [lg_entry_eq]
  generalize (lg_sl ([.ref (tx G x0), .int x1]) ++ List.replicate (3 - (lg_sl ([.ref (tx G x0), .int x1])).length) Slot.unset).toArray = ls at hl ⊢
  have hl : lv_has ls 3 [(0, .ref (tx G x0)), (1, .int x1)] := hl
  refine w_M_spotOf_0 S hE hA (Nat.le_refl _) (Nat.le_refl _) ?_ x0 x1 z0 hB _ _ _ hP hD hS hl
  intro pc ls r σ H locs hd hp hP hD hS
  exact W.iret (v := r) B.exec B.bytes B.returns (fun t ht hW => ⟨⟨r, σ, rfl, hp, by rw [ht]; exact hP, hD⟩, hS.F ht⟩) hS.2.2 hd
def S_M_isDigit (post : Int32 → St → Prop) (z0 : St) : Prop :=
  (((gI z0 104) ≤ (gI z0 105) → (post (0 : Int32) z0)) ∧ (¬ (gI z0 104) ≤ (gI z0 105) → (txIn z0 ((gI z0 103) + (gI z0 105)) ∧ (((gA z0 (gT z0 1) ((gI z0 103) + (gI z0 105)).toNatClampNeg) < (48 : Int32) → (post (0 : Int32) z0)) ∧ (¬ (gA z0 (gT z0 1) ((gI z0 103) + (gI z0 105)).toNatClampNeg) < (48 : Int32) → (txIn z0 ((gI z0 103) + (gI z0 105)) ∧ (((57 : Int32) < (gA z0 (gT z0 1) ((gI z0 103) + (gI z0 105)).toNatClampNeg) → (post (0 : Int32) z0)) ∧ (¬ (57 : Int32) < (gA z0 (gT z0 1) ((gI z0 103) + (gI z0 105)).toNatClampNeg) → (post (1 : Int32) z0)))))))))
set_option maxHeartbeats 4000000 in
set_option maxRecDepth 100000 in
theorem w_M_isDigit_0 {p : Program} {l : Launch} {e : Env} {R : Room} {s : State} {m : MethodId} {args : Array Value} {below : List Frame} {meth : Method} {c : Code} {Q : State → Prop} {G : GX} {A : Nat → Prop} (S : CallFix p m c cX12_isDigit 1 s args GW RX12) (hE : env G A s s.heap) (hA : ∀ q, s.heap.size ≤ q → A q) (hRf : 0 ≤ R.frames) (hRl : 0 ≤ R.locals) {post : Int32 → St → Prop} (hret : RetZ p l e R s m args below meth c Q 0 0 wM G A cX12_isDigit post) (z0 : St) (hB : S_M_isDigit post z0) : Xw p l e R s m args below meth c Q 0 0 wM G A z0 1 [(0, .ref (ad G 100))] 0 [] := by
  intro H locs ls hP hD hS hl
  have hx := S.1
  have hb := S.2.1
  refine lv_aload_n hx hb dX12_isDigit_0 rfl (lv_at hl 0 rfl) ?_
  refine xMg_100_at S hE hP lk_X12_112 dX12_isDigit_1 ?_
  refine lv_aload_n hx hb dX12_isDigit_4 rfl (lv_at hl 0 rfl) ?_
  refine xMg_100_ends S hE hP lk_X12_115 dX12_isDigit_5 ?_
  refine lv_icmp_ge (tgt := 53) hx hb dX12_isDigit_8 (by decide) (fun c1 => ?_) (fun c1 => ?_)
  · have hB := hB.1 c1
    refine lv_iconst (v := 0) hx hb dX12_isDigit_53 (by decide) ?_
    exact hret _ _ _ _ _ _ dX12_isDigit_54 ⟨by decide, hB⟩ hP hD hS
  · have hB := hB.2 c1
    refine lv_aload_n hx hb dX12_isDigit_11 rfl (lv_at hl 0 rfl) ?_
    refine xMg_100_text S hE hP lk_X12_23 dX12_isDigit_12 ?_
    refine lv_aload_n hx hb dX12_isDigit_15 rfl (lv_at hl 0 rfl) ?_
    refine xMg_100_begins S hE hP lk_X12_118 dX12_isDigit_16 ?_
    refine lv_aload_n hx hb dX12_isDigit_19 rfl (lv_at hl 0 rfl) ?_
    refine xMg_100_at S hE hP lk_X12_112 dX12_isDigit_20 ?_
    refine lv_iadd hx hb dX12_isDigit_23 ?_
    obtain ⟨hi, hB⟩ := hB
    refine xMt S hE hP hi dX12_isDigit_24 ?_
    refine lv_bipush (v := 48) hx hb dX12_isDigit_25 (by decide) ?_
    refine lv_icmp_lt (tgt := 53) hx hb dX12_isDigit_27 (by decide) (fun c2 => ?_) (fun c2 => ?_)
    · have hB := hB.1 c2
      refine lv_iconst (v := 0) hx hb dX12_isDigit_53 (by decide) ?_
      exact hret _ _ _ _ _ _ dX12_isDigit_54 ⟨by decide, hB⟩ hP hD hS
    · have hB := hB.2 c2
      refine lv_aload_n hx hb dX12_isDigit_30 rfl (lv_at hl 0 rfl) ?_
      refine xMg_100_text S hE hP lk_X12_23 dX12_isDigit_31 ?_
      refine lv_aload_n hx hb dX12_isDigit_34 rfl (lv_at hl 0 rfl) ?_
      refine xMg_100_begins S hE hP lk_X12_118 dX12_isDigit_35 ?_
      refine lv_aload_n hx hb dX12_isDigit_38 rfl (lv_at hl 0 rfl) ?_
      refine xMg_100_at S hE hP lk_X12_112 dX12_isDigit_39 ?_
      refine lv_iadd hx hb dX12_isDigit_42 ?_
      obtain ⟨hi, hB⟩ := hB
      refine xMt S hE hP hi dX12_isDigit_43 ?_
      refine lv_bipush (v := 57) hx hb dX12_isDigit_44 (by decide) ?_
      refine lv_icmp_gt (tgt := 53) hx hb dX12_isDigit_46 (by decide) (fun c3 => ?_) (fun c3 => ?_)
      · have hB := hB.1 c3
        refine lv_iconst (v := 0) hx hb dX12_isDigit_53 (by decide) ?_
        exact hret _ _ _ _ _ _ dX12_isDigit_54 ⟨by decide, hB⟩ hP hD hS
      · have hB := hB.2 c3
        refine lv_iconst (v := 1) hx hb dX12_isDigit_49 (by decide) ?_
        refine lv_goto (tgt := 54) hx hb dX12_isDigit_50 (by decide) ?_
        exact hret _ _ _ _ _ _ dX12_isDigit_54 ⟨by decide, hB⟩ hP hD hS
set_option maxHeartbeats 4000000 in
set_option maxRecDepth 100000 in
theorem c_M_isDigit (l : Launch) (G : GX) (z0 : St) (sz : Nat) (post : Int32 → St → Prop) : MetI l wM yX12_isDigit cX12_isDigit 1 (some .boolean) ({ frames := 0, cells := 0, slots := 0, locals := 0 }) [.ref (ad G 100)] G z0 sz (S_M_isDigit post z0) post := by
  refine Met.ofW (cc := cX12_isDigit) (maxL := 1) (ret := (some .boolean)) (by decide) rfl ?_
  intro p e s m args below meth c s₁ B hml hv
  obtain ⟨rfl, hsz, hP, hD0, hE, hB⟩ := hv
  have S : CallFix p m c cX12_isDigit 1 s _ GW RX12 := ⟨B.exec, B.bytes, hml, findClass_of_methodNamed B.named, fun w h => atoms_spec (ws := Cond.code yX12_isDigit cX12_isDigit 1 (some .boolean) :: GW) B.pre w (List.mem_cons_of_mem _ h)⟩
  have hlocks := B.notSynchronized
  subst hsz
  have hD := hD0.self (sz := s.heap.size)
  generalize hAe : va_A (wM G z0) s.heap.size = A at hD hE ⊢
  have hA : ∀ q : Nat, s.heap.size ≤ q → A q := fun q h => by rw [← hAe]; exact Or.inr h
  have hS : va_S A s.heap s.heap [] := va_S.rf
  have hl := lv_entry ([.ref (ad G 100)]) (n := 1) (Nat.le_of_ble_eq_true rfl)
  rw [lg_entry_eq]
  generalize (lg_sl ([.ref (ad G 100)]) ++ List.replicate (1 - (lg_sl ([.ref (ad G 100)])).length) Slot.unset).toArray = ls at hl ⊢
  have hl : lv_has ls 1 [(0, .ref (ad G 100))] := hl
  refine w_M_isDigit_0 S hE hA (Nat.le_refl _) (Nat.le_refl _) ?_  z0 hB _ _ _ hP hD hS hl
  intro pc ls r σ H locs hd hp hP hD hS
  exact W.zret (v := r) B.exec B.bytes B.returns (xboolc r hp.1) (fun t ht hW => ⟨⟨r, σ, rfl, hp.2, by rw [ht]; exact hP, hD⟩, hS.F ht⟩) hS.2.2 hd
def S_M_readStep (post : St → Prop) (x1 : Int32) (z0 : St) : Prop :=
  (S_M_look (fun (r1 : Int32) (z1 : St) => (S_M_spotOf (fun (r2 : Int32) (z2 : St) => ((r2 = (-1 : Int32) → (S_M_fails (fun (r9 : Int32) (z11 : St) => (post z11)) z2)) ∧ (¬ r2 = (-1 : Int32) → (∀ z3 : St, z3 = sI z2 105 ((gI z2 105) + (1 : Int32)) → (vp_in x1 160 ∧ (∀ z4 : St, z4 = sA z3 111 x1.toNatClampNeg r2 → (vp_in (x1 + (1 : Int32)) 160 ∧ (∀ z5 : St, z5 = sA z4 111 (x1 + (1 : Int32)).toNatClampNeg (-1 : Int32) → ((r2 = (1 : Int32) → (post z5)) ∧ (¬ r2 = (1 : Int32) → (S_M_look (fun (r5 : Int32) (z6 : St) => (S_M_isDigit (fun (r6 : Int32) (z7 : St) => ((r6 = 0 → (S_M_fails (fun (r8 : Int32) (z10 : St) => (post z10)) z7)) ∧ (¬ r6 = 0 → (vp_in (x1 + (1 : Int32)) 160 ∧ (∀ z8 : St, z8 = sA z7 111 (x1 + (1 : Int32)).toNatClampNeg (r5 - (48 : Int32)) → (∀ z9 : St, z9 = sI z8 105 ((gI z8 105) + (1 : Int32)) → (post z9))))))) z6)) z5))))))))))) 5 r1 z1)) z0)
set_option maxHeartbeats 4000000 in
set_option maxRecDepth 100000 in
theorem w_M_readStep_0 {p : Program} {l : Launch} {e : Env} {R : Room} {s : State} {m : MethodId} {args : Array Value} {below : List Frame} {meth : Method} {c : Code} {Q : State → Prop} {G : GX} {A : Nat → Prop} (S : CallFix p m c cX12_readStep 4 s args GW RX12) (hE : env G A s s.heap) (hA : ∀ q, s.heap.size ≤ q → A q) (hRf : 5 ≤ R.frames) (hRl : 107 ≤ R.locals) {post : St → Prop} (hret : RetV p l e R s m args below meth c Q 0 0 wM G A cX12_readStep post) (x1 : Int32) (z0 : St) (hB : S_M_readStep post x1 z0) : Xw p l e R s m args below meth c Q 0 0 wM G A z0 4 [(0, .ref (ad G 100)), (1, .int x1)] 0 [] := by
  intro H locs ls hP hD hS hl
  have hx := S.1
  have hb := S.2.1
  refine va_ldcS hx hb S.2.2.2.1 (es_X12_253 hE.2) dX12_readStep_0 ?_
  refine lv_aload_n hx hb dX12_readStep_2 rfl (lv_at hl 0 rfl) ?_
  refine xcVi [] S hE hA hP hD hS (c_M_look l G z0 H.size _) hB (gw_c lk_X12_131 (gw_c wi_X12_look (gw_c we_X12_X12_look_X12_look (gw_c wn_X12 (gw_c wc_X12_look (fun _ h9 => h9)))))) hd_X12_look rfl rfl (Nat.le_trans (Nat.le_of_ble_eq_true rfl) hRf) (Nat.le_trans (Nat.le_of_ble_eq_true rfl) hRl) ⟨Nat.zero_le _, Nat.zero_le _⟩ (va_recv hE.1 hP (ci := 11) (q0 := 0) rfl rfl) rfl hl.1 rfl (Nat.le_of_ble_eq_true rfl) dX12_readStep_3 (fun r1 z1 H locs hB hP hD hS => ?_)
  refine xcSi [.ref (tx G 5), .int r1] S hE hA hP hD hS (c_M_spotOf l G z1 H.size 5 r1 _) hB (gw_c lk_X12_214 (gw_c wt_X12_spotOf (gw_c wn_X12 (gw_c wc_X12_spotOf (fun _ h9 => h9))))) hs_X12_spotOf rfl rfl (Nat.le_trans (Nat.le_of_ble_eq_true rfl) hRf) (Nat.le_trans (Nat.le_of_ble_eq_true rfl) hRl) ⟨Nat.zero_le _, Nat.zero_le _⟩ rfl hl.1 rfl (Nat.le_of_ble_eq_true rfl) dX12_readStep_6 (fun r2 z2 H locs hB hP hD hS => ?_)
  refine lv_istore_n (lv' := [(2, .int r2), (0, .ref (ad G 100)), (1, .int x1)]) hx hb dX12_readStep_9 rfl hl (by decide) rfl (fun ls hl => ?_)
  refine lv_iload_n hx hb dX12_readStep_10 rfl (lv_at hl 0 rfl) ?_
  refine lv_iconst (v := -1) hx hb dX12_readStep_11 (by decide) ?_
  refine lv_icmp_ne (tgt := 21) hx hb dX12_readStep_12 (by decide) (fun c3 => ?_) (fun c3 => ?_)
  · have hB := hB.2 c3
    refine lv_aload_n hx hb dX12_readStep_21 rfl (lv_at hl 1 rfl) ?_
    refine lv_dup hx hb dX12_readStep_22 rfl ?_
    refine xMg_100_at S hE hP lk_X12_112 dX12_readStep_23 ?_
    refine lv_iconst (v := 1) hx hb dX12_readStep_26 (by decide) ?_
    refine lv_iadd hx hb dX12_readStep_27 ?_
    obtain ⟨z3, ez3⟩ : ∃ z9, z9 = sI z2 105 ((gI z2 105) + (1 : Int32)) := ⟨_, rfl⟩
    have hB := hB z3 ez3
    refine xMp_100_at S hE hP hD hS lk_X12_112 dX12_readStep_28 (fun H locs hP hD hS => ?_)
    rw [← ez3] at hP hD
    refine lv_aload_n hx hb dX12_readStep_31 rfl (lv_at hl 1 rfl) ?_
    refine xMg_100_winter S hE hP lk_X12_55 dX12_readStep_32 ?_
    refine lv_iload_n hx hb dX12_readStep_35 rfl (lv_at hl 2 rfl) ?_
    refine lv_iload_n hx hb dX12_readStep_36 rfl (lv_at hl 0 rfl) ?_
    obtain ⟨hi, hB⟩ := hB
    obtain ⟨z4, ez4⟩ : ∃ z9, z9 = sA z3 111 x1.toNatClampNeg r2 := ⟨_, rfl⟩
    have hB := hB z4 ez4
    refine xMs_111 S hE hP hD hS _ rfl hi dX12_readStep_37 (fun H locs hP hD hS => ?_)
    rw [← ez4] at hP hD
    refine lv_aload_n hx hb dX12_readStep_38 rfl (lv_at hl 1 rfl) ?_
    refine xMg_100_winter S hE hP lk_X12_55 dX12_readStep_39 ?_
    refine lv_iload_n hx hb dX12_readStep_42 rfl (lv_at hl 2 rfl) ?_
    refine lv_iconst (v := 1) hx hb dX12_readStep_43 (by decide) ?_
    refine lv_iadd hx hb dX12_readStep_44 ?_
    refine lv_iconst (v := -1) hx hb dX12_readStep_45 (by decide) ?_
    obtain ⟨hi, hB⟩ := hB
    obtain ⟨z5, ez5⟩ : ∃ z9, z9 = sA z4 111 (x1 + (1 : Int32)).toNatClampNeg (-1 : Int32) := ⟨_, rfl⟩
    have hB := hB z5 ez5
    refine xMs_111 S hE hP hD hS _ rfl hi dX12_readStep_46 (fun H locs hP hD hS => ?_)
    rw [← ez5] at hP hD
    refine lv_iload_n hx hb dX12_readStep_47 rfl (lv_at hl 0 rfl) ?_
    refine lv_iconst (v := 1) hx hb dX12_readStep_48 (by decide) ?_
    refine lv_icmp_ne (tgt := 53) hx hb dX12_readStep_49 (by decide) (fun c4 => ?_) (fun c4 => ?_)
    · have hB := hB.2 c4
      refine lv_aload_n hx hb dX12_readStep_53 rfl (lv_at hl 1 rfl) ?_
      refine xcVi [] S hE hA hP hD hS (c_M_look l G z5 H.size _) hB (gw_c lk_X12_131 (gw_c wi_X12_look (gw_c we_X12_X12_look_X12_look (gw_c wn_X12 (gw_c wc_X12_look (fun _ h9 => h9)))))) hd_X12_look rfl rfl (Nat.le_trans (Nat.le_of_ble_eq_true rfl) hRf) (Nat.le_trans (Nat.le_of_ble_eq_true rfl) hRl) ⟨Nat.zero_le _, Nat.zero_le _⟩ (va_recv hE.1 hP (ci := 11) (q0 := 0) rfl rfl) rfl hl.1 rfl (Nat.le_of_ble_eq_true rfl) dX12_readStep_54 (fun r5 z6 H locs hB hP hD hS => ?_)
      refine lv_istore_n (lv' := [(3, .int r5), (2, .int r2), (0, .ref (ad G 100)), (1, .int x1)]) hx hb dX12_readStep_57 rfl hl (by decide) rfl (fun ls hl => ?_)
      refine lv_aload_n hx hb dX12_readStep_58 rfl (lv_at hl 2 rfl) ?_
      refine xcVi [] S hE hA hP hD hS (c_M_isDigit l G z6 H.size _) hB (gw_c lk_X12_161 (gw_c wi_X12_isDigit (gw_c we_X12_X12_isDigit_X12_isDigit (gw_c wn_X12 (gw_c wc_X12_isDigit (fun _ h9 => h9)))))) hd_X12_isDigit rfl rfl (Nat.le_trans (Nat.le_of_ble_eq_true rfl) hRf) (Nat.le_trans (Nat.le_of_ble_eq_true rfl) hRl) ⟨Nat.zero_le _, Nat.zero_le _⟩ (va_recv hE.1 hP (ci := 11) (q0 := 0) rfl rfl) rfl hl.1 rfl (Nat.le_of_ble_eq_true rfl) dX12_readStep_59 (fun r6 z7 H locs hB hP hD hS => ?_)
      refine lv_if_ne (tgt := 71) hx hb dX12_readStep_62 (by decide) (fun c7 => ?_) (fun c7 => ?_)
      · have hB := hB.2 c7
        refine lv_aload_n hx hb dX12_readStep_71 rfl (lv_at hl 2 rfl) ?_
        refine xMg_100_winter S hE hP lk_X12_55 dX12_readStep_72 ?_
        refine lv_iload_n hx hb dX12_readStep_75 rfl (lv_at hl 3 rfl) ?_
        refine lv_iconst (v := 1) hx hb dX12_readStep_76 (by decide) ?_
        refine lv_iadd hx hb dX12_readStep_77 ?_
        refine lv_iload_n hx hb dX12_readStep_78 rfl (lv_at hl 0 rfl) ?_
        refine lv_bipush (v := 48) hx hb dX12_readStep_79 (by decide) ?_
        refine lv_isub hx hb dX12_readStep_81 ?_
        obtain ⟨hi, hB⟩ := hB
        obtain ⟨z8, ez8⟩ : ∃ z9, z9 = sA z7 111 (x1 + (1 : Int32)).toNatClampNeg (r5 - (48 : Int32)) := ⟨_, rfl⟩
        have hB := hB z8 ez8
        refine xMs_111 S hE hP hD hS _ rfl hi dX12_readStep_82 (fun H locs hP hD hS => ?_)
        rw [← ez8] at hP hD
        refine lv_aload_n hx hb dX12_readStep_83 rfl (lv_at hl 2 rfl) ?_
        refine lv_dup hx hb dX12_readStep_84 rfl ?_
        refine xMg_100_at S hE hP lk_X12_112 dX12_readStep_85 ?_
        refine lv_iconst (v := 1) hx hb dX12_readStep_88 (by decide) ?_
        refine lv_iadd hx hb dX12_readStep_89 ?_
        obtain ⟨z9, ez9⟩ : ∃ z9, z9 = sI z8 105 ((gI z8 105) + (1 : Int32)) := ⟨_, rfl⟩
        have hB := hB z9 ez9
        refine xMp_100_at S hE hP hD hS lk_X12_112 dX12_readStep_90 (fun H locs hP hD hS => ?_)
        rw [← ez9] at hP hD
        exact hret _ _ _ _ _ dX12_readStep_93 hB hP hD hS
      · have hB := hB.1 c7
        refine lv_aload_n hx hb dX12_readStep_65 rfl (lv_at hl 2 rfl) ?_
        refine xcVi [] S hE hA hP hD hS (c_M_fails l G z7 H.size _) hB (gw_c lk_X12_127 (gw_c wi_X12_fails (gw_c we_X12_X12_fails_X12_fails (gw_c wn_X12 (gw_c wc_X12_fails (fun _ h9 => h9)))))) hd_X12_fails rfl rfl (Nat.le_trans (Nat.le_of_ble_eq_true rfl) hRf) (Nat.le_trans (Nat.le_of_ble_eq_true rfl) hRl) ⟨Nat.zero_le _, Nat.zero_le _⟩ (va_recv hE.1 hP (ci := 11) (q0 := 0) rfl rfl) rfl hl.1 rfl (Nat.le_of_ble_eq_true rfl) dX12_readStep_66 (fun r8 z10 H locs hB hP hD hS => ?_)
        refine lv_pop hx hb dX12_readStep_69 rfl ?_
        exact hret _ _ _ _ _ dX12_readStep_70 hB hP hD hS
    · have hB := hB.1 c4
      exact hret _ _ _ _ _ dX12_readStep_52 hB hP hD hS
  · have hB := hB.1 c3
    refine lv_aload_n hx hb dX12_readStep_15 rfl (lv_at hl 1 rfl) ?_
    refine xcVi [] S hE hA hP hD hS (c_M_fails l G z2 H.size _) hB (gw_c lk_X12_127 (gw_c wi_X12_fails (gw_c we_X12_X12_fails_X12_fails (gw_c wn_X12 (gw_c wc_X12_fails (fun _ h9 => h9)))))) hd_X12_fails rfl rfl (Nat.le_trans (Nat.le_of_ble_eq_true rfl) hRf) (Nat.le_trans (Nat.le_of_ble_eq_true rfl) hRl) ⟨Nat.zero_le _, Nat.zero_le _⟩ (va_recv hE.1 hP (ci := 11) (q0 := 0) rfl rfl) rfl hl.1 rfl (Nat.le_of_ble_eq_true rfl) dX12_readStep_16 (fun r9 z11 H locs hB hP hD hS => ?_)
    refine lv_pop hx hb dX12_readStep_19 rfl ?_
    exact hret _ _ _ _ _ dX12_readStep_20 hB hP hD hS
set_option maxHeartbeats 4000000 in
set_option maxRecDepth 100000 in
theorem c_M_readStep (l : Launch) (G : GX) (z0 : St) (sz : Nat) (x1 : Int32) (post : St → Prop) : MetV l wM yX12_readStep cX12_readStep 4 none ({ frames := 5, cells := 0, slots := 0, locals := 107 }) [.ref (ad G 100), .int x1] G z0 sz (S_M_readStep post x1 z0) post := by
  refine Met.ofW (cc := cX12_readStep) (maxL := 4) (ret := none) (by decide) rfl ?_
  intro p e s m args below meth c s₁ B hml hv
  obtain ⟨rfl, hsz, hP, hD0, hE, hB⟩ := hv
  have S : CallFix p m c cX12_readStep 4 s _ GW RX12 := ⟨B.exec, B.bytes, hml, findClass_of_methodNamed B.named, fun w h => atoms_spec (ws := Cond.code yX12_readStep cX12_readStep 4 none :: GW) B.pre w (List.mem_cons_of_mem _ h)⟩
  have hlocks := B.notSynchronized
  subst hsz
  have hD := hD0.self (sz := s.heap.size)
  generalize hAe : va_A (wM G z0) s.heap.size = A at hD hE ⊢
  have hA : ∀ q : Nat, s.heap.size ≤ q → A q := fun q h => by rw [← hAe]; exact Or.inr h
  have hS : va_S A s.heap s.heap [] := va_S.rf
  have hl := lv_entry ([.ref (ad G 100), .int x1]) (n := 4) (Nat.le_of_ble_eq_true rfl)
  rw [lg_entry_eq]
  generalize (lg_sl ([.ref (ad G 100), .int x1]) ++ List.replicate (4 - (lg_sl ([.ref (ad G 100), .int x1])).length) Slot.unset).toArray = ls at hl ⊢
  have hl : lv_has ls 4 [(0, .ref (ad G 100)), (1, .int x1)] := hl
  refine w_M_readStep_0 S hE hA (Nat.le_refl _) (Nat.le_refl _) ?_ x1 z0 hB _ _ _ hP hD hS hl
  intro pc ls σ H locs hd hp hP hD hS
  exact W.vret B.exec B.bytes B.returns (fun t ht hW => ⟨⟨σ, rfl, hp, by rw [ht]; exact hP, hD⟩, hS.F ht⟩) hS.2.2 hd
def B_M_readWinter_74 (post : St → Prop) (ih17 : Int32 → Int32 → St → Prop) (x1 : Int32) (x2 : Int32) (z0 : St) : Prop :=
  ((x2 = 0 → (ih17 x1 x2 z0)) ∧ (¬ x2 = 0 → (∀ z1 : St, z1 = sI z0 105 ((gI z0 105) + (1 : Int32)) → (ih17 x1 x2 z1))))
set_option maxHeartbeats 4000000 in
set_option maxRecDepth 100000 in
theorem w_M_readWinter_74 {p : Program} {l : Launch} {e : Env} {R : Room} {s : State} {m : MethodId} {args : Array Value} {below : List Frame} {meth : Method} {c : Code} {Q : State → Prop} {G : GX} {A : Nat → Prop} (S : CallFix p m c cX12_readWinter 3 s args GW RX12) (hE : env G A s s.heap) (hA : ∀ q, s.heap.size ≤ q → A q) (hRf : 6 ≤ R.frames) (hRl : 130 ≤ R.locals) {post : St → Prop} (hret : RetV p l e R s m args below meth c Q 0 0 wM G A cX12_readWinter post) {ih17 : Int32 → Int32 → St → Prop} (h17 : ∀ (x1 : Int32) (x2 : Int32) (z0 : St), ih17 x1 x2 z0 → Xw p l e R s m args below meth c Q 0 0 wM G A z0 3 [(0, .ref (ad G 100)), (1, .int x1), (2, .int x2)] 17 []) (x1 : Int32) (x2 : Int32) (z0 : St) (hB : B_M_readWinter_74 post ih17 x1 x2 z0) : Xw p l e R s m args below meth c Q 0 0 wM G A z0 3 [(0, .ref (ad G 100)), (1, .int x1), (2, .int x2)] 74 [] := by
  intro H locs ls hP hD hS hl
  have hx := S.1
  have hb := S.2.1
  refine lv_iload_n hx hb dX12_readWinter_74 rfl (lv_at hl 2 rfl) ?_
  refine lv_if_eq (tgt := 17) hx hb dX12_readWinter_75 (by decide) (fun c1 => ?_) (fun c1 => ?_)
  · have hB := hB.1 c1
    exact h17 x1 x2 z0 hB _ _ _ hP hD hS (lv_sub hl [0, 1, 2] rfl)
  · have hB := hB.2 c1
    refine lv_aload_n hx hb dX12_readWinter_78 rfl (lv_at hl 0 rfl) ?_
    refine lv_dup hx hb dX12_readWinter_79 rfl ?_
    refine xMg_100_at S hE hP lk_X12_112 dX12_readWinter_80 ?_
    refine lv_iconst (v := 1) hx hb dX12_readWinter_83 (by decide) ?_
    refine lv_iadd hx hb dX12_readWinter_84 ?_
    obtain ⟨z1, ez1⟩ : ∃ z9, z9 = sI z0 105 ((gI z0 105) + (1 : Int32)) := ⟨_, rfl⟩
    have hB := hB z1 ez1
    refine xMp_100_at S hE hP hD hS lk_X12_112 dX12_readWinter_85 (fun H locs hP hD hS => ?_)
    rw [← ez1] at hP hD
    refine lv_goto (tgt := 17) hx hb dX12_readWinter_88 (by decide) ?_
    exact h17 x1 x2 z1 hB _ _ _ hP hD hS (lv_sub hl [0, 1, 2] rfl)
def B_M_readWinter_57 (post : St → Prop) (ih17 : Int32 → Int32 → St → Prop) (x1 : Int32) (s0 : Int32) (z0 : St) : Prop :=
  ((s0 = 0 → (B_M_readWinter_74 post ih17 x1 s0 z0)) ∧ (¬ s0 = 0 → ((x1 = (16 : Int32) → (S_M_fails (fun (r3 : Int32) (z1 : St) => (post z1)) z0)) ∧ (¬ x1 = (16 : Int32) → (B_M_readWinter_74 post ih17 x1 s0 z0)))))
set_option maxHeartbeats 4000000 in
set_option maxRecDepth 100000 in
theorem w_M_readWinter_57 {p : Program} {l : Launch} {e : Env} {R : Room} {s : State} {m : MethodId} {args : Array Value} {below : List Frame} {meth : Method} {c : Code} {Q : State → Prop} {G : GX} {A : Nat → Prop} (S : CallFix p m c cX12_readWinter 3 s args GW RX12) (hE : env G A s s.heap) (hA : ∀ q, s.heap.size ≤ q → A q) (hRf : 6 ≤ R.frames) (hRl : 130 ≤ R.locals) {post : St → Prop} (hret : RetV p l e R s m args below meth c Q 0 0 wM G A cX12_readWinter post) {ih17 : Int32 → Int32 → St → Prop} (h17 : ∀ (x1 : Int32) (x2 : Int32) (z0 : St), ih17 x1 x2 z0 → Xw p l e R s m args below meth c Q 0 0 wM G A z0 3 [(0, .ref (ad G 100)), (1, .int x1), (2, .int x2)] 17 []) (x1 : Int32) (s0 : Int32) (z0 : St) (hB : B_M_readWinter_57 post ih17 x1 s0 z0) : Xw p l e R s m args below meth c Q 0 0 wM G A z0 3 [(0, .ref (ad G 100)), (1, .int x1)] 57 [.int s0] := by
  intro H locs ls hP hD hS hl
  have hx := S.1
  have hb := S.2.1
  refine lv_istore_n (lv' := [(2, .int s0), (0, .ref (ad G 100)), (1, .int x1)]) hx hb dX12_readWinter_57 rfl hl (by decide) rfl (fun ls hl => ?_)
  refine lv_iload_n hx hb dX12_readWinter_58 rfl (lv_at hl 0 rfl) ?_
  refine lv_if_eq (tgt := 74) hx hb dX12_readWinter_59 (by decide) (fun c1 => ?_) (fun c1 => ?_)
  · have hB := hB.1 c1
    exact w_M_readWinter_74 S hE hA hRf hRl hret h17 x1 s0 z0 hB _ _ _ hP hD hS (lv_sub hl [1, 2, 0] rfl)
  · have hB := hB.2 c1
    refine lv_iload_n hx hb dX12_readWinter_62 rfl (lv_at hl 2 rfl) ?_
    refine lv_bipush (v := 16) hx hb dX12_readWinter_63 (by decide) ?_
    refine lv_icmp_ne (tgt := 74) hx hb dX12_readWinter_65 (by decide) (fun c2 => ?_) (fun c2 => ?_)
    · have hB := hB.2 c2
      exact w_M_readWinter_74 S hE hA hRf hRl hret h17 x1 s0 z0 hB _ _ _ hP hD hS (lv_sub hl [1, 2, 0] rfl)
    · have hB := hB.1 c2
      refine lv_aload_n hx hb dX12_readWinter_68 rfl (lv_at hl 1 rfl) ?_
      refine xcVi [] S hE hA hP hD hS (c_M_fails l G z0 H.size _) hB (gw_c lk_X12_127 (gw_c wi_X12_fails (gw_c we_X12_X12_fails_X12_fails (gw_c wn_X12 (gw_c wc_X12_fails (fun _ h9 => h9)))))) hd_X12_fails rfl rfl (Nat.le_trans (Nat.le_of_ble_eq_true rfl) hRf) (Nat.le_trans (Nat.le_of_ble_eq_true rfl) hRl) ⟨Nat.zero_le _, Nat.zero_le _⟩ (va_recv hE.1 hP (ci := 11) (q0 := 0) rfl rfl) rfl hl.1 rfl (Nat.le_of_ble_eq_true rfl) dX12_readWinter_69 (fun r3 z1 H locs hB hP hD hS => ?_)
      refine lv_pop hx hb dX12_readWinter_72 rfl ?_
      exact hret _ _ _ _ _ dX12_readWinter_73 hB hP hD hS
def B_M_readWinter_17 (post : St → Prop) (ih17 : Int32 → Int32 → St → Prop) (x1 : Int32) (x2 : Int32) (z0 : St) : Prop :=
  ((x2 = 0 → (∀ z1 : St, z1 = sA z0 112 4 x1 → (S_M_look (fun (r2 : Int32) (z2 : St) => ((r2 = (-1 : Int32) → (post z2)) ∧ (¬ r2 = (-1 : Int32) → (S_M_fails (fun (r4 : Int32) (z3 : St) => (post z3)) z2)))) z1))) ∧ (¬ x2 = 0 → (S_M_readStep (fun (z4 : St) => (((gI z4 106) = (-1 : Int32) → (∀ v6 : Int32, v6 = x1 + (1 : Int32) → (S_M_look (fun (r7 : Int32) (z5 : St) => ((r7 = (59 : Int32) → (B_M_readWinter_57 post ih17 v6 (1 : Int32) z5)) ∧ (¬ r7 = (59 : Int32) → (B_M_readWinter_57 post ih17 v6 (0 : Int32) z5)))) z4))) ∧ (¬ (gI z4 106) = (-1 : Int32) → (post z4)))) ((2 : Int32) * ((64 : Int32) + x1)) z0)))
set_option maxHeartbeats 4000000 in
set_option maxRecDepth 100000 in
theorem w_M_readWinter_17 {p : Program} {l : Launch} {e : Env} {R : Room} {s : State} {m : MethodId} {args : Array Value} {below : List Frame} {meth : Method} {c : Code} {Q : State → Prop} {G : GX} {A : Nat → Prop} (S : CallFix p m c cX12_readWinter 3 s args GW RX12) (hE : env G A s s.heap) (hA : ∀ q, s.heap.size ≤ q → A q) (hRf : 6 ≤ R.frames) (hRl : 130 ≤ R.locals) {post : St → Prop} (hret : RetV p l e R s m args below meth c Q 0 0 wM G A cX12_readWinter post) {ih17 : Int32 → Int32 → St → Prop} (h17 : ∀ (x1 : Int32) (x2 : Int32) (z0 : St), ih17 x1 x2 z0 → Xw p l e R s m args below meth c Q 0 0 wM G A z0 3 [(0, .ref (ad G 100)), (1, .int x1), (2, .int x2)] 17 []) (x1 : Int32) (x2 : Int32) (z0 : St) (hB : B_M_readWinter_17 post ih17 x1 x2 z0) : Xw p l e R s m args below meth c Q 0 0 wM G A z0 3 [(0, .ref (ad G 100)), (1, .int x1), (2, .int x2)] 17 [] := by
  intro H locs ls hP hD hS hl
  have hx := S.1
  have hb := S.2.1
  refine lv_iload_n hx hb dX12_readWinter_17 rfl (lv_at hl 2 rfl) ?_
  refine lv_if_eq (tgt := 91) hx hb dX12_readWinter_18 (by decide) (fun c1 => ?_) (fun c1 => ?_)
  · have hB := hB.1 c1
    refine lv_aload_n hx hb dX12_readWinter_91 rfl (lv_at hl 0 rfl) ?_
    refine xMg_100_winterLong S hE hP lk_X12_58 dX12_readWinter_92 ?_
    refine lv_iconst (v := 4) hx hb dX12_readWinter_95 (by decide) ?_
    refine lv_iload_n hx hb dX12_readWinter_96 rfl (lv_at hl 1 rfl) ?_
    obtain ⟨z1, ez1⟩ : ∃ z9, z9 = sA z0 112 4 x1 := ⟨_, rfl⟩
    have hB := hB z1 ez1
    refine xMs_112 S hE hP hD hS 4 (by decide) (by unfold vp_in; decide) dX12_readWinter_97 (fun H locs hP hD hS => ?_)
    rw [← ez1] at hP hD
    refine lv_aload_n hx hb dX12_readWinter_98 rfl (lv_at hl 0 rfl) ?_
    refine xcVi [] S hE hA hP hD hS (c_M_look l G z1 H.size _) hB (gw_c lk_X12_131 (gw_c wi_X12_look (gw_c we_X12_X12_look_X12_look (gw_c wn_X12 (gw_c wc_X12_look (fun _ h9 => h9)))))) hd_X12_look rfl rfl (Nat.le_trans (Nat.le_of_ble_eq_true rfl) hRf) (Nat.le_trans (Nat.le_of_ble_eq_true rfl) hRl) ⟨Nat.zero_le _, Nat.zero_le _⟩ (va_recv hE.1 hP (ci := 11) (q0 := 0) rfl rfl) rfl hl.1 rfl (Nat.le_of_ble_eq_true rfl) dX12_readWinter_99 (fun r2 z2 H locs hB hP hD hS => ?_)
    refine lv_iconst (v := -1) hx hb dX12_readWinter_102 (by decide) ?_
    refine lv_icmp_eq (tgt := 111) hx hb dX12_readWinter_103 (by decide) (fun c3 => ?_) (fun c3 => ?_)
    · have hB := hB.1 c3
      exact hret _ _ _ _ _ dX12_readWinter_111 hB hP hD hS
    · have hB := hB.2 c3
      refine lv_aload_n hx hb dX12_readWinter_106 rfl (lv_at hl 0 rfl) ?_
      refine xcVi [] S hE hA hP hD hS (c_M_fails l G z2 H.size _) hB (gw_c lk_X12_127 (gw_c wi_X12_fails (gw_c we_X12_X12_fails_X12_fails (gw_c wn_X12 (gw_c wc_X12_fails (fun _ h9 => h9)))))) hd_X12_fails rfl rfl (Nat.le_trans (Nat.le_of_ble_eq_true rfl) hRf) (Nat.le_trans (Nat.le_of_ble_eq_true rfl) hRl) ⟨Nat.zero_le _, Nat.zero_le _⟩ (va_recv hE.1 hP (ci := 11) (q0 := 0) rfl rfl) rfl hl.1 rfl (Nat.le_of_ble_eq_true rfl) dX12_readWinter_107 (fun r4 z3 H locs hB hP hD hS => ?_)
      refine lv_pop hx hb dX12_readWinter_110 rfl ?_
      exact hret _ _ _ _ _ dX12_readWinter_111 hB hP hD hS
  · have hB := hB.2 c1
    refine lv_aload_n hx hb dX12_readWinter_21 rfl (lv_at hl 0 rfl) ?_
    refine lv_iconst (v := 2) hx hb dX12_readWinter_22 (by decide) ?_
    refine lv_bipush (v := 64) hx hb dX12_readWinter_23 (by decide) ?_
    refine lv_iload_n hx hb dX12_readWinter_25 rfl (lv_at hl 1 rfl) ?_
    refine lv_iadd hx hb dX12_readWinter_26 ?_
    refine lv_imul hx hb dX12_readWinter_27 ?_
    refine xcVv [.int ((2 : Int32) * ((64 : Int32) + x1))] S hE hA hP hD hS (c_M_readStep l G z0 H.size ((2 : Int32) * ((64 : Int32) + x1)) _) hB (gw_c lk_X12_255 (gw_c wi_X12_readStep (gw_c we_X12_X12_readStep_X12_readStep (gw_c wn_X12 (gw_c wc_X12_readStep (fun _ h9 => h9)))))) hd_X12_readStep rfl rfl (Nat.le_trans (Nat.le_of_ble_eq_true rfl) hRf) (Nat.le_trans (Nat.le_of_ble_eq_true rfl) hRl) ⟨Nat.zero_le _, Nat.zero_le _⟩ (va_recv hE.1 hP (ci := 11) (q0 := 0) rfl rfl) rfl hl.1 rfl (Nat.le_of_ble_eq_true rfl) dX12_readWinter_28 (fun z4 H locs hB hP hD hS => ?_)
    refine lv_aload_n hx hb dX12_readWinter_31 rfl (lv_at hl 0 rfl) ?_
    refine xMg_100_fault S hE hP lk_X12_121 dX12_readWinter_32 ?_
    refine lv_iconst (v := -1) hx hb dX12_readWinter_35 (by decide) ?_
    refine lv_icmp_eq (tgt := 40) hx hb dX12_readWinter_36 (by decide) (fun c5 => ?_) (fun c5 => ?_)
    · have hB := hB.1 c5
      obtain ⟨v6, ev6⟩ : ∃ y9, y9 = x1 + (1 : Int32) := ⟨_, rfl⟩
      have hB := hB v6 ev6
      refine lv_iinc (v := v6) (lv' := [(1, .int v6), (0, .ref (ad G 100)), (2, .int x2)]) hx hb dX12_readWinter_40 hl (k := 1) rfl (by rw [ev6]; rfl) (by decide) rfl (fun ls hl => ?_)
      refine lv_aload_n hx hb dX12_readWinter_43 rfl (lv_at hl 1 rfl) ?_
      refine xcVi [] S hE hA hP hD hS (c_M_look l G z4 H.size _) hB (gw_c lk_X12_131 (gw_c wi_X12_look (gw_c we_X12_X12_look_X12_look (gw_c wn_X12 (gw_c wc_X12_look (fun _ h9 => h9)))))) hd_X12_look rfl rfl (Nat.le_trans (Nat.le_of_ble_eq_true rfl) hRf) (Nat.le_trans (Nat.le_of_ble_eq_true rfl) hRl) ⟨Nat.zero_le _, Nat.zero_le _⟩ (va_recv hE.1 hP (ci := 11) (q0 := 0) rfl rfl) rfl hl.1 rfl (Nat.le_of_ble_eq_true rfl) dX12_readWinter_44 (fun r7 z5 H locs hB hP hD hS => ?_)
      refine lv_bipush (v := 59) hx hb dX12_readWinter_47 (by decide) ?_
      refine lv_icmp_ne (tgt := 56) hx hb dX12_readWinter_49 (by decide) (fun c8 => ?_) (fun c8 => ?_)
      · have hB := hB.2 c8
        refine lv_iconst (v := 0) hx hb dX12_readWinter_56 (by decide) ?_
        exact w_M_readWinter_57 S hE hA hRf hRl hret h17 v6 (0 : Int32) z5 hB _ _ _ hP hD hS (lv_sub hl [1, 0] rfl)
      · have hB := hB.1 c8
        refine lv_iconst (v := 1) hx hb dX12_readWinter_52 (by decide) ?_
        refine lv_goto (tgt := 57) hx hb dX12_readWinter_53 (by decide) ?_
        exact w_M_readWinter_57 S hE hA hRf hRl hret h17 v6 (1 : Int32) z5 hB _ _ _ hP hD hS (lv_sub hl [1, 0] rfl)
    · have hB := hB.2 c5
      exact hret _ _ _ _ _ dX12_readWinter_39 hB hP hD hS
def L_M_readWinter_17 (post : St → Prop) : Nat → Int32 → Int32 → St → Prop
  | 0 => fun _ _ _ => False
  | n + 1 => B_M_readWinter_17 post (L_M_readWinter_17 post n)
theorem wl_M_readWinter_17 {p : Program} {l : Launch} {e : Env} {R : Room} {s : State} {m : MethodId} {args : Array Value} {below : List Frame} {meth : Method} {c : Code} {Q : State → Prop} {G : GX} {A : Nat → Prop} (S : CallFix p m c cX12_readWinter 3 s args GW RX12) (hE : env G A s s.heap) (hA : ∀ q, s.heap.size ≤ q → A q) (hRf : 6 ≤ R.frames) (hRl : 130 ≤ R.locals) {post : St → Prop} (hret : RetV p l e R s m args below meth c Q 0 0 wM G A cX12_readWinter post) : ∀ (n : Nat) (x1 : Int32) (x2 : Int32) (z0 : St), L_M_readWinter_17 post n x1 x2 z0 → Xw p l e R s m args below meth c Q 0 0 wM G A z0 3 [(0, .ref (ad G 100)), (1, .int x1), (2, .int x2)] 17 [] := by
  intro n
  induction n with
  | zero => intro x1 x2 z0 hB; exact absurd hB id
  | succ n ih => exact fun x1 x2 z0 hB => w_M_readWinter_17 S hE hA hRf hRl hret ih x1 x2 z0 hB
def S_M_readWinter (post : St → Prop) (z0 : St) : Prop :=
  (S_M_starts_r101 (fun (z1 : St) => (∃ n1, L_M_readWinter_17 post n1 (0 : Int32) (1 : Int32) z1)) (0 : Int32) (gI z0 101) z0)
set_option maxHeartbeats 4000000 in
set_option maxRecDepth 100000 in
theorem w_M_readWinter_0 {p : Program} {l : Launch} {e : Env} {R : Room} {s : State} {m : MethodId} {args : Array Value} {below : List Frame} {meth : Method} {c : Code} {Q : State → Prop} {G : GX} {A : Nat → Prop} (S : CallFix p m c cX12_readWinter 3 s args GW RX12) (hE : env G A s s.heap) (hA : ∀ q, s.heap.size ≤ q → A q) (hRf : 6 ≤ R.frames) (hRl : 130 ≤ R.locals) {post : St → Prop} (hret : RetV p l e R s m args below meth c Q 0 0 wM G A cX12_readWinter post) (z0 : St) (hB : S_M_readWinter post z0) : Xw p l e R s m args below meth c Q 0 0 wM G A z0 3 [(0, .ref (ad G 100))] 0 [] := by
  intro H locs ls hP hD hS hl
  have hx := S.1
  have hb := S.2.1
  refine lv_aload_n hx hb dX12_readWinter_0 rfl (lv_at hl 0 rfl) ?_
  refine lv_aload_n hx hb dX12_readWinter_1 rfl (lv_at hl 0 rfl) ?_
  refine xMg_100_tape S hE hP lk_X12_9 dX12_readWinter_2 ?_
  refine lv_iconst (v := 0) hx hb dX12_readWinter_5 (by decide) ?_
  refine lv_aload_n hx hb dX12_readWinter_6 rfl (lv_at hl 0 rfl) ?_
  refine xMg_100_length S hE hP lk_X12_102 dX12_readWinter_7 ?_
  refine xcVv [.ref (ad G 101), .int (0 : Int32), .int (gI z0 101)] S hE hA hP hD hS (c_M_starts_r101 l G z0 H.size (0 : Int32) (gI z0 101) _) hB (gw_c lk_X12_200 (gw_c wi_X12_starts (gw_c we_X12_X12_starts_X12_starts (gw_c wn_X12 (gw_c wc_X12_starts (fun _ h9 => h9)))))) hd_X12_starts rfl rfl (Nat.le_trans (Nat.le_of_ble_eq_true rfl) hRf) (Nat.le_trans (Nat.le_of_ble_eq_true rfl) hRl) ⟨Nat.zero_le _, Nat.zero_le _⟩ (va_recv hE.1 hP (ci := 11) (q0 := 0) rfl rfl) rfl hl.1 rfl (Nat.le_of_ble_eq_true rfl) dX12_readWinter_10 (fun z1 H locs hB hP hD hS => ?_)
  refine lv_iconst (v := 0) hx hb dX12_readWinter_13 (by decide) ?_
  refine lv_istore_n (lv' := [(1, .int (0 : Int32)), (0, .ref (ad G 100))]) hx hb dX12_readWinter_14 rfl hl (by decide) rfl (fun ls hl => ?_)
  refine lv_iconst (v := 1) hx hb dX12_readWinter_15 (by decide) ?_
  refine lv_istore_n (lv' := [(2, .int (1 : Int32)), (1, .int (0 : Int32)), (0, .ref (ad G 100))]) hx hb dX12_readWinter_16 rfl hl (by decide) rfl (fun ls hl => ?_)
  obtain ⟨n1, hB⟩ := hB
  exact wl_M_readWinter_17 S hE hA hRf hRl hret n1 (0 : Int32) (1 : Int32) z1 hB _ _ _ hP hD hS (lv_sub hl [2, 1, 0] rfl)
set_option maxHeartbeats 4000000 in
set_option maxRecDepth 100000 in
theorem c_M_readWinter (l : Launch) (G : GX) (z0 : St) (sz : Nat) (post : St → Prop) : MetV l wM yX12_readWinter cX12_readWinter 3 none ({ frames := 6, cells := 0, slots := 0, locals := 130 }) [.ref (ad G 100)] G z0 sz (S_M_readWinter post z0) post := by
  refine Met.ofW (cc := cX12_readWinter) (maxL := 3) (ret := none) (by decide) rfl ?_
  intro p e s m args below meth c s₁ B hml hv
  obtain ⟨rfl, hsz, hP, hD0, hE, hB⟩ := hv
  have S : CallFix p m c cX12_readWinter 3 s _ GW RX12 := ⟨B.exec, B.bytes, hml, findClass_of_methodNamed B.named, fun w h => atoms_spec (ws := Cond.code yX12_readWinter cX12_readWinter 3 none :: GW) B.pre w (List.mem_cons_of_mem _ h)⟩
  have hlocks := B.notSynchronized
  subst hsz
  have hD := hD0.self (sz := s.heap.size)
  generalize hAe : va_A (wM G z0) s.heap.size = A at hD hE ⊢
  have hA : ∀ q : Nat, s.heap.size ≤ q → A q := fun q h => by rw [← hAe]; exact Or.inr h
  have hS : va_S A s.heap s.heap [] := va_S.rf
  have hl := lv_entry ([.ref (ad G 100)]) (n := 3) (Nat.le_of_ble_eq_true rfl)
  rw [lg_entry_eq]
  generalize (lg_sl ([.ref (ad G 100)]) ++ List.replicate (3 - (lg_sl ([.ref (ad G 100)])).length) Slot.unset).toArray = ls at hl ⊢
  have hl : lv_has ls 3 [(0, .ref (ad G 100))] := hl
  refine w_M_readWinter_0 S hE hA (Nat.le_refl _) (Nat.le_refl _) ?_  z0 hB _ _ _ hP hD hS hl
  intro pc ls σ H locs hd hp hP hD hS
  exact W.vret B.exec B.bytes B.returns (fun t ht hW => ⟨⟨σ, rfl, hp, by rw [ht]; exact hP, hD⟩, hS.F ht⟩) hS.2.2 hd
def B_M_isAmong_2 (post : Int32 → St → Prop) (ih2 : Nat → Int32 → Int32 → St → Prop) (x0 : Nat) (x1 : Int32) (x2 : Int32) (z0 : St) : Prop :=
  (x0 < 8 ∧ (S_String_length_8abf5_M (fun (r1 : Int32) (z1 : St) => ((r1 ≤ x2 → (post (0 : Int32) z1)) ∧ (¬ r1 ≤ x2 → (x0 < 8 ∧ (S_String_charAt_5068e_M (fun (r3 : Int32) (z2 : St) => ((r3 = x1 → (post (1 : Int32) z2)) ∧ (¬ r3 = x1 → (∀ v5 : Int32, v5 = x2 + (1 : Int32) → (ih2 x0 x1 v5 z2))))) x0 x2 z1))))) x0 z0))
set_option maxHeartbeats 4000000 in
set_option maxRecDepth 100000 in
theorem w_M_isAmong_2 {p : Program} {l : Launch} {e : Env} {R : Room} {s : State} {m : MethodId} {args : Array Value} {below : List Frame} {meth : Method} {c : Code} {Q : State → Prop} {G : GX} {A : Nat → Prop} (S : CallFix p m c cX12_isAmong 3 s args GW RX12) (hE : env G A s s.heap) (hA : ∀ q, s.heap.size ≤ q → A q) (hRf : 4 ≤ R.frames) (hRl : 85 ≤ R.locals) {post : Int32 → St → Prop} (hret : RetZ p l e R s m args below meth c Q 0 0 wM G A cX12_isAmong post) {ih2 : Nat → Int32 → Int32 → St → Prop} (h2 : ∀ (x0 : Nat) (x1 : Int32) (x2 : Int32) (z0 : St), ih2 x0 x1 x2 z0 → Xw p l e R s m args below meth c Q 0 0 wM G A z0 3 [(0, .ref (tx G x0)), (1, .int x1), (2, .int x2)] 2 []) (x0 : Nat) (x1 : Int32) (x2 : Int32) (z0 : St) (hB : B_M_isAmong_2 post ih2 x0 x1 x2 z0) : Xw p l e R s m args below meth c Q 0 0 wM G A z0 3 [(0, .ref (tx G x0)), (1, .int x1), (2, .int x2)] 2 [] := by
  intro H locs ls hP hD hS hl
  have hx := S.1
  have hb := S.2.1
  refine lv_iload_n hx hb dX12_isAmong_2 rfl (lv_at hl 2 rfl) ?_
  refine lv_aload_n hx hb dX12_isAmong_3 rfl (lv_at hl 0 rfl) ?_
  obtain ⟨hk9, hB⟩ := hB
  have hrv9 := vk_recv (eS hE.2) hk9 hS
  refine xcVi [] S hE hA hP hD hS (c_String_length_8abf5_M l G z0 H.size x0 _) hB (gw_c lk_X12_92 (gw_c wi_J0_length_8abf5 (gw_c we_J0_J0_length_8abf5_J0_length_8abf5 (gw_c wn_J0 (gw_c wc_J0_length_8abf5 (fun _ h9 => h9)))))) hd_J0_length_8abf5 rfl rfl (Nat.le_trans (Nat.le_of_ble_eq_true rfl) hRf) (Nat.le_trans (Nat.le_of_ble_eq_true rfl) hRl) ⟨Nat.zero_le _, Nat.zero_le _⟩ hrv9 rfl hl.1 rfl (Nat.le_of_ble_eq_true rfl) dX12_isAmong_4 (fun r1 z1 H locs hB hP hD hS => ?_)
  refine lv_icmp_ge (tgt := 27) hx hb dX12_isAmong_7 (by decide) (fun c2 => ?_) (fun c2 => ?_)
  · have hB := hB.1 c2
    refine lv_iconst (v := 0) hx hb dX12_isAmong_27 (by decide) ?_
    exact hret _ _ _ _ _ _ dX12_isAmong_28 ⟨by decide, hB⟩ hP hD hS
  · have hB := hB.2 c2
    refine lv_aload_n hx hb dX12_isAmong_10 rfl (lv_at hl 0 rfl) ?_
    refine lv_iload_n hx hb dX12_isAmong_11 rfl (lv_at hl 2 rfl) ?_
    obtain ⟨hk9, hB⟩ := hB
    have hrv9 := vk_recv (eS hE.2) hk9 hS
    refine xcVi [.int x2] S hE hA hP hD hS (c_String_charAt_5068e_M l G z1 H.size x0 x2 _) hB (gw_c lk_X12_98 (gw_c wi_J0_charAt_5068e (gw_c we_J0_J0_charAt_5068e_J0_charAt_5068e (gw_c wn_J0 (gw_c wc_J0_charAt_5068e (fun _ h9 => h9)))))) hd_J0_charAt_5068e rfl rfl (Nat.le_trans (Nat.le_of_ble_eq_true rfl) hRf) (Nat.le_trans (Nat.le_of_ble_eq_true rfl) hRl) ⟨Nat.zero_le _, Nat.zero_le _⟩ hrv9 rfl hl.1 rfl (Nat.le_of_ble_eq_true rfl) dX12_isAmong_12 (fun r3 z2 H locs hB hP hD hS => ?_)
    refine lv_iload_n hx hb dX12_isAmong_15 rfl (lv_at hl 1 rfl) ?_
    refine lv_icmp_ne (tgt := 21) hx hb dX12_isAmong_16 (by decide) (fun c4 => ?_) (fun c4 => ?_)
    · have hB := hB.2 c4
      obtain ⟨v5, ev5⟩ : ∃ y9, y9 = x2 + (1 : Int32) := ⟨_, rfl⟩
      have hB := hB v5 ev5
      refine lv_iinc (v := v5) (lv' := [(2, .int v5), (0, .ref (tx G x0)), (1, .int x1)]) hx hb dX12_isAmong_21 hl (k := 2) rfl (by rw [ev5]; rfl) (by decide) rfl (fun ls hl => ?_)
      refine lv_goto (tgt := 2) hx hb dX12_isAmong_24 (by decide) ?_
      exact h2 x0 x1 v5 z2 hB _ _ _ hP hD hS (lv_sub hl [1, 2, 0] rfl)
    · have hB := hB.1 c4
      refine lv_iconst (v := 1) hx hb dX12_isAmong_19 (by decide) ?_
      exact hret _ _ _ _ _ _ dX12_isAmong_20 ⟨by decide, hB⟩ hP hD hS
def L_M_isAmong_2 (post : Int32 → St → Prop) : Nat → Nat → Int32 → Int32 → St → Prop
  | 0 => fun _ _ _ _ => False
  | n + 1 => B_M_isAmong_2 post (L_M_isAmong_2 post n)
theorem wl_M_isAmong_2 {p : Program} {l : Launch} {e : Env} {R : Room} {s : State} {m : MethodId} {args : Array Value} {below : List Frame} {meth : Method} {c : Code} {Q : State → Prop} {G : GX} {A : Nat → Prop} (S : CallFix p m c cX12_isAmong 3 s args GW RX12) (hE : env G A s s.heap) (hA : ∀ q, s.heap.size ≤ q → A q) (hRf : 4 ≤ R.frames) (hRl : 85 ≤ R.locals) {post : Int32 → St → Prop} (hret : RetZ p l e R s m args below meth c Q 0 0 wM G A cX12_isAmong post) : ∀ (n : Nat) (x0 : Nat) (x1 : Int32) (x2 : Int32) (z0 : St), L_M_isAmong_2 post n x0 x1 x2 z0 → Xw p l e R s m args below meth c Q 0 0 wM G A z0 3 [(0, .ref (tx G x0)), (1, .int x1), (2, .int x2)] 2 [] := by
  intro n
  induction n with
  | zero => intro x0 x1 x2 z0 hB; exact absurd hB id
  | succ n ih => exact fun x0 x1 x2 z0 hB => w_M_isAmong_2 S hE hA hRf hRl hret ih x0 x1 x2 z0 hB
def S_M_isAmong (post : Int32 → St → Prop) (x0 : Nat) (x1 : Int32) (z0 : St) : Prop :=
  (∃ n1, L_M_isAmong_2 post n1 x0 x1 (0 : Int32) z0)
set_option maxHeartbeats 4000000 in
set_option maxRecDepth 100000 in
theorem w_M_isAmong_0 {p : Program} {l : Launch} {e : Env} {R : Room} {s : State} {m : MethodId} {args : Array Value} {below : List Frame} {meth : Method} {c : Code} {Q : State → Prop} {G : GX} {A : Nat → Prop} (S : CallFix p m c cX12_isAmong 3 s args GW RX12) (hE : env G A s s.heap) (hA : ∀ q, s.heap.size ≤ q → A q) (hRf : 4 ≤ R.frames) (hRl : 85 ≤ R.locals) {post : Int32 → St → Prop} (hret : RetZ p l e R s m args below meth c Q 0 0 wM G A cX12_isAmong post) (x0 : Nat) (x1 : Int32) (z0 : St) (hB : S_M_isAmong post x0 x1 z0) : Xw p l e R s m args below meth c Q 0 0 wM G A z0 3 [(0, .ref (tx G x0)), (1, .int x1)] 0 [] := by
  intro H locs ls hP hD hS hl
  have hx := S.1
  have hb := S.2.1
  refine lv_iconst (v := 0) hx hb dX12_isAmong_0 (by decide) ?_
  refine lv_istore_n (lv' := [(2, .int (0 : Int32)), (0, .ref (tx G x0)), (1, .int x1)]) hx hb dX12_isAmong_1 rfl hl (by decide) rfl (fun ls hl => ?_)
  obtain ⟨n1, hB⟩ := hB
  exact wl_M_isAmong_2 S hE hA hRf hRl hret n1 x0 x1 (0 : Int32) z0 hB _ _ _ hP hD hS (lv_sub hl [1, 2, 0] rfl)
set_option maxHeartbeats 4000000 in
set_option maxRecDepth 100000 in
theorem c_M_isAmong (l : Launch) (G : GX) (z0 : St) (sz : Nat) (x0 : Nat) (x1 : Int32) (post : Int32 → St → Prop) : MetI l wM yX12_isAmong cX12_isAmong 3 (some .boolean) ({ frames := 4, cells := 0, slots := 0, locals := 85 }) [.ref (tx G x0), .int x1] G z0 sz (S_M_isAmong post x0 x1 z0) post := by
  refine Met.ofW (cc := cX12_isAmong) (maxL := 3) (ret := (some .boolean)) (by decide) rfl ?_
  intro p e s m args below meth c s₁ B hml hv
  obtain ⟨rfl, hsz, hP, hD0, hE, hB⟩ := hv
  have S : CallFix p m c cX12_isAmong 3 s _ GW RX12 := ⟨B.exec, B.bytes, hml, findClass_of_methodNamed B.named, fun w h => atoms_spec (ws := Cond.code yX12_isAmong cX12_isAmong 3 (some .boolean) :: GW) B.pre w (List.mem_cons_of_mem _ h)⟩
  have hlocks := B.notSynchronized
  subst hsz
  have hD := hD0.self (sz := s.heap.size)
  generalize hAe : va_A (wM G z0) s.heap.size = A at hD hE ⊢
  have hA : ∀ q : Nat, s.heap.size ≤ q → A q := fun q h => by rw [← hAe]; exact Or.inr h
  have hS : va_S A s.heap s.heap [] := va_S.rf
  have hl := lv_entry ([.ref (tx G x0), .int x1]) (n := 3) (Nat.le_of_ble_eq_true rfl)
  rw [lg_entry_eq]
  generalize (lg_sl ([.ref (tx G x0), .int x1]) ++ List.replicate (3 - (lg_sl ([.ref (tx G x0), .int x1])).length) Slot.unset).toArray = ls at hl ⊢
  have hl : lv_has ls 3 [(0, .ref (tx G x0)), (1, .int x1)] := hl
  refine w_M_isAmong_0 S hE hA (Nat.le_refl _) (Nat.le_refl _) ?_ x0 x1 z0 hB _ _ _ hP hD hS hl
  intro pc ls r σ H locs hd hp hP hD hS
  exact W.zret (v := r) B.exec B.bytes B.returns (xboolc r hp.1) (fun t ht hW => ⟨⟨r, σ, rfl, hp.2, by rw [ht]; exact hP, hD⟩, hS.F ht⟩) hS.2.2 hd
def B_M_takes_16 (post : Int32 → St → Prop) (z0 : St) : Prop :=
  (S_M_fails (fun (r1 : Int32) (z1 : St) => ((r1 = 0 ∨ r1 = 1) ∧ post r1 z1)) z0)
set_option maxHeartbeats 4000000 in
set_option maxRecDepth 100000 in
theorem w_M_takes_16 {p : Program} {l : Launch} {e : Env} {R : Room} {s : State} {m : MethodId} {args : Array Value} {below : List Frame} {meth : Method} {c : Code} {Q : State → Prop} {G : GX} {A : Nat → Prop} (S : CallFix p m c cX12_takes 2 s args GW RX12) (hE : env G A s s.heap) (hA : ∀ q, s.heap.size ≤ q → A q) (hRf : 1 ≤ R.frames) (hRl : 20 ≤ R.locals) {post : Int32 → St → Prop} (hret : RetZ p l e R s m args below meth c Q 0 0 wM G A cX12_takes post) (z0 : St) (hB : B_M_takes_16 post z0) : Xw p l e R s m args below meth c Q 0 0 wM G A z0 2 [(0, .ref (ad G 100))] 16 [] := by
  intro H locs ls hP hD hS hl
  have hx := S.1
  have hb := S.2.1
  refine lv_aload_n hx hb dX12_takes_16 rfl (lv_at hl 0 rfl) ?_
  refine xcVi [] S hE hA hP hD hS (c_M_fails l G z0 H.size _) hB (gw_c lk_X12_127 (gw_c wi_X12_fails (gw_c we_X12_X12_fails_X12_fails (gw_c wn_X12 (gw_c wc_X12_fails (fun _ h9 => h9)))))) hd_X12_fails rfl rfl (Nat.le_trans (Nat.le_of_ble_eq_true rfl) hRf) (Nat.le_trans (Nat.le_of_ble_eq_true rfl) hRl) ⟨Nat.zero_le _, Nat.zero_le _⟩ (va_recv hE.1 hP (ci := 11) (q0 := 0) rfl rfl) rfl hl.1 rfl (Nat.le_of_ble_eq_true rfl) dX12_takes_17 (fun r1 z1 H locs hB hP hD hS => ?_)
  exact hret _ _ _ _ _ _ dX12_takes_20 hB hP hD hS
def S_M_takes (post : Int32 → St → Prop) (x1 : Int32) (z0 : St) : Prop :=
  (((gI z0 106) = (-1 : Int32) → (S_M_look (fun (r2 : Int32) (z1 : St) => ((r2 = x1 → (∀ z2 : St, z2 = sI z1 105 ((gI z1 105) + (1 : Int32)) → (post (1 : Int32) z2))) ∧ (¬ r2 = x1 → (B_M_takes_16 post z1)))) z0)) ∧ (¬ (gI z0 106) = (-1 : Int32) → (B_M_takes_16 post z0)))
set_option maxHeartbeats 4000000 in
set_option maxRecDepth 100000 in
theorem w_M_takes_0 {p : Program} {l : Launch} {e : Env} {R : Room} {s : State} {m : MethodId} {args : Array Value} {below : List Frame} {meth : Method} {c : Code} {Q : State → Prop} {G : GX} {A : Nat → Prop} (S : CallFix p m c cX12_takes 2 s args GW RX12) (hE : env G A s s.heap) (hA : ∀ q, s.heap.size ≤ q → A q) (hRf : 1 ≤ R.frames) (hRl : 20 ≤ R.locals) {post : Int32 → St → Prop} (hret : RetZ p l e R s m args below meth c Q 0 0 wM G A cX12_takes post) (x1 : Int32) (z0 : St) (hB : S_M_takes post x1 z0) : Xw p l e R s m args below meth c Q 0 0 wM G A z0 2 [(0, .ref (ad G 100)), (1, .int x1)] 0 [] := by
  intro H locs ls hP hD hS hl
  have hx := S.1
  have hb := S.2.1
  refine lv_aload_n hx hb dX12_takes_0 rfl (lv_at hl 0 rfl) ?_
  refine xMg_100_fault S hE hP lk_X12_121 dX12_takes_1 ?_
  refine lv_iconst (v := -1) hx hb dX12_takes_4 (by decide) ?_
  refine lv_icmp_ne (tgt := 16) hx hb dX12_takes_5 (by decide) (fun c1 => ?_) (fun c1 => ?_)
  · have hB := hB.2 c1
    exact w_M_takes_16 S hE hA hRf hRl hret z0 hB _ _ _ hP hD hS (lv_sub hl [0] rfl)
  · have hB := hB.1 c1
    refine lv_aload_n hx hb dX12_takes_8 rfl (lv_at hl 0 rfl) ?_
    refine xcVi [] S hE hA hP hD hS (c_M_look l G z0 H.size _) hB (gw_c lk_X12_131 (gw_c wi_X12_look (gw_c we_X12_X12_look_X12_look (gw_c wn_X12 (gw_c wc_X12_look (fun _ h9 => h9)))))) hd_X12_look rfl rfl (Nat.le_trans (Nat.le_of_ble_eq_true rfl) hRf) (Nat.le_trans (Nat.le_of_ble_eq_true rfl) hRl) ⟨Nat.zero_le _, Nat.zero_le _⟩ (va_recv hE.1 hP (ci := 11) (q0 := 0) rfl rfl) rfl hl.1 rfl (Nat.le_of_ble_eq_true rfl) dX12_takes_9 (fun r2 z1 H locs hB hP hD hS => ?_)
    refine lv_iload_n hx hb dX12_takes_12 rfl (lv_at hl 1 rfl) ?_
    refine lv_icmp_eq (tgt := 21) hx hb dX12_takes_13 (by decide) (fun c3 => ?_) (fun c3 => ?_)
    · have hB := hB.1 c3
      refine lv_aload_n hx hb dX12_takes_21 rfl (lv_at hl 0 rfl) ?_
      refine lv_dup hx hb dX12_takes_22 rfl ?_
      refine xMg_100_at S hE hP lk_X12_112 dX12_takes_23 ?_
      refine lv_iconst (v := 1) hx hb dX12_takes_26 (by decide) ?_
      refine lv_iadd hx hb dX12_takes_27 ?_
      obtain ⟨z2, ez2⟩ : ∃ z9, z9 = sI z1 105 ((gI z1 105) + (1 : Int32)) := ⟨_, rfl⟩
      have hB := hB z2 ez2
      refine xMp_100_at S hE hP hD hS lk_X12_112 dX12_takes_28 (fun H locs hP hD hS => ?_)
      rw [← ez2] at hP hD
      refine lv_iconst (v := 1) hx hb dX12_takes_31 (by decide) ?_
      exact hret _ _ _ _ _ _ dX12_takes_32 ⟨by decide, hB⟩ hP hD hS
    · have hB := hB.2 c3
      exact w_M_takes_16 S hE hA hRf hRl hret z1 hB _ _ _ hP hD hS (lv_sub hl [0] rfl)
set_option maxHeartbeats 4000000 in
set_option maxRecDepth 100000 in
theorem c_M_takes (l : Launch) (G : GX) (z0 : St) (sz : Nat) (x1 : Int32) (post : Int32 → St → Prop) : MetI l wM yX12_takes cX12_takes 2 (some .boolean) ({ frames := 1, cells := 0, slots := 0, locals := 20 }) [.ref (ad G 100), .int x1] G z0 sz (S_M_takes post x1 z0) post := by
  refine Met.ofW (cc := cX12_takes) (maxL := 2) (ret := (some .boolean)) (by decide) rfl ?_
  intro p e s m args below meth c s₁ B hml hv
  obtain ⟨rfl, hsz, hP, hD0, hE, hB⟩ := hv
  have S : CallFix p m c cX12_takes 2 s _ GW RX12 := ⟨B.exec, B.bytes, hml, findClass_of_methodNamed B.named, fun w h => atoms_spec (ws := Cond.code yX12_takes cX12_takes 2 (some .boolean) :: GW) B.pre w (List.mem_cons_of_mem _ h)⟩
  have hlocks := B.notSynchronized
  subst hsz
  have hD := hD0.self (sz := s.heap.size)
  generalize hAe : va_A (wM G z0) s.heap.size = A at hD hE ⊢
  have hA : ∀ q : Nat, s.heap.size ≤ q → A q := fun q h => by rw [← hAe]; exact Or.inr h
  have hS : va_S A s.heap s.heap [] := va_S.rf
  have hl := lv_entry ([.ref (ad G 100), .int x1]) (n := 2) (Nat.le_of_ble_eq_true rfl)
  rw [lg_entry_eq]
  generalize (lg_sl ([.ref (ad G 100), .int x1]) ++ List.replicate (2 - (lg_sl ([.ref (ad G 100), .int x1])).length) Slot.unset).toArray = ls at hl ⊢
  have hl : lv_has ls 2 [(0, .ref (ad G 100)), (1, .int x1)] := hl
  refine w_M_takes_0 S hE hA (Nat.le_refl _) (Nat.le_refl _) ?_ x1 z0 hB _ _ _ hP hD hS hl
  intro pc ls r σ H locs hd hp hP hD hS
  exact W.zret (v := r) B.exec B.bytes B.returns (xboolc r hp.1) (fun t ht hW => ⟨⟨r, σ, rfl, hp.2, by rw [ht]; exact hP, hD⟩, hS.F ht⟩) hS.2.2 hd
def S_M_goesIn (post : Int32 → St → Prop) (z0 : St) : Prop :=
  (((gI z0 107) = (6 : Int32) → (S_M_fails (fun (r2 : Int32) (z3 : St) => ((r2 = 0 ∨ r2 = 1) ∧ post r2 z3)) z0)) ∧ (¬ (gI z0 107) = (6 : Int32) → (∀ z1 : St, z1 = sI z0 107 ((gI z0 107) + (1 : Int32)) → (∀ z2 : St, z2 = sI z1 105 ((gI z1 105) + (1 : Int32)) → (post (1 : Int32) z2)))))
set_option maxHeartbeats 4000000 in
set_option maxRecDepth 100000 in
theorem w_M_goesIn_0 {p : Program} {l : Launch} {e : Env} {R : Room} {s : State} {m : MethodId} {args : Array Value} {below : List Frame} {meth : Method} {c : Code} {Q : State → Prop} {G : GX} {A : Nat → Prop} (S : CallFix p m c cX12_goesIn 1 s args GW RX12) (hE : env G A s s.heap) (hA : ∀ q, s.heap.size ≤ q → A q) (hRf : 1 ≤ R.frames) (hRl : 20 ≤ R.locals) {post : Int32 → St → Prop} (hret : RetZ p l e R s m args below meth c Q 0 0 wM G A cX12_goesIn post) (z0 : St) (hB : S_M_goesIn post z0) : Xw p l e R s m args below meth c Q 0 0 wM G A z0 1 [(0, .ref (ad G 100))] 0 [] := by
  intro H locs ls hP hD hS hl
  have hx := S.1
  have hb := S.2.1
  refine lv_aload_n hx hb dX12_goesIn_0 rfl (lv_at hl 0 rfl) ?_
  refine xMg_100_deep S hE hP lk_X12_124 dX12_goesIn_1 ?_
  refine lv_bipush (v := 6) hx hb dX12_goesIn_4 (by decide) ?_
  refine lv_icmp_ne (tgt := 14) hx hb dX12_goesIn_6 (by decide) (fun c1 => ?_) (fun c1 => ?_)
  · have hB := hB.2 c1
    refine lv_aload_n hx hb dX12_goesIn_14 rfl (lv_at hl 0 rfl) ?_
    refine lv_dup hx hb dX12_goesIn_15 rfl ?_
    refine xMg_100_deep S hE hP lk_X12_124 dX12_goesIn_16 ?_
    refine lv_iconst (v := 1) hx hb dX12_goesIn_19 (by decide) ?_
    refine lv_iadd hx hb dX12_goesIn_20 ?_
    obtain ⟨z1, ez1⟩ : ∃ z9, z9 = sI z0 107 ((gI z0 107) + (1 : Int32)) := ⟨_, rfl⟩
    have hB := hB z1 ez1
    refine xMp_100_deep S hE hP hD hS lk_X12_124 dX12_goesIn_21 (fun H locs hP hD hS => ?_)
    rw [← ez1] at hP hD
    refine lv_aload_n hx hb dX12_goesIn_24 rfl (lv_at hl 0 rfl) ?_
    refine lv_dup hx hb dX12_goesIn_25 rfl ?_
    refine xMg_100_at S hE hP lk_X12_112 dX12_goesIn_26 ?_
    refine lv_iconst (v := 1) hx hb dX12_goesIn_29 (by decide) ?_
    refine lv_iadd hx hb dX12_goesIn_30 ?_
    obtain ⟨z2, ez2⟩ : ∃ z9, z9 = sI z1 105 ((gI z1 105) + (1 : Int32)) := ⟨_, rfl⟩
    have hB := hB z2 ez2
    refine xMp_100_at S hE hP hD hS lk_X12_112 dX12_goesIn_31 (fun H locs hP hD hS => ?_)
    rw [← ez2] at hP hD
    refine lv_iconst (v := 1) hx hb dX12_goesIn_34 (by decide) ?_
    exact hret _ _ _ _ _ _ dX12_goesIn_35 ⟨by decide, hB⟩ hP hD hS
  · have hB := hB.1 c1
    refine lv_aload_n hx hb dX12_goesIn_9 rfl (lv_at hl 0 rfl) ?_
    refine xcVi [] S hE hA hP hD hS (c_M_fails l G z0 H.size _) hB (gw_c lk_X12_127 (gw_c wi_X12_fails (gw_c we_X12_X12_fails_X12_fails (gw_c wn_X12 (gw_c wc_X12_fails (fun _ h9 => h9)))))) hd_X12_fails rfl rfl (Nat.le_trans (Nat.le_of_ble_eq_true rfl) hRf) (Nat.le_trans (Nat.le_of_ble_eq_true rfl) hRl) ⟨Nat.zero_le _, Nat.zero_le _⟩ (va_recv hE.1 hP (ci := 11) (q0 := 0) rfl rfl) rfl hl.1 rfl (Nat.le_of_ble_eq_true rfl) dX12_goesIn_10 (fun r2 z3 H locs hB hP hD hS => ?_)
    exact hret _ _ _ _ _ _ dX12_goesIn_13 hB hP hD hS
set_option maxHeartbeats 4000000 in
set_option maxRecDepth 100000 in
theorem c_M_goesIn (l : Launch) (G : GX) (z0 : St) (sz : Nat) (post : Int32 → St → Prop) : MetI l wM yX12_goesIn cX12_goesIn 1 (some .boolean) ({ frames := 1, cells := 0, slots := 0, locals := 20 }) [.ref (ad G 100)] G z0 sz (S_M_goesIn post z0) post := by
  refine Met.ofW (cc := cX12_goesIn) (maxL := 1) (ret := (some .boolean)) (by decide) rfl ?_
  intro p e s m args below meth c s₁ B hml hv
  obtain ⟨rfl, hsz, hP, hD0, hE, hB⟩ := hv
  have S : CallFix p m c cX12_goesIn 1 s _ GW RX12 := ⟨B.exec, B.bytes, hml, findClass_of_methodNamed B.named, fun w h => atoms_spec (ws := Cond.code yX12_goesIn cX12_goesIn 1 (some .boolean) :: GW) B.pre w (List.mem_cons_of_mem _ h)⟩
  have hlocks := B.notSynchronized
  subst hsz
  have hD := hD0.self (sz := s.heap.size)
  generalize hAe : va_A (wM G z0) s.heap.size = A at hD hE ⊢
  have hA : ∀ q : Nat, s.heap.size ≤ q → A q := fun q h => by rw [← hAe]; exact Or.inr h
  have hS : va_S A s.heap s.heap [] := va_S.rf
  have hl := lv_entry ([.ref (ad G 100)]) (n := 1) (Nat.le_of_ble_eq_true rfl)
  rw [lg_entry_eq]
  generalize (lg_sl ([.ref (ad G 100)]) ++ List.replicate (1 - (lg_sl ([.ref (ad G 100)])).length) Slot.unset).toArray = ls at hl ⊢
  have hl : lv_has ls 1 [(0, .ref (ad G 100))] := hl
  refine w_M_goesIn_0 S hE hA (Nat.le_refl _) (Nat.le_refl _) ?_  z0 hB _ _ _ hP hD hS hl
  intro pc ls r σ H locs hd hp hP hD hS
  exact W.zret (v := r) B.exec B.bytes B.returns (xboolc r hp.1) (fun t ht hW => ⟨⟨r, σ, rfl, hp.2, by rw [ht]; exact hP, hD⟩, hS.F ht⟩) hS.2.2 hd
def B_M_atom_90 (rq : (Int32 → St → Prop) → St → Prop) (post : Int32 → St → Prop) (ih90 : Int32 → Int32 → St → Prop) (x2 : Int32) (x3 : Int32) (z0 : St) : Prop :=
  (S_M_isDigit (fun (r1 : Int32) (z1 : St) => ((r1 = 0 → (post x2 z1)) ∧ (¬ r1 = 0 → (((gI z1 106) = (-1 : Int32) → ((x3 = (4 : Int32) → (S_M_fails (fun (r7 : Int32) (z3 : St) => (post (0 : Int32) z3)) z1)) ∧ (¬ x3 = (4 : Int32) → (txIn z1 ((gI z1 103) + (gI z1 105)) ∧ (∀ v5 : Int32, v5 = ((((10 : Int32) * x2) + (gA z1 (gT z1 1) ((gI z1 103) + (gI z1 105)).toNatClampNeg)) - (48 : Int32)) → (∀ z2 : St, z2 = sI z1 105 ((gI z1 105) + (1 : Int32)) → (∀ v6 : Int32, v6 = x3 + (1 : Int32) → (ih90 v5 v6 z2)))))))) ∧ (¬ (gI z1 106) = (-1 : Int32) → (post x2 z1)))))) z0)
set_option maxHeartbeats 4000000 in
set_option maxRecDepth 100000 in
theorem w_M_atom_90 {p : Program} {l : Launch} {e : Env} {R : Room} {s : State} {m : MethodId} {args : Array Value} {below : List Frame} {meth : Method} {c : Code} {Q : State → Prop} {G : GX} {A : Nat → Prop} {rq : (Int32 → St → Prop) → St → Prop} {frec lrec : Nat} (S : CallFix p m c cX12_atom 4 s args GW RX12) (hE : env G A s s.heap) (hA : ∀ q, s.heap.size ≤ q → A q) (hRf : frec + 1 ≤ R.frames) (hRl : lrec + 40 ≤ R.locals) (hq : ∀ (G : GX) (z0 : St) (sz : Nat) (post : Int32 → St → Prop), MetI l wM yX12_sum cX12_sum 5 (some .int) { frames := frec, cells := 0, slots := 0, locals := lrec } [.ref (ad G 100)] G z0 sz (rq post  z0) post) (hfb : 5 ≤ frec ∧ 107 ≤ lrec) {post : Int32 → St → Prop} (hret : RetI p l e R s m args below meth c Q 0 0 wM G A cX12_atom post) {ih90 : Int32 → Int32 → St → Prop} (h90 : ∀ (x2 : Int32) (x3 : Int32) (z0 : St), ih90 x2 x3 z0 → Xw p l e R s m args below meth c Q 0 0 wM G A z0 4 [(0, .ref (ad G 100)), (2, .int x2), (3, .int x3)] 90 []) (x2 : Int32) (x3 : Int32) (z0 : St) (hB : B_M_atom_90 rq post ih90 x2 x3 z0) : Xw p l e R s m args below meth c Q 0 0 wM G A z0 4 [(0, .ref (ad G 100)), (2, .int x2), (3, .int x3)] 90 [] := by
  intro H locs ls hP hD hS hl
  have hx := S.1
  have hb := S.2.1
  refine lv_aload_n hx hb dX12_atom_90 rfl (lv_at hl 0 rfl) ?_
  refine xcVi [] S hE hA hP hD hS (c_M_isDigit l G z0 H.size _) hB (gw_c lk_X12_161 (gw_c wi_X12_isDigit (gw_c we_X12_X12_isDigit_X12_isDigit (gw_c wn_X12 (gw_c wc_X12_isDigit (fun _ h9 => h9)))))) hd_X12_isDigit rfl rfl (Nat.le_trans (show 0 + 1 ≤ frec + 1 by omega) hRf) (Nat.le_trans (show 8 + (1 + 11) + (0) ≤ lrec + 40 by omega) hRl) ⟨Nat.zero_le _, Nat.zero_le _⟩ (va_recv hE.1 hP (ci := 11) (q0 := 0) rfl rfl) rfl hl.1 rfl (Nat.le_of_ble_eq_true rfl) dX12_atom_91 (fun r1 z1 H locs hB hP hD hS => ?_)
  refine lv_if_eq (tgt := 156) hx hb dX12_atom_94 (by decide) (fun c2 => ?_) (fun c2 => ?_)
  · have hB := hB.1 c2
    refine lv_iload_n hx hb dX12_atom_156 rfl (lv_at hl 1 rfl) ?_
    exact hret _ _ _ _ _ _ dX12_atom_157 hB hP hD hS
  · have hB := hB.2 c2
    refine lv_aload_n hx hb dX12_atom_97 rfl (lv_at hl 0 rfl) ?_
    refine xMg_100_fault S hE hP lk_X12_121 dX12_atom_98 ?_
    refine lv_iconst (v := -1) hx hb dX12_atom_101 (by decide) ?_
    refine lv_icmp_ne (tgt := 156) hx hb dX12_atom_102 (by decide) (fun c3 => ?_) (fun c3 => ?_)
    · have hB := hB.2 c3
      refine lv_iload_n hx hb dX12_atom_156 rfl (lv_at hl 1 rfl) ?_
      exact hret _ _ _ _ _ _ dX12_atom_157 hB hP hD hS
    · have hB := hB.1 c3
      refine lv_iload_n hx hb dX12_atom_105 rfl (lv_at hl 2 rfl) ?_
      refine lv_iconst (v := 4) hx hb dX12_atom_106 (by decide) ?_
      refine lv_icmp_ne (tgt := 117) hx hb dX12_atom_107 (by decide) (fun c4 => ?_) (fun c4 => ?_)
      · have hB := hB.2 c4
        refine lv_bipush (v := 10) hx hb dX12_atom_117 (by decide) ?_
        refine lv_iload_n hx hb dX12_atom_119 rfl (lv_at hl 1 rfl) ?_
        refine lv_imul hx hb dX12_atom_120 ?_
        refine lv_aload_n hx hb dX12_atom_121 rfl (lv_at hl 0 rfl) ?_
        refine xMg_100_text S hE hP lk_X12_23 dX12_atom_122 ?_
        refine lv_aload_n hx hb dX12_atom_125 rfl (lv_at hl 0 rfl) ?_
        refine xMg_100_begins S hE hP lk_X12_118 dX12_atom_126 ?_
        refine lv_aload_n hx hb dX12_atom_129 rfl (lv_at hl 0 rfl) ?_
        refine xMg_100_at S hE hP lk_X12_112 dX12_atom_130 ?_
        refine lv_iadd hx hb dX12_atom_133 ?_
        obtain ⟨hi, hB⟩ := hB
        refine xMt S hE hP hi dX12_atom_134 ?_
        refine lv_iadd hx hb dX12_atom_135 ?_
        refine lv_bipush (v := 48) hx hb dX12_atom_136 (by decide) ?_
        refine lv_isub hx hb dX12_atom_138 ?_
        refine lv_topi (fun v5 ev5 => ?_)
        have hB := hB v5 ev5
        refine lv_istore_n (lv' := [(2, .int v5), (0, .ref (ad G 100)), (3, .int x3)]) hx hb dX12_atom_139 rfl hl (by decide) rfl (fun ls hl => ?_)
        refine lv_aload_n hx hb dX12_atom_140 rfl (lv_at hl 1 rfl) ?_
        refine lv_dup hx hb dX12_atom_141 rfl ?_
        refine xMg_100_at S hE hP lk_X12_112 dX12_atom_142 ?_
        refine lv_iconst (v := 1) hx hb dX12_atom_145 (by decide) ?_
        refine lv_iadd hx hb dX12_atom_146 ?_
        obtain ⟨z2, ez2⟩ : ∃ z9, z9 = sI z1 105 ((gI z1 105) + (1 : Int32)) := ⟨_, rfl⟩
        have hB := hB z2 ez2
        refine xMp_100_at S hE hP hD hS lk_X12_112 dX12_atom_147 (fun H locs hP hD hS => ?_)
        rw [← ez2] at hP hD
        obtain ⟨v6, ev6⟩ : ∃ y9, y9 = x3 + (1 : Int32) := ⟨_, rfl⟩
        have hB := hB v6 ev6
        refine lv_iinc (v := v6) (lv' := [(3, .int v6), (2, .int v5), (0, .ref (ad G 100))]) hx hb dX12_atom_150 hl (k := 2) rfl (by rw [ev6]; rfl) (by decide) rfl (fun ls hl => ?_)
        refine lv_goto (tgt := 90) hx hb dX12_atom_153 (by decide) ?_
        exact h90 v5 v6 z2 hB _ _ _ hP hD hS (lv_sub hl [2, 1, 0] rfl)
      · have hB := hB.1 c4
        refine lv_aload_n hx hb dX12_atom_110 rfl (lv_at hl 0 rfl) ?_
        refine xcVi [] S hE hA hP hD hS (c_M_fails l G z1 H.size _) hB (gw_c lk_X12_127 (gw_c wi_X12_fails (gw_c we_X12_X12_fails_X12_fails (gw_c wn_X12 (gw_c wc_X12_fails (fun _ h9 => h9)))))) hd_X12_fails rfl rfl (Nat.le_trans (show 0 + 1 ≤ frec + 1 by omega) hRf) (Nat.le_trans (show 8 + (1 + 11) + (0) ≤ lrec + 40 by omega) hRl) ⟨Nat.zero_le _, Nat.zero_le _⟩ (va_recv hE.1 hP (ci := 11) (q0 := 0) rfl rfl) rfl hl.1 rfl (Nat.le_of_ble_eq_true rfl) dX12_atom_111 (fun r7 z3 H locs hB hP hD hS => ?_)
        refine lv_pop hx hb dX12_atom_114 rfl ?_
        refine lv_iconst (v := 0) hx hb dX12_atom_115 (by decide) ?_
        exact hret _ _ _ _ _ _ dX12_atom_116 hB hP hD hS
def L_M_atom_90 (rq : (Int32 → St → Prop) → St → Prop) (post : Int32 → St → Prop) : Nat → Int32 → Int32 → St → Prop
  | 0 => fun _ _ _ => False
  | n + 1 => B_M_atom_90 rq post (L_M_atom_90 rq post n)
theorem wl_M_atom_90 {p : Program} {l : Launch} {e : Env} {R : Room} {s : State} {m : MethodId} {args : Array Value} {below : List Frame} {meth : Method} {c : Code} {Q : State → Prop} {G : GX} {A : Nat → Prop} {rq : (Int32 → St → Prop) → St → Prop} {frec lrec : Nat} (S : CallFix p m c cX12_atom 4 s args GW RX12) (hE : env G A s s.heap) (hA : ∀ q, s.heap.size ≤ q → A q) (hRf : frec + 1 ≤ R.frames) (hRl : lrec + 40 ≤ R.locals) (hq : ∀ (G : GX) (z0 : St) (sz : Nat) (post : Int32 → St → Prop), MetI l wM yX12_sum cX12_sum 5 (some .int) { frames := frec, cells := 0, slots := 0, locals := lrec } [.ref (ad G 100)] G z0 sz (rq post  z0) post) (hfb : 5 ≤ frec ∧ 107 ≤ lrec) {post : Int32 → St → Prop} (hret : RetI p l e R s m args below meth c Q 0 0 wM G A cX12_atom post) : ∀ (n : Nat) (x2 : Int32) (x3 : Int32) (z0 : St), L_M_atom_90 rq post n x2 x3 z0 → Xw p l e R s m args below meth c Q 0 0 wM G A z0 4 [(0, .ref (ad G 100)), (2, .int x2), (3, .int x3)] 90 [] := by
  intro n
  induction n with
  | zero => intro x2 x3 z0 hB; exact absurd hB id
  | succ n ih => exact fun x2 x3 z0 hB => w_M_atom_90 S hE hA hRf hRl hq hfb hret ih x2 x3 z0 hB
def B_M_atom_86 (rq : (Int32 → St → Prop) → St → Prop) (post : Int32 → St → Prop) (z0 : St) : Prop :=
  (∃ n1, L_M_atom_90 rq post n1 (0 : Int32) (0 : Int32) z0)
set_option maxHeartbeats 4000000 in
set_option maxRecDepth 100000 in
theorem w_M_atom_86 {p : Program} {l : Launch} {e : Env} {R : Room} {s : State} {m : MethodId} {args : Array Value} {below : List Frame} {meth : Method} {c : Code} {Q : State → Prop} {G : GX} {A : Nat → Prop} {rq : (Int32 → St → Prop) → St → Prop} {frec lrec : Nat} (S : CallFix p m c cX12_atom 4 s args GW RX12) (hE : env G A s s.heap) (hA : ∀ q, s.heap.size ≤ q → A q) (hRf : frec + 1 ≤ R.frames) (hRl : lrec + 40 ≤ R.locals) (hq : ∀ (G : GX) (z0 : St) (sz : Nat) (post : Int32 → St → Prop), MetI l wM yX12_sum cX12_sum 5 (some .int) { frames := frec, cells := 0, slots := 0, locals := lrec } [.ref (ad G 100)] G z0 sz (rq post  z0) post) (hfb : 5 ≤ frec ∧ 107 ≤ lrec) {post : Int32 → St → Prop} (hret : RetI p l e R s m args below meth c Q 0 0 wM G A cX12_atom post) (z0 : St) (hB : B_M_atom_86 rq post z0) : Xw p l e R s m args below meth c Q 0 0 wM G A z0 4 [(0, .ref (ad G 100))] 86 [] := by
  intro H locs ls hP hD hS hl
  have hx := S.1
  have hb := S.2.1
  refine lv_iconst (v := 0) hx hb dX12_atom_86 (by decide) ?_
  refine lv_istore_n (lv' := [(2, .int (0 : Int32)), (0, .ref (ad G 100))]) hx hb dX12_atom_87 rfl hl (by decide) rfl (fun ls hl => ?_)
  refine lv_iconst (v := 0) hx hb dX12_atom_88 (by decide) ?_
  refine lv_istore_n (lv' := [(3, .int (0 : Int32)), (2, .int (0 : Int32)), (0, .ref (ad G 100))]) hx hb dX12_atom_89 rfl hl (by decide) rfl (fun ls hl => ?_)
  obtain ⟨n1, hB⟩ := hB
  exact wl_M_atom_90 S hE hA hRf hRl hq hfb hret n1 (0 : Int32) (0 : Int32) z0 hB _ _ _ hP hD hS (lv_sub hl [2, 1, 0] rfl)
def S_M_atom (rq : (Int32 → St → Prop) → St → Prop) (post : Int32 → St → Prop) (z0 : St) : Prop :=
  (S_M_look (fun (r1 : Int32) (z1 : St) => (S_M_isAmong (fun (r2 : Int32) (z2 : St) => ((r2 = 0 → ((r1 = (91 : Int32) → (S_M_goesIn (fun (r8 : Int32) (z5 : St) => ((r8 = 0 → (post (0 : Int32) z5)) ∧ (¬ r8 = 0 → (rq (fun (r10 : Int32) (z6 : St) => (S_M_takes (fun (r11 : Int32) (z7 : St) => ((r11 = 0 → (post (0 : Int32) z7)) ∧ (¬ r11 = 0 → (∀ z8 : St, z8 = sI z7 107 ((gI z7 107) - (1 : Int32)) → (post r10 z8))))) (93 : Int32) z6)) z5)))) z2)) ∧ (¬ r1 = (91 : Int32) → (S_M_isDigit (fun (r5 : Int32) (z3 : St) => ((r5 = 0 → (S_M_fails (fun (r7 : Int32) (z4 : St) => (B_M_atom_86 rq post z4)) z3)) ∧ (¬ r5 = 0 → (B_M_atom_86 rq post z3)))) z2)))) ∧ (¬ r2 = 0 → (∀ z9 : St, z9 = sI z2 105 ((gI z2 105) + (1 : Int32)) → (vp_in r1 128 ∧ (post (gA z9 104 r1.toNatClampNeg) z9)))))) 1 r1 z1)) z0)
set_option maxHeartbeats 4000000 in
set_option maxRecDepth 100000 in
theorem w_M_atom_0 {p : Program} {l : Launch} {e : Env} {R : Room} {s : State} {m : MethodId} {args : Array Value} {below : List Frame} {meth : Method} {c : Code} {Q : State → Prop} {G : GX} {A : Nat → Prop} {rq : (Int32 → St → Prop) → St → Prop} {frec lrec : Nat} (S : CallFix p m c cX12_atom 4 s args GW RX12) (hE : env G A s s.heap) (hA : ∀ q, s.heap.size ≤ q → A q) (hRf : frec + 1 ≤ R.frames) (hRl : lrec + 40 ≤ R.locals) (hq : ∀ (G : GX) (z0 : St) (sz : Nat) (post : Int32 → St → Prop), MetI l wM yX12_sum cX12_sum 5 (some .int) { frames := frec, cells := 0, slots := 0, locals := lrec } [.ref (ad G 100)] G z0 sz (rq post  z0) post) (hfb : 5 ≤ frec ∧ 107 ≤ lrec) {post : Int32 → St → Prop} (hret : RetI p l e R s m args below meth c Q 0 0 wM G A cX12_atom post) (z0 : St) (hB : S_M_atom rq post z0) : Xw p l e R s m args below meth c Q 0 0 wM G A z0 4 [(0, .ref (ad G 100))] 0 [] := by
  intro H locs ls hP hD hS hl
  have hx := S.1
  have hb := S.2.1
  refine lv_aload_n hx hb dX12_atom_0 rfl (lv_at hl 0 rfl) ?_
  refine xcVi [] S hE hA hP hD hS (c_M_look l G z0 H.size _) hB (gw_c lk_X12_131 (gw_c wi_X12_look (gw_c we_X12_X12_look_X12_look (gw_c wn_X12 (gw_c wc_X12_look (fun _ h9 => h9)))))) hd_X12_look rfl rfl (Nat.le_trans (show 0 + 1 ≤ frec + 1 by omega) hRf) (Nat.le_trans (show 8 + (1 + 11) + (0) ≤ lrec + 40 by omega) hRl) ⟨Nat.zero_le _, Nat.zero_le _⟩ (va_recv hE.1 hP (ci := 11) (q0 := 0) rfl rfl) rfl hl.1 rfl (Nat.le_of_ble_eq_true rfl) dX12_atom_1 (fun r1 z1 H locs hB hP hD hS => ?_)
  refine lv_istore_n (lv' := [(1, .int r1), (0, .ref (ad G 100))]) hx hb dX12_atom_4 rfl hl (by decide) rfl (fun ls hl => ?_)
  refine va_ldcS hx hb S.2.2.2.1 (es_X12_32 hE.2) dX12_atom_5 ?_
  refine lv_iload_n hx hb dX12_atom_7 rfl (lv_at hl 0 rfl) ?_
  refine xcSi [.ref (tx G 1), .int r1] S hE hA hP hD hS (c_M_isAmong l G z1 H.size 1 r1 _) hB (gw_c lk_X12_147 (gw_c wt_X12_isAmong (gw_c wn_X12 (gw_c wc_X12_isAmong (fun _ h9 => h9))))) hs_X12_isAmong rfl rfl (Nat.le_trans (show 4 + 1 ≤ frec + 1 by omega) hRf) (Nat.le_trans (show 8 + (3 + 11) + (85) ≤ lrec + 40 by omega) hRl) ⟨Nat.zero_le _, Nat.zero_le _⟩ rfl hl.1 rfl (Nat.le_of_ble_eq_true rfl) dX12_atom_8 (fun r2 z2 H locs hB hP hD hS => ?_)
  refine lv_if_eq (tgt := 31) hx hb dX12_atom_11 (by decide) (fun c3 => ?_) (fun c3 => ?_)
  · have hB := hB.1 c3
    refine lv_iload_n hx hb dX12_atom_31 rfl (lv_at hl 0 rfl) ?_
    refine lv_bipush (v := 91) hx hb dX12_atom_32 (by decide) ?_
    refine lv_icmp_ne (tgt := 74) hx hb dX12_atom_34 (by decide) (fun c4 => ?_) (fun c4 => ?_)
    · have hB := hB.2 c4
      refine lv_aload_n hx hb dX12_atom_74 rfl (lv_at hl 1 rfl) ?_
      refine xcVi [] S hE hA hP hD hS (c_M_isDigit l G z2 H.size _) hB (gw_c lk_X12_161 (gw_c wi_X12_isDigit (gw_c we_X12_X12_isDigit_X12_isDigit (gw_c wn_X12 (gw_c wc_X12_isDigit (fun _ h9 => h9)))))) hd_X12_isDigit rfl rfl (Nat.le_trans (show 0 + 1 ≤ frec + 1 by omega) hRf) (Nat.le_trans (show 8 + (1 + 11) + (0) ≤ lrec + 40 by omega) hRl) ⟨Nat.zero_le _, Nat.zero_le _⟩ (va_recv hE.1 hP (ci := 11) (q0 := 0) rfl rfl) rfl hl.1 rfl (Nat.le_of_ble_eq_true rfl) dX12_atom_75 (fun r5 z3 H locs hB hP hD hS => ?_)
      refine lv_if_ne (tgt := 86) hx hb dX12_atom_78 (by decide) (fun c6 => ?_) (fun c6 => ?_)
      · have hB := hB.2 c6
        exact w_M_atom_86 S hE hA hRf hRl hq hfb hret z3 hB _ _ _ hP hD hS (lv_sub hl [1] rfl)
      · have hB := hB.1 c6
        refine lv_aload_n hx hb dX12_atom_81 rfl (lv_at hl 1 rfl) ?_
        refine xcVi [] S hE hA hP hD hS (c_M_fails l G z3 H.size _) hB (gw_c lk_X12_127 (gw_c wi_X12_fails (gw_c we_X12_X12_fails_X12_fails (gw_c wn_X12 (gw_c wc_X12_fails (fun _ h9 => h9)))))) hd_X12_fails rfl rfl (Nat.le_trans (show 0 + 1 ≤ frec + 1 by omega) hRf) (Nat.le_trans (show 8 + (1 + 11) + (0) ≤ lrec + 40 by omega) hRl) ⟨Nat.zero_le _, Nat.zero_le _⟩ (va_recv hE.1 hP (ci := 11) (q0 := 0) rfl rfl) rfl hl.1 rfl (Nat.le_of_ble_eq_true rfl) dX12_atom_82 (fun r7 z4 H locs hB hP hD hS => ?_)
        refine lv_pop hx hb dX12_atom_85 rfl ?_
        exact w_M_atom_86 S hE hA hRf hRl hq hfb hret z4 hB _ _ _ hP hD hS (lv_sub hl [1] rfl)
    · have hB := hB.1 c4
      refine lv_aload_n hx hb dX12_atom_37 rfl (lv_at hl 1 rfl) ?_
      refine xcVi [] S hE hA hP hD hS (c_M_goesIn l G z2 H.size _) hB (gw_c lk_X12_151 (gw_c wi_X12_goesIn (gw_c we_X12_X12_goesIn_X12_goesIn (gw_c wn_X12 (gw_c wc_X12_goesIn (fun _ h9 => h9)))))) hd_X12_goesIn rfl rfl (Nat.le_trans (show 1 + 1 ≤ frec + 1 by omega) hRf) (Nat.le_trans (show 8 + (1 + 11) + (20) ≤ lrec + 40 by omega) hRl) ⟨Nat.zero_le _, Nat.zero_le _⟩ (va_recv hE.1 hP (ci := 11) (q0 := 0) rfl rfl) rfl hl.1 rfl (Nat.le_of_ble_eq_true rfl) dX12_atom_38 (fun r8 z5 H locs hB hP hD hS => ?_)
      refine lv_if_ne (tgt := 46) hx hb dX12_atom_41 (by decide) (fun c9 => ?_) (fun c9 => ?_)
      · have hB := hB.2 c9
        refine lv_aload_n hx hb dX12_atom_46 rfl (lv_at hl 1 rfl) ?_
        refine xcVi [] S hE hA hP hD hS (hq G z5 H.size _) hB (gw_c lk_X12_154 (gw_c wi_X12_sum (gw_c we_X12_X12_sum_X12_sum (gw_c wn_X12 (gw_c wc_X12_sum (fun _ h9 => h9)))))) hd_X12_sum rfl rfl (Nat.le_trans (show frec + 1 ≤ frec + 1 by omega) hRf) (Nat.le_trans (show 8 + (5 + 11) + (lrec) ≤ lrec + 40 by omega) hRl) ⟨Nat.zero_le _, Nat.zero_le _⟩ (va_recv hE.1 hP (ci := 11) (q0 := 0) rfl rfl) rfl hl.1 rfl (Nat.le_of_ble_eq_true rfl) dX12_atom_47 (fun r10 z6 H locs hB hP hD hS => ?_)
        refine lv_istore_n (lv' := [(2, .int r10), (1, .int r1), (0, .ref (ad G 100))]) hx hb dX12_atom_50 rfl hl (by decide) rfl (fun ls hl => ?_)
        refine lv_aload_n hx hb dX12_atom_51 rfl (lv_at hl 2 rfl) ?_
        refine lv_bipush (v := 93) hx hb dX12_atom_52 (by decide) ?_
        refine xcVi [.int (93 : Int32)] S hE hA hP hD hS (c_M_takes l G z6 H.size (93 : Int32) _) hB (gw_c lk_X12_157 (gw_c wi_X12_takes (gw_c we_X12_X12_takes_X12_takes (gw_c wn_X12 (gw_c wc_X12_takes (fun _ h9 => h9)))))) hd_X12_takes rfl rfl (Nat.le_trans (show 1 + 1 ≤ frec + 1 by omega) hRf) (Nat.le_trans (show 8 + (2 + 11) + (20) ≤ lrec + 40 by omega) hRl) ⟨Nat.zero_le _, Nat.zero_le _⟩ (va_recv hE.1 hP (ci := 11) (q0 := 0) rfl rfl) rfl hl.1 rfl (Nat.le_of_ble_eq_true rfl) dX12_atom_54 (fun r11 z7 H locs hB hP hD hS => ?_)
        refine lv_if_ne (tgt := 62) hx hb dX12_atom_57 (by decide) (fun c12 => ?_) (fun c12 => ?_)
        · have hB := hB.2 c12
          refine lv_aload_n hx hb dX12_atom_62 rfl (lv_at hl 2 rfl) ?_
          refine lv_dup hx hb dX12_atom_63 rfl ?_
          refine xMg_100_deep S hE hP lk_X12_124 dX12_atom_64 ?_
          refine lv_iconst (v := 1) hx hb dX12_atom_67 (by decide) ?_
          refine lv_isub hx hb dX12_atom_68 ?_
          obtain ⟨z8, ez8⟩ : ∃ z9, z9 = sI z7 107 ((gI z7 107) - (1 : Int32)) := ⟨_, rfl⟩
          have hB := hB z8 ez8
          refine xMp_100_deep S hE hP hD hS lk_X12_124 dX12_atom_69 (fun H locs hP hD hS => ?_)
          rw [← ez8] at hP hD
          refine lv_iload_n hx hb dX12_atom_72 rfl (lv_at hl 0 rfl) ?_
          exact hret _ _ _ _ _ _ dX12_atom_73 hB hP hD hS
        · have hB := hB.1 c12
          refine lv_iconst (v := 0) hx hb dX12_atom_60 (by decide) ?_
          exact hret _ _ _ _ _ _ dX12_atom_61 hB hP hD hS
      · have hB := hB.1 c9
        refine lv_iconst (v := 0) hx hb dX12_atom_44 (by decide) ?_
        exact hret _ _ _ _ _ _ dX12_atom_45 hB hP hD hS
  · have hB := hB.2 c3
    refine lv_aload_n hx hb dX12_atom_14 rfl (lv_at hl 1 rfl) ?_
    refine lv_dup hx hb dX12_atom_15 rfl ?_
    refine xMg_100_at S hE hP lk_X12_112 dX12_atom_16 ?_
    refine lv_iconst (v := 1) hx hb dX12_atom_19 (by decide) ?_
    refine lv_iadd hx hb dX12_atom_20 ?_
    obtain ⟨z9, ez9⟩ : ∃ z9, z9 = sI z2 105 ((gI z2 105) + (1 : Int32)) := ⟨_, rfl⟩
    have hB := hB z9 ez9
    refine xMp_100_at S hE hP hD hS lk_X12_112 dX12_atom_21 (fun H locs hP hD hS => ?_)
    rw [← ez9] at hP hD
    refine lv_aload_n hx hb dX12_atom_24 rfl (lv_at hl 1 rfl) ?_
    refine xMg_100_letters S hE hP lk_X12_20 dX12_atom_25 ?_
    refine lv_iload_n hx hb dX12_atom_28 rfl (lv_at hl 0 rfl) ?_
    obtain ⟨hi, hB⟩ := hB
    refine xMl_104 S hE hP hi dX12_atom_29 ?_
    exact hret _ _ _ _ _ _ dX12_atom_30 hB hP hD hS
set_option maxHeartbeats 4000000 in
set_option maxRecDepth 100000 in
theorem c_M_atom (l : Launch) {rq : (Int32 → St → Prop) → St → Prop} {frec lrec : Nat} (hq : ∀ (G : GX) (z0 : St) (sz : Nat) (post : Int32 → St → Prop), MetI l wM yX12_sum cX12_sum 5 (some .int) { frames := frec, cells := 0, slots := 0, locals := lrec } [.ref (ad G 100)] G z0 sz (rq post  z0) post) (hfb : 5 ≤ frec ∧ 107 ≤ lrec) (G : GX) (z0 : St) (sz : Nat) (post : Int32 → St → Prop) : MetI l wM yX12_atom cX12_atom 4 (some .int) ({ frames := frec + 1, cells := 0, slots := 0, locals := lrec + 40 }) [.ref (ad G 100)] G z0 sz (S_M_atom rq post z0) post := by
  refine Met.ofW (cc := cX12_atom) (maxL := 4) (ret := (some .int)) (by decide) rfl ?_
  intro p e s m args below meth c s₁ B hml hv
  obtain ⟨rfl, hsz, hP, hD0, hE, hB⟩ := hv
  have S : CallFix p m c cX12_atom 4 s _ GW RX12 := ⟨B.exec, B.bytes, hml, findClass_of_methodNamed B.named, fun w h => atoms_spec (ws := Cond.code yX12_atom cX12_atom 4 (some .int) :: GW) B.pre w (List.mem_cons_of_mem _ h)⟩
  have hlocks := B.notSynchronized
  subst hsz
  have hD := hD0.self (sz := s.heap.size)
  generalize hAe : va_A (wM G z0) s.heap.size = A at hD hE ⊢
  have hA : ∀ q : Nat, s.heap.size ≤ q → A q := fun q h => by rw [← hAe]; exact Or.inr h
  have hS : va_S A s.heap s.heap [] := va_S.rf
  have hl := lv_entry ([.ref (ad G 100)]) (n := 4) (Nat.le_of_ble_eq_true rfl)
  rw [lg_entry_eq]
  generalize (lg_sl ([.ref (ad G 100)]) ++ List.replicate (4 - (lg_sl ([.ref (ad G 100)])).length) Slot.unset).toArray = ls at hl ⊢
  have hl : lv_has ls 4 [(0, .ref (ad G 100))] := hl
  refine w_M_atom_0 S hE hA (Nat.le_refl _) (Nat.le_refl _) hq hfb ?_  z0 hB _ _ _ hP hD hS hl
  intro pc ls r σ H locs hd hp hP hD hS
  exact W.iret (v := r) B.exec B.bytes B.returns (fun t ht hW => ⟨⟨r, σ, rfl, hp, by rw [ht]; exact hP, hD⟩, hS.F ht⟩) hS.2.2 hd
def S_Math_min_f86c9_M (post : Int64 → St → Prop) (x0 : Int64) (x2 : Int64) (z0 : St) : Prop :=
  ((0 < (lg_cmp x0 x2) → (post x2 z0)) ∧ (¬ 0 < (lg_cmp x0 x2) → (post x0 z0)))
set_option maxHeartbeats 4000000 in
set_option maxRecDepth 100000 in
theorem w_Math_min_f86c9_M_0 {p : Program} {l : Launch} {e : Env} {R : Room} {s : State} {m : MethodId} {args : Array Value} {below : List Frame} {meth : Method} {c : Code} {Q : State → Prop} {G : GX} {A : Nat → Prop} (S : CallFix p m c cJ9_min_f86c9 4 s args GW RJ9) (hE : env G A s s.heap) (hA : ∀ q, s.heap.size ≤ q → A q) (hRf : 0 ≤ R.frames) (hRl : 0 ≤ R.locals) {post : Int64 → St → Prop} (hret : RetL p l e R s m args below meth c Q 0 0 wM G A cJ9_min_f86c9 post) (x0 : Int64) (x2 : Int64) (z0 : St) (hB : S_Math_min_f86c9_M post x0 x2 z0) : Xw p l e R s m args below meth c Q 0 0 wM G A z0 4 [(0, .long x0), (2, .long x2)] 0 [] := by
  intro H locs ls hP hD hS hl
  have hx := S.1
  have hb := S.2.1
  refine lv_lload_n hx hb dJ9_min_f86c9_0 rfl (lv_at hl 0 rfl) ?_
  refine lv_lload_n hx hb dJ9_min_f86c9_1 rfl (lv_at hl 1 rfl) ?_
  refine W.lcmp hx hb dJ9_min_f86c9_2 ?_
  refine lv_if_gt (tgt := 10) hx hb dJ9_min_f86c9_3 (by decide) (fun c1 => ?_) (fun c1 => ?_)
  · have hB := hB.1 c1
    refine lv_lload_n hx hb dJ9_min_f86c9_10 rfl (lv_at hl 1 rfl) ?_
    exact hret _ _ _ _ _ _ dJ9_min_f86c9_11 hB hP hD hS
  · have hB := hB.2 c1
    refine lv_lload_n hx hb dJ9_min_f86c9_6 rfl (lv_at hl 0 rfl) ?_
    refine lv_goto (tgt := 11) hx hb dJ9_min_f86c9_7 (by decide) ?_
    exact hret _ _ _ _ _ _ dJ9_min_f86c9_11 hB hP hD hS
set_option maxHeartbeats 4000000 in
set_option maxRecDepth 100000 in
theorem c_Math_min_f86c9_M (l : Launch) (G : GX) (z0 : St) (sz : Nat) (x0 : Int64) (x2 : Int64) (post : Int64 → St → Prop) : MetL l wM yJ9_min_f86c9 cJ9_min_f86c9 4 (some .long) ({ frames := 0, cells := 0, slots := 0, locals := 0 }) [.long x0, .long x2] G z0 sz (S_Math_min_f86c9_M post x0 x2 z0) post := by
  refine Met.ofWF (cc := cJ9_min_f86c9) (maxL := 4) (ret := (some .long)) (by decide +kernel) rfl ?_
  intro p e s m args below meth c s₁ B hml hv
  obtain ⟨rfl, hsz, hP, hD0, hE, hB⟩ := hv
  have S : CallFix p m c cJ9_min_f86c9 4 s _ GW RJ9 := ⟨B.exec, B.bytes, hml, findClass_of_methodNamed B.named, fun w h => atoms_spec (ws := Cond.code yJ9_min_f86c9 cJ9_min_f86c9 4 (some .long) :: GW) B.pre w (List.mem_cons_of_mem _ h)⟩
  have hlocks := B.notSynchronized
  subst hsz
  have hD := hD0.self (sz := s.heap.size)
  generalize hAe : va_A (wM G z0) s.heap.size = A at hD hE ⊢
  have hA : ∀ q : Nat, s.heap.size ≤ q → A q := fun q h => by rw [← hAe]; exact Or.inr h
  have hS : va_S A s.heap s.heap [] := va_S.rf
  have hl := lv_entry ([.long x0, .long x2]) (n := 4) (Nat.le_of_ble_eq_true rfl)
  rw [lg_entry_eq]
  generalize (lg_sl ([.long x0, .long x2]) ++ List.replicate (4 - (lg_sl ([.long x0, .long x2])).length) Slot.unset).toArray = ls at hl ⊢
  have hl : lv_has ls 4 [(0, .long x0), (2, .long x2)] := hl
  refine w_Math_min_f86c9_M_0 S hE hA (Nat.le_refl _) (Nat.le_refl _) ?_ x0 x2 z0 hB _ _ _ hP hD hS hl
  intro pc ls r σ H locs hd hp hP hD hS
  exact W.lret (v := r) B.exec B.bytes B.returns (fun t ht hW => ⟨⟨r, σ, rfl, hp, by rw [ht]; exact hP, hD⟩, hS.F ht⟩) hS.2.2 hd
def S_Math_max_f86c9_M (post : Int64 → St → Prop) (x0 : Int64) (x2 : Int64) (z0 : St) : Prop :=
  (((lg_cmp x0 x2) < 0 → (post x2 z0)) ∧ (¬ (lg_cmp x0 x2) < 0 → (post x0 z0)))
set_option maxHeartbeats 4000000 in
set_option maxRecDepth 100000 in
theorem w_Math_max_f86c9_M_0 {p : Program} {l : Launch} {e : Env} {R : Room} {s : State} {m : MethodId} {args : Array Value} {below : List Frame} {meth : Method} {c : Code} {Q : State → Prop} {G : GX} {A : Nat → Prop} (S : CallFix p m c cJ9_max_f86c9 4 s args GW RJ9) (hE : env G A s s.heap) (hA : ∀ q, s.heap.size ≤ q → A q) (hRf : 0 ≤ R.frames) (hRl : 0 ≤ R.locals) {post : Int64 → St → Prop} (hret : RetL p l e R s m args below meth c Q 0 0 wM G A cJ9_max_f86c9 post) (x0 : Int64) (x2 : Int64) (z0 : St) (hB : S_Math_max_f86c9_M post x0 x2 z0) : Xw p l e R s m args below meth c Q 0 0 wM G A z0 4 [(0, .long x0), (2, .long x2)] 0 [] := by
  intro H locs ls hP hD hS hl
  have hx := S.1
  have hb := S.2.1
  refine lv_lload_n hx hb dJ9_max_f86c9_0 rfl (lv_at hl 0 rfl) ?_
  refine lv_lload_n hx hb dJ9_max_f86c9_1 rfl (lv_at hl 1 rfl) ?_
  refine W.lcmp hx hb dJ9_max_f86c9_2 ?_
  refine lv_if_lt (tgt := 10) hx hb dJ9_max_f86c9_3 (by decide) (fun c1 => ?_) (fun c1 => ?_)
  · have hB := hB.1 c1
    refine lv_lload_n hx hb dJ9_max_f86c9_10 rfl (lv_at hl 1 rfl) ?_
    exact hret _ _ _ _ _ _ dJ9_max_f86c9_11 hB hP hD hS
  · have hB := hB.2 c1
    refine lv_lload_n hx hb dJ9_max_f86c9_6 rfl (lv_at hl 0 rfl) ?_
    refine lv_goto (tgt := 11) hx hb dJ9_max_f86c9_7 (by decide) ?_
    exact hret _ _ _ _ _ _ dJ9_max_f86c9_11 hB hP hD hS
set_option maxHeartbeats 4000000 in
set_option maxRecDepth 100000 in
theorem c_Math_max_f86c9_M (l : Launch) (G : GX) (z0 : St) (sz : Nat) (x0 : Int64) (x2 : Int64) (post : Int64 → St → Prop) : MetL l wM yJ9_max_f86c9 cJ9_max_f86c9 4 (some .long) ({ frames := 0, cells := 0, slots := 0, locals := 0 }) [.long x0, .long x2] G z0 sz (S_Math_max_f86c9_M post x0 x2 z0) post := by
  refine Met.ofWF (cc := cJ9_max_f86c9) (maxL := 4) (ret := (some .long)) (by decide +kernel) rfl ?_
  intro p e s m args below meth c s₁ B hml hv
  obtain ⟨rfl, hsz, hP, hD0, hE, hB⟩ := hv
  have S : CallFix p m c cJ9_max_f86c9 4 s _ GW RJ9 := ⟨B.exec, B.bytes, hml, findClass_of_methodNamed B.named, fun w h => atoms_spec (ws := Cond.code yJ9_max_f86c9 cJ9_max_f86c9 4 (some .long) :: GW) B.pre w (List.mem_cons_of_mem _ h)⟩
  have hlocks := B.notSynchronized
  subst hsz
  have hD := hD0.self (sz := s.heap.size)
  generalize hAe : va_A (wM G z0) s.heap.size = A at hD hE ⊢
  have hA : ∀ q : Nat, s.heap.size ≤ q → A q := fun q h => by rw [← hAe]; exact Or.inr h
  have hS : va_S A s.heap s.heap [] := va_S.rf
  have hl := lv_entry ([.long x0, .long x2]) (n := 4) (Nat.le_of_ble_eq_true rfl)
  rw [lg_entry_eq]
  generalize (lg_sl ([.long x0, .long x2]) ++ List.replicate (4 - (lg_sl ([.long x0, .long x2])).length) Slot.unset).toArray = ls at hl ⊢
  have hl : lv_has ls 4 [(0, .long x0), (2, .long x2)] := hl
  refine w_Math_max_f86c9_M_0 S hE hA (Nat.le_refl _) (Nat.le_refl _) ?_ x0 x2 z0 hB _ _ _ hP hD hS hl
  intro pc ls r σ H locs hd hp hP hD hS
  exact W.lret (v := r) B.exec B.bytes B.returns (fun t ht hW => ⟨⟨r, σ, rfl, hp, by rw [ht]; exact hP, hD⟩, hS.F ht⟩) hS.2.2 hd
def S_M_within (post : Int32 → St → Prop) (x0 : Int64) (z0 : St) : Prop :=
  (S_Math_min_f86c9_M (fun (r1 : Int64) (z1 : St) => (S_Math_max_f86c9_M (fun (r2 : Int64) (z2 : St) => (post ((r2).toInt32) z2)) (-1000000 : Int64) r1 z1)) (1000000 : Int64) x0 z0)
set_option maxHeartbeats 4000000 in
set_option maxRecDepth 100000 in
theorem w_M_within_0 {p : Program} {l : Launch} {e : Env} {R : Room} {s : State} {m : MethodId} {args : Array Value} {below : List Frame} {meth : Method} {c : Code} {Q : State → Prop} {G : GX} {A : Nat → Prop} (S : CallFix p m c cX12_within 2 s args GW RX12) (hE : env G A s s.heap) (hA : ∀ q, s.heap.size ≤ q → A q) (hRf : 1 ≤ R.frames) (hRl : 23 ≤ R.locals) {post : Int32 → St → Prop} (hret : RetI p l e R s m args below meth c Q 0 0 wM G A cX12_within post) (x0 : Int64) (z0 : St) (hB : S_M_within post x0 z0) : Xw p l e R s m args below meth c Q 0 0 wM G A z0 2 [(0, .long x0)] 0 [] := by
  intro H locs ls hP hD hS hl
  have hx := S.1
  have hb := S.2.1
  refine lv_ldc2 hx hb S.2.2.2.1 (S.2.2.2.2 _ lk_X12_134) dX12_within_0 ?_
  refine lv_ldc2 hx hb S.2.2.2.1 (S.2.2.2.2 _ lk_X12_136) dX12_within_3 ?_
  refine lv_lload_n hx hb dX12_within_6 rfl (lv_at hl 0 rfl) ?_
  refine xcSl [.long (1000000 : Int64), .long x0] S hE hA hP hD hS (c_Math_min_f86c9_M l G z0 H.size (1000000 : Int64) x0 _) hB (gw_c lk_X12_138 (gw_c wt_J9_min_f86c9 (gw_c wn_J9 (gw_c wc_J9_min_f86c9 (fun _ h9 => h9))))) hs_J9_min_f86c9 rfl rfl (Nat.le_trans (Nat.le_of_ble_eq_true rfl) hRf) (Nat.le_trans (Nat.le_of_ble_eq_true rfl) hRl) ⟨Nat.zero_le _, Nat.zero_le _⟩ rfl hl.1 rfl (Nat.le_of_ble_eq_true rfl) dX12_within_7 (fun r1 z1 H locs hB hP hD hS => ?_)
  refine xcSl [.long (-1000000 : Int64), .long r1] S hE hA hP hD hS (c_Math_max_f86c9_M l G z1 H.size (-1000000 : Int64) r1 _) hB (gw_c lk_X12_144 (gw_c wt_J9_max_f86c9 (gw_c wn_J9 (gw_c wc_J9_max_f86c9 (fun _ h9 => h9))))) hs_J9_max_f86c9 rfl rfl (Nat.le_trans (Nat.le_of_ble_eq_true rfl) hRf) (Nat.le_trans (Nat.le_of_ble_eq_true rfl) hRl) ⟨Nat.zero_le _, Nat.zero_le _⟩ rfl hl.1 rfl (Nat.le_of_ble_eq_true rfl) dX12_within_10 (fun r2 z2 H locs hB hP hD hS => ?_)
  refine lv_l2i hx hb dX12_within_13 rfl ?_
  exact hret _ _ _ _ _ _ dX12_within_14 hB hP hD hS
set_option maxHeartbeats 4000000 in
set_option maxRecDepth 100000 in
theorem c_M_within (l : Launch) (G : GX) (z0 : St) (sz : Nat) (x0 : Int64) (post : Int32 → St → Prop) : MetI l wM yX12_within cX12_within 2 (some .int) ({ frames := 1, cells := 0, slots := 0, locals := 23 }) [.long x0] G z0 sz (S_M_within post x0 z0) post := by
  refine Met.ofW (cc := cX12_within) (maxL := 2) (ret := (some .int)) (by decide) rfl ?_
  intro p e s m args below meth c s₁ B hml hv
  obtain ⟨rfl, hsz, hP, hD0, hE, hB⟩ := hv
  have S : CallFix p m c cX12_within 2 s _ GW RX12 := ⟨B.exec, B.bytes, hml, findClass_of_methodNamed B.named, fun w h => atoms_spec (ws := Cond.code yX12_within cX12_within 2 (some .int) :: GW) B.pre w (List.mem_cons_of_mem _ h)⟩
  have hlocks := B.notSynchronized
  subst hsz
  have hD := hD0.self (sz := s.heap.size)
  generalize hAe : va_A (wM G z0) s.heap.size = A at hD hE ⊢
  have hA : ∀ q : Nat, s.heap.size ≤ q → A q := fun q h => by rw [← hAe]; exact Or.inr h
  have hS : va_S A s.heap s.heap [] := va_S.rf
  have hl := lv_entry ([.long x0]) (n := 2) (Nat.le_of_ble_eq_true rfl)
  rw [lg_entry_eq]
  generalize (lg_sl ([.long x0]) ++ List.replicate (2 - (lg_sl ([.long x0])).length) Slot.unset).toArray = ls at hl ⊢
  have hl : lv_has ls 2 [(0, .long x0)] := hl
  refine w_M_within_0 S hE hA (Nat.le_refl _) (Nat.le_refl _) ?_ x0 z0 hB _ _ _ hP hD hS hl
  intro pc ls r σ H locs hd hp hP hD hS
  exact W.iret (v := r) B.exec B.bytes B.returns (fun t ht hW => ⟨⟨r, σ, rfl, hp, by rw [ht]; exact hP, hD⟩, hS.F ht⟩) hS.2.2 hd
def B_M_term_87 (rq : (Int32 → St → Prop) → St → Prop) (post : Int32 → St → Prop) (ih5 : Int32 → St → Prop) (s0 : Int64) (z0 : St) : Prop :=
  (S_M_within (fun (r1 : Int32) (z1 : St) => (ih5 r1 z1)) s0 z0)
set_option maxHeartbeats 4000000 in
set_option maxRecDepth 100000 in
theorem w_M_term_87 {p : Program} {l : Launch} {e : Env} {R : Room} {s : State} {m : MethodId} {args : Array Value} {below : List Frame} {meth : Method} {c : Code} {Q : State → Prop} {G : GX} {A : Nat → Prop} {rq : (Int32 → St → Prop) → St → Prop} {frec lrec : Nat} (S : CallFix p m c cX12_term 5 s args GW RX12) (hE : env G A s s.heap) (hA : ∀ q, s.heap.size ≤ q → A q) (hRf : frec + 2 ≤ R.frames) (hRl : lrec + 63 ≤ R.locals) (hq : ∀ (G : GX) (z0 : St) (sz : Nat) (post : Int32 → St → Prop), MetI l wM yX12_sum cX12_sum 5 (some .int) { frames := frec, cells := 0, slots := 0, locals := lrec } [.ref (ad G 100)] G z0 sz (rq post  z0) post) (hfb : 5 ≤ frec ∧ 107 ≤ lrec) {post : Int32 → St → Prop} (hret : RetI p l e R s m args below meth c Q 0 0 wM G A cX12_term post) {ih5 : Int32 → St → Prop} (h5 : ∀ (x1 : Int32) (z0 : St), ih5 x1 z0 → Xw p l e R s m args below meth c Q 0 0 wM G A z0 5 [(0, .ref (ad G 100)), (1, .int x1)] 5 []) (s0 : Int64) (z0 : St) (hB : B_M_term_87 rq post ih5 s0 z0) : Xw p l e R s m args below meth c Q 0 0 wM G A z0 5 [(0, .ref (ad G 100))] 87 [.long s0] := by
  intro H locs ls hP hD hS hl
  have hx := S.1
  have hb := S.2.1
  refine xcSi [.long s0] S hE hA hP hD hS (c_M_within l G z0 H.size s0 _) hB (gw_c lk_X12_167 (gw_c wt_X12_within (gw_c wn_X12 (gw_c wc_X12_within (fun _ h9 => h9))))) hs_X12_within rfl rfl (Nat.le_trans (show 1 + 1 ≤ frec + 2 by omega) hRf) (Nat.le_trans (show 8 + (2 + 11) + (23) ≤ lrec + 63 by omega) hRl) ⟨Nat.zero_le _, Nat.zero_le _⟩ rfl hl.1 rfl (Nat.le_of_ble_eq_true rfl) dX12_term_87 (fun r1 z1 H locs hB hP hD hS => ?_)
  refine lv_istore_n (lv' := [(1, .int r1), (0, .ref (ad G 100))]) hx hb dX12_term_90 rfl hl (by decide) rfl (fun ls hl => ?_)
  refine lv_goto (tgt := 5) hx hb dX12_term_91 (by decide) ?_
  exact h5 r1 z1 hB _ _ _ hP hD hS (lv_sub hl [1, 0] rfl)
def B_M_term_45 (rq : (Int32 → St → Prop) → St → Prop) (post : Int32 → St → Prop) (ih5 : Int32 → St → Prop) (x1 : Int32) (s0 : Int32) (z0 : St) : Prop :=
  (∀ z1 : St, z1 = sI z0 105 ((gI z0 105) + (1 : Int32)) → (S_M_atom rq (fun (r1 : Int32) (z2 : St) => (∀ v2 : Int64, v2 = (r1).toInt64 → ((s0 = 0 → (((lg_cmp v2 (0 : Int64)) = 0 → (B_M_term_87 rq post ih5 (0 : Int64) z2)) ∧ (¬ (lg_cmp v2 (0 : Int64)) = 0 → (¬ v2 = 0 ∧ (B_M_term_87 rq post ih5 ((x1).toInt64 / v2) z2))))) ∧ (¬ s0 = 0 → (B_M_term_87 rq post ih5 ((x1).toInt64 * v2) z2))))) z1))
set_option maxHeartbeats 4000000 in
set_option maxRecDepth 100000 in
theorem w_M_term_45 {p : Program} {l : Launch} {e : Env} {R : Room} {s : State} {m : MethodId} {args : Array Value} {below : List Frame} {meth : Method} {c : Code} {Q : State → Prop} {G : GX} {A : Nat → Prop} {rq : (Int32 → St → Prop) → St → Prop} {frec lrec : Nat} (S : CallFix p m c cX12_term 5 s args GW RX12) (hE : env G A s s.heap) (hA : ∀ q, s.heap.size ≤ q → A q) (hRf : frec + 2 ≤ R.frames) (hRl : lrec + 63 ≤ R.locals) (hq : ∀ (G : GX) (z0 : St) (sz : Nat) (post : Int32 → St → Prop), MetI l wM yX12_sum cX12_sum 5 (some .int) { frames := frec, cells := 0, slots := 0, locals := lrec } [.ref (ad G 100)] G z0 sz (rq post  z0) post) (hfb : 5 ≤ frec ∧ 107 ≤ lrec) {post : Int32 → St → Prop} (hret : RetI p l e R s m args below meth c Q 0 0 wM G A cX12_term post) {ih5 : Int32 → St → Prop} (h5 : ∀ (x1 : Int32) (z0 : St), ih5 x1 z0 → Xw p l e R s m args below meth c Q 0 0 wM G A z0 5 [(0, .ref (ad G 100)), (1, .int x1)] 5 []) (x1 : Int32) (s0 : Int32) (z0 : St) (hB : B_M_term_45 rq post ih5 x1 s0 z0) : Xw p l e R s m args below meth c Q 0 0 wM G A z0 5 [(0, .ref (ad G 100)), (1, .int x1)] 45 [.int s0] := by
  intro H locs ls hP hD hS hl
  have hx := S.1
  have hb := S.2.1
  refine lv_istore_n (lv' := [(2, .int s0), (0, .ref (ad G 100)), (1, .int x1)]) hx hb dX12_term_45 rfl hl (by decide) rfl (fun ls hl => ?_)
  refine lv_aload_n hx hb dX12_term_46 rfl (lv_at hl 1 rfl) ?_
  refine lv_dup hx hb dX12_term_47 rfl ?_
  refine xMg_100_at S hE hP lk_X12_112 dX12_term_48 ?_
  refine lv_iconst (v := 1) hx hb dX12_term_51 (by decide) ?_
  refine lv_iadd hx hb dX12_term_52 ?_
  obtain ⟨z1, ez1⟩ : ∃ z9, z9 = sI z0 105 ((gI z0 105) + (1 : Int32)) := ⟨_, rfl⟩
  have hB := hB z1 ez1
  refine xMp_100_at S hE hP hD hS lk_X12_112 dX12_term_53 (fun H locs hP hD hS => ?_)
  rw [← ez1] at hP hD
  refine lv_aload_n hx hb dX12_term_56 rfl (lv_at hl 1 rfl) ?_
  refine xcVi [] S hE hA hP hD hS (c_M_atom l hq hfb G z1 H.size _) hB (gw_c lk_X12_164 (gw_c wi_X12_atom (gw_c we_X12_X12_atom_X12_atom (gw_c wn_X12 (gw_c wc_X12_atom (fun _ h9 => h9)))))) hd_X12_atom rfl rfl (Nat.le_trans (show frec + 1 + 1 ≤ frec + 2 by omega) hRf) (Nat.le_trans (show 8 + (4 + 11) + (lrec + 40) ≤ lrec + 63 by omega) hRl) ⟨Nat.zero_le _, Nat.zero_le _⟩ (va_recv hE.1 hP (ci := 11) (q0 := 0) rfl rfl) rfl hl.1 rfl (Nat.le_of_ble_eq_true rfl) dX12_term_57 (fun r1 z2 H locs hB hP hD hS => ?_)
  refine lv_i2l hx hb dX12_term_60 rfl ?_
  refine lv_topl (fun v2 ev2 => ?_)
  have hB := hB v2 ev2
  refine lv_lstore_n (lv' := [(3, .long v2), (2, .int s0), (0, .ref (ad G 100)), (1, .int x1)]) hx hb dX12_term_61 rfl hl (by decide) rfl (fun ls hl => ?_)
  refine lv_iload_n hx hb dX12_term_62 rfl (lv_at hl 1 rfl) ?_
  refine lv_if_eq (tgt := 73) hx hb dX12_term_63 (by decide) (fun c3 => ?_) (fun c3 => ?_)
  · have hB := hB.1 c3
    refine lv_lload_n hx hb dX12_term_73 rfl (lv_at hl 0 rfl) ?_
    refine lv_lconst (v := 0) hx hb dX12_term_74 (by decide) ?_
    refine W.lcmp hx hb dX12_term_75 ?_
    refine lv_if_ne (tgt := 83) hx hb dX12_term_76 (by decide) (fun c4 => ?_) (fun c4 => ?_)
    · have hB := hB.2 c4
      refine lv_iload_n hx hb dX12_term_83 rfl (lv_at hl 3 rfl) ?_
      refine lv_i2l hx hb dX12_term_84 rfl ?_
      refine lv_lload_n hx hb dX12_term_85 rfl (lv_at hl 0 rfl) ?_
      obtain ⟨hne, hB⟩ := hB
      refine lv_ldiv hx hb dX12_term_86 hne ?_
      exact w_M_term_87 S hE hA hRf hRl hq hfb hret h5 ((x1).toInt64 / v2) z2 hB _ _ _ hP hD hS (lv_sub hl [2] rfl)
    · have hB := hB.1 c4
      refine lv_lconst (v := 0) hx hb dX12_term_79 (by decide) ?_
      refine lv_goto (tgt := 87) hx hb dX12_term_80 (by decide) ?_
      exact w_M_term_87 S hE hA hRf hRl hq hfb hret h5 (0 : Int64) z2 hB _ _ _ hP hD hS (lv_sub hl [2] rfl)
  · have hB := hB.2 c3
    refine lv_iload_n hx hb dX12_term_66 rfl (lv_at hl 3 rfl) ?_
    refine lv_i2l hx hb dX12_term_67 rfl ?_
    refine lv_lload_n hx hb dX12_term_68 rfl (lv_at hl 0 rfl) ?_
    refine lv_lmul hx hb dX12_term_69 ?_
    refine lv_goto (tgt := 87) hx hb dX12_term_70 (by decide) ?_
    exact w_M_term_87 S hE hA hRf hRl hq hfb hret h5 ((x1).toInt64 * v2) z2 hB _ _ _ hP hD hS (lv_sub hl [2] rfl)
def B_M_term_31 (rq : (Int32 → St → Prop) → St → Prop) (post : Int32 → St → Prop) (ih5 : Int32 → St → Prop) (x1 : Int32) (z0 : St) : Prop :=
  (S_M_look (fun (r1 : Int32) (z1 : St) => ((r1 = (42 : Int32) → (B_M_term_45 rq post ih5 x1 (1 : Int32) z1)) ∧ (¬ r1 = (42 : Int32) → (B_M_term_45 rq post ih5 x1 (0 : Int32) z1)))) z0)
set_option maxHeartbeats 4000000 in
set_option maxRecDepth 100000 in
theorem w_M_term_31 {p : Program} {l : Launch} {e : Env} {R : Room} {s : State} {m : MethodId} {args : Array Value} {below : List Frame} {meth : Method} {c : Code} {Q : State → Prop} {G : GX} {A : Nat → Prop} {rq : (Int32 → St → Prop) → St → Prop} {frec lrec : Nat} (S : CallFix p m c cX12_term 5 s args GW RX12) (hE : env G A s s.heap) (hA : ∀ q, s.heap.size ≤ q → A q) (hRf : frec + 2 ≤ R.frames) (hRl : lrec + 63 ≤ R.locals) (hq : ∀ (G : GX) (z0 : St) (sz : Nat) (post : Int32 → St → Prop), MetI l wM yX12_sum cX12_sum 5 (some .int) { frames := frec, cells := 0, slots := 0, locals := lrec } [.ref (ad G 100)] G z0 sz (rq post  z0) post) (hfb : 5 ≤ frec ∧ 107 ≤ lrec) {post : Int32 → St → Prop} (hret : RetI p l e R s m args below meth c Q 0 0 wM G A cX12_term post) {ih5 : Int32 → St → Prop} (h5 : ∀ (x1 : Int32) (z0 : St), ih5 x1 z0 → Xw p l e R s m args below meth c Q 0 0 wM G A z0 5 [(0, .ref (ad G 100)), (1, .int x1)] 5 []) (x1 : Int32) (z0 : St) (hB : B_M_term_31 rq post ih5 x1 z0) : Xw p l e R s m args below meth c Q 0 0 wM G A z0 5 [(0, .ref (ad G 100)), (1, .int x1)] 31 [] := by
  intro H locs ls hP hD hS hl
  have hx := S.1
  have hb := S.2.1
  refine lv_aload_n hx hb dX12_term_31 rfl (lv_at hl 0 rfl) ?_
  refine xcVi [] S hE hA hP hD hS (c_M_look l G z0 H.size _) hB (gw_c lk_X12_131 (gw_c wi_X12_look (gw_c we_X12_X12_look_X12_look (gw_c wn_X12 (gw_c wc_X12_look (fun _ h9 => h9)))))) hd_X12_look rfl rfl (Nat.le_trans (show 0 + 1 ≤ frec + 2 by omega) hRf) (Nat.le_trans (show 8 + (1 + 11) + (0) ≤ lrec + 63 by omega) hRl) ⟨Nat.zero_le _, Nat.zero_le _⟩ (va_recv hE.1 hP (ci := 11) (q0 := 0) rfl rfl) rfl hl.1 rfl (Nat.le_of_ble_eq_true rfl) dX12_term_32 (fun r1 z1 H locs hB hP hD hS => ?_)
  refine lv_bipush (v := 42) hx hb dX12_term_35 (by decide) ?_
  refine lv_icmp_ne (tgt := 44) hx hb dX12_term_37 (by decide) (fun c2 => ?_) (fun c2 => ?_)
  · have hB := hB.2 c2
    refine lv_iconst (v := 0) hx hb dX12_term_44 (by decide) ?_
    exact w_M_term_45 S hE hA hRf hRl hq hfb hret h5 x1 (0 : Int32) z1 hB _ _ _ hP hD hS (lv_sub hl [0, 1] rfl)
  · have hB := hB.1 c2
    refine lv_iconst (v := 1) hx hb dX12_term_40 (by decide) ?_
    refine lv_goto (tgt := 45) hx hb dX12_term_41 (by decide) ?_
    exact w_M_term_45 S hE hA hRf hRl hq hfb hret h5 x1 (1 : Int32) z1 hB _ _ _ hP hD hS (lv_sub hl [0, 1] rfl)
def B_M_term_5 (rq : (Int32 → St → Prop) → St → Prop) (post : Int32 → St → Prop) (ih5 : Int32 → St → Prop) (x1 : Int32) (z0 : St) : Prop :=
  (((gI z0 106) = (-1 : Int32) → (S_M_look (fun (r2 : Int32) (z1 : St) => ((r2 = (42 : Int32) → (B_M_term_31 rq post ih5 x1 z1)) ∧ (¬ r2 = (42 : Int32) → (S_M_look (fun (r4 : Int32) (z2 : St) => ((r4 = (47 : Int32) → (B_M_term_31 rq post ih5 x1 z2)) ∧ (¬ r4 = (47 : Int32) → (post x1 z2)))) z1)))) z0)) ∧ (¬ (gI z0 106) = (-1 : Int32) → (post x1 z0)))
set_option maxHeartbeats 4000000 in
set_option maxRecDepth 100000 in
theorem w_M_term_5 {p : Program} {l : Launch} {e : Env} {R : Room} {s : State} {m : MethodId} {args : Array Value} {below : List Frame} {meth : Method} {c : Code} {Q : State → Prop} {G : GX} {A : Nat → Prop} {rq : (Int32 → St → Prop) → St → Prop} {frec lrec : Nat} (S : CallFix p m c cX12_term 5 s args GW RX12) (hE : env G A s s.heap) (hA : ∀ q, s.heap.size ≤ q → A q) (hRf : frec + 2 ≤ R.frames) (hRl : lrec + 63 ≤ R.locals) (hq : ∀ (G : GX) (z0 : St) (sz : Nat) (post : Int32 → St → Prop), MetI l wM yX12_sum cX12_sum 5 (some .int) { frames := frec, cells := 0, slots := 0, locals := lrec } [.ref (ad G 100)] G z0 sz (rq post  z0) post) (hfb : 5 ≤ frec ∧ 107 ≤ lrec) {post : Int32 → St → Prop} (hret : RetI p l e R s m args below meth c Q 0 0 wM G A cX12_term post) {ih5 : Int32 → St → Prop} (h5 : ∀ (x1 : Int32) (z0 : St), ih5 x1 z0 → Xw p l e R s m args below meth c Q 0 0 wM G A z0 5 [(0, .ref (ad G 100)), (1, .int x1)] 5 []) (x1 : Int32) (z0 : St) (hB : B_M_term_5 rq post ih5 x1 z0) : Xw p l e R s m args below meth c Q 0 0 wM G A z0 5 [(0, .ref (ad G 100)), (1, .int x1)] 5 [] := by
  intro H locs ls hP hD hS hl
  have hx := S.1
  have hb := S.2.1
  refine lv_aload_n hx hb dX12_term_5 rfl (lv_at hl 0 rfl) ?_
  refine xMg_100_fault S hE hP lk_X12_121 dX12_term_6 ?_
  refine lv_iconst (v := -1) hx hb dX12_term_9 (by decide) ?_
  refine lv_icmp_ne (tgt := 94) hx hb dX12_term_10 (by decide) (fun c1 => ?_) (fun c1 => ?_)
  · have hB := hB.2 c1
    refine lv_iload_n hx hb dX12_term_94 rfl (lv_at hl 1 rfl) ?_
    exact hret _ _ _ _ _ _ dX12_term_95 hB hP hD hS
  · have hB := hB.1 c1
    refine lv_aload_n hx hb dX12_term_13 rfl (lv_at hl 0 rfl) ?_
    refine xcVi [] S hE hA hP hD hS (c_M_look l G z0 H.size _) hB (gw_c lk_X12_131 (gw_c wi_X12_look (gw_c we_X12_X12_look_X12_look (gw_c wn_X12 (gw_c wc_X12_look (fun _ h9 => h9)))))) hd_X12_look rfl rfl (Nat.le_trans (show 0 + 1 ≤ frec + 2 by omega) hRf) (Nat.le_trans (show 8 + (1 + 11) + (0) ≤ lrec + 63 by omega) hRl) ⟨Nat.zero_le _, Nat.zero_le _⟩ (va_recv hE.1 hP (ci := 11) (q0 := 0) rfl rfl) rfl hl.1 rfl (Nat.le_of_ble_eq_true rfl) dX12_term_14 (fun r2 z1 H locs hB hP hD hS => ?_)
    refine lv_bipush (v := 42) hx hb dX12_term_17 (by decide) ?_
    refine lv_icmp_eq (tgt := 31) hx hb dX12_term_19 (by decide) (fun c3 => ?_) (fun c3 => ?_)
    · have hB := hB.1 c3
      exact w_M_term_31 S hE hA hRf hRl hq hfb hret h5 x1 z1 hB _ _ _ hP hD hS (lv_sub hl [0, 1] rfl)
    · have hB := hB.2 c3
      refine lv_aload_n hx hb dX12_term_22 rfl (lv_at hl 0 rfl) ?_
      refine xcVi [] S hE hA hP hD hS (c_M_look l G z1 H.size _) hB (gw_c lk_X12_131 (gw_c wi_X12_look (gw_c we_X12_X12_look_X12_look (gw_c wn_X12 (gw_c wc_X12_look (fun _ h9 => h9)))))) hd_X12_look rfl rfl (Nat.le_trans (show 0 + 1 ≤ frec + 2 by omega) hRf) (Nat.le_trans (show 8 + (1 + 11) + (0) ≤ lrec + 63 by omega) hRl) ⟨Nat.zero_le _, Nat.zero_le _⟩ (va_recv hE.1 hP (ci := 11) (q0 := 0) rfl rfl) rfl hl.1 rfl (Nat.le_of_ble_eq_true rfl) dX12_term_23 (fun r4 z2 H locs hB hP hD hS => ?_)
      refine lv_bipush (v := 47) hx hb dX12_term_26 (by decide) ?_
      refine lv_icmp_ne (tgt := 94) hx hb dX12_term_28 (by decide) (fun c5 => ?_) (fun c5 => ?_)
      · have hB := hB.2 c5
        refine lv_iload_n hx hb dX12_term_94 rfl (lv_at hl 1 rfl) ?_
        exact hret _ _ _ _ _ _ dX12_term_95 hB hP hD hS
      · have hB := hB.1 c5
        exact w_M_term_31 S hE hA hRf hRl hq hfb hret h5 x1 z2 hB _ _ _ hP hD hS (lv_sub hl [0, 1] rfl)
def L_M_term_5 (rq : (Int32 → St → Prop) → St → Prop) (post : Int32 → St → Prop) : Nat → Int32 → St → Prop
  | 0 => fun _ _ => False
  | n + 1 => B_M_term_5 rq post (L_M_term_5 rq post n)
theorem wl_M_term_5 {p : Program} {l : Launch} {e : Env} {R : Room} {s : State} {m : MethodId} {args : Array Value} {below : List Frame} {meth : Method} {c : Code} {Q : State → Prop} {G : GX} {A : Nat → Prop} {rq : (Int32 → St → Prop) → St → Prop} {frec lrec : Nat} (S : CallFix p m c cX12_term 5 s args GW RX12) (hE : env G A s s.heap) (hA : ∀ q, s.heap.size ≤ q → A q) (hRf : frec + 2 ≤ R.frames) (hRl : lrec + 63 ≤ R.locals) (hq : ∀ (G : GX) (z0 : St) (sz : Nat) (post : Int32 → St → Prop), MetI l wM yX12_sum cX12_sum 5 (some .int) { frames := frec, cells := 0, slots := 0, locals := lrec } [.ref (ad G 100)] G z0 sz (rq post  z0) post) (hfb : 5 ≤ frec ∧ 107 ≤ lrec) {post : Int32 → St → Prop} (hret : RetI p l e R s m args below meth c Q 0 0 wM G A cX12_term post) : ∀ (n : Nat) (x1 : Int32) (z0 : St), L_M_term_5 rq post n x1 z0 → Xw p l e R s m args below meth c Q 0 0 wM G A z0 5 [(0, .ref (ad G 100)), (1, .int x1)] 5 [] := by
  intro n
  induction n with
  | zero => intro x1 z0 hB; exact absurd hB id
  | succ n ih => exact fun x1 z0 hB => w_M_term_5 S hE hA hRf hRl hq hfb hret ih x1 z0 hB
def S_M_term (rq : (Int32 → St → Prop) → St → Prop) (post : Int32 → St → Prop) (z0 : St) : Prop :=
  (S_M_atom rq (fun (r1 : Int32) (z1 : St) => (∃ n2, L_M_term_5 rq post n2 r1 z1)) z0)
set_option maxHeartbeats 4000000 in
set_option maxRecDepth 100000 in
theorem w_M_term_0 {p : Program} {l : Launch} {e : Env} {R : Room} {s : State} {m : MethodId} {args : Array Value} {below : List Frame} {meth : Method} {c : Code} {Q : State → Prop} {G : GX} {A : Nat → Prop} {rq : (Int32 → St → Prop) → St → Prop} {frec lrec : Nat} (S : CallFix p m c cX12_term 5 s args GW RX12) (hE : env G A s s.heap) (hA : ∀ q, s.heap.size ≤ q → A q) (hRf : frec + 2 ≤ R.frames) (hRl : lrec + 63 ≤ R.locals) (hq : ∀ (G : GX) (z0 : St) (sz : Nat) (post : Int32 → St → Prop), MetI l wM yX12_sum cX12_sum 5 (some .int) { frames := frec, cells := 0, slots := 0, locals := lrec } [.ref (ad G 100)] G z0 sz (rq post  z0) post) (hfb : 5 ≤ frec ∧ 107 ≤ lrec) {post : Int32 → St → Prop} (hret : RetI p l e R s m args below meth c Q 0 0 wM G A cX12_term post) (z0 : St) (hB : S_M_term rq post z0) : Xw p l e R s m args below meth c Q 0 0 wM G A z0 5 [(0, .ref (ad G 100))] 0 [] := by
  intro H locs ls hP hD hS hl
  have hx := S.1
  have hb := S.2.1
  refine lv_aload_n hx hb dX12_term_0 rfl (lv_at hl 0 rfl) ?_
  refine xcVi [] S hE hA hP hD hS (c_M_atom l hq hfb G z0 H.size _) hB (gw_c lk_X12_164 (gw_c wi_X12_atom (gw_c we_X12_X12_atom_X12_atom (gw_c wn_X12 (gw_c wc_X12_atom (fun _ h9 => h9)))))) hd_X12_atom rfl rfl (Nat.le_trans (show frec + 1 + 1 ≤ frec + 2 by omega) hRf) (Nat.le_trans (show 8 + (4 + 11) + (lrec + 40) ≤ lrec + 63 by omega) hRl) ⟨Nat.zero_le _, Nat.zero_le _⟩ (va_recv hE.1 hP (ci := 11) (q0 := 0) rfl rfl) rfl hl.1 rfl (Nat.le_of_ble_eq_true rfl) dX12_term_1 (fun r1 z1 H locs hB hP hD hS => ?_)
  refine lv_istore_n (lv' := [(1, .int r1), (0, .ref (ad G 100))]) hx hb dX12_term_4 rfl hl (by decide) rfl (fun ls hl => ?_)
  obtain ⟨n2, hB⟩ := hB
  exact wl_M_term_5 S hE hA hRf hRl hq hfb hret n2 r1 z1 hB _ _ _ hP hD hS (lv_sub hl [1, 0] rfl)
set_option maxHeartbeats 4000000 in
set_option maxRecDepth 100000 in
theorem c_M_term (l : Launch) {rq : (Int32 → St → Prop) → St → Prop} {frec lrec : Nat} (hq : ∀ (G : GX) (z0 : St) (sz : Nat) (post : Int32 → St → Prop), MetI l wM yX12_sum cX12_sum 5 (some .int) { frames := frec, cells := 0, slots := 0, locals := lrec } [.ref (ad G 100)] G z0 sz (rq post  z0) post) (hfb : 5 ≤ frec ∧ 107 ≤ lrec) (G : GX) (z0 : St) (sz : Nat) (post : Int32 → St → Prop) : MetI l wM yX12_term cX12_term 5 (some .int) ({ frames := frec + 2, cells := 0, slots := 0, locals := lrec + 63 }) [.ref (ad G 100)] G z0 sz (S_M_term rq post z0) post := by
  refine Met.ofW (cc := cX12_term) (maxL := 5) (ret := (some .int)) (by decide) rfl ?_
  intro p e s m args below meth c s₁ B hml hv
  obtain ⟨rfl, hsz, hP, hD0, hE, hB⟩ := hv
  have S : CallFix p m c cX12_term 5 s _ GW RX12 := ⟨B.exec, B.bytes, hml, findClass_of_methodNamed B.named, fun w h => atoms_spec (ws := Cond.code yX12_term cX12_term 5 (some .int) :: GW) B.pre w (List.mem_cons_of_mem _ h)⟩
  have hlocks := B.notSynchronized
  subst hsz
  have hD := hD0.self (sz := s.heap.size)
  generalize hAe : va_A (wM G z0) s.heap.size = A at hD hE ⊢
  have hA : ∀ q : Nat, s.heap.size ≤ q → A q := fun q h => by rw [← hAe]; exact Or.inr h
  have hS : va_S A s.heap s.heap [] := va_S.rf
  have hl := lv_entry ([.ref (ad G 100)]) (n := 5) (Nat.le_of_ble_eq_true rfl)
  rw [lg_entry_eq]
  generalize (lg_sl ([.ref (ad G 100)]) ++ List.replicate (5 - (lg_sl ([.ref (ad G 100)])).length) Slot.unset).toArray = ls at hl ⊢
  have hl : lv_has ls 5 [(0, .ref (ad G 100))] := hl
  refine w_M_term_0 S hE hA (Nat.le_refl _) (Nat.le_refl _) hq hfb ?_  z0 hB _ _ _ hP hD hS hl
  intro pc ls r σ H locs hd hp hP hD hS
  exact W.iret (v := r) B.exec B.bytes B.returns (fun t ht hW => ⟨⟨r, σ, rfl, hp, by rw [ht]; exact hP, hD⟩, hS.F ht⟩) hS.2.2 hd
def B_M_sum_77 (rq : (Int32 → St → Prop) → St → Prop) (post : Int32 → St → Prop) (ih5 : Int32 → St → Prop) (s0 : Int64) (z0 : St) : Prop :=
  (S_M_within (fun (r1 : Int32) (z1 : St) => (ih5 r1 z1)) s0 z0)
set_option maxHeartbeats 4000000 in
set_option maxRecDepth 100000 in
theorem w_M_sum_77 {p : Program} {l : Launch} {e : Env} {R : Room} {s : State} {m : MethodId} {args : Array Value} {below : List Frame} {meth : Method} {c : Code} {Q : State → Prop} {G : GX} {A : Nat → Prop} {rq : (Int32 → St → Prop) → St → Prop} {frec lrec : Nat} (S : CallFix p m c cX12_sum 5 s args GW RX12) (hE : env G A s s.heap) (hA : ∀ q, s.heap.size ≤ q → A q) (hRf : frec + 3 ≤ R.frames) (hRl : lrec + 87 ≤ R.locals) (hq : ∀ (G : GX) (z0 : St) (sz : Nat) (post : Int32 → St → Prop), MetI l wM yX12_sum cX12_sum 5 (some .int) { frames := frec, cells := 0, slots := 0, locals := lrec } [.ref (ad G 100)] G z0 sz (rq post  z0) post) (hfb : 5 ≤ frec ∧ 107 ≤ lrec) {post : Int32 → St → Prop} (hret : RetI p l e R s m args below meth c Q 0 0 wM G A cX12_sum post) {ih5 : Int32 → St → Prop} (h5 : ∀ (x1 : Int32) (z0 : St), ih5 x1 z0 → Xw p l e R s m args below meth c Q 0 0 wM G A z0 5 [(0, .ref (ad G 100)), (1, .int x1)] 5 []) (s0 : Int64) (z0 : St) (hB : B_M_sum_77 rq post ih5 s0 z0) : Xw p l e R s m args below meth c Q 0 0 wM G A z0 5 [(0, .ref (ad G 100))] 77 [.long s0] := by
  intro H locs ls hP hD hS hl
  have hx := S.1
  have hb := S.2.1
  refine xcSi [.long s0] S hE hA hP hD hS (c_M_within l G z0 H.size s0 _) hB (gw_c lk_X12_167 (gw_c wt_X12_within (gw_c wn_X12 (gw_c wc_X12_within (fun _ h9 => h9))))) hs_X12_within rfl rfl (Nat.le_trans (show 1 + 1 ≤ frec + 3 by omega) hRf) (Nat.le_trans (show 8 + (2 + 11) + (23) ≤ lrec + 87 by omega) hRl) ⟨Nat.zero_le _, Nat.zero_le _⟩ rfl hl.1 rfl (Nat.le_of_ble_eq_true rfl) dX12_sum_77 (fun r1 z1 H locs hB hP hD hS => ?_)
  refine lv_istore_n (lv' := [(1, .int r1), (0, .ref (ad G 100))]) hx hb dX12_sum_80 rfl hl (by decide) rfl (fun ls hl => ?_)
  refine lv_goto (tgt := 5) hx hb dX12_sum_81 (by decide) ?_
  exact h5 r1 z1 hB _ _ _ hP hD hS (lv_sub hl [1, 0] rfl)
def B_M_sum_45 (rq : (Int32 → St → Prop) → St → Prop) (post : Int32 → St → Prop) (ih5 : Int32 → St → Prop) (x1 : Int32) (s0 : Int32) (z0 : St) : Prop :=
  (∀ z1 : St, z1 = sI z0 105 ((gI z0 105) + (1 : Int32)) → (S_M_term rq (fun (r1 : Int32) (z2 : St) => (∀ v2 : Int64, v2 = (r1).toInt64 → ((s0 = 0 → (B_M_sum_77 rq post ih5 ((x1).toInt64 - v2) z2)) ∧ (¬ s0 = 0 → (B_M_sum_77 rq post ih5 ((x1).toInt64 + v2) z2))))) z1))
set_option maxHeartbeats 4000000 in
set_option maxRecDepth 100000 in
theorem w_M_sum_45 {p : Program} {l : Launch} {e : Env} {R : Room} {s : State} {m : MethodId} {args : Array Value} {below : List Frame} {meth : Method} {c : Code} {Q : State → Prop} {G : GX} {A : Nat → Prop} {rq : (Int32 → St → Prop) → St → Prop} {frec lrec : Nat} (S : CallFix p m c cX12_sum 5 s args GW RX12) (hE : env G A s s.heap) (hA : ∀ q, s.heap.size ≤ q → A q) (hRf : frec + 3 ≤ R.frames) (hRl : lrec + 87 ≤ R.locals) (hq : ∀ (G : GX) (z0 : St) (sz : Nat) (post : Int32 → St → Prop), MetI l wM yX12_sum cX12_sum 5 (some .int) { frames := frec, cells := 0, slots := 0, locals := lrec } [.ref (ad G 100)] G z0 sz (rq post  z0) post) (hfb : 5 ≤ frec ∧ 107 ≤ lrec) {post : Int32 → St → Prop} (hret : RetI p l e R s m args below meth c Q 0 0 wM G A cX12_sum post) {ih5 : Int32 → St → Prop} (h5 : ∀ (x1 : Int32) (z0 : St), ih5 x1 z0 → Xw p l e R s m args below meth c Q 0 0 wM G A z0 5 [(0, .ref (ad G 100)), (1, .int x1)] 5 []) (x1 : Int32) (s0 : Int32) (z0 : St) (hB : B_M_sum_45 rq post ih5 x1 s0 z0) : Xw p l e R s m args below meth c Q 0 0 wM G A z0 5 [(0, .ref (ad G 100)), (1, .int x1)] 45 [.int s0] := by
  intro H locs ls hP hD hS hl
  have hx := S.1
  have hb := S.2.1
  refine lv_istore_n (lv' := [(2, .int s0), (0, .ref (ad G 100)), (1, .int x1)]) hx hb dX12_sum_45 rfl hl (by decide) rfl (fun ls hl => ?_)
  refine lv_aload_n hx hb dX12_sum_46 rfl (lv_at hl 1 rfl) ?_
  refine lv_dup hx hb dX12_sum_47 rfl ?_
  refine xMg_100_at S hE hP lk_X12_112 dX12_sum_48 ?_
  refine lv_iconst (v := 1) hx hb dX12_sum_51 (by decide) ?_
  refine lv_iadd hx hb dX12_sum_52 ?_
  obtain ⟨z1, ez1⟩ : ∃ z9, z9 = sI z0 105 ((gI z0 105) + (1 : Int32)) := ⟨_, rfl⟩
  have hB := hB z1 ez1
  refine xMp_100_at S hE hP hD hS lk_X12_112 dX12_sum_53 (fun H locs hP hD hS => ?_)
  rw [← ez1] at hP hD
  refine lv_aload_n hx hb dX12_sum_56 rfl (lv_at hl 1 rfl) ?_
  refine xcVi [] S hE hA hP hD hS (c_M_term l hq hfb G z1 H.size _) hB (gw_c lk_X12_171 (gw_c wi_X12_term (gw_c we_X12_X12_term_X12_term (gw_c wn_X12 (gw_c wc_X12_term (fun _ h9 => h9)))))) hd_X12_term rfl rfl (Nat.le_trans (show frec + 2 + 1 ≤ frec + 3 by omega) hRf) (Nat.le_trans (show 8 + (5 + 11) + (lrec + 63) ≤ lrec + 87 by omega) hRl) ⟨Nat.zero_le _, Nat.zero_le _⟩ (va_recv hE.1 hP (ci := 11) (q0 := 0) rfl rfl) rfl hl.1 rfl (Nat.le_of_ble_eq_true rfl) dX12_sum_57 (fun r1 z2 H locs hB hP hD hS => ?_)
  refine lv_i2l hx hb dX12_sum_60 rfl ?_
  refine lv_topl (fun v2 ev2 => ?_)
  have hB := hB v2 ev2
  refine lv_lstore_n (lv' := [(3, .long v2), (2, .int s0), (0, .ref (ad G 100)), (1, .int x1)]) hx hb dX12_sum_61 rfl hl (by decide) rfl (fun ls hl => ?_)
  refine lv_iload_n hx hb dX12_sum_62 rfl (lv_at hl 1 rfl) ?_
  refine lv_if_eq (tgt := 73) hx hb dX12_sum_63 (by decide) (fun c3 => ?_) (fun c3 => ?_)
  · have hB := hB.1 c3
    refine lv_iload_n hx hb dX12_sum_73 rfl (lv_at hl 3 rfl) ?_
    refine lv_i2l hx hb dX12_sum_74 rfl ?_
    refine lv_lload_n hx hb dX12_sum_75 rfl (lv_at hl 0 rfl) ?_
    refine lv_lsub hx hb dX12_sum_76 ?_
    exact w_M_sum_77 S hE hA hRf hRl hq hfb hret h5 ((x1).toInt64 - v2) z2 hB _ _ _ hP hD hS (lv_sub hl [2] rfl)
  · have hB := hB.2 c3
    refine lv_iload_n hx hb dX12_sum_66 rfl (lv_at hl 3 rfl) ?_
    refine lv_i2l hx hb dX12_sum_67 rfl ?_
    refine lv_lload_n hx hb dX12_sum_68 rfl (lv_at hl 0 rfl) ?_
    refine lv_ladd hx hb dX12_sum_69 ?_
    refine lv_goto (tgt := 77) hx hb dX12_sum_70 (by decide) ?_
    exact w_M_sum_77 S hE hA hRf hRl hq hfb hret h5 ((x1).toInt64 + v2) z2 hB _ _ _ hP hD hS (lv_sub hl [2] rfl)
def B_M_sum_31 (rq : (Int32 → St → Prop) → St → Prop) (post : Int32 → St → Prop) (ih5 : Int32 → St → Prop) (x1 : Int32) (z0 : St) : Prop :=
  (S_M_look (fun (r1 : Int32) (z1 : St) => ((r1 = (43 : Int32) → (B_M_sum_45 rq post ih5 x1 (1 : Int32) z1)) ∧ (¬ r1 = (43 : Int32) → (B_M_sum_45 rq post ih5 x1 (0 : Int32) z1)))) z0)
set_option maxHeartbeats 4000000 in
set_option maxRecDepth 100000 in
theorem w_M_sum_31 {p : Program} {l : Launch} {e : Env} {R : Room} {s : State} {m : MethodId} {args : Array Value} {below : List Frame} {meth : Method} {c : Code} {Q : State → Prop} {G : GX} {A : Nat → Prop} {rq : (Int32 → St → Prop) → St → Prop} {frec lrec : Nat} (S : CallFix p m c cX12_sum 5 s args GW RX12) (hE : env G A s s.heap) (hA : ∀ q, s.heap.size ≤ q → A q) (hRf : frec + 3 ≤ R.frames) (hRl : lrec + 87 ≤ R.locals) (hq : ∀ (G : GX) (z0 : St) (sz : Nat) (post : Int32 → St → Prop), MetI l wM yX12_sum cX12_sum 5 (some .int) { frames := frec, cells := 0, slots := 0, locals := lrec } [.ref (ad G 100)] G z0 sz (rq post  z0) post) (hfb : 5 ≤ frec ∧ 107 ≤ lrec) {post : Int32 → St → Prop} (hret : RetI p l e R s m args below meth c Q 0 0 wM G A cX12_sum post) {ih5 : Int32 → St → Prop} (h5 : ∀ (x1 : Int32) (z0 : St), ih5 x1 z0 → Xw p l e R s m args below meth c Q 0 0 wM G A z0 5 [(0, .ref (ad G 100)), (1, .int x1)] 5 []) (x1 : Int32) (z0 : St) (hB : B_M_sum_31 rq post ih5 x1 z0) : Xw p l e R s m args below meth c Q 0 0 wM G A z0 5 [(0, .ref (ad G 100)), (1, .int x1)] 31 [] := by
  intro H locs ls hP hD hS hl
  have hx := S.1
  have hb := S.2.1
  refine lv_aload_n hx hb dX12_sum_31 rfl (lv_at hl 0 rfl) ?_
  refine xcVi [] S hE hA hP hD hS (c_M_look l G z0 H.size _) hB (gw_c lk_X12_131 (gw_c wi_X12_look (gw_c we_X12_X12_look_X12_look (gw_c wn_X12 (gw_c wc_X12_look (fun _ h9 => h9)))))) hd_X12_look rfl rfl (Nat.le_trans (show 0 + 1 ≤ frec + 3 by omega) hRf) (Nat.le_trans (show 8 + (1 + 11) + (0) ≤ lrec + 87 by omega) hRl) ⟨Nat.zero_le _, Nat.zero_le _⟩ (va_recv hE.1 hP (ci := 11) (q0 := 0) rfl rfl) rfl hl.1 rfl (Nat.le_of_ble_eq_true rfl) dX12_sum_32 (fun r1 z1 H locs hB hP hD hS => ?_)
  refine lv_bipush (v := 43) hx hb dX12_sum_35 (by decide) ?_
  refine lv_icmp_ne (tgt := 44) hx hb dX12_sum_37 (by decide) (fun c2 => ?_) (fun c2 => ?_)
  · have hB := hB.2 c2
    refine lv_iconst (v := 0) hx hb dX12_sum_44 (by decide) ?_
    exact w_M_sum_45 S hE hA hRf hRl hq hfb hret h5 x1 (0 : Int32) z1 hB _ _ _ hP hD hS (lv_sub hl [0, 1] rfl)
  · have hB := hB.1 c2
    refine lv_iconst (v := 1) hx hb dX12_sum_40 (by decide) ?_
    refine lv_goto (tgt := 45) hx hb dX12_sum_41 (by decide) ?_
    exact w_M_sum_45 S hE hA hRf hRl hq hfb hret h5 x1 (1 : Int32) z1 hB _ _ _ hP hD hS (lv_sub hl [0, 1] rfl)
def B_M_sum_5 (rq : (Int32 → St → Prop) → St → Prop) (post : Int32 → St → Prop) (ih5 : Int32 → St → Prop) (x1 : Int32) (z0 : St) : Prop :=
  (((gI z0 106) = (-1 : Int32) → (S_M_look (fun (r2 : Int32) (z1 : St) => ((r2 = (43 : Int32) → (B_M_sum_31 rq post ih5 x1 z1)) ∧ (¬ r2 = (43 : Int32) → (S_M_look (fun (r4 : Int32) (z2 : St) => ((r4 = (45 : Int32) → (B_M_sum_31 rq post ih5 x1 z2)) ∧ (¬ r4 = (45 : Int32) → (post x1 z2)))) z1)))) z0)) ∧ (¬ (gI z0 106) = (-1 : Int32) → (post x1 z0)))
set_option maxHeartbeats 4000000 in
set_option maxRecDepth 100000 in
theorem w_M_sum_5 {p : Program} {l : Launch} {e : Env} {R : Room} {s : State} {m : MethodId} {args : Array Value} {below : List Frame} {meth : Method} {c : Code} {Q : State → Prop} {G : GX} {A : Nat → Prop} {rq : (Int32 → St → Prop) → St → Prop} {frec lrec : Nat} (S : CallFix p m c cX12_sum 5 s args GW RX12) (hE : env G A s s.heap) (hA : ∀ q, s.heap.size ≤ q → A q) (hRf : frec + 3 ≤ R.frames) (hRl : lrec + 87 ≤ R.locals) (hq : ∀ (G : GX) (z0 : St) (sz : Nat) (post : Int32 → St → Prop), MetI l wM yX12_sum cX12_sum 5 (some .int) { frames := frec, cells := 0, slots := 0, locals := lrec } [.ref (ad G 100)] G z0 sz (rq post  z0) post) (hfb : 5 ≤ frec ∧ 107 ≤ lrec) {post : Int32 → St → Prop} (hret : RetI p l e R s m args below meth c Q 0 0 wM G A cX12_sum post) {ih5 : Int32 → St → Prop} (h5 : ∀ (x1 : Int32) (z0 : St), ih5 x1 z0 → Xw p l e R s m args below meth c Q 0 0 wM G A z0 5 [(0, .ref (ad G 100)), (1, .int x1)] 5 []) (x1 : Int32) (z0 : St) (hB : B_M_sum_5 rq post ih5 x1 z0) : Xw p l e R s m args below meth c Q 0 0 wM G A z0 5 [(0, .ref (ad G 100)), (1, .int x1)] 5 [] := by
  intro H locs ls hP hD hS hl
  have hx := S.1
  have hb := S.2.1
  refine lv_aload_n hx hb dX12_sum_5 rfl (lv_at hl 0 rfl) ?_
  refine xMg_100_fault S hE hP lk_X12_121 dX12_sum_6 ?_
  refine lv_iconst (v := -1) hx hb dX12_sum_9 (by decide) ?_
  refine lv_icmp_ne (tgt := 84) hx hb dX12_sum_10 (by decide) (fun c1 => ?_) (fun c1 => ?_)
  · have hB := hB.2 c1
    refine lv_iload_n hx hb dX12_sum_84 rfl (lv_at hl 1 rfl) ?_
    exact hret _ _ _ _ _ _ dX12_sum_85 hB hP hD hS
  · have hB := hB.1 c1
    refine lv_aload_n hx hb dX12_sum_13 rfl (lv_at hl 0 rfl) ?_
    refine xcVi [] S hE hA hP hD hS (c_M_look l G z0 H.size _) hB (gw_c lk_X12_131 (gw_c wi_X12_look (gw_c we_X12_X12_look_X12_look (gw_c wn_X12 (gw_c wc_X12_look (fun _ h9 => h9)))))) hd_X12_look rfl rfl (Nat.le_trans (show 0 + 1 ≤ frec + 3 by omega) hRf) (Nat.le_trans (show 8 + (1 + 11) + (0) ≤ lrec + 87 by omega) hRl) ⟨Nat.zero_le _, Nat.zero_le _⟩ (va_recv hE.1 hP (ci := 11) (q0 := 0) rfl rfl) rfl hl.1 rfl (Nat.le_of_ble_eq_true rfl) dX12_sum_14 (fun r2 z1 H locs hB hP hD hS => ?_)
    refine lv_bipush (v := 43) hx hb dX12_sum_17 (by decide) ?_
    refine lv_icmp_eq (tgt := 31) hx hb dX12_sum_19 (by decide) (fun c3 => ?_) (fun c3 => ?_)
    · have hB := hB.1 c3
      exact w_M_sum_31 S hE hA hRf hRl hq hfb hret h5 x1 z1 hB _ _ _ hP hD hS (lv_sub hl [0, 1] rfl)
    · have hB := hB.2 c3
      refine lv_aload_n hx hb dX12_sum_22 rfl (lv_at hl 0 rfl) ?_
      refine xcVi [] S hE hA hP hD hS (c_M_look l G z1 H.size _) hB (gw_c lk_X12_131 (gw_c wi_X12_look (gw_c we_X12_X12_look_X12_look (gw_c wn_X12 (gw_c wc_X12_look (fun _ h9 => h9)))))) hd_X12_look rfl rfl (Nat.le_trans (show 0 + 1 ≤ frec + 3 by omega) hRf) (Nat.le_trans (show 8 + (1 + 11) + (0) ≤ lrec + 87 by omega) hRl) ⟨Nat.zero_le _, Nat.zero_le _⟩ (va_recv hE.1 hP (ci := 11) (q0 := 0) rfl rfl) rfl hl.1 rfl (Nat.le_of_ble_eq_true rfl) dX12_sum_23 (fun r4 z2 H locs hB hP hD hS => ?_)
      refine lv_bipush (v := 45) hx hb dX12_sum_26 (by decide) ?_
      refine lv_icmp_ne (tgt := 84) hx hb dX12_sum_28 (by decide) (fun c5 => ?_) (fun c5 => ?_)
      · have hB := hB.2 c5
        refine lv_iload_n hx hb dX12_sum_84 rfl (lv_at hl 1 rfl) ?_
        exact hret _ _ _ _ _ _ dX12_sum_85 hB hP hD hS
      · have hB := hB.1 c5
        exact w_M_sum_31 S hE hA hRf hRl hq hfb hret h5 x1 z2 hB _ _ _ hP hD hS (lv_sub hl [0, 1] rfl)
def L_M_sum_5 (rq : (Int32 → St → Prop) → St → Prop) (post : Int32 → St → Prop) : Nat → Int32 → St → Prop
  | 0 => fun _ _ => False
  | n + 1 => B_M_sum_5 rq post (L_M_sum_5 rq post n)
theorem wl_M_sum_5 {p : Program} {l : Launch} {e : Env} {R : Room} {s : State} {m : MethodId} {args : Array Value} {below : List Frame} {meth : Method} {c : Code} {Q : State → Prop} {G : GX} {A : Nat → Prop} {rq : (Int32 → St → Prop) → St → Prop} {frec lrec : Nat} (S : CallFix p m c cX12_sum 5 s args GW RX12) (hE : env G A s s.heap) (hA : ∀ q, s.heap.size ≤ q → A q) (hRf : frec + 3 ≤ R.frames) (hRl : lrec + 87 ≤ R.locals) (hq : ∀ (G : GX) (z0 : St) (sz : Nat) (post : Int32 → St → Prop), MetI l wM yX12_sum cX12_sum 5 (some .int) { frames := frec, cells := 0, slots := 0, locals := lrec } [.ref (ad G 100)] G z0 sz (rq post  z0) post) (hfb : 5 ≤ frec ∧ 107 ≤ lrec) {post : Int32 → St → Prop} (hret : RetI p l e R s m args below meth c Q 0 0 wM G A cX12_sum post) : ∀ (n : Nat) (x1 : Int32) (z0 : St), L_M_sum_5 rq post n x1 z0 → Xw p l e R s m args below meth c Q 0 0 wM G A z0 5 [(0, .ref (ad G 100)), (1, .int x1)] 5 [] := by
  intro n
  induction n with
  | zero => intro x1 z0 hB; exact absurd hB id
  | succ n ih => exact fun x1 z0 hB => w_M_sum_5 S hE hA hRf hRl hq hfb hret ih x1 z0 hB
def S_M_sum (rq : (Int32 → St → Prop) → St → Prop) (post : Int32 → St → Prop) (z0 : St) : Prop :=
  (S_M_term rq (fun (r1 : Int32) (z1 : St) => (∃ n2, L_M_sum_5 rq post n2 r1 z1)) z0)
set_option maxHeartbeats 4000000 in
set_option maxRecDepth 100000 in
theorem w_M_sum_0 {p : Program} {l : Launch} {e : Env} {R : Room} {s : State} {m : MethodId} {args : Array Value} {below : List Frame} {meth : Method} {c : Code} {Q : State → Prop} {G : GX} {A : Nat → Prop} {rq : (Int32 → St → Prop) → St → Prop} {frec lrec : Nat} (S : CallFix p m c cX12_sum 5 s args GW RX12) (hE : env G A s s.heap) (hA : ∀ q, s.heap.size ≤ q → A q) (hRf : frec + 3 ≤ R.frames) (hRl : lrec + 87 ≤ R.locals) (hq : ∀ (G : GX) (z0 : St) (sz : Nat) (post : Int32 → St → Prop), MetI l wM yX12_sum cX12_sum 5 (some .int) { frames := frec, cells := 0, slots := 0, locals := lrec } [.ref (ad G 100)] G z0 sz (rq post  z0) post) (hfb : 5 ≤ frec ∧ 107 ≤ lrec) {post : Int32 → St → Prop} (hret : RetI p l e R s m args below meth c Q 0 0 wM G A cX12_sum post) (z0 : St) (hB : S_M_sum rq post z0) : Xw p l e R s m args below meth c Q 0 0 wM G A z0 5 [(0, .ref (ad G 100))] 0 [] := by
  intro H locs ls hP hD hS hl
  have hx := S.1
  have hb := S.2.1
  refine lv_aload_n hx hb dX12_sum_0 rfl (lv_at hl 0 rfl) ?_
  refine xcVi [] S hE hA hP hD hS (c_M_term l hq hfb G z0 H.size _) hB (gw_c lk_X12_171 (gw_c wi_X12_term (gw_c we_X12_X12_term_X12_term (gw_c wn_X12 (gw_c wc_X12_term (fun _ h9 => h9)))))) hd_X12_term rfl rfl (Nat.le_trans (show frec + 2 + 1 ≤ frec + 3 by omega) hRf) (Nat.le_trans (show 8 + (5 + 11) + (lrec + 63) ≤ lrec + 87 by omega) hRl) ⟨Nat.zero_le _, Nat.zero_le _⟩ (va_recv hE.1 hP (ci := 11) (q0 := 0) rfl rfl) rfl hl.1 rfl (Nat.le_of_ble_eq_true rfl) dX12_sum_1 (fun r1 z1 H locs hB hP hD hS => ?_)
  refine lv_istore_n (lv' := [(1, .int r1), (0, .ref (ad G 100))]) hx hb dX12_sum_4 rfl hl (by decide) rfl (fun ls hl => ?_)
  obtain ⟨n2, hB⟩ := hB
  exact wl_M_sum_5 S hE hA hRf hRl hq hfb hret n2 r1 z1 hB _ _ _ hP hD hS (lv_sub hl [1, 0] rfl)
set_option maxHeartbeats 4000000 in
set_option maxRecDepth 100000 in
theorem c_M_sum (l : Launch) {rq : (Int32 → St → Prop) → St → Prop} {frec lrec : Nat} (hq : ∀ (G : GX) (z0 : St) (sz : Nat) (post : Int32 → St → Prop), MetI l wM yX12_sum cX12_sum 5 (some .int) { frames := frec, cells := 0, slots := 0, locals := lrec } [.ref (ad G 100)] G z0 sz (rq post  z0) post) (hfb : 5 ≤ frec ∧ 107 ≤ lrec) (G : GX) (z0 : St) (sz : Nat) (post : Int32 → St → Prop) : MetI l wM yX12_sum cX12_sum 5 (some .int) ({ frames := frec + 3, cells := 0, slots := 0, locals := lrec + 87 }) [.ref (ad G 100)] G z0 sz (S_M_sum rq post z0) post := by
  refine Met.ofW (cc := cX12_sum) (maxL := 5) (ret := (some .int)) (by decide) rfl ?_
  intro p e s m args below meth c s₁ B hml hv
  obtain ⟨rfl, hsz, hP, hD0, hE, hB⟩ := hv
  have S : CallFix p m c cX12_sum 5 s _ GW RX12 := ⟨B.exec, B.bytes, hml, findClass_of_methodNamed B.named, fun w h => atoms_spec (ws := Cond.code yX12_sum cX12_sum 5 (some .int) :: GW) B.pre w (List.mem_cons_of_mem _ h)⟩
  have hlocks := B.notSynchronized
  subst hsz
  have hD := hD0.self (sz := s.heap.size)
  generalize hAe : va_A (wM G z0) s.heap.size = A at hD hE ⊢
  have hA : ∀ q : Nat, s.heap.size ≤ q → A q := fun q h => by rw [← hAe]; exact Or.inr h
  have hS : va_S A s.heap s.heap [] := va_S.rf
  have hl := lv_entry ([.ref (ad G 100)]) (n := 5) (Nat.le_of_ble_eq_true rfl)
  rw [lg_entry_eq]
  generalize (lg_sl ([.ref (ad G 100)]) ++ List.replicate (5 - (lg_sl ([.ref (ad G 100)])).length) Slot.unset).toArray = ls at hl ⊢
  have hl : lv_has ls 5 [(0, .ref (ad G 100))] := hl
  refine w_M_sum_0 S hE hA (Nat.le_refl _) (Nat.le_refl _) hq hfb ?_  z0 hB _ _ _ hP hD hS hl
  intro pc ls r σ H locs hd hp hP hD hS
  exact W.iret (v := r) B.exec B.bytes B.returns (fun t ht hW => ⟨⟨r, σ, rfl, hp, by rw [ht]; exact hP, hD⟩, hS.F ht⟩) hS.2.2 hd
def D_M_sum : Nat → (Int32 → St → Prop) → St → Prop
  | 0 => fun _ _ => False
  | d + 1 => S_M_sum (D_M_sum d)
theorem cd_M_sum (l : Launch) : ∀ (d : Nat) (G : GX) (z0 : St) (sz : Nat) (post : Int32 → St → Prop), MetI l wM yX12_sum cX12_sum 5 (some .int) { frames := 5 + 3 * d, cells := 0, slots := 0, locals := 107 + 87 * d } [.ref (ad G 100)] G z0 sz (D_M_sum d post z0) post := by
  intro d
  induction d with
  | zero => exact fun G z0 sz  post => Met.never (by decide) rfl (fun _ _ h => h.2.2.2.2.2)
  | succ d ih =>
    intro G z0 sz  post
    have h9 := c_M_sum l ih ⟨by omega, by omega⟩ G z0 sz  post
    rw [show 5 + 3 * d + 3 = 5 + 3 * (d + 1) by omega, show 107 + 87 * d + 87 = 107 + 87 * (d + 1) by omega] at h9
    exact h9
def S_M_isSign (post : Int32 → St → Prop) (x0 : Int32) (z0 : St) : Prop :=
  ((x0 = (61 : Int32) → (post (1 : Int32) z0)) ∧ (¬ x0 = (61 : Int32) → ((x0 = (60 : Int32) → (post (1 : Int32) z0)) ∧ (¬ x0 = (60 : Int32) → ((x0 = (62 : Int32) → (post (1 : Int32) z0)) ∧ (¬ x0 = (62 : Int32) → (post (0 : Int32) z0)))))))
set_option maxHeartbeats 4000000 in
set_option maxRecDepth 100000 in
theorem w_M_isSign_0 {p : Program} {l : Launch} {e : Env} {R : Room} {s : State} {m : MethodId} {args : Array Value} {below : List Frame} {meth : Method} {c : Code} {Q : State → Prop} {G : GX} {A : Nat → Prop} (S : CallFix p m c cX12_isSign 1 s args GW RX12) (hE : env G A s s.heap) (hA : ∀ q, s.heap.size ≤ q → A q) (hRf : 0 ≤ R.frames) (hRl : 0 ≤ R.locals) {post : Int32 → St → Prop} (hret : RetZ p l e R s m args below meth c Q 0 0 wM G A cX12_isSign post) (x0 : Int32) (z0 : St) (hB : S_M_isSign post x0 z0) : Xw p l e R s m args below meth c Q 0 0 wM G A z0 1 [(0, .int x0)] 0 [] := by
  intro H locs ls hP hD hS hl
  have hx := S.1
  have hb := S.2.1
  refine lv_iload_n hx hb dX12_isSign_0 rfl (lv_at hl 0 rfl) ?_
  refine lv_bipush (v := 61) hx hb dX12_isSign_1 (by decide) ?_
  refine lv_icmp_eq (tgt := 18) hx hb dX12_isSign_3 (by decide) (fun c1 => ?_) (fun c1 => ?_)
  · have hB := hB.1 c1
    refine lv_iconst (v := 1) hx hb dX12_isSign_18 (by decide) ?_
    refine lv_goto (tgt := 23) hx hb dX12_isSign_19 (by decide) ?_
    exact hret _ _ _ _ _ _ dX12_isSign_23 ⟨by decide, hB⟩ hP hD hS
  · have hB := hB.2 c1
    refine lv_iload_n hx hb dX12_isSign_6 rfl (lv_at hl 0 rfl) ?_
    refine lv_bipush (v := 60) hx hb dX12_isSign_7 (by decide) ?_
    refine lv_icmp_eq (tgt := 18) hx hb dX12_isSign_9 (by decide) (fun c2 => ?_) (fun c2 => ?_)
    · have hB := hB.1 c2
      refine lv_iconst (v := 1) hx hb dX12_isSign_18 (by decide) ?_
      refine lv_goto (tgt := 23) hx hb dX12_isSign_19 (by decide) ?_
      exact hret _ _ _ _ _ _ dX12_isSign_23 ⟨by decide, hB⟩ hP hD hS
    · have hB := hB.2 c2
      refine lv_iload_n hx hb dX12_isSign_12 rfl (lv_at hl 0 rfl) ?_
      refine lv_bipush (v := 62) hx hb dX12_isSign_13 (by decide) ?_
      refine lv_icmp_ne (tgt := 22) hx hb dX12_isSign_15 (by decide) (fun c3 => ?_) (fun c3 => ?_)
      · have hB := hB.2 c3
        refine lv_iconst (v := 0) hx hb dX12_isSign_22 (by decide) ?_
        exact hret _ _ _ _ _ _ dX12_isSign_23 ⟨by decide, hB⟩ hP hD hS
      · have hB := hB.1 c3
        refine lv_iconst (v := 1) hx hb dX12_isSign_18 (by decide) ?_
        refine lv_goto (tgt := 23) hx hb dX12_isSign_19 (by decide) ?_
        exact hret _ _ _ _ _ _ dX12_isSign_23 ⟨by decide, hB⟩ hP hD hS
set_option maxHeartbeats 4000000 in
set_option maxRecDepth 100000 in
theorem c_M_isSign (l : Launch) (G : GX) (z0 : St) (sz : Nat) (x0 : Int32) (post : Int32 → St → Prop) : MetI l wM yX12_isSign cX12_isSign 1 (some .boolean) ({ frames := 0, cells := 0, slots := 0, locals := 0 }) [.int x0] G z0 sz (S_M_isSign post x0 z0) post := by
  refine Met.ofW (cc := cX12_isSign) (maxL := 1) (ret := (some .boolean)) (by decide) rfl ?_
  intro p e s m args below meth c s₁ B hml hv
  obtain ⟨rfl, hsz, hP, hD0, hE, hB⟩ := hv
  have S : CallFix p m c cX12_isSign 1 s _ GW RX12 := ⟨B.exec, B.bytes, hml, findClass_of_methodNamed B.named, fun w h => atoms_spec (ws := Cond.code yX12_isSign cX12_isSign 1 (some .boolean) :: GW) B.pre w (List.mem_cons_of_mem _ h)⟩
  have hlocks := B.notSynchronized
  subst hsz
  have hD := hD0.self (sz := s.heap.size)
  generalize hAe : va_A (wM G z0) s.heap.size = A at hD hE ⊢
  have hA : ∀ q : Nat, s.heap.size ≤ q → A q := fun q h => by rw [← hAe]; exact Or.inr h
  have hS : va_S A s.heap s.heap [] := va_S.rf
  have hl := lv_entry ([.int x0]) (n := 1) (Nat.le_of_ble_eq_true rfl)
  rw [lg_entry_eq]
  generalize (lg_sl ([.int x0]) ++ List.replicate (1 - (lg_sl ([.int x0])).length) Slot.unset).toArray = ls at hl ⊢
  have hl : lv_has ls 1 [(0, .int x0)] := hl
  refine w_M_isSign_0 S hE hA (Nat.le_refl _) (Nat.le_refl _) ?_ x0 z0 hB _ _ _ hP hD hS hl
  intro pc ls r σ H locs hd hp hP hD hS
  exact W.zret (v := r) B.exec B.bytes B.returns (xboolc r hp.1) (fun t ht hW => ⟨⟨r, σ, rfl, hp.2, by rw [ht]; exact hP, hD⟩, hS.F ht⟩) hS.2.2 hd
def B_M_compares_12 (post : Int32 → St → Prop) (s0 : Int32) (z0 : St) : Prop :=
  (((gI z0 106) = (-1 : Int32) → (S_M_look (fun (r2 : Int32) (z1 : St) => (S_M_isSign (fun (r3 : Int32) (z2 : St) => ((r3 = 0 → (S_M_fails (fun (r11 : Int32) (z5 : St) => ((r11 = 0 ∨ r11 = 1) ∧ post r11 z5)) z2)) ∧ (¬ r3 = 0 → (∀ z3 : St, z3 = sI z2 105 ((gI z2 105) + (1 : Int32)) → (D_M_sum 8 (fun (r5 : Int32) (z4 : St) => ((r2 = (61 : Int32) → ((s0 = r5 → (post (1 : Int32) z4)) ∧ (¬ s0 = r5 → (post (0 : Int32) z4)))) ∧ (¬ r2 = (61 : Int32) → ((r2 = (60 : Int32) → ((r5 ≤ s0 → (post (0 : Int32) z4)) ∧ (¬ r5 ≤ s0 → (post (1 : Int32) z4)))) ∧ (¬ r2 = (60 : Int32) → ((s0 ≤ r5 → (post (0 : Int32) z4)) ∧ (¬ s0 ≤ r5 → (post (1 : Int32) z4)))))))) z3))))) r2 z1)) z0)) ∧ (¬ (gI z0 106) = (-1 : Int32) → (post (0 : Int32) z0)))
set_option maxHeartbeats 4000000 in
set_option maxRecDepth 100000 in
theorem w_M_compares_12 {p : Program} {l : Launch} {e : Env} {R : Room} {s : State} {m : MethodId} {args : Array Value} {below : List Frame} {meth : Method} {c : Code} {Q : State → Prop} {G : GX} {A : Nat → Prop} (S : CallFix p m c cX12_compares 6 s args GW RX12) (hE : env G A s s.heap) (hA : ∀ q, s.heap.size ≤ q → A q) (hRf : 30 ≤ R.frames) (hRl : 827 ≤ R.locals) {post : Int32 → St → Prop} (hret : RetZ p l e R s m args below meth c Q 0 0 wM G A cX12_compares post) (s0 : Int32) (z0 : St) (hB : B_M_compares_12 post s0 z0) : Xw p l e R s m args below meth c Q 0 0 wM G A z0 6 [(0, .ref (ad G 100))] 12 [.int s0] := by
  intro H locs ls hP hD hS hl
  have hx := S.1
  have hb := S.2.1
  refine lv_istore_n (lv' := [(3, .int s0), (0, .ref (ad G 100))]) hx hb dX12_compares_12 rfl hl (by decide) rfl (fun ls hl => ?_)
  refine lv_aload_n hx hb dX12_compares_13 rfl (lv_at hl 1 rfl) ?_
  refine xMg_100_fault S hE hP lk_X12_121 dX12_compares_14 ?_
  refine lv_iconst (v := -1) hx hb dX12_compares_17 (by decide) ?_
  refine lv_icmp_eq (tgt := 23) hx hb dX12_compares_18 (by decide) (fun c1 => ?_) (fun c1 => ?_)
  · have hB := hB.1 c1
    refine lv_aload_n hx hb dX12_compares_23 rfl (lv_at hl 1 rfl) ?_
    refine xcVi [] S hE hA hP hD hS (c_M_look l G z0 H.size _) hB (gw_c lk_X12_131 (gw_c wi_X12_look (gw_c we_X12_X12_look_X12_look (gw_c wn_X12 (gw_c wc_X12_look (fun _ h9 => h9)))))) hd_X12_look rfl rfl (Nat.le_trans (Nat.le_of_ble_eq_true rfl) hRf) (Nat.le_trans (Nat.le_of_ble_eq_true rfl) hRl) ⟨Nat.zero_le _, Nat.zero_le _⟩ (va_recv hE.1 hP (ci := 11) (q0 := 0) rfl rfl) rfl hl.1 rfl (Nat.le_of_ble_eq_true rfl) dX12_compares_24 (fun r2 z1 H locs hB hP hD hS => ?_)
    refine lv_istore (lv' := [(4, .int r2), (3, .int s0), (0, .ref (ad G 100))]) hx hb dX12_compares_27 hl (by decide) rfl (fun ls hl => ?_)
    refine lv_iload hx hb dX12_compares_29 (lv_at hl 0 rfl) ?_
    refine xcSi [.int r2] S hE hA hP hD hS (c_M_isSign l G z1 H.size r2 _) hB (gw_c lk_X12_174 (gw_c wt_X12_isSign (gw_c wn_X12 (gw_c wc_X12_isSign (fun _ h9 => h9))))) hs_X12_isSign rfl rfl (Nat.le_trans (Nat.le_of_ble_eq_true rfl) hRf) (Nat.le_trans (Nat.le_of_ble_eq_true rfl) hRl) ⟨Nat.zero_le _, Nat.zero_le _⟩ rfl hl.1 rfl (Nat.le_of_ble_eq_true rfl) dX12_compares_31 (fun r3 z2 H locs hB hP hD hS => ?_)
    refine lv_if_ne (tgt := 42) hx hb dX12_compares_34 (by decide) (fun c4 => ?_) (fun c4 => ?_)
    · have hB := hB.2 c4
      refine lv_aload_n hx hb dX12_compares_42 rfl (lv_at hl 2 rfl) ?_
      refine lv_dup hx hb dX12_compares_43 rfl ?_
      refine xMg_100_at S hE hP lk_X12_112 dX12_compares_44 ?_
      refine lv_iconst (v := 1) hx hb dX12_compares_47 (by decide) ?_
      refine lv_iadd hx hb dX12_compares_48 ?_
      obtain ⟨z3, ez3⟩ : ∃ z9, z9 = sI z2 105 ((gI z2 105) + (1 : Int32)) := ⟨_, rfl⟩
      have hB := hB z3 ez3
      refine xMp_100_at S hE hP hD hS lk_X12_112 dX12_compares_49 (fun H locs hP hD hS => ?_)
      rw [← ez3] at hP hD
      refine lv_aload_n hx hb dX12_compares_52 rfl (lv_at hl 2 rfl) ?_
      refine xcVi [] S hE hA hP hD hS (cd_M_sum l 8 G z3 H.size _) hB (gw_c lk_X12_154 (gw_c wi_X12_sum (gw_c we_X12_X12_sum_X12_sum (gw_c wn_X12 (gw_c wc_X12_sum (fun _ h9 => h9)))))) hd_X12_sum rfl rfl (Nat.le_trans (Nat.le_of_ble_eq_true rfl) hRf) (Nat.le_trans (Nat.le_of_ble_eq_true rfl) hRl) ⟨Nat.zero_le _, Nat.zero_le _⟩ (va_recv hE.1 hP (ci := 11) (q0 := 0) rfl rfl) rfl hl.1 rfl (Nat.le_of_ble_eq_true rfl) dX12_compares_53 (fun r5 z4 H locs hB hP hD hS => ?_)
      refine lv_istore (lv' := [(5, .int r5), (4, .int r2), (3, .int s0), (0, .ref (ad G 100))]) hx hb dX12_compares_56 hl (by decide) rfl (fun ls hl => ?_)
      refine lv_iload hx hb dX12_compares_58 (lv_at hl 1 rfl) ?_
      refine lv_bipush (v := 61) hx hb dX12_compares_60 (by decide) ?_
      refine lv_icmp_ne (tgt := 79) hx hb dX12_compares_62 (by decide) (fun c6 => ?_) (fun c6 => ?_)
      · have hB := hB.2 c6
        refine lv_iload hx hb dX12_compares_79 (lv_at hl 1 rfl) ?_
        refine lv_bipush (v := 60) hx hb dX12_compares_81 (by decide) ?_
        refine lv_icmp_ne (tgt := 100) hx hb dX12_compares_83 (by decide) (fun c7 => ?_) (fun c7 => ?_)
        · have hB := hB.2 c7
          refine lv_iload_n hx hb dX12_compares_100 rfl (lv_at hl 2 rfl) ?_
          refine lv_iload hx hb dX12_compares_101 (lv_at hl 0 rfl) ?_
          refine lv_icmp_le (tgt := 110) hx hb dX12_compares_103 (by decide) (fun c8 => ?_) (fun c8 => ?_)
          · have hB := hB.1 c8
            refine lv_iconst (v := 0) hx hb dX12_compares_110 (by decide) ?_
            exact hret _ _ _ _ _ _ dX12_compares_111 ⟨by decide, hB⟩ hP hD hS
          · have hB := hB.2 c8
            refine lv_iconst (v := 1) hx hb dX12_compares_106 (by decide) ?_
            refine lv_goto (tgt := 111) hx hb dX12_compares_107 (by decide) ?_
            exact hret _ _ _ _ _ _ dX12_compares_111 ⟨by decide, hB⟩ hP hD hS
        · have hB := hB.1 c7
          refine lv_iload_n hx hb dX12_compares_86 rfl (lv_at hl 2 rfl) ?_
          refine lv_iload hx hb dX12_compares_87 (lv_at hl 0 rfl) ?_
          refine lv_icmp_ge (tgt := 96) hx hb dX12_compares_89 (by decide) (fun c9 => ?_) (fun c9 => ?_)
          · have hB := hB.1 c9
            refine lv_iconst (v := 0) hx hb dX12_compares_96 (by decide) ?_
            refine lv_goto (tgt := 111) hx hb dX12_compares_97 (by decide) ?_
            exact hret _ _ _ _ _ _ dX12_compares_111 ⟨by decide, hB⟩ hP hD hS
          · have hB := hB.2 c9
            refine lv_iconst (v := 1) hx hb dX12_compares_92 (by decide) ?_
            refine lv_goto (tgt := 111) hx hb dX12_compares_93 (by decide) ?_
            exact hret _ _ _ _ _ _ dX12_compares_111 ⟨by decide, hB⟩ hP hD hS
      · have hB := hB.1 c6
        refine lv_iload_n hx hb dX12_compares_65 rfl (lv_at hl 2 rfl) ?_
        refine lv_iload hx hb dX12_compares_66 (lv_at hl 0 rfl) ?_
        refine lv_icmp_ne (tgt := 75) hx hb dX12_compares_68 (by decide) (fun c10 => ?_) (fun c10 => ?_)
        · have hB := hB.2 c10
          refine lv_iconst (v := 0) hx hb dX12_compares_75 (by decide) ?_
          refine lv_goto (tgt := 111) hx hb dX12_compares_76 (by decide) ?_
          exact hret _ _ _ _ _ _ dX12_compares_111 ⟨by decide, hB⟩ hP hD hS
        · have hB := hB.1 c10
          refine lv_iconst (v := 1) hx hb dX12_compares_71 (by decide) ?_
          refine lv_goto (tgt := 111) hx hb dX12_compares_72 (by decide) ?_
          exact hret _ _ _ _ _ _ dX12_compares_111 ⟨by decide, hB⟩ hP hD hS
    · have hB := hB.1 c4
      refine lv_aload_n hx hb dX12_compares_37 rfl (lv_at hl 2 rfl) ?_
      refine xcVi [] S hE hA hP hD hS (c_M_fails l G z2 H.size _) hB (gw_c lk_X12_127 (gw_c wi_X12_fails (gw_c we_X12_X12_fails_X12_fails (gw_c wn_X12 (gw_c wc_X12_fails (fun _ h9 => h9)))))) hd_X12_fails rfl rfl (Nat.le_trans (Nat.le_of_ble_eq_true rfl) hRf) (Nat.le_trans (Nat.le_of_ble_eq_true rfl) hRl) ⟨Nat.zero_le _, Nat.zero_le _⟩ (va_recv hE.1 hP (ci := 11) (q0 := 0) rfl rfl) rfl hl.1 rfl (Nat.le_of_ble_eq_true rfl) dX12_compares_38 (fun r11 z5 H locs hB hP hD hS => ?_)
      exact hret _ _ _ _ _ _ dX12_compares_41 hB hP hD hS
  · have hB := hB.2 c1
    refine lv_iconst (v := 0) hx hb dX12_compares_21 (by decide) ?_
    exact hret _ _ _ _ _ _ dX12_compares_22 ⟨by decide, hB⟩ hP hD hS
def S_M_compares (post : Int32 → St → Prop) (x1 : Int32) (x2 : Int32) (z0 : St) : Prop :=
  ((x1 = 0 → (D_M_sum 8 (fun (r2 : Int32) (z1 : St) => (B_M_compares_12 post r2 z1)) z0)) ∧ (¬ x1 = 0 → (B_M_compares_12 post x2 z0)))
set_option maxHeartbeats 4000000 in
set_option maxRecDepth 100000 in
theorem w_M_compares_0 {p : Program} {l : Launch} {e : Env} {R : Room} {s : State} {m : MethodId} {args : Array Value} {below : List Frame} {meth : Method} {c : Code} {Q : State → Prop} {G : GX} {A : Nat → Prop} (S : CallFix p m c cX12_compares 6 s args GW RX12) (hE : env G A s s.heap) (hA : ∀ q, s.heap.size ≤ q → A q) (hRf : 30 ≤ R.frames) (hRl : 827 ≤ R.locals) {post : Int32 → St → Prop} (hret : RetZ p l e R s m args below meth c Q 0 0 wM G A cX12_compares post) (x1 : Int32) (x2 : Int32) (z0 : St) (hB : S_M_compares post x1 x2 z0) : Xw p l e R s m args below meth c Q 0 0 wM G A z0 6 [(0, .ref (ad G 100)), (1, .int x1), (2, .int x2)] 0 [] := by
  intro H locs ls hP hD hS hl
  have hx := S.1
  have hb := S.2.1
  refine lv_iload_n hx hb dX12_compares_0 rfl (lv_at hl 1 rfl) ?_
  refine lv_if_eq (tgt := 8) hx hb dX12_compares_1 (by decide) (fun c1 => ?_) (fun c1 => ?_)
  · have hB := hB.1 c1
    refine lv_aload_n hx hb dX12_compares_8 rfl (lv_at hl 0 rfl) ?_
    refine xcVi [] S hE hA hP hD hS (cd_M_sum l 8 G z0 H.size _) hB (gw_c lk_X12_154 (gw_c wi_X12_sum (gw_c we_X12_X12_sum_X12_sum (gw_c wn_X12 (gw_c wc_X12_sum (fun _ h9 => h9)))))) hd_X12_sum rfl rfl (Nat.le_trans (Nat.le_of_ble_eq_true rfl) hRf) (Nat.le_trans (Nat.le_of_ble_eq_true rfl) hRl) ⟨Nat.zero_le _, Nat.zero_le _⟩ (va_recv hE.1 hP (ci := 11) (q0 := 0) rfl rfl) rfl hl.1 rfl (Nat.le_of_ble_eq_true rfl) dX12_compares_9 (fun r2 z1 H locs hB hP hD hS => ?_)
    exact w_M_compares_12 S hE hA hRf hRl hret r2 z1 hB _ _ _ hP hD hS (lv_sub hl [0] rfl)
  · have hB := hB.2 c1
    refine lv_iload_n hx hb dX12_compares_4 rfl (lv_at hl 2 rfl) ?_
    refine lv_goto (tgt := 12) hx hb dX12_compares_5 (by decide) ?_
    exact w_M_compares_12 S hE hA hRf hRl hret x2 z0 hB _ _ _ hP hD hS (lv_sub hl [0] rfl)
set_option maxHeartbeats 4000000 in
set_option maxRecDepth 100000 in
theorem c_M_compares (l : Launch) (G : GX) (z0 : St) (sz : Nat) (x1 : Int32) (x2 : Int32) (post : Int32 → St → Prop) : MetI l wM yX12_compares cX12_compares 6 (some .boolean) ({ frames := 30, cells := 0, slots := 0, locals := 827 }) [.ref (ad G 100), .int x1, .int x2] G z0 sz (S_M_compares post x1 x2 z0) post := by
  refine Met.ofW (cc := cX12_compares) (maxL := 6) (ret := (some .boolean)) (by decide) rfl ?_
  intro p e s m args below meth c s₁ B hml hv
  obtain ⟨rfl, hsz, hP, hD0, hE, hB⟩ := hv
  have S : CallFix p m c cX12_compares 6 s _ GW RX12 := ⟨B.exec, B.bytes, hml, findClass_of_methodNamed B.named, fun w h => atoms_spec (ws := Cond.code yX12_compares cX12_compares 6 (some .boolean) :: GW) B.pre w (List.mem_cons_of_mem _ h)⟩
  have hlocks := B.notSynchronized
  subst hsz
  have hD := hD0.self (sz := s.heap.size)
  generalize hAe : va_A (wM G z0) s.heap.size = A at hD hE ⊢
  have hA : ∀ q : Nat, s.heap.size ≤ q → A q := fun q h => by rw [← hAe]; exact Or.inr h
  have hS : va_S A s.heap s.heap [] := va_S.rf
  have hl := lv_entry ([.ref (ad G 100), .int x1, .int x2]) (n := 6) (Nat.le_of_ble_eq_true rfl)
  rw [lg_entry_eq]
  generalize (lg_sl ([.ref (ad G 100), .int x1, .int x2]) ++ List.replicate (6 - (lg_sl ([.ref (ad G 100), .int x1, .int x2])).length) Slot.unset).toArray = ls at hl ⊢
  have hl : lv_has ls 6 [(0, .ref (ad G 100)), (1, .int x1), (2, .int x2)] := hl
  refine w_M_compares_0 S hE hA (Nat.le_refl _) (Nat.le_refl _) ?_ x1 x2 z0 hB _ _ _ hP hD hS hl
  intro pc ls r σ H locs hd hp hP hD hS
  exact W.zret (v := r) B.exec B.bytes B.returns (xboolc r hp.1) (fun t ht hW => ⟨⟨r, σ, rfl, hp.2, by rw [ht]; exact hP, hD⟩, hS.F ht⟩) hS.2.2 hd
def B_M_part_65 (rq : (Int32 → St → Prop) → St → Prop) (post : Int32 → St → Prop) (ih18 : Int32 → St → Prop) (s0 : Int32) (z0 : St) : Prop :=
  (ih18 s0 z0)
set_option maxHeartbeats 4000000 in
set_option maxRecDepth 100000 in
theorem w_M_part_65 {p : Program} {l : Launch} {e : Env} {R : Room} {s : State} {m : MethodId} {args : Array Value} {below : List Frame} {meth : Method} {c : Code} {Q : State → Prop} {G : GX} {A : Nat → Prop} {rq : (Int32 → St → Prop) → St → Prop} {frec lrec : Nat} (S : CallFix p m c cX12_part 5 s args GW RX12) (hE : env G A s s.heap) (hA : ∀ q, s.heap.size ≤ q → A q) (hRf : frec + 1 ≤ R.frames) (hRl : lrec + 40 ≤ R.locals) (hq : ∀ (G : GX) (z0 : St) (sz : Nat) (post : Int32 → St → Prop), MetI l wM yX12_unit cX12_unit 3 (some .boolean) { frames := frec, cells := 0, slots := 0, locals := lrec } [.ref (ad G 100)] G z0 sz (rq post  z0) post) (hfb : 31 ≤ frec ∧ 852 ≤ lrec) {post : Int32 → St → Prop} (hret : RetZ p l e R s m args below meth c Q 0 0 wM G A cX12_part post) {ih18 : Int32 → St → Prop} (h18 : ∀ (x3 : Int32) (z0 : St), ih18 x3 z0 → Xw p l e R s m args below meth c Q 0 0 wM G A z0 5 [(0, .ref (ad G 100)), (3, .int x3)] 18 []) (s0 : Int32) (z0 : St) (hB : B_M_part_65 rq post ih18 s0 z0) : Xw p l e R s m args below meth c Q 0 0 wM G A z0 5 [(0, .ref (ad G 100))] 65 [.int s0] := by
  intro H locs ls hP hD hS hl
  have hx := S.1
  have hb := S.2.1
  refine lv_istore_n (lv' := [(3, .int s0), (0, .ref (ad G 100))]) hx hb dX12_part_65 rfl hl (by decide) rfl (fun ls hl => ?_)
  refine lv_goto (tgt := 18) hx hb dX12_part_66 (by decide) ?_
  exact h18 s0 z0 hB _ _ _ hP hD hS (lv_sub hl [1, 0] rfl)
def B_M_part_64 (rq : (Int32 → St → Prop) → St → Prop) (post : Int32 → St → Prop) (ih18 : Int32 → St → Prop) (z0 : St) : Prop :=
  (B_M_part_65 rq post ih18 (0 : Int32) z0)
set_option maxHeartbeats 4000000 in
set_option maxRecDepth 100000 in
theorem w_M_part_64 {p : Program} {l : Launch} {e : Env} {R : Room} {s : State} {m : MethodId} {args : Array Value} {below : List Frame} {meth : Method} {c : Code} {Q : State → Prop} {G : GX} {A : Nat → Prop} {rq : (Int32 → St → Prop) → St → Prop} {frec lrec : Nat} (S : CallFix p m c cX12_part 5 s args GW RX12) (hE : env G A s s.heap) (hA : ∀ q, s.heap.size ≤ q → A q) (hRf : frec + 1 ≤ R.frames) (hRl : lrec + 40 ≤ R.locals) (hq : ∀ (G : GX) (z0 : St) (sz : Nat) (post : Int32 → St → Prop), MetI l wM yX12_unit cX12_unit 3 (some .boolean) { frames := frec, cells := 0, slots := 0, locals := lrec } [.ref (ad G 100)] G z0 sz (rq post  z0) post) (hfb : 31 ≤ frec ∧ 852 ≤ lrec) {post : Int32 → St → Prop} (hret : RetZ p l e R s m args below meth c Q 0 0 wM G A cX12_part post) {ih18 : Int32 → St → Prop} (h18 : ∀ (x3 : Int32) (z0 : St), ih18 x3 z0 → Xw p l e R s m args below meth c Q 0 0 wM G A z0 5 [(0, .ref (ad G 100)), (3, .int x3)] 18 []) (z0 : St) (hB : B_M_part_64 rq post ih18 z0) : Xw p l e R s m args below meth c Q 0 0 wM G A z0 5 [(0, .ref (ad G 100))] 64 [] := by
  intro H locs ls hP hD hS hl
  have hx := S.1
  have hb := S.2.1
  refine lv_iconst (v := 0) hx hb dX12_part_64 (by decide) ?_
  exact w_M_part_65 S hE hA hRf hRl hq hfb hret h18 (0 : Int32) z0 hB _ _ _ hP hD hS (lv_sub hl [0] rfl)
def B_M_part_18 (rq : (Int32 → St → Prop) → St → Prop) (post : Int32 → St → Prop) (ih18 : Int32 → St → Prop) (x3 : Int32) (z0 : St) : Prop :=
  (((gI z0 106) = (-1 : Int32) → (S_M_look (fun (r2 : Int32) (z1 : St) => ((r2 = (38 : Int32) → (∀ z2 : St, z2 = sI z1 105 ((gI z1 105) + (1 : Int32)) → (rq (fun (r4 : Int32) (z3 : St) => ((x3 = 0 → (B_M_part_64 rq post ih18 z3)) ∧ (¬ x3 = 0 → ((r4 = 0 → (B_M_part_64 rq post ih18 z3)) ∧ (¬ r4 = 0 → (B_M_part_65 rq post ih18 (1 : Int32) z3)))))) z2))) ∧ (¬ r2 = (38 : Int32) → ((x3 = 0 ∨ x3 = 1) ∧ post x3 z1)))) z0)) ∧ (¬ (gI z0 106) = (-1 : Int32) → ((x3 = 0 ∨ x3 = 1) ∧ post x3 z0)))
set_option maxHeartbeats 4000000 in
set_option maxRecDepth 100000 in
theorem w_M_part_18 {p : Program} {l : Launch} {e : Env} {R : Room} {s : State} {m : MethodId} {args : Array Value} {below : List Frame} {meth : Method} {c : Code} {Q : State → Prop} {G : GX} {A : Nat → Prop} {rq : (Int32 → St → Prop) → St → Prop} {frec lrec : Nat} (S : CallFix p m c cX12_part 5 s args GW RX12) (hE : env G A s s.heap) (hA : ∀ q, s.heap.size ≤ q → A q) (hRf : frec + 1 ≤ R.frames) (hRl : lrec + 40 ≤ R.locals) (hq : ∀ (G : GX) (z0 : St) (sz : Nat) (post : Int32 → St → Prop), MetI l wM yX12_unit cX12_unit 3 (some .boolean) { frames := frec, cells := 0, slots := 0, locals := lrec } [.ref (ad G 100)] G z0 sz (rq post  z0) post) (hfb : 31 ≤ frec ∧ 852 ≤ lrec) {post : Int32 → St → Prop} (hret : RetZ p l e R s m args below meth c Q 0 0 wM G A cX12_part post) {ih18 : Int32 → St → Prop} (h18 : ∀ (x3 : Int32) (z0 : St), ih18 x3 z0 → Xw p l e R s m args below meth c Q 0 0 wM G A z0 5 [(0, .ref (ad G 100)), (3, .int x3)] 18 []) (x3 : Int32) (z0 : St) (hB : B_M_part_18 rq post ih18 x3 z0) : Xw p l e R s m args below meth c Q 0 0 wM G A z0 5 [(0, .ref (ad G 100)), (3, .int x3)] 18 [] := by
  intro H locs ls hP hD hS hl
  have hx := S.1
  have hb := S.2.1
  refine lv_aload_n hx hb dX12_part_18 rfl (lv_at hl 0 rfl) ?_
  refine xMg_100_fault S hE hP lk_X12_121 dX12_part_19 ?_
  refine lv_iconst (v := -1) hx hb dX12_part_22 (by decide) ?_
  refine lv_icmp_ne (tgt := 69) hx hb dX12_part_23 (by decide) (fun c1 => ?_) (fun c1 => ?_)
  · have hB := hB.2 c1
    refine lv_iload_n hx hb dX12_part_69 rfl (lv_at hl 1 rfl) ?_
    exact hret _ _ _ _ _ _ dX12_part_70 hB hP hD hS
  · have hB := hB.1 c1
    refine lv_aload_n hx hb dX12_part_26 rfl (lv_at hl 0 rfl) ?_
    refine xcVi [] S hE hA hP hD hS (c_M_look l G z0 H.size _) hB (gw_c lk_X12_131 (gw_c wi_X12_look (gw_c we_X12_X12_look_X12_look (gw_c wn_X12 (gw_c wc_X12_look (fun _ h9 => h9)))))) hd_X12_look rfl rfl (Nat.le_trans (show 0 + 1 ≤ frec + 1 by omega) hRf) (Nat.le_trans (show 8 + (1 + 11) + (0) ≤ lrec + 40 by omega) hRl) ⟨Nat.zero_le _, Nat.zero_le _⟩ (va_recv hE.1 hP (ci := 11) (q0 := 0) rfl rfl) rfl hl.1 rfl (Nat.le_of_ble_eq_true rfl) dX12_part_27 (fun r2 z1 H locs hB hP hD hS => ?_)
    refine lv_bipush (v := 38) hx hb dX12_part_30 (by decide) ?_
    refine lv_icmp_ne (tgt := 69) hx hb dX12_part_32 (by decide) (fun c3 => ?_) (fun c3 => ?_)
    · have hB := hB.2 c3
      refine lv_iload_n hx hb dX12_part_69 rfl (lv_at hl 1 rfl) ?_
      exact hret _ _ _ _ _ _ dX12_part_70 hB hP hD hS
    · have hB := hB.1 c3
      refine lv_aload_n hx hb dX12_part_35 rfl (lv_at hl 0 rfl) ?_
      refine lv_dup hx hb dX12_part_36 rfl ?_
      refine xMg_100_at S hE hP lk_X12_112 dX12_part_37 ?_
      refine lv_iconst (v := 1) hx hb dX12_part_40 (by decide) ?_
      refine lv_iadd hx hb dX12_part_41 ?_
      obtain ⟨z2, ez2⟩ : ∃ z9, z9 = sI z1 105 ((gI z1 105) + (1 : Int32)) := ⟨_, rfl⟩
      have hB := hB z2 ez2
      refine xMp_100_at S hE hP hD hS lk_X12_112 dX12_part_42 (fun H locs hP hD hS => ?_)
      rw [← ez2] at hP hD
      refine lv_aload_n hx hb dX12_part_45 rfl (lv_at hl 0 rfl) ?_
      refine xcVi [] S hE hA hP hD hS (hq G z2 H.size _) hB (gw_c lk_X12_177 (gw_c wi_X12_unit (gw_c we_X12_X12_unit_X12_unit (gw_c wn_X12 (gw_c wc_X12_unit (fun _ h9 => h9)))))) hd_X12_unit rfl rfl (Nat.le_trans (show frec + 1 ≤ frec + 1 by omega) hRf) (Nat.le_trans (show 8 + (3 + 11) + (lrec) ≤ lrec + 40 by omega) hRl) ⟨Nat.zero_le _, Nat.zero_le _⟩ (va_recv hE.1 hP (ci := 11) (q0 := 0) rfl rfl) rfl hl.1 rfl (Nat.le_of_ble_eq_true rfl) dX12_part_46 (fun r4 z3 H locs hB hP hD hS => ?_)
      refine lv_istore (lv' := [(4, .int r4), (0, .ref (ad G 100)), (3, .int x3)]) hx hb dX12_part_49 hl (by decide) rfl (fun ls hl => ?_)
      refine lv_iload_n hx hb dX12_part_51 rfl (lv_at hl 2 rfl) ?_
      refine lv_if_eq (tgt := 64) hx hb dX12_part_52 (by decide) (fun c5 => ?_) (fun c5 => ?_)
      · have hB := hB.1 c5
        exact w_M_part_64 S hE hA hRf hRl hq hfb hret h18 z3 hB _ _ _ hP hD hS (lv_sub hl [1] rfl)
      · have hB := hB.2 c5
        refine lv_iload hx hb dX12_part_55 (lv_at hl 0 rfl) ?_
        refine lv_if_eq (tgt := 64) hx hb dX12_part_57 (by decide) (fun c6 => ?_) (fun c6 => ?_)
        · have hB := hB.1 c6
          exact w_M_part_64 S hE hA hRf hRl hq hfb hret h18 z3 hB _ _ _ hP hD hS (lv_sub hl [1] rfl)
        · have hB := hB.2 c6
          refine lv_iconst (v := 1) hx hb dX12_part_60 (by decide) ?_
          refine lv_goto (tgt := 65) hx hb dX12_part_61 (by decide) ?_
          exact w_M_part_65 S hE hA hRf hRl hq hfb hret h18 (1 : Int32) z3 hB _ _ _ hP hD hS (lv_sub hl [1] rfl)
def L_M_part_18 (rq : (Int32 → St → Prop) → St → Prop) (post : Int32 → St → Prop) : Nat → Int32 → St → Prop
  | 0 => fun _ _ => False
  | n + 1 => B_M_part_18 rq post (L_M_part_18 rq post n)
theorem wl_M_part_18 {p : Program} {l : Launch} {e : Env} {R : Room} {s : State} {m : MethodId} {args : Array Value} {below : List Frame} {meth : Method} {c : Code} {Q : State → Prop} {G : GX} {A : Nat → Prop} {rq : (Int32 → St → Prop) → St → Prop} {frec lrec : Nat} (S : CallFix p m c cX12_part 5 s args GW RX12) (hE : env G A s s.heap) (hA : ∀ q, s.heap.size ≤ q → A q) (hRf : frec + 1 ≤ R.frames) (hRl : lrec + 40 ≤ R.locals) (hq : ∀ (G : GX) (z0 : St) (sz : Nat) (post : Int32 → St → Prop), MetI l wM yX12_unit cX12_unit 3 (some .boolean) { frames := frec, cells := 0, slots := 0, locals := lrec } [.ref (ad G 100)] G z0 sz (rq post  z0) post) (hfb : 31 ≤ frec ∧ 852 ≤ lrec) {post : Int32 → St → Prop} (hret : RetZ p l e R s m args below meth c Q 0 0 wM G A cX12_part post) : ∀ (n : Nat) (x3 : Int32) (z0 : St), L_M_part_18 rq post n x3 z0 → Xw p l e R s m args below meth c Q 0 0 wM G A z0 5 [(0, .ref (ad G 100)), (3, .int x3)] 18 [] := by
  intro n
  induction n with
  | zero => intro x3 z0 hB; exact absurd hB id
  | succ n ih => exact fun x3 z0 hB => w_M_part_18 S hE hA hRf hRl hq hfb hret ih x3 z0 hB
def B_M_part_17 (rq : (Int32 → St → Prop) → St → Prop) (post : Int32 → St → Prop) (s0 : Int32) (z0 : St) : Prop :=
  (∃ n1, L_M_part_18 rq post n1 s0 z0)
set_option maxHeartbeats 4000000 in
set_option maxRecDepth 100000 in
theorem w_M_part_17 {p : Program} {l : Launch} {e : Env} {R : Room} {s : State} {m : MethodId} {args : Array Value} {below : List Frame} {meth : Method} {c : Code} {Q : State → Prop} {G : GX} {A : Nat → Prop} {rq : (Int32 → St → Prop) → St → Prop} {frec lrec : Nat} (S : CallFix p m c cX12_part 5 s args GW RX12) (hE : env G A s s.heap) (hA : ∀ q, s.heap.size ≤ q → A q) (hRf : frec + 1 ≤ R.frames) (hRl : lrec + 40 ≤ R.locals) (hq : ∀ (G : GX) (z0 : St) (sz : Nat) (post : Int32 → St → Prop), MetI l wM yX12_unit cX12_unit 3 (some .boolean) { frames := frec, cells := 0, slots := 0, locals := lrec } [.ref (ad G 100)] G z0 sz (rq post  z0) post) (hfb : 31 ≤ frec ∧ 852 ≤ lrec) {post : Int32 → St → Prop} (hret : RetZ p l e R s m args below meth c Q 0 0 wM G A cX12_part post) (s0 : Int32) (z0 : St) (hB : B_M_part_17 rq post s0 z0) : Xw p l e R s m args below meth c Q 0 0 wM G A z0 5 [(0, .ref (ad G 100))] 17 [.int s0] := by
  intro H locs ls hP hD hS hl
  have hx := S.1
  have hb := S.2.1
  refine lv_istore_n (lv' := [(3, .int s0), (0, .ref (ad G 100))]) hx hb dX12_part_17 rfl hl (by decide) rfl (fun ls hl => ?_)
  obtain ⟨n1, hB⟩ := hB
  exact wl_M_part_18 S hE hA hRf hRl hq hfb hret n1 s0 z0 hB _ _ _ hP hD hS (lv_sub hl [1, 0] rfl)
def S_M_part (rq : (Int32 → St → Prop) → St → Prop) (post : Int32 → St → Prop) (x1 : Int32) (x2 : Int32) (z0 : St) : Prop :=
  ((x1 = 0 → (rq (fun (r2 : Int32) (z1 : St) => (B_M_part_17 rq post r2 z1)) z0)) ∧ (¬ x1 = 0 → (S_M_compares (fun (r3 : Int32) (z2 : St) => (B_M_part_17 rq post r3 z2)) (1 : Int32) x2 z0)))
set_option maxHeartbeats 4000000 in
set_option maxRecDepth 100000 in
theorem w_M_part_0 {p : Program} {l : Launch} {e : Env} {R : Room} {s : State} {m : MethodId} {args : Array Value} {below : List Frame} {meth : Method} {c : Code} {Q : State → Prop} {G : GX} {A : Nat → Prop} {rq : (Int32 → St → Prop) → St → Prop} {frec lrec : Nat} (S : CallFix p m c cX12_part 5 s args GW RX12) (hE : env G A s s.heap) (hA : ∀ q, s.heap.size ≤ q → A q) (hRf : frec + 1 ≤ R.frames) (hRl : lrec + 40 ≤ R.locals) (hq : ∀ (G : GX) (z0 : St) (sz : Nat) (post : Int32 → St → Prop), MetI l wM yX12_unit cX12_unit 3 (some .boolean) { frames := frec, cells := 0, slots := 0, locals := lrec } [.ref (ad G 100)] G z0 sz (rq post  z0) post) (hfb : 31 ≤ frec ∧ 852 ≤ lrec) {post : Int32 → St → Prop} (hret : RetZ p l e R s m args below meth c Q 0 0 wM G A cX12_part post) (x1 : Int32) (x2 : Int32) (z0 : St) (hB : S_M_part rq post x1 x2 z0) : Xw p l e R s m args below meth c Q 0 0 wM G A z0 5 [(0, .ref (ad G 100)), (1, .int x1), (2, .int x2)] 0 [] := by
  intro H locs ls hP hD hS hl
  have hx := S.1
  have hb := S.2.1
  refine lv_iload_n hx hb dX12_part_0 rfl (lv_at hl 1 rfl) ?_
  refine lv_if_eq (tgt := 13) hx hb dX12_part_1 (by decide) (fun c1 => ?_) (fun c1 => ?_)
  · have hB := hB.1 c1
    refine lv_aload_n hx hb dX12_part_13 rfl (lv_at hl 0 rfl) ?_
    refine xcVi [] S hE hA hP hD hS (hq G z0 H.size _) hB (gw_c lk_X12_177 (gw_c wi_X12_unit (gw_c we_X12_X12_unit_X12_unit (gw_c wn_X12 (gw_c wc_X12_unit (fun _ h9 => h9)))))) hd_X12_unit rfl rfl (Nat.le_trans (show frec + 1 ≤ frec + 1 by omega) hRf) (Nat.le_trans (show 8 + (3 + 11) + (lrec) ≤ lrec + 40 by omega) hRl) ⟨Nat.zero_le _, Nat.zero_le _⟩ (va_recv hE.1 hP (ci := 11) (q0 := 0) rfl rfl) rfl hl.1 rfl (Nat.le_of_ble_eq_true rfl) dX12_part_14 (fun r2 z1 H locs hB hP hD hS => ?_)
    exact w_M_part_17 S hE hA hRf hRl hq hfb hret r2 z1 hB _ _ _ hP hD hS (lv_sub hl [0] rfl)
  · have hB := hB.2 c1
    refine lv_aload_n hx hb dX12_part_4 rfl (lv_at hl 0 rfl) ?_
    refine lv_iconst (v := 1) hx hb dX12_part_5 (by decide) ?_
    refine lv_iload_n hx hb dX12_part_6 rfl (lv_at hl 2 rfl) ?_
    refine xcVi [.int (1 : Int32), .int x2] S hE hA hP hD hS (c_M_compares l G z0 H.size (1 : Int32) x2 _) hB (gw_c lk_X12_184 (gw_c wi_X12_compares (gw_c we_X12_X12_compares_X12_compares (gw_c wn_X12 (gw_c wc_X12_compares (fun _ h9 => h9)))))) hd_X12_compares rfl rfl (Nat.le_trans (show 30 + 1 ≤ frec + 1 by omega) hRf) (Nat.le_trans (show 8 + (6 + 11) + (827) ≤ lrec + 40 by omega) hRl) ⟨Nat.zero_le _, Nat.zero_le _⟩ (va_recv hE.1 hP (ci := 11) (q0 := 0) rfl rfl) rfl hl.1 rfl (Nat.le_of_ble_eq_true rfl) dX12_part_7 (fun r3 z2 H locs hB hP hD hS => ?_)
    refine lv_goto (tgt := 17) hx hb dX12_part_10 (by decide) ?_
    exact w_M_part_17 S hE hA hRf hRl hq hfb hret r3 z2 hB _ _ _ hP hD hS (lv_sub hl [0] rfl)
set_option maxHeartbeats 4000000 in
set_option maxRecDepth 100000 in
theorem c_M_part (l : Launch) {rq : (Int32 → St → Prop) → St → Prop} {frec lrec : Nat} (hq : ∀ (G : GX) (z0 : St) (sz : Nat) (post : Int32 → St → Prop), MetI l wM yX12_unit cX12_unit 3 (some .boolean) { frames := frec, cells := 0, slots := 0, locals := lrec } [.ref (ad G 100)] G z0 sz (rq post  z0) post) (hfb : 31 ≤ frec ∧ 852 ≤ lrec) (G : GX) (z0 : St) (sz : Nat) (x1 : Int32) (x2 : Int32) (post : Int32 → St → Prop) : MetI l wM yX12_part cX12_part 5 (some .boolean) ({ frames := frec + 1, cells := 0, slots := 0, locals := lrec + 40 }) [.ref (ad G 100), .int x1, .int x2] G z0 sz (S_M_part rq post x1 x2 z0) post := by
  refine Met.ofW (cc := cX12_part) (maxL := 5) (ret := (some .boolean)) (by decide) rfl ?_
  intro p e s m args below meth c s₁ B hml hv
  obtain ⟨rfl, hsz, hP, hD0, hE, hB⟩ := hv
  have S : CallFix p m c cX12_part 5 s _ GW RX12 := ⟨B.exec, B.bytes, hml, findClass_of_methodNamed B.named, fun w h => atoms_spec (ws := Cond.code yX12_part cX12_part 5 (some .boolean) :: GW) B.pre w (List.mem_cons_of_mem _ h)⟩
  have hlocks := B.notSynchronized
  subst hsz
  have hD := hD0.self (sz := s.heap.size)
  generalize hAe : va_A (wM G z0) s.heap.size = A at hD hE ⊢
  have hA : ∀ q : Nat, s.heap.size ≤ q → A q := fun q h => by rw [← hAe]; exact Or.inr h
  have hS : va_S A s.heap s.heap [] := va_S.rf
  have hl := lv_entry ([.ref (ad G 100), .int x1, .int x2]) (n := 5) (Nat.le_of_ble_eq_true rfl)
  rw [lg_entry_eq]
  generalize (lg_sl ([.ref (ad G 100), .int x1, .int x2]) ++ List.replicate (5 - (lg_sl ([.ref (ad G 100), .int x1, .int x2])).length) Slot.unset).toArray = ls at hl ⊢
  have hl : lv_has ls 5 [(0, .ref (ad G 100)), (1, .int x1), (2, .int x2)] := hl
  refine w_M_part_0 S hE hA (Nat.le_refl _) (Nat.le_refl _) hq hfb ?_ x1 x2 z0 hB _ _ _ hP hD hS hl
  intro pc ls r σ H locs hd hp hP hD hS
  exact W.zret (v := r) B.exec B.bytes B.returns (xboolc r hp.1) (fun t ht hW => ⟨⟨r, σ, rfl, hp.2, by rw [ht]; exact hP, hD⟩, hS.F ht⟩) hS.2.2 hd
def B_M_condition_56 (rq : (Int32 → St → Prop) → St → Prop) (post : Int32 → St → Prop) (ih7 : Int32 → St → Prop) (s0 : Int32) (z0 : St) : Prop :=
  (ih7 s0 z0)
set_option maxHeartbeats 4000000 in
set_option maxRecDepth 100000 in
theorem w_M_condition_56 {p : Program} {l : Launch} {e : Env} {R : Room} {s : State} {m : MethodId} {args : Array Value} {below : List Frame} {meth : Method} {c : Code} {Q : State → Prop} {G : GX} {A : Nat → Prop} {rq : (Int32 → St → Prop) → St → Prop} {frec lrec : Nat} (S : CallFix p m c cX12_condition 5 s args GW RX12) (hE : env G A s s.heap) (hA : ∀ q, s.heap.size ≤ q → A q) (hRf : frec + 2 ≤ R.frames) (hRl : lrec + 64 ≤ R.locals) (hq : ∀ (G : GX) (z0 : St) (sz : Nat) (post : Int32 → St → Prop), MetI l wM yX12_unit cX12_unit 3 (some .boolean) { frames := frec, cells := 0, slots := 0, locals := lrec } [.ref (ad G 100)] G z0 sz (rq post  z0) post) (hfb : 31 ≤ frec ∧ 852 ≤ lrec) {post : Int32 → St → Prop} (hret : RetZ p l e R s m args below meth c Q 0 0 wM G A cX12_condition post) {ih7 : Int32 → St → Prop} (h7 : ∀ (x3 : Int32) (z0 : St), ih7 x3 z0 → Xw p l e R s m args below meth c Q 0 0 wM G A z0 5 [(0, .ref (ad G 100)), (3, .int x3)] 7 []) (s0 : Int32) (z0 : St) (hB : B_M_condition_56 rq post ih7 s0 z0) : Xw p l e R s m args below meth c Q 0 0 wM G A z0 5 [(0, .ref (ad G 100))] 56 [.int s0] := by
  intro H locs ls hP hD hS hl
  have hx := S.1
  have hb := S.2.1
  refine lv_istore_n (lv' := [(3, .int s0), (0, .ref (ad G 100))]) hx hb dX12_condition_56 rfl hl (by decide) rfl (fun ls hl => ?_)
  refine lv_goto (tgt := 7) hx hb dX12_condition_57 (by decide) ?_
  exact h7 s0 z0 hB _ _ _ hP hD hS (lv_sub hl [1, 0] rfl)
def B_M_condition_51 (rq : (Int32 → St → Prop) → St → Prop) (post : Int32 → St → Prop) (ih7 : Int32 → St → Prop) (z0 : St) : Prop :=
  (B_M_condition_56 rq post ih7 (1 : Int32) z0)
set_option maxHeartbeats 4000000 in
set_option maxRecDepth 100000 in
theorem w_M_condition_51 {p : Program} {l : Launch} {e : Env} {R : Room} {s : State} {m : MethodId} {args : Array Value} {below : List Frame} {meth : Method} {c : Code} {Q : State → Prop} {G : GX} {A : Nat → Prop} {rq : (Int32 → St → Prop) → St → Prop} {frec lrec : Nat} (S : CallFix p m c cX12_condition 5 s args GW RX12) (hE : env G A s s.heap) (hA : ∀ q, s.heap.size ≤ q → A q) (hRf : frec + 2 ≤ R.frames) (hRl : lrec + 64 ≤ R.locals) (hq : ∀ (G : GX) (z0 : St) (sz : Nat) (post : Int32 → St → Prop), MetI l wM yX12_unit cX12_unit 3 (some .boolean) { frames := frec, cells := 0, slots := 0, locals := lrec } [.ref (ad G 100)] G z0 sz (rq post  z0) post) (hfb : 31 ≤ frec ∧ 852 ≤ lrec) {post : Int32 → St → Prop} (hret : RetZ p l e R s m args below meth c Q 0 0 wM G A cX12_condition post) {ih7 : Int32 → St → Prop} (h7 : ∀ (x3 : Int32) (z0 : St), ih7 x3 z0 → Xw p l e R s m args below meth c Q 0 0 wM G A z0 5 [(0, .ref (ad G 100)), (3, .int x3)] 7 []) (z0 : St) (hB : B_M_condition_51 rq post ih7 z0) : Xw p l e R s m args below meth c Q 0 0 wM G A z0 5 [(0, .ref (ad G 100))] 51 [] := by
  intro H locs ls hP hD hS hl
  have hx := S.1
  have hb := S.2.1
  refine lv_iconst (v := 1) hx hb dX12_condition_51 (by decide) ?_
  refine lv_goto (tgt := 56) hx hb dX12_condition_52 (by decide) ?_
  exact w_M_condition_56 S hE hA hRf hRl hq hfb hret h7 (1 : Int32) z0 hB _ _ _ hP hD hS (lv_sub hl [0] rfl)
def B_M_condition_7 (rq : (Int32 → St → Prop) → St → Prop) (post : Int32 → St → Prop) (ih7 : Int32 → St → Prop) (x3 : Int32) (z0 : St) : Prop :=
  (((gI z0 106) = (-1 : Int32) → (S_M_look (fun (r2 : Int32) (z1 : St) => ((r2 = (124 : Int32) → (∀ z2 : St, z2 = sI z1 105 ((gI z1 105) + (1 : Int32)) → (S_M_part rq (fun (r4 : Int32) (z3 : St) => ((x3 = 0 → ((r4 = 0 → (B_M_condition_56 rq post ih7 (0 : Int32) z3)) ∧ (¬ r4 = 0 → (B_M_condition_51 rq post ih7 z3)))) ∧ (¬ x3 = 0 → (B_M_condition_51 rq post ih7 z3)))) (0 : Int32) (0 : Int32) z2))) ∧ (¬ r2 = (124 : Int32) → ((x3 = 0 ∨ x3 = 1) ∧ post x3 z1)))) z0)) ∧ (¬ (gI z0 106) = (-1 : Int32) → ((x3 = 0 ∨ x3 = 1) ∧ post x3 z0)))
set_option maxHeartbeats 4000000 in
set_option maxRecDepth 100000 in
theorem w_M_condition_7 {p : Program} {l : Launch} {e : Env} {R : Room} {s : State} {m : MethodId} {args : Array Value} {below : List Frame} {meth : Method} {c : Code} {Q : State → Prop} {G : GX} {A : Nat → Prop} {rq : (Int32 → St → Prop) → St → Prop} {frec lrec : Nat} (S : CallFix p m c cX12_condition 5 s args GW RX12) (hE : env G A s s.heap) (hA : ∀ q, s.heap.size ≤ q → A q) (hRf : frec + 2 ≤ R.frames) (hRl : lrec + 64 ≤ R.locals) (hq : ∀ (G : GX) (z0 : St) (sz : Nat) (post : Int32 → St → Prop), MetI l wM yX12_unit cX12_unit 3 (some .boolean) { frames := frec, cells := 0, slots := 0, locals := lrec } [.ref (ad G 100)] G z0 sz (rq post  z0) post) (hfb : 31 ≤ frec ∧ 852 ≤ lrec) {post : Int32 → St → Prop} (hret : RetZ p l e R s m args below meth c Q 0 0 wM G A cX12_condition post) {ih7 : Int32 → St → Prop} (h7 : ∀ (x3 : Int32) (z0 : St), ih7 x3 z0 → Xw p l e R s m args below meth c Q 0 0 wM G A z0 5 [(0, .ref (ad G 100)), (3, .int x3)] 7 []) (x3 : Int32) (z0 : St) (hB : B_M_condition_7 rq post ih7 x3 z0) : Xw p l e R s m args below meth c Q 0 0 wM G A z0 5 [(0, .ref (ad G 100)), (3, .int x3)] 7 [] := by
  intro H locs ls hP hD hS hl
  have hx := S.1
  have hb := S.2.1
  refine lv_aload_n hx hb dX12_condition_7 rfl (lv_at hl 0 rfl) ?_
  refine xMg_100_fault S hE hP lk_X12_121 dX12_condition_8 ?_
  refine lv_iconst (v := -1) hx hb dX12_condition_11 (by decide) ?_
  refine lv_icmp_ne (tgt := 60) hx hb dX12_condition_12 (by decide) (fun c1 => ?_) (fun c1 => ?_)
  · have hB := hB.2 c1
    refine lv_iload_n hx hb dX12_condition_60 rfl (lv_at hl 1 rfl) ?_
    exact hret _ _ _ _ _ _ dX12_condition_61 hB hP hD hS
  · have hB := hB.1 c1
    refine lv_aload_n hx hb dX12_condition_15 rfl (lv_at hl 0 rfl) ?_
    refine xcVi [] S hE hA hP hD hS (c_M_look l G z0 H.size _) hB (gw_c lk_X12_131 (gw_c wi_X12_look (gw_c we_X12_X12_look_X12_look (gw_c wn_X12 (gw_c wc_X12_look (fun _ h9 => h9)))))) hd_X12_look rfl rfl (Nat.le_trans (show 0 + 1 ≤ frec + 2 by omega) hRf) (Nat.le_trans (show 8 + (1 + 11) + (0) ≤ lrec + 64 by omega) hRl) ⟨Nat.zero_le _, Nat.zero_le _⟩ (va_recv hE.1 hP (ci := 11) (q0 := 0) rfl rfl) rfl hl.1 rfl (Nat.le_of_ble_eq_true rfl) dX12_condition_16 (fun r2 z1 H locs hB hP hD hS => ?_)
    refine lv_bipush (v := 124) hx hb dX12_condition_19 (by decide) ?_
    refine lv_icmp_ne (tgt := 60) hx hb dX12_condition_21 (by decide) (fun c3 => ?_) (fun c3 => ?_)
    · have hB := hB.2 c3
      refine lv_iload_n hx hb dX12_condition_60 rfl (lv_at hl 1 rfl) ?_
      exact hret _ _ _ _ _ _ dX12_condition_61 hB hP hD hS
    · have hB := hB.1 c3
      refine lv_aload_n hx hb dX12_condition_24 rfl (lv_at hl 0 rfl) ?_
      refine lv_dup hx hb dX12_condition_25 rfl ?_
      refine xMg_100_at S hE hP lk_X12_112 dX12_condition_26 ?_
      refine lv_iconst (v := 1) hx hb dX12_condition_29 (by decide) ?_
      refine lv_iadd hx hb dX12_condition_30 ?_
      obtain ⟨z2, ez2⟩ : ∃ z9, z9 = sI z1 105 ((gI z1 105) + (1 : Int32)) := ⟨_, rfl⟩
      have hB := hB z2 ez2
      refine xMp_100_at S hE hP hD hS lk_X12_112 dX12_condition_31 (fun H locs hP hD hS => ?_)
      rw [← ez2] at hP hD
      refine lv_aload_n hx hb dX12_condition_34 rfl (lv_at hl 0 rfl) ?_
      refine lv_iconst (v := 0) hx hb dX12_condition_35 (by decide) ?_
      refine lv_iconst (v := 0) hx hb dX12_condition_36 (by decide) ?_
      refine xcVi [.int (0 : Int32), .int (0 : Int32)] S hE hA hP hD hS (c_M_part l hq hfb G z2 H.size (0 : Int32) (0 : Int32) _) hB (gw_c lk_X12_187 (gw_c wi_X12_part (gw_c we_X12_X12_part_X12_part (gw_c wn_X12 (gw_c wc_X12_part (fun _ h9 => h9)))))) hd_X12_part rfl rfl (Nat.le_trans (show frec + 1 + 1 ≤ frec + 2 by omega) hRf) (Nat.le_trans (show 8 + (5 + 11) + (lrec + 40) ≤ lrec + 64 by omega) hRl) ⟨Nat.zero_le _, Nat.zero_le _⟩ (va_recv hE.1 hP (ci := 11) (q0 := 0) rfl rfl) rfl hl.1 rfl (Nat.le_of_ble_eq_true rfl) dX12_condition_37 (fun r4 z3 H locs hB hP hD hS => ?_)
      refine lv_istore (lv' := [(4, .int r4), (0, .ref (ad G 100)), (3, .int x3)]) hx hb dX12_condition_40 hl (by decide) rfl (fun ls hl => ?_)
      refine lv_iload_n hx hb dX12_condition_42 rfl (lv_at hl 2 rfl) ?_
      refine lv_if_ne (tgt := 51) hx hb dX12_condition_43 (by decide) (fun c5 => ?_) (fun c5 => ?_)
      · have hB := hB.2 c5
        exact w_M_condition_51 S hE hA hRf hRl hq hfb hret h7 z3 hB _ _ _ hP hD hS (lv_sub hl [1] rfl)
      · have hB := hB.1 c5
        refine lv_iload hx hb dX12_condition_46 (lv_at hl 0 rfl) ?_
        refine lv_if_eq (tgt := 55) hx hb dX12_condition_48 (by decide) (fun c6 => ?_) (fun c6 => ?_)
        · have hB := hB.1 c6
          refine lv_iconst (v := 0) hx hb dX12_condition_55 (by decide) ?_
          exact w_M_condition_56 S hE hA hRf hRl hq hfb hret h7 (0 : Int32) z3 hB _ _ _ hP hD hS (lv_sub hl [1] rfl)
        · have hB := hB.2 c6
          exact w_M_condition_51 S hE hA hRf hRl hq hfb hret h7 z3 hB _ _ _ hP hD hS (lv_sub hl [1] rfl)
def L_M_condition_7 (rq : (Int32 → St → Prop) → St → Prop) (post : Int32 → St → Prop) : Nat → Int32 → St → Prop
  | 0 => fun _ _ => False
  | n + 1 => B_M_condition_7 rq post (L_M_condition_7 rq post n)
theorem wl_M_condition_7 {p : Program} {l : Launch} {e : Env} {R : Room} {s : State} {m : MethodId} {args : Array Value} {below : List Frame} {meth : Method} {c : Code} {Q : State → Prop} {G : GX} {A : Nat → Prop} {rq : (Int32 → St → Prop) → St → Prop} {frec lrec : Nat} (S : CallFix p m c cX12_condition 5 s args GW RX12) (hE : env G A s s.heap) (hA : ∀ q, s.heap.size ≤ q → A q) (hRf : frec + 2 ≤ R.frames) (hRl : lrec + 64 ≤ R.locals) (hq : ∀ (G : GX) (z0 : St) (sz : Nat) (post : Int32 → St → Prop), MetI l wM yX12_unit cX12_unit 3 (some .boolean) { frames := frec, cells := 0, slots := 0, locals := lrec } [.ref (ad G 100)] G z0 sz (rq post  z0) post) (hfb : 31 ≤ frec ∧ 852 ≤ lrec) {post : Int32 → St → Prop} (hret : RetZ p l e R s m args below meth c Q 0 0 wM G A cX12_condition post) : ∀ (n : Nat) (x3 : Int32) (z0 : St), L_M_condition_7 rq post n x3 z0 → Xw p l e R s m args below meth c Q 0 0 wM G A z0 5 [(0, .ref (ad G 100)), (3, .int x3)] 7 [] := by
  intro n
  induction n with
  | zero => intro x3 z0 hB; exact absurd hB id
  | succ n ih => exact fun x3 z0 hB => w_M_condition_7 S hE hA hRf hRl hq hfb hret ih x3 z0 hB
def S_M_condition (rq : (Int32 → St → Prop) → St → Prop) (post : Int32 → St → Prop) (x1 : Int32) (x2 : Int32) (z0 : St) : Prop :=
  (S_M_part rq (fun (r1 : Int32) (z1 : St) => (∃ n2, L_M_condition_7 rq post n2 r1 z1)) x1 x2 z0)
set_option maxHeartbeats 4000000 in
set_option maxRecDepth 100000 in
theorem w_M_condition_0 {p : Program} {l : Launch} {e : Env} {R : Room} {s : State} {m : MethodId} {args : Array Value} {below : List Frame} {meth : Method} {c : Code} {Q : State → Prop} {G : GX} {A : Nat → Prop} {rq : (Int32 → St → Prop) → St → Prop} {frec lrec : Nat} (S : CallFix p m c cX12_condition 5 s args GW RX12) (hE : env G A s s.heap) (hA : ∀ q, s.heap.size ≤ q → A q) (hRf : frec + 2 ≤ R.frames) (hRl : lrec + 64 ≤ R.locals) (hq : ∀ (G : GX) (z0 : St) (sz : Nat) (post : Int32 → St → Prop), MetI l wM yX12_unit cX12_unit 3 (some .boolean) { frames := frec, cells := 0, slots := 0, locals := lrec } [.ref (ad G 100)] G z0 sz (rq post  z0) post) (hfb : 31 ≤ frec ∧ 852 ≤ lrec) {post : Int32 → St → Prop} (hret : RetZ p l e R s m args below meth c Q 0 0 wM G A cX12_condition post) (x1 : Int32) (x2 : Int32) (z0 : St) (hB : S_M_condition rq post x1 x2 z0) : Xw p l e R s m args below meth c Q 0 0 wM G A z0 5 [(0, .ref (ad G 100)), (1, .int x1), (2, .int x2)] 0 [] := by
  intro H locs ls hP hD hS hl
  have hx := S.1
  have hb := S.2.1
  refine lv_aload_n hx hb dX12_condition_0 rfl (lv_at hl 0 rfl) ?_
  refine lv_iload_n hx hb dX12_condition_1 rfl (lv_at hl 1 rfl) ?_
  refine lv_iload_n hx hb dX12_condition_2 rfl (lv_at hl 2 rfl) ?_
  refine xcVi [.int x1, .int x2] S hE hA hP hD hS (c_M_part l hq hfb G z0 H.size x1 x2 _) hB (gw_c lk_X12_187 (gw_c wi_X12_part (gw_c we_X12_X12_part_X12_part (gw_c wn_X12 (gw_c wc_X12_part (fun _ h9 => h9)))))) hd_X12_part rfl rfl (Nat.le_trans (show frec + 1 + 1 ≤ frec + 2 by omega) hRf) (Nat.le_trans (show 8 + (5 + 11) + (lrec + 40) ≤ lrec + 64 by omega) hRl) ⟨Nat.zero_le _, Nat.zero_le _⟩ (va_recv hE.1 hP (ci := 11) (q0 := 0) rfl rfl) rfl hl.1 rfl (Nat.le_of_ble_eq_true rfl) dX12_condition_3 (fun r1 z1 H locs hB hP hD hS => ?_)
  refine lv_istore_n (lv' := [(3, .int r1), (0, .ref (ad G 100)), (1, .int x1), (2, .int x2)]) hx hb dX12_condition_6 rfl hl (by decide) rfl (fun ls hl => ?_)
  obtain ⟨n2, hB⟩ := hB
  exact wl_M_condition_7 S hE hA hRf hRl hq hfb hret n2 r1 z1 hB _ _ _ hP hD hS (lv_sub hl [1, 0] rfl)
set_option maxHeartbeats 4000000 in
set_option maxRecDepth 100000 in
theorem c_M_condition (l : Launch) {rq : (Int32 → St → Prop) → St → Prop} {frec lrec : Nat} (hq : ∀ (G : GX) (z0 : St) (sz : Nat) (post : Int32 → St → Prop), MetI l wM yX12_unit cX12_unit 3 (some .boolean) { frames := frec, cells := 0, slots := 0, locals := lrec } [.ref (ad G 100)] G z0 sz (rq post  z0) post) (hfb : 31 ≤ frec ∧ 852 ≤ lrec) (G : GX) (z0 : St) (sz : Nat) (x1 : Int32) (x2 : Int32) (post : Int32 → St → Prop) : MetI l wM yX12_condition cX12_condition 5 (some .boolean) ({ frames := frec + 2, cells := 0, slots := 0, locals := lrec + 64 }) [.ref (ad G 100), .int x1, .int x2] G z0 sz (S_M_condition rq post x1 x2 z0) post := by
  refine Met.ofW (cc := cX12_condition) (maxL := 5) (ret := (some .boolean)) (by decide) rfl ?_
  intro p e s m args below meth c s₁ B hml hv
  obtain ⟨rfl, hsz, hP, hD0, hE, hB⟩ := hv
  have S : CallFix p m c cX12_condition 5 s _ GW RX12 := ⟨B.exec, B.bytes, hml, findClass_of_methodNamed B.named, fun w h => atoms_spec (ws := Cond.code yX12_condition cX12_condition 5 (some .boolean) :: GW) B.pre w (List.mem_cons_of_mem _ h)⟩
  have hlocks := B.notSynchronized
  subst hsz
  have hD := hD0.self (sz := s.heap.size)
  generalize hAe : va_A (wM G z0) s.heap.size = A at hD hE ⊢
  have hA : ∀ q : Nat, s.heap.size ≤ q → A q := fun q h => by rw [← hAe]; exact Or.inr h
  have hS : va_S A s.heap s.heap [] := va_S.rf
  have hl := lv_entry ([.ref (ad G 100), .int x1, .int x2]) (n := 5) (Nat.le_of_ble_eq_true rfl)
  rw [lg_entry_eq]
  generalize (lg_sl ([.ref (ad G 100), .int x1, .int x2]) ++ List.replicate (5 - (lg_sl ([.ref (ad G 100), .int x1, .int x2])).length) Slot.unset).toArray = ls at hl ⊢
  have hl : lv_has ls 5 [(0, .ref (ad G 100)), (1, .int x1), (2, .int x2)] := hl
  refine w_M_condition_0 S hE hA (Nat.le_refl _) (Nat.le_refl _) hq hfb ?_ x1 x2 z0 hB _ _ _ hP hD hS hl
  intro pc ls r σ H locs hd hp hP hD hS
  exact W.zret (v := r) B.exec B.bytes B.returns (xboolc r hp.1) (fun t ht hW => ⟨⟨r, σ, rfl, hp.2, by rw [ht]; exact hP, hD⟩, hS.F ht⟩) hS.2.2 hd
def S_M_unit (rq : (Int32 → St → Prop) → St → Prop) (post : Int32 → St → Prop) (z0 : St) : Prop :=
  (S_M_look (fun (r1 : Int32) (z1 : St) => ((r1 = (33 : Int32) → (S_M_goesIn (fun (r10 : Int32) (z7 : St) => ((r10 = 0 → (post (0 : Int32) z7)) ∧ (¬ r10 = 0 → (rq (fun (r12 : Int32) (z8 : St) => (∀ z9 : St, z9 = sI z8 107 ((gI z8 107) - (1 : Int32)) → ((r12 = 0 → (post (1 : Int32) z9)) ∧ (¬ r12 = 0 → (post (0 : Int32) z9))))) z7)))) z1)) ∧ (¬ r1 = (33 : Int32) → ((r1 = (40 : Int32) → (S_M_goesIn (fun (r5 : Int32) (z3 : St) => ((r5 = 0 → (post (0 : Int32) z3)) ∧ (¬ r5 = 0 → (S_M_condition rq (fun (r7 : Int32) (z4 : St) => (S_M_takes (fun (r8 : Int32) (z5 : St) => ((r8 = 0 → (post (0 : Int32) z5)) ∧ (¬ r8 = 0 → (∀ z6 : St, z6 = sI z5 107 ((gI z5 107) - (1 : Int32)) → ((r7 = 0 ∨ r7 = 1) ∧ post r7 z6))))) (41 : Int32) z4)) (0 : Int32) (0 : Int32) z3)))) z1)) ∧ (¬ r1 = (40 : Int32) → (S_M_compares (fun (r4 : Int32) (z2 : St) => ((r4 = 0 ∨ r4 = 1) ∧ post r4 z2)) (0 : Int32) (0 : Int32) z1)))))) z0)
set_option maxHeartbeats 4000000 in
set_option maxRecDepth 100000 in
theorem w_M_unit_0 {p : Program} {l : Launch} {e : Env} {R : Room} {s : State} {m : MethodId} {args : Array Value} {below : List Frame} {meth : Method} {c : Code} {Q : State → Prop} {G : GX} {A : Nat → Prop} {rq : (Int32 → St → Prop) → St → Prop} {frec lrec : Nat} (S : CallFix p m c cX12_unit 3 s args GW RX12) (hE : env G A s s.heap) (hA : ∀ q, s.heap.size ≤ q → A q) (hRf : frec + 3 ≤ R.frames) (hRl : lrec + 88 ≤ R.locals) (hq : ∀ (G : GX) (z0 : St) (sz : Nat) (post : Int32 → St → Prop), MetI l wM yX12_unit cX12_unit 3 (some .boolean) { frames := frec, cells := 0, slots := 0, locals := lrec } [.ref (ad G 100)] G z0 sz (rq post  z0) post) (hfb : 31 ≤ frec ∧ 852 ≤ lrec) {post : Int32 → St → Prop} (hret : RetZ p l e R s m args below meth c Q 0 0 wM G A cX12_unit post) (z0 : St) (hB : S_M_unit rq post z0) : Xw p l e R s m args below meth c Q 0 0 wM G A z0 3 [(0, .ref (ad G 100))] 0 [] := by
  intro H locs ls hP hD hS hl
  have hx := S.1
  have hb := S.2.1
  refine lv_aload_n hx hb dX12_unit_0 rfl (lv_at hl 0 rfl) ?_
  refine xcVi [] S hE hA hP hD hS (c_M_look l G z0 H.size _) hB (gw_c lk_X12_131 (gw_c wi_X12_look (gw_c we_X12_X12_look_X12_look (gw_c wn_X12 (gw_c wc_X12_look (fun _ h9 => h9)))))) hd_X12_look rfl rfl (Nat.le_trans (show 0 + 1 ≤ frec + 3 by omega) hRf) (Nat.le_trans (show 8 + (1 + 11) + (0) ≤ lrec + 88 by omega) hRl) ⟨Nat.zero_le _, Nat.zero_le _⟩ (va_recv hE.1 hP (ci := 11) (q0 := 0) rfl rfl) rfl hl.1 rfl (Nat.le_of_ble_eq_true rfl) dX12_unit_1 (fun r1 z1 H locs hB hP hD hS => ?_)
  refine lv_istore_n (lv' := [(1, .int r1), (0, .ref (ad G 100))]) hx hb dX12_unit_4 rfl hl (by decide) rfl (fun ls hl => ?_)
  refine lv_iload_n hx hb dX12_unit_5 rfl (lv_at hl 0 rfl) ?_
  refine lv_bipush (v := 33) hx hb dX12_unit_6 (by decide) ?_
  refine lv_icmp_ne (tgt := 45) hx hb dX12_unit_8 (by decide) (fun c2 => ?_) (fun c2 => ?_)
  · have hB := hB.2 c2
    refine lv_iload_n hx hb dX12_unit_45 rfl (lv_at hl 0 rfl) ?_
    refine lv_bipush (v := 40) hx hb dX12_unit_46 (by decide) ?_
    refine lv_icmp_ne (tgt := 90) hx hb dX12_unit_48 (by decide) (fun c3 => ?_) (fun c3 => ?_)
    · have hB := hB.2 c3
      refine lv_aload_n hx hb dX12_unit_90 rfl (lv_at hl 1 rfl) ?_
      refine lv_iconst (v := 0) hx hb dX12_unit_91 (by decide) ?_
      refine lv_iconst (v := 0) hx hb dX12_unit_92 (by decide) ?_
      refine xcVi [.int (0 : Int32), .int (0 : Int32)] S hE hA hP hD hS (c_M_compares l G z1 H.size (0 : Int32) (0 : Int32) _) hB (gw_c lk_X12_184 (gw_c wi_X12_compares (gw_c we_X12_X12_compares_X12_compares (gw_c wn_X12 (gw_c wc_X12_compares (fun _ h9 => h9)))))) hd_X12_compares rfl rfl (Nat.le_trans (show 30 + 1 ≤ frec + 3 by omega) hRf) (Nat.le_trans (show 8 + (6 + 11) + (827) ≤ lrec + 88 by omega) hRl) ⟨Nat.zero_le _, Nat.zero_le _⟩ (va_recv hE.1 hP (ci := 11) (q0 := 0) rfl rfl) rfl hl.1 rfl (Nat.le_of_ble_eq_true rfl) dX12_unit_93 (fun r4 z2 H locs hB hP hD hS => ?_)
      exact hret _ _ _ _ _ _ dX12_unit_96 hB hP hD hS
    · have hB := hB.1 c3
      refine lv_aload_n hx hb dX12_unit_51 rfl (lv_at hl 1 rfl) ?_
      refine xcVi [] S hE hA hP hD hS (c_M_goesIn l G z1 H.size _) hB (gw_c lk_X12_151 (gw_c wi_X12_goesIn (gw_c we_X12_X12_goesIn_X12_goesIn (gw_c wn_X12 (gw_c wc_X12_goesIn (fun _ h9 => h9)))))) hd_X12_goesIn rfl rfl (Nat.le_trans (show 1 + 1 ≤ frec + 3 by omega) hRf) (Nat.le_trans (show 8 + (1 + 11) + (20) ≤ lrec + 88 by omega) hRl) ⟨Nat.zero_le _, Nat.zero_le _⟩ (va_recv hE.1 hP (ci := 11) (q0 := 0) rfl rfl) rfl hl.1 rfl (Nat.le_of_ble_eq_true rfl) dX12_unit_52 (fun r5 z3 H locs hB hP hD hS => ?_)
      refine lv_if_ne (tgt := 60) hx hb dX12_unit_55 (by decide) (fun c6 => ?_) (fun c6 => ?_)
      · have hB := hB.2 c6
        refine lv_aload_n hx hb dX12_unit_60 rfl (lv_at hl 1 rfl) ?_
        refine lv_iconst (v := 0) hx hb dX12_unit_61 (by decide) ?_
        refine lv_iconst (v := 0) hx hb dX12_unit_62 (by decide) ?_
        refine xcVi [.int (0 : Int32), .int (0 : Int32)] S hE hA hP hD hS (c_M_condition l hq hfb G z3 H.size (0 : Int32) (0 : Int32) _) hB (gw_c lk_X12_180 (gw_c wi_X12_condition (gw_c we_X12_X12_condition_X12_condition (gw_c wn_X12 (gw_c wc_X12_condition (fun _ h9 => h9)))))) hd_X12_condition rfl rfl (Nat.le_trans (show frec + 2 + 1 ≤ frec + 3 by omega) hRf) (Nat.le_trans (show 8 + (5 + 11) + (lrec + 64) ≤ lrec + 88 by omega) hRl) ⟨Nat.zero_le _, Nat.zero_le _⟩ (va_recv hE.1 hP (ci := 11) (q0 := 0) rfl rfl) rfl hl.1 rfl (Nat.le_of_ble_eq_true rfl) dX12_unit_63 (fun r7 z4 H locs hB hP hD hS => ?_)
        refine lv_istore_n (lv' := [(2, .int r7), (1, .int r1), (0, .ref (ad G 100))]) hx hb dX12_unit_66 rfl hl (by decide) rfl (fun ls hl => ?_)
        refine lv_aload_n hx hb dX12_unit_67 rfl (lv_at hl 2 rfl) ?_
        refine lv_bipush (v := 41) hx hb dX12_unit_68 (by decide) ?_
        refine xcVi [.int (41 : Int32)] S hE hA hP hD hS (c_M_takes l G z4 H.size (41 : Int32) _) hB (gw_c lk_X12_157 (gw_c wi_X12_takes (gw_c we_X12_X12_takes_X12_takes (gw_c wn_X12 (gw_c wc_X12_takes (fun _ h9 => h9)))))) hd_X12_takes rfl rfl (Nat.le_trans (show 1 + 1 ≤ frec + 3 by omega) hRf) (Nat.le_trans (show 8 + (2 + 11) + (20) ≤ lrec + 88 by omega) hRl) ⟨Nat.zero_le _, Nat.zero_le _⟩ (va_recv hE.1 hP (ci := 11) (q0 := 0) rfl rfl) rfl hl.1 rfl (Nat.le_of_ble_eq_true rfl) dX12_unit_70 (fun r8 z5 H locs hB hP hD hS => ?_)
        refine lv_if_ne (tgt := 78) hx hb dX12_unit_73 (by decide) (fun c9 => ?_) (fun c9 => ?_)
        · have hB := hB.2 c9
          refine lv_aload_n hx hb dX12_unit_78 rfl (lv_at hl 2 rfl) ?_
          refine lv_dup hx hb dX12_unit_79 rfl ?_
          refine xMg_100_deep S hE hP lk_X12_124 dX12_unit_80 ?_
          refine lv_iconst (v := 1) hx hb dX12_unit_83 (by decide) ?_
          refine lv_isub hx hb dX12_unit_84 ?_
          obtain ⟨z6, ez6⟩ : ∃ z9, z9 = sI z5 107 ((gI z5 107) - (1 : Int32)) := ⟨_, rfl⟩
          have hB := hB z6 ez6
          refine xMp_100_deep S hE hP hD hS lk_X12_124 dX12_unit_85 (fun H locs hP hD hS => ?_)
          rw [← ez6] at hP hD
          refine lv_iload_n hx hb dX12_unit_88 rfl (lv_at hl 0 rfl) ?_
          exact hret _ _ _ _ _ _ dX12_unit_89 hB hP hD hS
        · have hB := hB.1 c9
          refine lv_iconst (v := 0) hx hb dX12_unit_76 (by decide) ?_
          exact hret _ _ _ _ _ _ dX12_unit_77 ⟨by decide, hB⟩ hP hD hS
      · have hB := hB.1 c6
        refine lv_iconst (v := 0) hx hb dX12_unit_58 (by decide) ?_
        exact hret _ _ _ _ _ _ dX12_unit_59 ⟨by decide, hB⟩ hP hD hS
  · have hB := hB.1 c2
    refine lv_aload_n hx hb dX12_unit_11 rfl (lv_at hl 1 rfl) ?_
    refine xcVi [] S hE hA hP hD hS (c_M_goesIn l G z1 H.size _) hB (gw_c lk_X12_151 (gw_c wi_X12_goesIn (gw_c we_X12_X12_goesIn_X12_goesIn (gw_c wn_X12 (gw_c wc_X12_goesIn (fun _ h9 => h9)))))) hd_X12_goesIn rfl rfl (Nat.le_trans (show 1 + 1 ≤ frec + 3 by omega) hRf) (Nat.le_trans (show 8 + (1 + 11) + (20) ≤ lrec + 88 by omega) hRl) ⟨Nat.zero_le _, Nat.zero_le _⟩ (va_recv hE.1 hP (ci := 11) (q0 := 0) rfl rfl) rfl hl.1 rfl (Nat.le_of_ble_eq_true rfl) dX12_unit_12 (fun r10 z7 H locs hB hP hD hS => ?_)
    refine lv_if_ne (tgt := 20) hx hb dX12_unit_15 (by decide) (fun c11 => ?_) (fun c11 => ?_)
    · have hB := hB.2 c11
      refine lv_aload_n hx hb dX12_unit_20 rfl (lv_at hl 1 rfl) ?_
      refine xcVi [] S hE hA hP hD hS (hq G z7 H.size _) hB (gw_c lk_X12_177 (gw_c wi_X12_unit (gw_c we_X12_X12_unit_X12_unit (gw_c wn_X12 (gw_c wc_X12_unit (fun _ h9 => h9)))))) hd_X12_unit rfl rfl (Nat.le_trans (show frec + 1 ≤ frec + 3 by omega) hRf) (Nat.le_trans (show 8 + (3 + 11) + (lrec) ≤ lrec + 88 by omega) hRl) ⟨Nat.zero_le _, Nat.zero_le _⟩ (va_recv hE.1 hP (ci := 11) (q0 := 0) rfl rfl) rfl hl.1 rfl (Nat.le_of_ble_eq_true rfl) dX12_unit_21 (fun r12 z8 H locs hB hP hD hS => ?_)
      refine lv_istore_n (lv' := [(2, .int r12), (1, .int r1), (0, .ref (ad G 100))]) hx hb dX12_unit_24 rfl hl (by decide) rfl (fun ls hl => ?_)
      refine lv_aload_n hx hb dX12_unit_25 rfl (lv_at hl 2 rfl) ?_
      refine lv_dup hx hb dX12_unit_26 rfl ?_
      refine xMg_100_deep S hE hP lk_X12_124 dX12_unit_27 ?_
      refine lv_iconst (v := 1) hx hb dX12_unit_30 (by decide) ?_
      refine lv_isub hx hb dX12_unit_31 ?_
      obtain ⟨z9, ez9⟩ : ∃ z9, z9 = sI z8 107 ((gI z8 107) - (1 : Int32)) := ⟨_, rfl⟩
      have hB := hB z9 ez9
      refine xMp_100_deep S hE hP hD hS lk_X12_124 dX12_unit_32 (fun H locs hP hD hS => ?_)
      rw [← ez9] at hP hD
      refine lv_iload_n hx hb dX12_unit_35 rfl (lv_at hl 0 rfl) ?_
      refine lv_if_ne (tgt := 43) hx hb dX12_unit_36 (by decide) (fun c13 => ?_) (fun c13 => ?_)
      · have hB := hB.2 c13
        refine lv_iconst (v := 0) hx hb dX12_unit_43 (by decide) ?_
        exact hret _ _ _ _ _ _ dX12_unit_44 ⟨by decide, hB⟩ hP hD hS
      · have hB := hB.1 c13
        refine lv_iconst (v := 1) hx hb dX12_unit_39 (by decide) ?_
        refine lv_goto (tgt := 44) hx hb dX12_unit_40 (by decide) ?_
        exact hret _ _ _ _ _ _ dX12_unit_44 ⟨by decide, hB⟩ hP hD hS
    · have hB := hB.1 c11
      refine lv_iconst (v := 0) hx hb dX12_unit_18 (by decide) ?_
      exact hret _ _ _ _ _ _ dX12_unit_19 ⟨by decide, hB⟩ hP hD hS
set_option maxHeartbeats 4000000 in
set_option maxRecDepth 100000 in
theorem c_M_unit (l : Launch) {rq : (Int32 → St → Prop) → St → Prop} {frec lrec : Nat} (hq : ∀ (G : GX) (z0 : St) (sz : Nat) (post : Int32 → St → Prop), MetI l wM yX12_unit cX12_unit 3 (some .boolean) { frames := frec, cells := 0, slots := 0, locals := lrec } [.ref (ad G 100)] G z0 sz (rq post  z0) post) (hfb : 31 ≤ frec ∧ 852 ≤ lrec) (G : GX) (z0 : St) (sz : Nat) (post : Int32 → St → Prop) : MetI l wM yX12_unit cX12_unit 3 (some .boolean) ({ frames := frec + 3, cells := 0, slots := 0, locals := lrec + 88 }) [.ref (ad G 100)] G z0 sz (S_M_unit rq post z0) post := by
  refine Met.ofW (cc := cX12_unit) (maxL := 3) (ret := (some .boolean)) (by decide) rfl ?_
  intro p e s m args below meth c s₁ B hml hv
  obtain ⟨rfl, hsz, hP, hD0, hE, hB⟩ := hv
  have S : CallFix p m c cX12_unit 3 s _ GW RX12 := ⟨B.exec, B.bytes, hml, findClass_of_methodNamed B.named, fun w h => atoms_spec (ws := Cond.code yX12_unit cX12_unit 3 (some .boolean) :: GW) B.pre w (List.mem_cons_of_mem _ h)⟩
  have hlocks := B.notSynchronized
  subst hsz
  have hD := hD0.self (sz := s.heap.size)
  generalize hAe : va_A (wM G z0) s.heap.size = A at hD hE ⊢
  have hA : ∀ q : Nat, s.heap.size ≤ q → A q := fun q h => by rw [← hAe]; exact Or.inr h
  have hS : va_S A s.heap s.heap [] := va_S.rf
  have hl := lv_entry ([.ref (ad G 100)]) (n := 3) (Nat.le_of_ble_eq_true rfl)
  rw [lg_entry_eq]
  generalize (lg_sl ([.ref (ad G 100)]) ++ List.replicate (3 - (lg_sl ([.ref (ad G 100)])).length) Slot.unset).toArray = ls at hl ⊢
  have hl : lv_has ls 3 [(0, .ref (ad G 100))] := hl
  refine w_M_unit_0 S hE hA (Nat.le_refl _) (Nat.le_refl _) hq hfb ?_  z0 hB _ _ _ hP hD hS hl
  intro pc ls r σ H locs hd hp hP hD hS
  exact W.zret (v := r) B.exec B.bytes B.returns (xboolc r hp.1) (fun t ht hW => ⟨⟨r, σ, rfl, hp.2, by rw [ht]; exact hP, hD⟩, hS.F ht⟩) hS.2.2 hd
def D_M_unit : Nat → (Int32 → St → Prop) → St → Prop
  | 0 => fun _ _ => False
  | d + 1 => S_M_unit (D_M_unit d)
theorem cd_M_unit (l : Launch) : ∀ (d : Nat) (G : GX) (z0 : St) (sz : Nat) (post : Int32 → St → Prop), MetI l wM yX12_unit cX12_unit 3 (some .boolean) { frames := 31 + 3 * d, cells := 0, slots := 0, locals := 852 + 88 * d } [.ref (ad G 100)] G z0 sz (D_M_unit d post z0) post := by
  intro d
  induction d with
  | zero => exact fun G z0 sz  post => Met.never (by decide) rfl (fun _ _ h => h.2.2.2.2.2)
  | succ d ih =>
    intro G z0 sz  post
    have h9 := c_M_unit l ih ⟨by omega, by omega⟩ G z0 sz  post
    rw [show 31 + 3 * d + 3 = 31 + 3 * (d + 1) by omega, show 852 + 88 * d + 88 = 852 + 88 * (d + 1) by omega] at h9
    exact h9
def B_M_clause_134 (post : St → Prop) (x1 : Int32) (x2 : Int32) (x3 : Int32) (z0 : St) : Prop :=
  (((gI z0 106) = (-1 : Int32) → (((gI z0 110) = 0 → ((x1 = (gI z0 108) → ((x2 = 0 → (post z0)) ∧ (¬ x2 = 0 → (∀ z1 : St, z1 = sI z0 110 (1 : Int32) → (∀ z2 : St, z2 = sI z1 109 x3 → (post z2)))))) ∧ (¬ x1 = (gI z0 108) → (post z0)))) ∧ (¬ (gI z0 110) = 0 → (post z0)))) ∧ (¬ (gI z0 106) = (-1 : Int32) → (post z0)))
set_option maxHeartbeats 4000000 in
set_option maxRecDepth 100000 in
theorem w_M_clause_134 {p : Program} {l : Launch} {e : Env} {R : Room} {s : State} {m : MethodId} {args : Array Value} {below : List Frame} {meth : Method} {c : Code} {Q : State → Prop} {G : GX} {A : Nat → Prop} (S : CallFix p m c cX12_clause 5 s args GW RX12) (hE : env G A s s.heap) (hA : ∀ q, s.heap.size ≤ q → A q) (hRf : 58 ≤ R.frames) (hRl : 1644 ≤ R.locals) {post : St → Prop} (hret : RetV p l e R s m args below meth c Q 0 0 wM G A cX12_clause post) (x1 : Int32) (x2 : Int32) (x3 : Int32) (z0 : St) (hB : B_M_clause_134 post x1 x2 x3 z0) : Xw p l e R s m args below meth c Q 0 0 wM G A z0 5 [(0, .ref (ad G 100)), (1, .int x1), (2, .int x2), (3, .int x3)] 134 [] := by
  intro H locs ls hP hD hS hl
  have hx := S.1
  have hb := S.2.1
  refine lv_aload_n hx hb dX12_clause_134 rfl (lv_at hl 0 rfl) ?_
  refine xMg_100_fault S hE hP lk_X12_121 dX12_clause_135 ?_
  refine lv_iconst (v := -1) hx hb dX12_clause_138 (by decide) ?_
  refine lv_icmp_ne (tgt := 161) hx hb dX12_clause_139 (by decide) (fun c1 => ?_) (fun c1 => ?_)
  · have hB := hB.2 c1
    exact hret _ _ _ _ _ dX12_clause_161 hB hP hD hS
  · have hB := hB.1 c1
    refine lv_aload_n hx hb dX12_clause_142 rfl (lv_at hl 0 rfl) ?_
    refine xMg_100_hasFound S hE hP lk_X12_190 dX12_clause_143 ?_
    refine lv_if_ne (tgt := 161) hx hb dX12_clause_146 (by decide) (fun c2 => ?_) (fun c2 => ?_)
    · have hB := hB.2 c2
      exact hret _ _ _ _ _ dX12_clause_161 hB hP hD hS
    · have hB := hB.1 c2
      refine lv_iload_n hx hb dX12_clause_149 rfl (lv_at hl 1 rfl) ?_
      refine lv_aload_n hx hb dX12_clause_150 rfl (lv_at hl 0 rfl) ?_
      refine xMg_100_label S hE hP lk_X12_194 dX12_clause_151 ?_
      refine lv_icmp_ne (tgt := 161) hx hb dX12_clause_154 (by decide) (fun c3 => ?_) (fun c3 => ?_)
      · have hB := hB.2 c3
        exact hret _ _ _ _ _ dX12_clause_161 hB hP hD hS
      · have hB := hB.1 c3
        refine lv_iload_n hx hb dX12_clause_157 rfl (lv_at hl 2 rfl) ?_
        refine lv_if_ne (tgt := 162) hx hb dX12_clause_158 (by decide) (fun c4 => ?_) (fun c4 => ?_)
        · have hB := hB.2 c4
          refine lv_aload_n hx hb dX12_clause_162 rfl (lv_at hl 0 rfl) ?_
          refine lv_iconst (v := 1) hx hb dX12_clause_163 (by decide) ?_
          obtain ⟨z1, ez1⟩ : ∃ z9, z9 = sI z0 110 (1 : Int32) := ⟨_, rfl⟩
          have hB := hB z1 ez1
          refine xMp_100_hasFound S hE hP hD hS lk_X12_190 (by decide) dX12_clause_164 (fun H locs hP hD hS => ?_)
          rw [← ez1] at hP hD
          refine lv_aload_n hx hb dX12_clause_167 rfl (lv_at hl 0 rfl) ?_
          refine lv_iload_n hx hb dX12_clause_168 rfl (lv_at hl 3 rfl) ?_
          obtain ⟨z2, ez2⟩ : ∃ z9, z9 = sI z1 109 x3 := ⟨_, rfl⟩
          have hB := hB z2 ez2
          refine xMp_100_found S hE hP hD hS lk_X12_197 dX12_clause_169 (fun H locs hP hD hS => ?_)
          rw [← ez2] at hP hD
          exact hret _ _ _ _ _ dX12_clause_172 hB hP hD hS
        · have hB := hB.1 c4
          exact hret _ _ _ _ _ dX12_clause_161 hB hP hD hS
def B_M_clause_64 (post : St → Prop) (x1 : Int32) (z0 : St) : Prop :=
  (S_M_condition (D_M_unit 8) (fun (r1 : Int32) (z1 : St) => (S_M_takes (fun (r2 : Int32) (z2 : St) => ((r2 = 0 → (post z2)) ∧ (¬ r2 = 0 → (D_M_sum 8 (fun (r4 : Int32) (z3 : St) => (B_M_clause_134 post x1 r1 r4 z3)) z2)))) (63 : Int32) z1)) (0 : Int32) (0 : Int32) z0)
set_option maxHeartbeats 4000000 in
set_option maxRecDepth 100000 in
theorem w_M_clause_64 {p : Program} {l : Launch} {e : Env} {R : Room} {s : State} {m : MethodId} {args : Array Value} {below : List Frame} {meth : Method} {c : Code} {Q : State → Prop} {G : GX} {A : Nat → Prop} (S : CallFix p m c cX12_clause 5 s args GW RX12) (hE : env G A s s.heap) (hA : ∀ q, s.heap.size ≤ q → A q) (hRf : 58 ≤ R.frames) (hRl : 1644 ≤ R.locals) {post : St → Prop} (hret : RetV p l e R s m args below meth c Q 0 0 wM G A cX12_clause post) (x1 : Int32) (z0 : St) (hB : B_M_clause_64 post x1 z0) : Xw p l e R s m args below meth c Q 0 0 wM G A z0 5 [(0, .ref (ad G 100)), (1, .int x1)] 64 [] := by
  intro H locs ls hP hD hS hl
  have hx := S.1
  have hb := S.2.1
  refine lv_aload_n hx hb dX12_clause_64 rfl (lv_at hl 0 rfl) ?_
  refine lv_iconst (v := 0) hx hb dX12_clause_65 (by decide) ?_
  refine lv_iconst (v := 0) hx hb dX12_clause_66 (by decide) ?_
  refine xcVi [.int (0 : Int32), .int (0 : Int32)] S hE hA hP hD hS (c_M_condition l (cd_M_unit l 8) ⟨Nat.le_of_ble_eq_true rfl, Nat.le_of_ble_eq_true rfl⟩ G z0 H.size (0 : Int32) (0 : Int32) _) hB (gw_c lk_X12_180 (gw_c wi_X12_condition (gw_c we_X12_X12_condition_X12_condition (gw_c wn_X12 (gw_c wc_X12_condition (fun _ h9 => h9)))))) hd_X12_condition rfl rfl (Nat.le_trans (Nat.le_of_ble_eq_true rfl) hRf) (Nat.le_trans (Nat.le_of_ble_eq_true rfl) hRl) ⟨Nat.zero_le _, Nat.zero_le _⟩ (va_recv hE.1 hP (ci := 11) (q0 := 0) rfl rfl) rfl hl.1 rfl (Nat.le_of_ble_eq_true rfl) dX12_clause_67 (fun r1 z1 H locs hB hP hD hS => ?_)
  refine lv_istore_n (lv' := [(2, .int r1), (0, .ref (ad G 100)), (1, .int x1)]) hx hb dX12_clause_70 rfl hl (by decide) rfl (fun ls hl => ?_)
  refine lv_aload_n hx hb dX12_clause_71 rfl (lv_at hl 1 rfl) ?_
  refine lv_bipush (v := 63) hx hb dX12_clause_72 (by decide) ?_
  refine xcVi [.int (63 : Int32)] S hE hA hP hD hS (c_M_takes l G z1 H.size (63 : Int32) _) hB (gw_c lk_X12_157 (gw_c wi_X12_takes (gw_c we_X12_X12_takes_X12_takes (gw_c wn_X12 (gw_c wc_X12_takes (fun _ h9 => h9)))))) hd_X12_takes rfl rfl (Nat.le_trans (Nat.le_of_ble_eq_true rfl) hRf) (Nat.le_trans (Nat.le_of_ble_eq_true rfl) hRl) ⟨Nat.zero_le _, Nat.zero_le _⟩ (va_recv hE.1 hP (ci := 11) (q0 := 0) rfl rfl) rfl hl.1 rfl (Nat.le_of_ble_eq_true rfl) dX12_clause_74 (fun r2 z2 H locs hB hP hD hS => ?_)
  refine lv_if_ne (tgt := 81) hx hb dX12_clause_77 (by decide) (fun c3 => ?_) (fun c3 => ?_)
  · have hB := hB.2 c3
    refine lv_aload_n hx hb dX12_clause_81 rfl (lv_at hl 1 rfl) ?_
    refine xcVi [] S hE hA hP hD hS (cd_M_sum l 8 G z2 H.size _) hB (gw_c lk_X12_154 (gw_c wi_X12_sum (gw_c we_X12_X12_sum_X12_sum (gw_c wn_X12 (gw_c wc_X12_sum (fun _ h9 => h9)))))) hd_X12_sum rfl rfl (Nat.le_trans (Nat.le_of_ble_eq_true rfl) hRf) (Nat.le_trans (Nat.le_of_ble_eq_true rfl) hRl) ⟨Nat.zero_le _, Nat.zero_le _⟩ (va_recv hE.1 hP (ci := 11) (q0 := 0) rfl rfl) rfl hl.1 rfl (Nat.le_of_ble_eq_true rfl) dX12_clause_82 (fun r4 z3 H locs hB hP hD hS => ?_)
    refine lv_istore_n (lv' := [(3, .int r4), (2, .int r1), (0, .ref (ad G 100)), (1, .int x1)]) hx hb dX12_clause_85 rfl hl (by decide) rfl (fun ls hl => ?_)
    refine lv_goto (tgt := 134) hx hb dX12_clause_86 (by decide) ?_
    exact w_M_clause_134 S hE hA hRf hRl hret x1 r1 r4 z3 hB _ _ _ hP hD hS (lv_sub hl [2, 3, 1, 0] rfl)
  · have hB := hB.1 c3
    exact hret _ _ _ _ _ dX12_clause_80 hB hP hD hS
def S_M_clause (post : St → Prop) (z0 : St) : Prop :=
  (S_M_look (fun (r1 : Int32) (z1 : St) => (S_M_isAmong (fun (r2 : Int32) (z2 : St) => ((r2 = 0 → (S_M_fails (fun (r18 : Int32) (z12 : St) => (post z12)) z2)) ∧ (¬ r2 = 0 → (∀ z3 : St, z3 = sI z2 105 ((gI z2 105) + (1 : Int32)) → (S_M_takes (fun (r4 : Int32) (z4 : St) => ((r4 = 0 → (post z4)) ∧ (¬ r4 = 0 → (S_M_look (fun (r6 : Int32) (z5 : St) => ((r6 = (33 : Int32) → (B_M_clause_64 post r1 z5)) ∧ (¬ r6 = (33 : Int32) → ((r6 = (40 : Int32) → (B_M_clause_64 post r1 z5)) ∧ (¬ r6 = (40 : Int32) → (D_M_sum 8 (fun (r9 : Int32) (z6 : St) => (((gI z6 106) = (-1 : Int32) → (S_M_look (fun (r11 : Int32) (z7 : St) => (S_M_isSign (fun (r12 : Int32) (z8 : St) => ((r12 = 0 → (B_M_clause_134 post r1 (1 : Int32) r9 z8)) ∧ (¬ r12 = 0 → (S_M_condition (D_M_unit 8) (fun (r14 : Int32) (z9 : St) => (S_M_takes (fun (r15 : Int32) (z10 : St) => ((r15 = 0 → (post z10)) ∧ (¬ r15 = 0 → (D_M_sum 8 (fun (r17 : Int32) (z11 : St) => (B_M_clause_134 post r1 r14 r17 z11)) z10)))) (63 : Int32) z9)) (1 : Int32) r9 z8)))) r11 z7)) z6)) ∧ (¬ (gI z6 106) = (-1 : Int32) → (B_M_clause_134 post r1 (1 : Int32) r9 z6)))) z5)))))) z4)))) (58 : Int32) z3))))) 7 r1 z1)) z0)
set_option maxHeartbeats 4000000 in
set_option maxRecDepth 100000 in
theorem w_M_clause_0 {p : Program} {l : Launch} {e : Env} {R : Room} {s : State} {m : MethodId} {args : Array Value} {below : List Frame} {meth : Method} {c : Code} {Q : State → Prop} {G : GX} {A : Nat → Prop} (S : CallFix p m c cX12_clause 5 s args GW RX12) (hE : env G A s s.heap) (hA : ∀ q, s.heap.size ≤ q → A q) (hRf : 58 ≤ R.frames) (hRl : 1644 ≤ R.locals) {post : St → Prop} (hret : RetV p l e R s m args below meth c Q 0 0 wM G A cX12_clause post) (z0 : St) (hB : S_M_clause post z0) : Xw p l e R s m args below meth c Q 0 0 wM G A z0 5 [(0, .ref (ad G 100))] 0 [] := by
  intro H locs ls hP hD hS hl
  have hx := S.1
  have hb := S.2.1
  refine lv_aload_n hx hb dX12_clause_0 rfl (lv_at hl 0 rfl) ?_
  refine xcVi [] S hE hA hP hD hS (c_M_look l G z0 H.size _) hB (gw_c lk_X12_131 (gw_c wi_X12_look (gw_c we_X12_X12_look_X12_look (gw_c wn_X12 (gw_c wc_X12_look (fun _ h9 => h9)))))) hd_X12_look rfl rfl (Nat.le_trans (Nat.le_of_ble_eq_true rfl) hRf) (Nat.le_trans (Nat.le_of_ble_eq_true rfl) hRl) ⟨Nat.zero_le _, Nat.zero_le _⟩ (va_recv hE.1 hP (ci := 11) (q0 := 0) rfl rfl) rfl hl.1 rfl (Nat.le_of_ble_eq_true rfl) dX12_clause_1 (fun r1 z1 H locs hB hP hD hS => ?_)
  refine lv_istore_n (lv' := [(1, .int r1), (0, .ref (ad G 100))]) hx hb dX12_clause_4 rfl hl (by decide) rfl (fun ls hl => ?_)
  refine va_ldcS hx hb S.2.2.2.1 (es_X12_26 hE.2) dX12_clause_5 ?_
  refine lv_iload_n hx hb dX12_clause_7 rfl (lv_at hl 0 rfl) ?_
  refine xcSi [.ref (tx G 7), .int r1] S hE hA hP hD hS (c_M_isAmong l G z1 H.size 7 r1 _) hB (gw_c lk_X12_147 (gw_c wt_X12_isAmong (gw_c wn_X12 (gw_c wc_X12_isAmong (fun _ h9 => h9))))) hs_X12_isAmong rfl rfl (Nat.le_trans (Nat.le_of_ble_eq_true rfl) hRf) (Nat.le_trans (Nat.le_of_ble_eq_true rfl) hRl) ⟨Nat.zero_le _, Nat.zero_le _⟩ rfl hl.1 rfl (Nat.le_of_ble_eq_true rfl) dX12_clause_8 (fun r2 z2 H locs hB hP hD hS => ?_)
  refine lv_if_ne (tgt := 20) hx hb dX12_clause_11 (by decide) (fun c3 => ?_) (fun c3 => ?_)
  · have hB := hB.2 c3
    refine lv_aload_n hx hb dX12_clause_20 rfl (lv_at hl 1 rfl) ?_
    refine lv_dup hx hb dX12_clause_21 rfl ?_
    refine xMg_100_at S hE hP lk_X12_112 dX12_clause_22 ?_
    refine lv_iconst (v := 1) hx hb dX12_clause_25 (by decide) ?_
    refine lv_iadd hx hb dX12_clause_26 ?_
    obtain ⟨z3, ez3⟩ : ∃ z9, z9 = sI z2 105 ((gI z2 105) + (1 : Int32)) := ⟨_, rfl⟩
    have hB := hB z3 ez3
    refine xMp_100_at S hE hP hD hS lk_X12_112 dX12_clause_27 (fun H locs hP hD hS => ?_)
    rw [← ez3] at hP hD
    refine lv_aload_n hx hb dX12_clause_30 rfl (lv_at hl 1 rfl) ?_
    refine lv_bipush (v := 58) hx hb dX12_clause_31 (by decide) ?_
    refine xcVi [.int (58 : Int32)] S hE hA hP hD hS (c_M_takes l G z3 H.size (58 : Int32) _) hB (gw_c lk_X12_157 (gw_c wi_X12_takes (gw_c we_X12_X12_takes_X12_takes (gw_c wn_X12 (gw_c wc_X12_takes (fun _ h9 => h9)))))) hd_X12_takes rfl rfl (Nat.le_trans (Nat.le_of_ble_eq_true rfl) hRf) (Nat.le_trans (Nat.le_of_ble_eq_true rfl) hRl) ⟨Nat.zero_le _, Nat.zero_le _⟩ (va_recv hE.1 hP (ci := 11) (q0 := 0) rfl rfl) rfl hl.1 rfl (Nat.le_of_ble_eq_true rfl) dX12_clause_33 (fun r4 z4 H locs hB hP hD hS => ?_)
    refine lv_if_ne (tgt := 40) hx hb dX12_clause_36 (by decide) (fun c5 => ?_) (fun c5 => ?_)
    · have hB := hB.2 c5
      refine lv_iconst (v := 1) hx hb dX12_clause_40 (by decide) ?_
      refine lv_istore_n (lv' := [(2, .int (1 : Int32)), (1, .int r1), (0, .ref (ad G 100))]) hx hb dX12_clause_41 rfl hl (by decide) rfl (fun ls hl => ?_)
      refine lv_iconst (v := 0) hx hb dX12_clause_42 (by decide) ?_
      refine lv_istore_n (lv' := [(3, .int (0 : Int32)), (2, .int (1 : Int32)), (1, .int r1), (0, .ref (ad G 100))]) hx hb dX12_clause_43 rfl hl (by decide) rfl (fun ls hl => ?_)
      refine lv_aload_n hx hb dX12_clause_44 rfl (lv_at hl 3 rfl) ?_
      refine xcVi [] S hE hA hP hD hS (c_M_look l G z4 H.size _) hB (gw_c lk_X12_131 (gw_c wi_X12_look (gw_c we_X12_X12_look_X12_look (gw_c wn_X12 (gw_c wc_X12_look (fun _ h9 => h9)))))) hd_X12_look rfl rfl (Nat.le_trans (Nat.le_of_ble_eq_true rfl) hRf) (Nat.le_trans (Nat.le_of_ble_eq_true rfl) hRl) ⟨Nat.zero_le _, Nat.zero_le _⟩ (va_recv hE.1 hP (ci := 11) (q0 := 0) rfl rfl) rfl hl.1 rfl (Nat.le_of_ble_eq_true rfl) dX12_clause_45 (fun r6 z5 H locs hB hP hD hS => ?_)
      refine lv_istore (lv' := [(4, .int r6), (3, .int (0 : Int32)), (2, .int (1 : Int32)), (1, .int r1), (0, .ref (ad G 100))]) hx hb dX12_clause_48 hl (by decide) rfl (fun ls hl => ?_)
      refine lv_iload hx hb dX12_clause_50 (lv_at hl 0 rfl) ?_
      refine lv_bipush (v := 33) hx hb dX12_clause_52 (by decide) ?_
      refine lv_icmp_eq (tgt := 64) hx hb dX12_clause_54 (by decide) (fun c7 => ?_) (fun c7 => ?_)
      · have hB := hB.1 c7
        exact w_M_clause_64 S hE hA hRf hRl hret r1 z5 hB _ _ _ hP hD hS (lv_sub hl [4, 3] rfl)
      · have hB := hB.2 c7
        refine lv_iload hx hb dX12_clause_57 (lv_at hl 0 rfl) ?_
        refine lv_bipush (v := 40) hx hb dX12_clause_59 (by decide) ?_
        refine lv_icmp_ne (tgt := 89) hx hb dX12_clause_61 (by decide) (fun c8 => ?_) (fun c8 => ?_)
        · have hB := hB.2 c8
          refine lv_aload_n hx hb dX12_clause_89 rfl (lv_at hl 4 rfl) ?_
          refine xcVi [] S hE hA hP hD hS (cd_M_sum l 8 G z5 H.size _) hB (gw_c lk_X12_154 (gw_c wi_X12_sum (gw_c we_X12_X12_sum_X12_sum (gw_c wn_X12 (gw_c wc_X12_sum (fun _ h9 => h9)))))) hd_X12_sum rfl rfl (Nat.le_trans (Nat.le_of_ble_eq_true rfl) hRf) (Nat.le_trans (Nat.le_of_ble_eq_true rfl) hRl) ⟨Nat.zero_le _, Nat.zero_le _⟩ (va_recv hE.1 hP (ci := 11) (q0 := 0) rfl rfl) rfl hl.1 rfl (Nat.le_of_ble_eq_true rfl) dX12_clause_90 (fun r9 z6 H locs hB hP hD hS => ?_)
          refine lv_istore_n (lv' := [(3, .int r9), (4, .int r6), (2, .int (1 : Int32)), (1, .int r1), (0, .ref (ad G 100))]) hx hb dX12_clause_93 rfl hl (by decide) rfl (fun ls hl => ?_)
          refine lv_aload_n hx hb dX12_clause_94 rfl (lv_at hl 4 rfl) ?_
          refine xMg_100_fault S hE hP lk_X12_121 dX12_clause_95 ?_
          refine lv_iconst (v := -1) hx hb dX12_clause_98 (by decide) ?_
          refine lv_icmp_ne (tgt := 134) hx hb dX12_clause_99 (by decide) (fun c10 => ?_) (fun c10 => ?_)
          · have hB := hB.2 c10
            exact w_M_clause_134 S hE hA hRf hRl hret r1 (1 : Int32) r9 z6 hB _ _ _ hP hD hS (lv_sub hl [4, 3, 2, 0] rfl)
          · have hB := hB.1 c10
            refine lv_aload_n hx hb dX12_clause_102 rfl (lv_at hl 4 rfl) ?_
            refine xcVi [] S hE hA hP hD hS (c_M_look l G z6 H.size _) hB (gw_c lk_X12_131 (gw_c wi_X12_look (gw_c we_X12_X12_look_X12_look (gw_c wn_X12 (gw_c wc_X12_look (fun _ h9 => h9)))))) hd_X12_look rfl rfl (Nat.le_trans (Nat.le_of_ble_eq_true rfl) hRf) (Nat.le_trans (Nat.le_of_ble_eq_true rfl) hRl) ⟨Nat.zero_le _, Nat.zero_le _⟩ (va_recv hE.1 hP (ci := 11) (q0 := 0) rfl rfl) rfl hl.1 rfl (Nat.le_of_ble_eq_true rfl) dX12_clause_103 (fun r11 z7 H locs hB hP hD hS => ?_)
            refine xcSi [.int r11] S hE hA hP hD hS (c_M_isSign l G z7 H.size r11 _) hB (gw_c lk_X12_174 (gw_c wt_X12_isSign (gw_c wn_X12 (gw_c wc_X12_isSign (fun _ h9 => h9))))) hs_X12_isSign rfl rfl (Nat.le_trans (Nat.le_of_ble_eq_true rfl) hRf) (Nat.le_trans (Nat.le_of_ble_eq_true rfl) hRl) ⟨Nat.zero_le _, Nat.zero_le _⟩ rfl hl.1 rfl (Nat.le_of_ble_eq_true rfl) dX12_clause_106 (fun r12 z8 H locs hB hP hD hS => ?_)
            refine lv_if_eq (tgt := 134) hx hb dX12_clause_109 (by decide) (fun c13 => ?_) (fun c13 => ?_)
            · have hB := hB.1 c13
              exact w_M_clause_134 S hE hA hRf hRl hret r1 (1 : Int32) r9 z8 hB _ _ _ hP hD hS (lv_sub hl [4, 3, 2, 0] rfl)
            · have hB := hB.2 c13
              refine lv_aload_n hx hb dX12_clause_112 rfl (lv_at hl 4 rfl) ?_
              refine lv_iconst (v := 1) hx hb dX12_clause_113 (by decide) ?_
              refine lv_iload_n hx hb dX12_clause_114 rfl (lv_at hl 0 rfl) ?_
              refine xcVi [.int (1 : Int32), .int r9] S hE hA hP hD hS (c_M_condition l (cd_M_unit l 8) ⟨Nat.le_of_ble_eq_true rfl, Nat.le_of_ble_eq_true rfl⟩ G z8 H.size (1 : Int32) r9 _) hB (gw_c lk_X12_180 (gw_c wi_X12_condition (gw_c we_X12_X12_condition_X12_condition (gw_c wn_X12 (gw_c wc_X12_condition (fun _ h9 => h9)))))) hd_X12_condition rfl rfl (Nat.le_trans (Nat.le_of_ble_eq_true rfl) hRf) (Nat.le_trans (Nat.le_of_ble_eq_true rfl) hRl) ⟨Nat.zero_le _, Nat.zero_le _⟩ (va_recv hE.1 hP (ci := 11) (q0 := 0) rfl rfl) rfl hl.1 rfl (Nat.le_of_ble_eq_true rfl) dX12_clause_115 (fun r14 z9 H locs hB hP hD hS => ?_)
              refine lv_istore_n (lv' := [(2, .int r14), (3, .int r9), (4, .int r6), (1, .int r1), (0, .ref (ad G 100))]) hx hb dX12_clause_118 rfl hl (by decide) rfl (fun ls hl => ?_)
              refine lv_aload_n hx hb dX12_clause_119 rfl (lv_at hl 4 rfl) ?_
              refine lv_bipush (v := 63) hx hb dX12_clause_120 (by decide) ?_
              refine xcVi [.int (63 : Int32)] S hE hA hP hD hS (c_M_takes l G z9 H.size (63 : Int32) _) hB (gw_c lk_X12_157 (gw_c wi_X12_takes (gw_c we_X12_X12_takes_X12_takes (gw_c wn_X12 (gw_c wc_X12_takes (fun _ h9 => h9)))))) hd_X12_takes rfl rfl (Nat.le_trans (Nat.le_of_ble_eq_true rfl) hRf) (Nat.le_trans (Nat.le_of_ble_eq_true rfl) hRl) ⟨Nat.zero_le _, Nat.zero_le _⟩ (va_recv hE.1 hP (ci := 11) (q0 := 0) rfl rfl) rfl hl.1 rfl (Nat.le_of_ble_eq_true rfl) dX12_clause_122 (fun r15 z10 H locs hB hP hD hS => ?_)
              refine lv_if_ne (tgt := 129) hx hb dX12_clause_125 (by decide) (fun c16 => ?_) (fun c16 => ?_)
              · have hB := hB.2 c16
                refine lv_aload_n hx hb dX12_clause_129 rfl (lv_at hl 4 rfl) ?_
                refine xcVi [] S hE hA hP hD hS (cd_M_sum l 8 G z10 H.size _) hB (gw_c lk_X12_154 (gw_c wi_X12_sum (gw_c we_X12_X12_sum_X12_sum (gw_c wn_X12 (gw_c wc_X12_sum (fun _ h9 => h9)))))) hd_X12_sum rfl rfl (Nat.le_trans (Nat.le_of_ble_eq_true rfl) hRf) (Nat.le_trans (Nat.le_of_ble_eq_true rfl) hRl) ⟨Nat.zero_le _, Nat.zero_le _⟩ (va_recv hE.1 hP (ci := 11) (q0 := 0) rfl rfl) rfl hl.1 rfl (Nat.le_of_ble_eq_true rfl) dX12_clause_130 (fun r17 z11 H locs hB hP hD hS => ?_)
                refine lv_istore_n (lv' := [(3, .int r17), (2, .int r14), (4, .int r6), (1, .int r1), (0, .ref (ad G 100))]) hx hb dX12_clause_133 rfl hl (by decide) rfl (fun ls hl => ?_)
                exact w_M_clause_134 S hE hA hRf hRl hret r1 r14 r17 z11 hB _ _ _ hP hD hS (lv_sub hl [4, 3, 1, 0] rfl)
              · have hB := hB.1 c16
                exact hret _ _ _ _ _ dX12_clause_128 hB hP hD hS
        · have hB := hB.1 c8
          exact w_M_clause_64 S hE hA hRf hRl hret r1 z5 hB _ _ _ hP hD hS (lv_sub hl [4, 3] rfl)
    · have hB := hB.1 c5
      exact hret _ _ _ _ _ dX12_clause_39 hB hP hD hS
  · have hB := hB.1 c3
    refine lv_aload_n hx hb dX12_clause_14 rfl (lv_at hl 1 rfl) ?_
    refine xcVi [] S hE hA hP hD hS (c_M_fails l G z2 H.size _) hB (gw_c lk_X12_127 (gw_c wi_X12_fails (gw_c we_X12_X12_fails_X12_fails (gw_c wn_X12 (gw_c wc_X12_fails (fun _ h9 => h9)))))) hd_X12_fails rfl rfl (Nat.le_trans (Nat.le_of_ble_eq_true rfl) hRf) (Nat.le_trans (Nat.le_of_ble_eq_true rfl) hRl) ⟨Nat.zero_le _, Nat.zero_le _⟩ (va_recv hE.1 hP (ci := 11) (q0 := 0) rfl rfl) rfl hl.1 rfl (Nat.le_of_ble_eq_true rfl) dX12_clause_15 (fun r18 z12 H locs hB hP hD hS => ?_)
    refine lv_pop hx hb dX12_clause_18 rfl ?_
    exact hret _ _ _ _ _ dX12_clause_19 hB hP hD hS
set_option maxHeartbeats 4000000 in
set_option maxRecDepth 100000 in
theorem c_M_clause (l : Launch) (G : GX) (z0 : St) (sz : Nat) (post : St → Prop) : MetV l wM yX12_clause cX12_clause 5 none ({ frames := 58, cells := 0, slots := 0, locals := 1644 }) [.ref (ad G 100)] G z0 sz (S_M_clause post z0) post := by
  refine Met.ofW (cc := cX12_clause) (maxL := 5) (ret := none) (by decide) rfl ?_
  intro p e s m args below meth c s₁ B hml hv
  obtain ⟨rfl, hsz, hP, hD0, hE, hB⟩ := hv
  have S : CallFix p m c cX12_clause 5 s _ GW RX12 := ⟨B.exec, B.bytes, hml, findClass_of_methodNamed B.named, fun w h => atoms_spec (ws := Cond.code yX12_clause cX12_clause 5 none :: GW) B.pre w (List.mem_cons_of_mem _ h)⟩
  have hlocks := B.notSynchronized
  subst hsz
  have hD := hD0.self (sz := s.heap.size)
  generalize hAe : va_A (wM G z0) s.heap.size = A at hD hE ⊢
  have hA : ∀ q : Nat, s.heap.size ≤ q → A q := fun q h => by rw [← hAe]; exact Or.inr h
  have hS : va_S A s.heap s.heap [] := va_S.rf
  have hl := lv_entry ([.ref (ad G 100)]) (n := 5) (Nat.le_of_ble_eq_true rfl)
  rw [lg_entry_eq]
  generalize (lg_sl ([.ref (ad G 100)]) ++ List.replicate (5 - (lg_sl ([.ref (ad G 100)])).length) Slot.unset).toArray = ls at hl ⊢
  have hl : lv_has ls 5 [(0, .ref (ad G 100))] := hl
  refine w_M_clause_0 S hE hA (Nat.le_refl _) (Nat.le_refl _) ?_  z0 hB _ _ _ hP hD hS hl
  intro pc ls σ H locs hd hp hP hD hS
  exact W.vret B.exec B.bytes B.returns (fun t ht hW => ⟨⟨σ, rfl, hp, by rw [ht]; exact hP, hD⟩, hS.F ht⟩) hS.2.2 hd
def B_M_goThrough_r101_66 (post : St → Prop) (z0 : St) : Prop :=
  (((gI z0 106) = (-1 : Int32) → (S_M_look (fun (r2 : Int32) (z1 : St) => ((r2 = (-1 : Int32) → (post z1)) ∧ (¬ r2 = (-1 : Int32) → (S_M_fails (fun (r4 : Int32) (z2 : St) => (post z2)) z1)))) z0)) ∧ (¬ (gI z0 106) = (-1 : Int32) → (post z0)))
set_option maxHeartbeats 4000000 in
set_option maxRecDepth 100000 in
theorem w_M_goThrough_r101_66 {p : Program} {l : Launch} {e : Env} {R : Room} {s : State} {m : MethodId} {args : Array Value} {below : List Frame} {meth : Method} {c : Code} {Q : State → Prop} {G : GX} {A : Nat → Prop} (S : CallFix p m c cX12_goThrough 4 s args GW RX12) (hE : env G A s s.heap) (hA : ∀ q, s.heap.size ≤ q → A q) (hRf : 59 ≤ R.frames) (hRl : 1668 ≤ R.locals) {post : St → Prop} (hret : RetV p l e R s m args below meth c Q 0 0 wM G A cX12_goThrough post) (z0 : St) (hB : B_M_goThrough_r101_66 post z0) : Xw p l e R s m args below meth c Q 0 0 wM G A z0 4 [(0, .ref (ad G 100))] 66 [] := by
  intro H locs ls hP hD hS hl
  have hx := S.1
  have hb := S.2.1
  refine lv_aload_n hx hb dX12_goThrough_66 rfl (lv_at hl 0 rfl) ?_
  refine xMg_100_fault S hE hP lk_X12_121 dX12_goThrough_67 ?_
  refine lv_iconst (v := -1) hx hb dX12_goThrough_70 (by decide) ?_
  refine lv_icmp_ne (tgt := 87) hx hb dX12_goThrough_71 (by decide) (fun c1 => ?_) (fun c1 => ?_)
  · have hB := hB.2 c1
    exact hret _ _ _ _ _ dX12_goThrough_87 hB hP hD hS
  · have hB := hB.1 c1
    refine lv_aload_n hx hb dX12_goThrough_74 rfl (lv_at hl 0 rfl) ?_
    refine xcVi [] S hE hA hP hD hS (c_M_look l G z0 H.size _) hB (gw_c lk_X12_131 (gw_c wi_X12_look (gw_c we_X12_X12_look_X12_look (gw_c wn_X12 (gw_c wc_X12_look (fun _ h9 => h9)))))) hd_X12_look rfl rfl (Nat.le_trans (Nat.le_of_ble_eq_true rfl) hRf) (Nat.le_trans (Nat.le_of_ble_eq_true rfl) hRl) ⟨Nat.zero_le _, Nat.zero_le _⟩ (va_recv hE.1 hP (ci := 11) (q0 := 0) rfl rfl) rfl hl.1 rfl (Nat.le_of_ble_eq_true rfl) dX12_goThrough_75 (fun r2 z1 H locs hB hP hD hS => ?_)
    refine lv_iconst (v := -1) hx hb dX12_goThrough_78 (by decide) ?_
    refine lv_icmp_eq (tgt := 87) hx hb dX12_goThrough_79 (by decide) (fun c3 => ?_) (fun c3 => ?_)
    · have hB := hB.1 c3
      exact hret _ _ _ _ _ dX12_goThrough_87 hB hP hD hS
    · have hB := hB.2 c3
      refine lv_aload_n hx hb dX12_goThrough_82 rfl (lv_at hl 0 rfl) ?_
      refine xcVi [] S hE hA hP hD hS (c_M_fails l G z1 H.size _) hB (gw_c lk_X12_127 (gw_c wi_X12_fails (gw_c we_X12_X12_fails_X12_fails (gw_c wn_X12 (gw_c wc_X12_fails (fun _ h9 => h9)))))) hd_X12_fails rfl rfl (Nat.le_trans (Nat.le_of_ble_eq_true rfl) hRf) (Nat.le_trans (Nat.le_of_ble_eq_true rfl) hRl) ⟨Nat.zero_le _, Nat.zero_le _⟩ (va_recv hE.1 hP (ci := 11) (q0 := 0) rfl rfl) rfl hl.1 rfl (Nat.le_of_ble_eq_true rfl) dX12_goThrough_83 (fun r4 z2 H locs hB hP hD hS => ?_)
      refine lv_pop hx hb dX12_goThrough_86 rfl ?_
      exact hret _ _ _ _ _ dX12_goThrough_87 hB hP hD hS
def B_M_goThrough_r101_32 (post : St → Prop) (ih32 : St → Prop) (z0 : St) : Prop :=
  (((gI z0 106) = (-1 : Int32) → (S_M_look (fun (r2 : Int32) (z1 : St) => ((r2 = (59 : Int32) → (∀ z2 : St, z2 = sI z1 105 ((gI z1 105) + (1 : Int32)) → (S_M_clause (fun (z3 : St) => (ih32 z3)) z2))) ∧ (¬ r2 = (59 : Int32) → (B_M_goThrough_r101_66 post z1)))) z0)) ∧ (¬ (gI z0 106) = (-1 : Int32) → (B_M_goThrough_r101_66 post z0)))
set_option maxHeartbeats 4000000 in
set_option maxRecDepth 100000 in
theorem w_M_goThrough_r101_32 {p : Program} {l : Launch} {e : Env} {R : Room} {s : State} {m : MethodId} {args : Array Value} {below : List Frame} {meth : Method} {c : Code} {Q : State → Prop} {G : GX} {A : Nat → Prop} (S : CallFix p m c cX12_goThrough 4 s args GW RX12) (hE : env G A s s.heap) (hA : ∀ q, s.heap.size ≤ q → A q) (hRf : 59 ≤ R.frames) (hRl : 1668 ≤ R.locals) {post : St → Prop} (hret : RetV p l e R s m args below meth c Q 0 0 wM G A cX12_goThrough post) {ih32 : St → Prop} (h32 : ∀ (z0 : St), ih32 z0 → Xw p l e R s m args below meth c Q 0 0 wM G A z0 4 [(0, .ref (ad G 100))] 32 []) (z0 : St) (hB : B_M_goThrough_r101_32 post ih32 z0) : Xw p l e R s m args below meth c Q 0 0 wM G A z0 4 [(0, .ref (ad G 100))] 32 [] := by
  intro H locs ls hP hD hS hl
  have hx := S.1
  have hb := S.2.1
  refine lv_aload_n hx hb dX12_goThrough_32 rfl (lv_at hl 0 rfl) ?_
  refine xMg_100_fault S hE hP lk_X12_121 dX12_goThrough_33 ?_
  refine lv_iconst (v := -1) hx hb dX12_goThrough_36 (by decide) ?_
  refine lv_icmp_ne (tgt := 66) hx hb dX12_goThrough_37 (by decide) (fun c1 => ?_) (fun c1 => ?_)
  · have hB := hB.2 c1
    exact w_M_goThrough_r101_66 S hE hA hRf hRl hret z0 hB _ _ _ hP hD hS (lv_sub hl [0] rfl)
  · have hB := hB.1 c1
    refine lv_aload_n hx hb dX12_goThrough_40 rfl (lv_at hl 0 rfl) ?_
    refine xcVi [] S hE hA hP hD hS (c_M_look l G z0 H.size _) hB (gw_c lk_X12_131 (gw_c wi_X12_look (gw_c we_X12_X12_look_X12_look (gw_c wn_X12 (gw_c wc_X12_look (fun _ h9 => h9)))))) hd_X12_look rfl rfl (Nat.le_trans (Nat.le_of_ble_eq_true rfl) hRf) (Nat.le_trans (Nat.le_of_ble_eq_true rfl) hRl) ⟨Nat.zero_le _, Nat.zero_le _⟩ (va_recv hE.1 hP (ci := 11) (q0 := 0) rfl rfl) rfl hl.1 rfl (Nat.le_of_ble_eq_true rfl) dX12_goThrough_41 (fun r2 z1 H locs hB hP hD hS => ?_)
    refine lv_bipush (v := 59) hx hb dX12_goThrough_44 (by decide) ?_
    refine lv_icmp_ne (tgt := 66) hx hb dX12_goThrough_46 (by decide) (fun c3 => ?_) (fun c3 => ?_)
    · have hB := hB.2 c3
      exact w_M_goThrough_r101_66 S hE hA hRf hRl hret z1 hB _ _ _ hP hD hS (lv_sub hl [0] rfl)
    · have hB := hB.1 c3
      refine lv_aload_n hx hb dX12_goThrough_49 rfl (lv_at hl 0 rfl) ?_
      refine lv_dup hx hb dX12_goThrough_50 rfl ?_
      refine xMg_100_at S hE hP lk_X12_112 dX12_goThrough_51 ?_
      refine lv_iconst (v := 1) hx hb dX12_goThrough_54 (by decide) ?_
      refine lv_iadd hx hb dX12_goThrough_55 ?_
      obtain ⟨z2, ez2⟩ : ∃ z9, z9 = sI z1 105 ((gI z1 105) + (1 : Int32)) := ⟨_, rfl⟩
      have hB := hB z2 ez2
      refine xMp_100_at S hE hP hD hS lk_X12_112 dX12_goThrough_56 (fun H locs hP hD hS => ?_)
      rw [← ez2] at hP hD
      refine lv_aload_n hx hb dX12_goThrough_59 rfl (lv_at hl 0 rfl) ?_
      refine xcVv [] S hE hA hP hD hS (c_M_clause l G z2 H.size _) hB (gw_c lk_X12_204 (gw_c wi_X12_clause (gw_c we_X12_X12_clause_X12_clause (gw_c wn_X12 (gw_c wc_X12_clause (fun _ h9 => h9)))))) hd_X12_clause rfl rfl (Nat.le_trans (Nat.le_of_ble_eq_true rfl) hRf) (Nat.le_trans (Nat.le_of_ble_eq_true rfl) hRl) ⟨Nat.zero_le _, Nat.zero_le _⟩ (va_recv hE.1 hP (ci := 11) (q0 := 0) rfl rfl) rfl hl.1 rfl (Nat.le_of_ble_eq_true rfl) dX12_goThrough_60 (fun z3 H locs hB hP hD hS => ?_)
      refine lv_goto (tgt := 32) hx hb dX12_goThrough_63 (by decide) ?_
      exact h32 z3 hB _ _ _ hP hD hS (lv_sub hl [0] rfl)
def L_M_goThrough_r101_32 (post : St → Prop) : Nat → St → Prop
  | 0 => fun _ => False
  | n + 1 => B_M_goThrough_r101_32 post (L_M_goThrough_r101_32 post n)
theorem wl_M_goThrough_r101_32 {p : Program} {l : Launch} {e : Env} {R : Room} {s : State} {m : MethodId} {args : Array Value} {below : List Frame} {meth : Method} {c : Code} {Q : State → Prop} {G : GX} {A : Nat → Prop} (S : CallFix p m c cX12_goThrough 4 s args GW RX12) (hE : env G A s s.heap) (hA : ∀ q, s.heap.size ≤ q → A q) (hRf : 59 ≤ R.frames) (hRl : 1668 ≤ R.locals) {post : St → Prop} (hret : RetV p l e R s m args below meth c Q 0 0 wM G A cX12_goThrough post) : ∀ (n : Nat) (z0 : St), L_M_goThrough_r101_32 post n z0 → Xw p l e R s m args below meth c Q 0 0 wM G A z0 4 [(0, .ref (ad G 100))] 32 [] := by
  intro n
  induction n with
  | zero => intro z0 hB; exact absurd hB id
  | succ n ih => exact fun z0 hB => w_M_goThrough_r101_32 S hE hA hRf hRl hret ih z0 hB
def S_M_goThrough_r101 (post : St → Prop) (x2 : Int32) (x3 : Int32) (z0 : St) : Prop :=
  (S_M_starts_r101 (fun (z1 : St) => (∀ z2 : St, z2 = sI z1 108 (121 : Int32) → (∀ z3 : St, z3 = sI z2 107 (0 : Int32) → (∀ z4 : St, z4 = sI z3 110 (0 : Int32) → (∀ z5 : St, z5 = sI z4 109 (0 : Int32) → (S_M_clause (fun (z6 : St) => (∃ n1, L_M_goThrough_r101_32 post n1 z6)) z5)))))) x2 x3 z0)
set_option maxHeartbeats 4000000 in
set_option maxRecDepth 100000 in
theorem w_M_goThrough_r101_0 {p : Program} {l : Launch} {e : Env} {R : Room} {s : State} {m : MethodId} {args : Array Value} {below : List Frame} {meth : Method} {c : Code} {Q : State → Prop} {G : GX} {A : Nat → Prop} (S : CallFix p m c cX12_goThrough 4 s args GW RX12) (hE : env G A s s.heap) (hA : ∀ q, s.heap.size ≤ q → A q) (hRf : 59 ≤ R.frames) (hRl : 1668 ≤ R.locals) {post : St → Prop} (hret : RetV p l e R s m args below meth c Q 0 0 wM G A cX12_goThrough post) (x2 : Int32) (x3 : Int32) (z0 : St) (hB : S_M_goThrough_r101 post x2 x3 z0) : Xw p l e R s m args below meth c Q 0 0 wM G A z0 4 [(0, .ref (ad G 100)), (1, .ref (ad G 101)), (2, .int x2), (3, .int x3)] 0 [] := by
  intro H locs ls hP hD hS hl
  have hx := S.1
  have hb := S.2.1
  refine lv_aload_n hx hb dX12_goThrough_0 rfl (lv_at hl 0 rfl) ?_
  refine lv_aload_n hx hb dX12_goThrough_1 rfl (lv_at hl 1 rfl) ?_
  refine lv_iload_n hx hb dX12_goThrough_2 rfl (lv_at hl 2 rfl) ?_
  refine lv_iload_n hx hb dX12_goThrough_3 rfl (lv_at hl 3 rfl) ?_
  refine xcVv [.ref (ad G 101), .int x2, .int x3] S hE hA hP hD hS (c_M_starts_r101 l G z0 H.size x2 x3 _) hB (gw_c lk_X12_200 (gw_c wi_X12_starts (gw_c we_X12_X12_starts_X12_starts (gw_c wn_X12 (gw_c wc_X12_starts (fun _ h9 => h9)))))) hd_X12_starts rfl rfl (Nat.le_trans (Nat.le_of_ble_eq_true rfl) hRf) (Nat.le_trans (Nat.le_of_ble_eq_true rfl) hRl) ⟨Nat.zero_le _, Nat.zero_le _⟩ (va_recv hE.1 hP (ci := 11) (q0 := 0) rfl rfl) rfl hl.1 rfl (Nat.le_of_ble_eq_true rfl) dX12_goThrough_4 (fun z1 H locs hB hP hD hS => ?_)
  refine lv_aload_n hx hb dX12_goThrough_7 rfl (lv_at hl 0 rfl) ?_
  refine lv_bipush (v := 121) hx hb dX12_goThrough_8 (by decide) ?_
  obtain ⟨z2, ez2⟩ : ∃ z9, z9 = sI z1 108 (121 : Int32) := ⟨_, rfl⟩
  have hB := hB z2 ez2
  refine xMp_100_label S hE hP hD hS lk_X12_194 dX12_goThrough_10 (fun H locs hP hD hS => ?_)
  rw [← ez2] at hP hD
  refine lv_aload_n hx hb dX12_goThrough_13 rfl (lv_at hl 0 rfl) ?_
  refine lv_iconst (v := 0) hx hb dX12_goThrough_14 (by decide) ?_
  obtain ⟨z3, ez3⟩ : ∃ z9, z9 = sI z2 107 (0 : Int32) := ⟨_, rfl⟩
  have hB := hB z3 ez3
  refine xMp_100_deep S hE hP hD hS lk_X12_124 dX12_goThrough_15 (fun H locs hP hD hS => ?_)
  rw [← ez3] at hP hD
  refine lv_aload_n hx hb dX12_goThrough_18 rfl (lv_at hl 0 rfl) ?_
  refine lv_iconst (v := 0) hx hb dX12_goThrough_19 (by decide) ?_
  obtain ⟨z4, ez4⟩ : ∃ z9, z9 = sI z3 110 (0 : Int32) := ⟨_, rfl⟩
  have hB := hB z4 ez4
  refine xMp_100_hasFound S hE hP hD hS lk_X12_190 (by decide) dX12_goThrough_20 (fun H locs hP hD hS => ?_)
  rw [← ez4] at hP hD
  refine lv_aload_n hx hb dX12_goThrough_23 rfl (lv_at hl 0 rfl) ?_
  refine lv_iconst (v := 0) hx hb dX12_goThrough_24 (by decide) ?_
  obtain ⟨z5, ez5⟩ : ∃ z9, z9 = sI z4 109 (0 : Int32) := ⟨_, rfl⟩
  have hB := hB z5 ez5
  refine xMp_100_found S hE hP hD hS lk_X12_197 dX12_goThrough_25 (fun H locs hP hD hS => ?_)
  rw [← ez5] at hP hD
  refine lv_aload_n hx hb dX12_goThrough_28 rfl (lv_at hl 0 rfl) ?_
  refine xcVv [] S hE hA hP hD hS (c_M_clause l G z5 H.size _) hB (gw_c lk_X12_204 (gw_c wi_X12_clause (gw_c we_X12_X12_clause_X12_clause (gw_c wn_X12 (gw_c wc_X12_clause (fun _ h9 => h9)))))) hd_X12_clause rfl rfl (Nat.le_trans (Nat.le_of_ble_eq_true rfl) hRf) (Nat.le_trans (Nat.le_of_ble_eq_true rfl) hRl) ⟨Nat.zero_le _, Nat.zero_le _⟩ (va_recv hE.1 hP (ci := 11) (q0 := 0) rfl rfl) rfl hl.1 rfl (Nat.le_of_ble_eq_true rfl) dX12_goThrough_29 (fun z6 H locs hB hP hD hS => ?_)
  obtain ⟨n1, hB⟩ := hB
  exact wl_M_goThrough_r101_32 S hE hA hRf hRl hret n1 z6 hB _ _ _ hP hD hS (lv_sub hl [0] rfl)
set_option maxHeartbeats 4000000 in
set_option maxRecDepth 100000 in
theorem c_M_goThrough_r101 (l : Launch) (G : GX) (z0 : St) (sz : Nat) (x2 : Int32) (x3 : Int32) (post : St → Prop) : MetV l wM yX12_goThrough cX12_goThrough 4 none ({ frames := 59, cells := 0, slots := 0, locals := 1668 }) [.ref (ad G 100), .ref (ad G 101), .int x2, .int x3] G z0 sz (S_M_goThrough_r101 post x2 x3 z0) post := by
  refine Met.ofW (cc := cX12_goThrough) (maxL := 4) (ret := none) (by decide) rfl ?_
  intro p e s m args below meth c s₁ B hml hv
  obtain ⟨rfl, hsz, hP, hD0, hE, hB⟩ := hv
  have S : CallFix p m c cX12_goThrough 4 s _ GW RX12 := ⟨B.exec, B.bytes, hml, findClass_of_methodNamed B.named, fun w h => atoms_spec (ws := Cond.code yX12_goThrough cX12_goThrough 4 none :: GW) B.pre w (List.mem_cons_of_mem _ h)⟩
  have hlocks := B.notSynchronized
  subst hsz
  have hD := hD0.self (sz := s.heap.size)
  generalize hAe : va_A (wM G z0) s.heap.size = A at hD hE ⊢
  have hA : ∀ q : Nat, s.heap.size ≤ q → A q := fun q h => by rw [← hAe]; exact Or.inr h
  have hS : va_S A s.heap s.heap [] := va_S.rf
  have hl := lv_entry ([.ref (ad G 100), .ref (ad G 101), .int x2, .int x3]) (n := 4) (Nat.le_of_ble_eq_true rfl)
  rw [lg_entry_eq]
  generalize (lg_sl ([.ref (ad G 100), .ref (ad G 101), .int x2, .int x3]) ++ List.replicate (4 - (lg_sl ([.ref (ad G 100), .ref (ad G 101), .int x2, .int x3])).length) Slot.unset).toArray = ls at hl ⊢
  have hl : lv_has ls 4 [(0, .ref (ad G 100)), (1, .ref (ad G 101)), (2, .int x2), (3, .int x3)] := hl
  refine w_M_goThrough_r101_0 S hE hA (Nat.le_refl _) (Nat.le_refl _) ?_ x2 x3 z0 hB _ _ _ hP hD hS hl
  intro pc ls σ H locs hd hp hP hD hS
  exact W.vret B.exec B.bytes B.returns (fun t ht hW => ⟨⟨σ, rfl, hp, by rw [ht]; exact hP, hD⟩, hS.F ht⟩) hS.2.2 hd
def B_M_isWhole_2 (post : Int32 → St → Prop) (ih2 : Int32 → St → Prop) (x1 : Int32) (z0 : St) : Prop :=
  (((gI z0 114) ≤ x1 → (((gI z0 113) ≤ (1 : Int32) → (post (0 : Int32) z0)) ∧ (¬ (gI z0 113) ≤ (1 : Int32) → (((gI z0 114) ≤ 0 → (post (0 : Int32) z0)) ∧ (¬ (gI z0 114) ≤ 0 → (((gI z0 113) ≤ (gA z0 106 0) → (post (0 : Int32) z0)) ∧ (¬ (gI z0 113) ≤ (gA z0 106 0) → (post (1 : Int32) z0)))))))) ∧ (¬ (gI z0 114) ≤ x1 → (vp_in ((3 : Int32) * x1) 18 ∧ (((gA z0 110 ((3 : Int32) * x1).toNatClampNeg) < (gI z0 113) → (∀ v6 : Int32, v6 = x1 + (1 : Int32) → (ih2 v6 z0))) ∧ (¬ (gA z0 110 ((3 : Int32) * x1).toNatClampNeg) < (gI z0 113) → (post (0 : Int32) z0))))))
set_option maxHeartbeats 4000000 in
set_option maxRecDepth 100000 in
theorem w_M_isWhole_2 {p : Program} {l : Launch} {e : Env} {R : Room} {s : State} {m : MethodId} {args : Array Value} {below : List Frame} {meth : Method} {c : Code} {Q : State → Prop} {G : GX} {A : Nat → Prop} (S : CallFix p m c cX12_isWhole 2 s args GW RX12) (hE : env G A s s.heap) (hA : ∀ q, s.heap.size ≤ q → A q) (hRf : 0 ≤ R.frames) (hRl : 0 ≤ R.locals) {post : Int32 → St → Prop} (hret : RetZ p l e R s m args below meth c Q 0 0 wM G A cX12_isWhole post) {ih2 : Int32 → St → Prop} (h2 : ∀ (x1 : Int32) (z0 : St), ih2 x1 z0 → Xw p l e R s m args below meth c Q 0 0 wM G A z0 2 [(0, .ref (ad G 100)), (1, .int x1)] 2 []) (x1 : Int32) (z0 : St) (hB : B_M_isWhole_2 post ih2 x1 z0) : Xw p l e R s m args below meth c Q 0 0 wM G A z0 2 [(0, .ref (ad G 100)), (1, .int x1)] 2 [] := by
  intro H locs ls hP hD hS hl
  have hx := S.1
  have hb := S.2.1
  refine lv_iload_n hx hb dX12_isWhole_2 rfl (lv_at hl 1 rfl) ?_
  refine lv_aload_n hx hb dX12_isWhole_3 rfl (lv_at hl 0 rfl) ?_
  refine xMg_100_guestsRead S hE hP lk_X12_234 dX12_isWhole_4 ?_
  refine lv_icmp_ge (tgt := 33) hx hb dX12_isWhole_7 (by decide) (fun c1 => ?_) (fun c1 => ?_)
  · have hB := hB.1 c1
    refine lv_aload_n hx hb dX12_isWhole_33 rfl (lv_at hl 0 rfl) ?_
    refine xMg_100_drinksRead S hE hP lk_X12_231 dX12_isWhole_34 ?_
    refine lv_iconst (v := 1) hx hb dX12_isWhole_37 (by decide) ?_
    refine lv_icmp_le (tgt := 65) hx hb dX12_isWhole_38 (by decide) (fun c2 => ?_) (fun c2 => ?_)
    · have hB := hB.1 c2
      refine lv_iconst (v := 0) hx hb dX12_isWhole_65 (by decide) ?_
      exact hret _ _ _ _ _ _ dX12_isWhole_66 ⟨by decide, hB⟩ hP hD hS
    · have hB := hB.2 c2
      refine lv_aload_n hx hb dX12_isWhole_41 rfl (lv_at hl 0 rfl) ?_
      refine xMg_100_guestsRead S hE hP lk_X12_234 dX12_isWhole_42 ?_
      refine lv_if_le (tgt := 65) hx hb dX12_isWhole_45 (by decide) (fun c3 => ?_) (fun c3 => ?_)
      · have hB := hB.1 c3
        refine lv_iconst (v := 0) hx hb dX12_isWhole_65 (by decide) ?_
        exact hret _ _ _ _ _ _ dX12_isWhole_66 ⟨by decide, hB⟩ hP hD hS
      · have hB := hB.2 c3
        refine lv_aload_n hx hb dX12_isWhole_48 rfl (lv_at hl 0 rfl) ?_
        refine xMg_100_ruleRead S hE hP lk_X12_40 dX12_isWhole_49 ?_
        refine lv_iconst (v := 0) hx hb dX12_isWhole_52 (by decide) ?_
        refine xMk_106 S hE hP 0 (by decide) (by unfold vp_in; decide) dX12_isWhole_53 ?_
        refine lv_aload_n hx hb dX12_isWhole_54 rfl (lv_at hl 0 rfl) ?_
        refine xMg_100_drinksRead S hE hP lk_X12_231 dX12_isWhole_55 ?_
        refine lv_icmp_ge (tgt := 65) hx hb dX12_isWhole_58 (by decide) (fun c4 => ?_) (fun c4 => ?_)
        · have hB := hB.1 c4
          refine lv_iconst (v := 0) hx hb dX12_isWhole_65 (by decide) ?_
          exact hret _ _ _ _ _ _ dX12_isWhole_66 ⟨by decide, hB⟩ hP hD hS
        · have hB := hB.2 c4
          refine lv_iconst (v := 1) hx hb dX12_isWhole_61 (by decide) ?_
          refine lv_goto (tgt := 66) hx hb dX12_isWhole_62 (by decide) ?_
          exact hret _ _ _ _ _ _ dX12_isWhole_66 ⟨by decide, hB⟩ hP hD hS
  · have hB := hB.2 c1
    refine lv_aload_n hx hb dX12_isWhole_10 rfl (lv_at hl 0 rfl) ?_
    refine xMg_100_guestRead S hE hP lk_X12_52 dX12_isWhole_11 ?_
    refine lv_iconst (v := 3) hx hb dX12_isWhole_14 (by decide) ?_
    refine lv_iload_n hx hb dX12_isWhole_15 rfl (lv_at hl 1 rfl) ?_
    refine lv_imul hx hb dX12_isWhole_16 ?_
    obtain ⟨hi, hB⟩ := hB
    refine xMl_110 S hE hP hi dX12_isWhole_17 ?_
    refine lv_aload_n hx hb dX12_isWhole_18 rfl (lv_at hl 0 rfl) ?_
    refine xMg_100_drinksRead S hE hP lk_X12_231 dX12_isWhole_19 ?_
    refine lv_icmp_lt (tgt := 27) hx hb dX12_isWhole_22 (by decide) (fun c5 => ?_) (fun c5 => ?_)
    · have hB := hB.1 c5
      obtain ⟨v6, ev6⟩ : ∃ y9, y9 = x1 + (1 : Int32) := ⟨_, rfl⟩
      have hB := hB v6 ev6
      refine lv_iinc (v := v6) (lv' := [(1, .int v6), (0, .ref (ad G 100))]) hx hb dX12_isWhole_27 hl (k := 1) rfl (by rw [ev6]; rfl) (by decide) rfl (fun ls hl => ?_)
      refine lv_goto (tgt := 2) hx hb dX12_isWhole_30 (by decide) ?_
      exact h2 v6 z0 hB _ _ _ hP hD hS (lv_sub hl [1, 0] rfl)
    · have hB := hB.2 c5
      refine lv_iconst (v := 0) hx hb dX12_isWhole_25 (by decide) ?_
      exact hret _ _ _ _ _ _ dX12_isWhole_26 ⟨by decide, hB⟩ hP hD hS
def L_M_isWhole_2 (post : Int32 → St → Prop) : Nat → Int32 → St → Prop
  | 0 => fun _ _ => False
  | n + 1 => B_M_isWhole_2 post (L_M_isWhole_2 post n)
theorem wl_M_isWhole_2 {p : Program} {l : Launch} {e : Env} {R : Room} {s : State} {m : MethodId} {args : Array Value} {below : List Frame} {meth : Method} {c : Code} {Q : State → Prop} {G : GX} {A : Nat → Prop} (S : CallFix p m c cX12_isWhole 2 s args GW RX12) (hE : env G A s s.heap) (hA : ∀ q, s.heap.size ≤ q → A q) (hRf : 0 ≤ R.frames) (hRl : 0 ≤ R.locals) {post : Int32 → St → Prop} (hret : RetZ p l e R s m args below meth c Q 0 0 wM G A cX12_isWhole post) : ∀ (n : Nat) (x1 : Int32) (z0 : St), L_M_isWhole_2 post n x1 z0 → Xw p l e R s m args below meth c Q 0 0 wM G A z0 2 [(0, .ref (ad G 100)), (1, .int x1)] 2 [] := by
  intro n
  induction n with
  | zero => intro x1 z0 hB; exact absurd hB id
  | succ n ih => exact fun x1 z0 hB => w_M_isWhole_2 S hE hA hRf hRl hret ih x1 z0 hB
def S_M_isWhole (post : Int32 → St → Prop) (z0 : St) : Prop :=
  (∃ n1, L_M_isWhole_2 post n1 (0 : Int32) z0)
set_option maxHeartbeats 4000000 in
set_option maxRecDepth 100000 in
theorem w_M_isWhole_0 {p : Program} {l : Launch} {e : Env} {R : Room} {s : State} {m : MethodId} {args : Array Value} {below : List Frame} {meth : Method} {c : Code} {Q : State → Prop} {G : GX} {A : Nat → Prop} (S : CallFix p m c cX12_isWhole 2 s args GW RX12) (hE : env G A s s.heap) (hA : ∀ q, s.heap.size ≤ q → A q) (hRf : 0 ≤ R.frames) (hRl : 0 ≤ R.locals) {post : Int32 → St → Prop} (hret : RetZ p l e R s m args below meth c Q 0 0 wM G A cX12_isWhole post) (z0 : St) (hB : S_M_isWhole post z0) : Xw p l e R s m args below meth c Q 0 0 wM G A z0 2 [(0, .ref (ad G 100))] 0 [] := by
  intro H locs ls hP hD hS hl
  have hx := S.1
  have hb := S.2.1
  refine lv_iconst (v := 0) hx hb dX12_isWhole_0 (by decide) ?_
  refine lv_istore_n (lv' := [(1, .int (0 : Int32)), (0, .ref (ad G 100))]) hx hb dX12_isWhole_1 rfl hl (by decide) rfl (fun ls hl => ?_)
  obtain ⟨n1, hB⟩ := hB
  exact wl_M_isWhole_2 S hE hA hRf hRl hret n1 (0 : Int32) z0 hB _ _ _ hP hD hS (lv_sub hl [1, 0] rfl)
set_option maxHeartbeats 4000000 in
set_option maxRecDepth 100000 in
theorem c_M_isWhole (l : Launch) (G : GX) (z0 : St) (sz : Nat) (post : Int32 → St → Prop) : MetI l wM yX12_isWhole cX12_isWhole 2 (some .boolean) ({ frames := 0, cells := 0, slots := 0, locals := 0 }) [.ref (ad G 100)] G z0 sz (S_M_isWhole post z0) post := by
  refine Met.ofW (cc := cX12_isWhole) (maxL := 2) (ret := (some .boolean)) (by decide) rfl ?_
  intro p e s m args below meth c s₁ B hml hv
  obtain ⟨rfl, hsz, hP, hD0, hE, hB⟩ := hv
  have S : CallFix p m c cX12_isWhole 2 s _ GW RX12 := ⟨B.exec, B.bytes, hml, findClass_of_methodNamed B.named, fun w h => atoms_spec (ws := Cond.code yX12_isWhole cX12_isWhole 2 (some .boolean) :: GW) B.pre w (List.mem_cons_of_mem _ h)⟩
  have hlocks := B.notSynchronized
  subst hsz
  have hD := hD0.self (sz := s.heap.size)
  generalize hAe : va_A (wM G z0) s.heap.size = A at hD hE ⊢
  have hA : ∀ q : Nat, s.heap.size ≤ q → A q := fun q h => by rw [← hAe]; exact Or.inr h
  have hS : va_S A s.heap s.heap [] := va_S.rf
  have hl := lv_entry ([.ref (ad G 100)]) (n := 2) (Nat.le_of_ble_eq_true rfl)
  rw [lg_entry_eq]
  generalize (lg_sl ([.ref (ad G 100)]) ++ List.replicate (2 - (lg_sl ([.ref (ad G 100)])).length) Slot.unset).toArray = ls at hl ⊢
  have hl : lv_has ls 2 [(0, .ref (ad G 100))] := hl
  refine w_M_isWhole_0 S hE hA (Nat.le_refl _) (Nat.le_refl _) ?_  z0 hB _ _ _ hP hD hS hl
  intro pc ls r σ H locs hd hp hP hD hS
  exact W.zret (v := r) B.exec B.bytes B.returns (xboolc r hp.1) (fun t ht hW => ⟨⟨r, σ, rfl, hp.2, by rw [ht]; exact hP, hD⟩, hS.F ht⟩) hS.2.2 hd
def S_M_has (post : Int32 → St → Prop) (x0 : Int32) (x1 : Int32) (z0 : St) : Prop :=
  ((((x0 >>> (x1 &&& 31)) &&& (1 : Int32)) = (1 : Int32) → (post (1 : Int32) z0)) ∧ (¬ ((x0 >>> (x1 &&& 31)) &&& (1 : Int32)) = (1 : Int32) → (post (0 : Int32) z0)))
set_option maxHeartbeats 4000000 in
set_option maxRecDepth 100000 in
theorem w_M_has_0 {p : Program} {l : Launch} {e : Env} {R : Room} {s : State} {m : MethodId} {args : Array Value} {below : List Frame} {meth : Method} {c : Code} {Q : State → Prop} {G : GX} {A : Nat → Prop} (S : CallFix p m c cX12_has 2 s args GW RX12) (hE : env G A s s.heap) (hA : ∀ q, s.heap.size ≤ q → A q) (hRf : 0 ≤ R.frames) (hRl : 0 ≤ R.locals) {post : Int32 → St → Prop} (hret : RetZ p l e R s m args below meth c Q 0 0 wM G A cX12_has post) (x0 : Int32) (x1 : Int32) (z0 : St) (hB : S_M_has post x0 x1 z0) : Xw p l e R s m args below meth c Q 0 0 wM G A z0 2 [(0, .int x0), (1, .int x1)] 0 [] := by
  intro H locs ls hP hD hS hl
  have hx := S.1
  have hb := S.2.1
  refine lv_iload_n hx hb dX12_has_0 rfl (lv_at hl 0 rfl) ?_
  refine lv_iload_n hx hb dX12_has_1 rfl (lv_at hl 1 rfl) ?_
  refine lv_ishr hx hb dX12_has_2 ?_
  refine lv_iconst (v := 1) hx hb dX12_has_3 (by decide) ?_
  refine lv_iand hx hb dX12_has_4 ?_
  refine lv_iconst (v := 1) hx hb dX12_has_5 (by decide) ?_
  refine lv_icmp_ne (tgt := 13) hx hb dX12_has_6 (by decide) (fun c1 => ?_) (fun c1 => ?_)
  · have hB := hB.2 c1
    refine lv_iconst (v := 0) hx hb dX12_has_13 (by decide) ?_
    exact hret _ _ _ _ _ _ dX12_has_14 ⟨by decide, hB⟩ hP hD hS
  · have hB := hB.1 c1
    refine lv_iconst (v := 1) hx hb dX12_has_9 (by decide) ?_
    refine lv_goto (tgt := 14) hx hb dX12_has_10 (by decide) ?_
    exact hret _ _ _ _ _ _ dX12_has_14 ⟨by decide, hB⟩ hP hD hS
set_option maxHeartbeats 4000000 in
set_option maxRecDepth 100000 in
theorem c_M_has (l : Launch) (G : GX) (z0 : St) (sz : Nat) (x0 : Int32) (x1 : Int32) (post : Int32 → St → Prop) : MetI l wM yX12_has cX12_has 2 (some .boolean) ({ frames := 0, cells := 0, slots := 0, locals := 0 }) [.int x0, .int x1] G z0 sz (S_M_has post x0 x1 z0) post := by
  refine Met.ofW (cc := cX12_has) (maxL := 2) (ret := (some .boolean)) (by decide) rfl ?_
  intro p e s m args below meth c s₁ B hml hv
  obtain ⟨rfl, hsz, hP, hD0, hE, hB⟩ := hv
  have S : CallFix p m c cX12_has 2 s _ GW RX12 := ⟨B.exec, B.bytes, hml, findClass_of_methodNamed B.named, fun w h => atoms_spec (ws := Cond.code yX12_has cX12_has 2 (some .boolean) :: GW) B.pre w (List.mem_cons_of_mem _ h)⟩
  have hlocks := B.notSynchronized
  subst hsz
  have hD := hD0.self (sz := s.heap.size)
  generalize hAe : va_A (wM G z0) s.heap.size = A at hD hE ⊢
  have hA : ∀ q : Nat, s.heap.size ≤ q → A q := fun q h => by rw [← hAe]; exact Or.inr h
  have hS : va_S A s.heap s.heap [] := va_S.rf
  have hl := lv_entry ([.int x0, .int x1]) (n := 2) (Nat.le_of_ble_eq_true rfl)
  rw [lg_entry_eq]
  generalize (lg_sl ([.int x0, .int x1]) ++ List.replicate (2 - (lg_sl ([.int x0, .int x1])).length) Slot.unset).toArray = ls at hl ⊢
  have hl : lv_has ls 2 [(0, .int x0), (1, .int x1)] := hl
  refine w_M_has_0 S hE hA (Nat.le_refl _) (Nat.le_refl _) ?_ x0 x1 z0 hB _ _ _ hP hD hS hl
  intro pc ls r σ H locs hd hp hP hD hS
  exact W.zret (v := r) B.exec B.bytes B.returns (xboolc r hp.1) (fun t ht hW => ⟨⟨r, σ, rfl, hp.2, by rw [ht]; exact hP, hD⟩, hS.F ht⟩) hS.2.2 hd
def S_M_mostOf (post : Int32 → St → Prop) (x0 : Int32) (x1 : Int32) (z0 : St) : Prop :=
  ((x0 = (115 : Int32) → ((x1 = 0 → (post (5 : Int32) z0)) ∧ (¬ x1 = 0 → ((x1 = (1 : Int32) → (post (30 : Int32) z0)) ∧ (¬ x1 = (1 : Int32) → (post (9 : Int32) z0)))))) ∧ (¬ x0 = (115 : Int32) → ((x0 = (100 : Int32) → ((x1 = 0 → (post (9 : Int32) z0)) ∧ (¬ x1 = 0 → (post (60 : Int32) z0)))) ∧ (¬ x0 = (100 : Int32) → ((x1 = 0 → (post (5 : Int32) z0)) ∧ (¬ x1 = 0 → ((x1 = (1 : Int32) → (post (99 : Int32) z0)) ∧ (¬ x1 = (1 : Int32) → (post (9 : Int32) z0)))))))))
set_option maxHeartbeats 4000000 in
set_option maxRecDepth 100000 in
theorem w_M_mostOf_0 {p : Program} {l : Launch} {e : Env} {R : Room} {s : State} {m : MethodId} {args : Array Value} {below : List Frame} {meth : Method} {c : Code} {Q : State → Prop} {G : GX} {A : Nat → Prop} (S : CallFix p m c cX12_mostOf 2 s args GW RX12) (hE : env G A s s.heap) (hA : ∀ q, s.heap.size ≤ q → A q) (hRf : 0 ≤ R.frames) (hRl : 0 ≤ R.locals) {post : Int32 → St → Prop} (hret : RetI p l e R s m args below meth c Q 0 0 wM G A cX12_mostOf post) (x0 : Int32) (x1 : Int32) (z0 : St) (hB : S_M_mostOf post x0 x1 z0) : Xw p l e R s m args below meth c Q 0 0 wM G A z0 2 [(0, .int x0), (1, .int x1)] 0 [] := by
  intro H locs ls hP hD hS hl
  have hx := S.1
  have hb := S.2.1
  refine lv_iload_n hx hb dX12_mostOf_0 rfl (lv_at hl 0 rfl) ?_
  refine lv_bipush (v := 115) hx hb dX12_mostOf_1 (by decide) ?_
  refine lv_icmp_ne (tgt := 27) hx hb dX12_mostOf_3 (by decide) (fun c1 => ?_) (fun c1 => ?_)
  · have hB := hB.2 c1
    refine lv_iload_n hx hb dX12_mostOf_27 rfl (lv_at hl 0 rfl) ?_
    refine lv_bipush (v := 100) hx hb dX12_mostOf_28 (by decide) ?_
    refine lv_icmp_ne (tgt := 45) hx hb dX12_mostOf_30 (by decide) (fun c2 => ?_) (fun c2 => ?_)
    · have hB := hB.2 c2
      refine lv_iload_n hx hb dX12_mostOf_45 rfl (lv_at hl 1 rfl) ?_
      refine lv_if_ne (tgt := 53) hx hb dX12_mostOf_46 (by decide) (fun c3 => ?_) (fun c3 => ?_)
      · have hB := hB.2 c3
        refine lv_iload_n hx hb dX12_mostOf_53 rfl (lv_at hl 1 rfl) ?_
        refine lv_iconst (v := 1) hx hb dX12_mostOf_54 (by decide) ?_
        refine lv_icmp_ne (tgt := 63) hx hb dX12_mostOf_55 (by decide) (fun c4 => ?_) (fun c4 => ?_)
        · have hB := hB.2 c4
          refine lv_bipush (v := 9) hx hb dX12_mostOf_63 (by decide) ?_
          exact hret _ _ _ _ _ _ dX12_mostOf_65 hB hP hD hS
        · have hB := hB.1 c4
          refine lv_bipush (v := 99) hx hb dX12_mostOf_58 (by decide) ?_
          refine lv_goto (tgt := 65) hx hb dX12_mostOf_60 (by decide) ?_
          exact hret _ _ _ _ _ _ dX12_mostOf_65 hB hP hD hS
      · have hB := hB.1 c3
        refine lv_iconst (v := 5) hx hb dX12_mostOf_49 (by decide) ?_
        refine lv_goto (tgt := 65) hx hb dX12_mostOf_50 (by decide) ?_
        exact hret _ _ _ _ _ _ dX12_mostOf_65 hB hP hD hS
    · have hB := hB.1 c2
      refine lv_iload_n hx hb dX12_mostOf_33 rfl (lv_at hl 1 rfl) ?_
      refine lv_if_ne (tgt := 42) hx hb dX12_mostOf_34 (by decide) (fun c5 => ?_) (fun c5 => ?_)
      · have hB := hB.2 c5
        refine lv_bipush (v := 60) hx hb dX12_mostOf_42 (by decide) ?_
        exact hret _ _ _ _ _ _ dX12_mostOf_44 hB hP hD hS
      · have hB := hB.1 c5
        refine lv_bipush (v := 9) hx hb dX12_mostOf_37 (by decide) ?_
        refine lv_goto (tgt := 44) hx hb dX12_mostOf_39 (by decide) ?_
        exact hret _ _ _ _ _ _ dX12_mostOf_44 hB hP hD hS
  · have hB := hB.1 c1
    refine lv_iload_n hx hb dX12_mostOf_6 rfl (lv_at hl 1 rfl) ?_
    refine lv_if_ne (tgt := 14) hx hb dX12_mostOf_7 (by decide) (fun c6 => ?_) (fun c6 => ?_)
    · have hB := hB.2 c6
      refine lv_iload_n hx hb dX12_mostOf_14 rfl (lv_at hl 1 rfl) ?_
      refine lv_iconst (v := 1) hx hb dX12_mostOf_15 (by decide) ?_
      refine lv_icmp_ne (tgt := 24) hx hb dX12_mostOf_16 (by decide) (fun c7 => ?_) (fun c7 => ?_)
      · have hB := hB.2 c7
        refine lv_bipush (v := 9) hx hb dX12_mostOf_24 (by decide) ?_
        exact hret _ _ _ _ _ _ dX12_mostOf_26 hB hP hD hS
      · have hB := hB.1 c7
        refine lv_bipush (v := 30) hx hb dX12_mostOf_19 (by decide) ?_
        refine lv_goto (tgt := 26) hx hb dX12_mostOf_21 (by decide) ?_
        exact hret _ _ _ _ _ _ dX12_mostOf_26 hB hP hD hS
    · have hB := hB.1 c6
      refine lv_iconst (v := 5) hx hb dX12_mostOf_10 (by decide) ?_
      refine lv_goto (tgt := 26) hx hb dX12_mostOf_11 (by decide) ?_
      exact hret _ _ _ _ _ _ dX12_mostOf_26 hB hP hD hS
set_option maxHeartbeats 4000000 in
set_option maxRecDepth 100000 in
theorem c_M_mostOf (l : Launch) (G : GX) (z0 : St) (sz : Nat) (x0 : Int32) (x1 : Int32) (post : Int32 → St → Prop) : MetI l wM yX12_mostOf cX12_mostOf 2 (some .int) ({ frames := 0, cells := 0, slots := 0, locals := 0 }) [.int x0, .int x1] G z0 sz (S_M_mostOf post x0 x1 z0) post := by
  refine Met.ofW (cc := cX12_mostOf) (maxL := 2) (ret := (some .int)) (by decide) rfl ?_
  intro p e s m args below meth c s₁ B hml hv
  obtain ⟨rfl, hsz, hP, hD0, hE, hB⟩ := hv
  have S : CallFix p m c cX12_mostOf 2 s _ GW RX12 := ⟨B.exec, B.bytes, hml, findClass_of_methodNamed B.named, fun w h => atoms_spec (ws := Cond.code yX12_mostOf cX12_mostOf 2 (some .int) :: GW) B.pre w (List.mem_cons_of_mem _ h)⟩
  have hlocks := B.notSynchronized
  subst hsz
  have hD := hD0.self (sz := s.heap.size)
  generalize hAe : va_A (wM G z0) s.heap.size = A at hD hE ⊢
  have hA : ∀ q : Nat, s.heap.size ≤ q → A q := fun q h => by rw [← hAe]; exact Or.inr h
  have hS : va_S A s.heap s.heap [] := va_S.rf
  have hl := lv_entry ([.int x0, .int x1]) (n := 2) (Nat.le_of_ble_eq_true rfl)
  rw [lg_entry_eq]
  generalize (lg_sl ([.int x0, .int x1]) ++ List.replicate (2 - (lg_sl ([.int x0, .int x1])).length) Slot.unset).toArray = ls at hl ⊢
  have hl : lv_has ls 2 [(0, .int x0), (1, .int x1)] := hl
  refine w_M_mostOf_0 S hE hA (Nat.le_refl _) (Nat.le_refl _) ?_ x0 x1 z0 hB _ _ _ hP hD hS hl
  intro pc ls r σ H locs hd hp hP hD hS
  exact W.iret (v := r) B.exec B.bytes B.returns (fun t ht hW => ⟨⟨r, σ, rfl, hp, by rw [ht]; exact hP, hD⟩, hS.F ht⟩) hS.2.2 hd
def S_M_here (post : Int32 → St → Prop) (z0 : St) : Prop :=
  (((gI z0 104) ≤ (gI z0 105) → (post (-1 : Int32) z0)) ∧ (¬ (gI z0 104) ≤ (gI z0 105) → (txIn z0 ((gI z0 103) + (gI z0 105)) ∧ (post ((gA z0 (gT z0 1) ((gI z0 103) + (gI z0 105)).toNatClampNeg) &&& (255 : Int32)) z0))))
set_option maxHeartbeats 4000000 in
set_option maxRecDepth 100000 in
theorem w_M_here_0 {p : Program} {l : Launch} {e : Env} {R : Room} {s : State} {m : MethodId} {args : Array Value} {below : List Frame} {meth : Method} {c : Code} {Q : State → Prop} {G : GX} {A : Nat → Prop} (S : CallFix p m c cX12_here 1 s args GW RX12) (hE : env G A s s.heap) (hA : ∀ q, s.heap.size ≤ q → A q) (hRf : 0 ≤ R.frames) (hRl : 0 ≤ R.locals) {post : Int32 → St → Prop} (hret : RetI p l e R s m args below meth c Q 0 0 wM G A cX12_here post) (z0 : St) (hB : S_M_here post z0) : Xw p l e R s m args below meth c Q 0 0 wM G A z0 1 [(0, .ref (ad G 100))] 0 [] := by
  intro H locs ls hP hD hS hl
  have hx := S.1
  have hb := S.2.1
  refine lv_aload_n hx hb dX12_here_0 rfl (lv_at hl 0 rfl) ?_
  refine xMg_100_at S hE hP lk_X12_112 dX12_here_1 ?_
  refine lv_aload_n hx hb dX12_here_4 rfl (lv_at hl 0 rfl) ?_
  refine xMg_100_ends S hE hP lk_X12_115 dX12_here_5 ?_
  refine lv_icmp_ge (tgt := 32) hx hb dX12_here_8 (by decide) (fun c1 => ?_) (fun c1 => ?_)
  · have hB := hB.1 c1
    refine lv_iconst (v := -1) hx hb dX12_here_32 (by decide) ?_
    exact hret _ _ _ _ _ _ dX12_here_33 hB hP hD hS
  · have hB := hB.2 c1
    refine lv_aload_n hx hb dX12_here_11 rfl (lv_at hl 0 rfl) ?_
    refine xMg_100_text S hE hP lk_X12_23 dX12_here_12 ?_
    refine lv_aload_n hx hb dX12_here_15 rfl (lv_at hl 0 rfl) ?_
    refine xMg_100_begins S hE hP lk_X12_118 dX12_here_16 ?_
    refine lv_aload_n hx hb dX12_here_19 rfl (lv_at hl 0 rfl) ?_
    refine xMg_100_at S hE hP lk_X12_112 dX12_here_20 ?_
    refine lv_iadd hx hb dX12_here_23 ?_
    obtain ⟨hi, hB⟩ := hB
    refine xMt S hE hP hi dX12_here_24 ?_
    refine lv_sipush (v := 255) hx hb dX12_here_25 (by decide) ?_
    refine lv_iand hx hb dX12_here_28 ?_
    refine lv_goto (tgt := 33) hx hb dX12_here_29 (by decide) ?_
    exact hret _ _ _ _ _ _ dX12_here_33 hB hP hD hS
set_option maxHeartbeats 4000000 in
set_option maxRecDepth 100000 in
theorem c_M_here (l : Launch) (G : GX) (z0 : St) (sz : Nat) (post : Int32 → St → Prop) : MetI l wM yX12_here cX12_here 1 (some .int) ({ frames := 0, cells := 0, slots := 0, locals := 0 }) [.ref (ad G 100)] G z0 sz (S_M_here post z0) post := by
  refine Met.ofW (cc := cX12_here) (maxL := 1) (ret := (some .int)) (by decide) rfl ?_
  intro p e s m args below meth c s₁ B hml hv
  obtain ⟨rfl, hsz, hP, hD0, hE, hB⟩ := hv
  have S : CallFix p m c cX12_here 1 s _ GW RX12 := ⟨B.exec, B.bytes, hml, findClass_of_methodNamed B.named, fun w h => atoms_spec (ws := Cond.code yX12_here cX12_here 1 (some .int) :: GW) B.pre w (List.mem_cons_of_mem _ h)⟩
  have hlocks := B.notSynchronized
  subst hsz
  have hD := hD0.self (sz := s.heap.size)
  generalize hAe : va_A (wM G z0) s.heap.size = A at hD hE ⊢
  have hA : ∀ q : Nat, s.heap.size ≤ q → A q := fun q h => by rw [← hAe]; exact Or.inr h
  have hS : va_S A s.heap s.heap [] := va_S.rf
  have hl := lv_entry ([.ref (ad G 100)]) (n := 1) (Nat.le_of_ble_eq_true rfl)
  rw [lg_entry_eq]
  generalize (lg_sl ([.ref (ad G 100)]) ++ List.replicate (1 - (lg_sl ([.ref (ad G 100)])).length) Slot.unset).toArray = ls at hl ⊢
  have hl : lv_has ls 1 [(0, .ref (ad G 100))] := hl
  refine w_M_here_0 S hE hA (Nat.le_refl _) (Nat.le_refl _) ?_  z0 hB _ _ _ hP hD hS hl
  intro pc ls r σ H locs hd hp hP hD hS
  exact W.iret (v := r) B.exec B.bytes B.returns (fun t ht hW => ⟨⟨r, σ, rfl, hp, by rw [ht]; exact hP, hD⟩, hS.F ht⟩) hS.2.2 hd
def B_M_number_64 (post : Int32 → St → Prop) (x1 : Int32) (x3 : Int32) (z0 : St) : Prop :=
  (S_M_isDigit (fun (r1 : Int32) (z1 : St) => ((r1 = 0 → ((x3 ≤ x1 → (post x3 z1)) ∧ (¬ x3 ≤ x1 → (∀ z2 : St, z2 = sI z1 105 ((gI z1 105) - (1 : Int32)) → (S_M_fails (fun (r4 : Int32) (z3 : St) => (post x3 z3)) z2))))) ∧ (¬ r1 = 0 → (S_M_fails (fun (r5 : Int32) (z4 : St) => (post (0 : Int32) z4)) z1)))) z0)
set_option maxHeartbeats 4000000 in
set_option maxRecDepth 100000 in
theorem w_M_number_64 {p : Program} {l : Launch} {e : Env} {R : Room} {s : State} {m : MethodId} {args : Array Value} {below : List Frame} {meth : Method} {c : Code} {Q : State → Prop} {G : GX} {A : Nat → Prop} (S : CallFix p m c cX12_number 4 s args GW RX12) (hE : env G A s s.heap) (hA : ∀ q, s.heap.size ≤ q → A q) (hRf : 1 ≤ R.frames) (hRl : 20 ≤ R.locals) {post : Int32 → St → Prop} (hret : RetI p l e R s m args below meth c Q 0 0 wM G A cX12_number post) (x1 : Int32) (x3 : Int32) (z0 : St) (hB : B_M_number_64 post x1 x3 z0) : Xw p l e R s m args below meth c Q 0 0 wM G A z0 4 [(0, .ref (ad G 100)), (1, .int x1), (3, .int x3)] 64 [] := by
  intro H locs ls hP hD hS hl
  have hx := S.1
  have hb := S.2.1
  refine lv_aload_n hx hb dX12_number_64 rfl (lv_at hl 0 rfl) ?_
  refine xcVi [] S hE hA hP hD hS (c_M_isDigit l G z0 H.size _) hB (gw_c lk_X12_161 (gw_c wi_X12_isDigit (gw_c we_X12_X12_isDigit_X12_isDigit (gw_c wn_X12 (gw_c wc_X12_isDigit (fun _ h9 => h9)))))) hd_X12_isDigit rfl rfl (Nat.le_trans (Nat.le_of_ble_eq_true rfl) hRf) (Nat.le_trans (Nat.le_of_ble_eq_true rfl) hRl) ⟨Nat.zero_le _, Nat.zero_le _⟩ (va_recv hE.1 hP (ci := 11) (q0 := 0) rfl rfl) rfl hl.1 rfl (Nat.le_of_ble_eq_true rfl) dX12_number_65 (fun r1 z1 H locs hB hP hD hS => ?_)
  refine lv_if_eq (tgt := 78) hx hb dX12_number_68 (by decide) (fun c2 => ?_) (fun c2 => ?_)
  · have hB := hB.1 c2
    refine lv_iload_n hx hb dX12_number_78 rfl (lv_at hl 2 rfl) ?_
    refine lv_iload_n hx hb dX12_number_79 rfl (lv_at hl 1 rfl) ?_
    refine lv_icmp_le (tgt := 98) hx hb dX12_number_80 (by decide) (fun c3 => ?_) (fun c3 => ?_)
    · have hB := hB.1 c3
      refine lv_iload_n hx hb dX12_number_98 rfl (lv_at hl 2 rfl) ?_
      exact hret _ _ _ _ _ _ dX12_number_99 hB hP hD hS
    · have hB := hB.2 c3
      refine lv_aload_n hx hb dX12_number_83 rfl (lv_at hl 0 rfl) ?_
      refine lv_dup hx hb dX12_number_84 rfl ?_
      refine xMg_100_at S hE hP lk_X12_112 dX12_number_85 ?_
      refine lv_iconst (v := 1) hx hb dX12_number_88 (by decide) ?_
      refine lv_isub hx hb dX12_number_89 ?_
      obtain ⟨z2, ez2⟩ : ∃ z9, z9 = sI z1 105 ((gI z1 105) - (1 : Int32)) := ⟨_, rfl⟩
      have hB := hB z2 ez2
      refine xMp_100_at S hE hP hD hS lk_X12_112 dX12_number_90 (fun H locs hP hD hS => ?_)
      rw [← ez2] at hP hD
      refine lv_aload_n hx hb dX12_number_93 rfl (lv_at hl 0 rfl) ?_
      refine xcVi [] S hE hA hP hD hS (c_M_fails l G z2 H.size _) hB (gw_c lk_X12_127 (gw_c wi_X12_fails (gw_c we_X12_X12_fails_X12_fails (gw_c wn_X12 (gw_c wc_X12_fails (fun _ h9 => h9)))))) hd_X12_fails rfl rfl (Nat.le_trans (Nat.le_of_ble_eq_true rfl) hRf) (Nat.le_trans (Nat.le_of_ble_eq_true rfl) hRl) ⟨Nat.zero_le _, Nat.zero_le _⟩ (va_recv hE.1 hP (ci := 11) (q0 := 0) rfl rfl) rfl hl.1 rfl (Nat.le_of_ble_eq_true rfl) dX12_number_94 (fun r4 z3 H locs hB hP hD hS => ?_)
      refine lv_pop hx hb dX12_number_97 rfl ?_
      refine lv_iload_n hx hb dX12_number_98 rfl (lv_at hl 2 rfl) ?_
      exact hret _ _ _ _ _ _ dX12_number_99 hB hP hD hS
  · have hB := hB.2 c2
    refine lv_aload_n hx hb dX12_number_71 rfl (lv_at hl 0 rfl) ?_
    refine xcVi [] S hE hA hP hD hS (c_M_fails l G z1 H.size _) hB (gw_c lk_X12_127 (gw_c wi_X12_fails (gw_c we_X12_X12_fails_X12_fails (gw_c wn_X12 (gw_c wc_X12_fails (fun _ h9 => h9)))))) hd_X12_fails rfl rfl (Nat.le_trans (Nat.le_of_ble_eq_true rfl) hRf) (Nat.le_trans (Nat.le_of_ble_eq_true rfl) hRl) ⟨Nat.zero_le _, Nat.zero_le _⟩ (va_recv hE.1 hP (ci := 11) (q0 := 0) rfl rfl) rfl hl.1 rfl (Nat.le_of_ble_eq_true rfl) dX12_number_72 (fun r5 z4 H locs hB hP hD hS => ?_)
    refine lv_pop hx hb dX12_number_75 rfl ?_
    refine lv_iconst (v := 0) hx hb dX12_number_76 (by decide) ?_
    exact hret _ _ _ _ _ _ dX12_number_77 hB hP hD hS
def S_M_number (post : Int32 → St → Prop) (x1 : Int32) (z0 : St) : Prop :=
  (S_M_look (fun (r1 : Int32) (z1 : St) => (S_M_isDigit (fun (r2 : Int32) (z2 : St) => ((r2 = 0 → (S_M_fails (fun (r9 : Int32) (z7 : St) => (post (0 : Int32) z7)) z2)) ∧ (¬ r2 = 0 → (∀ v4 : Int32, v4 = (r1 - (48 : Int32)) → (∀ z3 : St, z3 = sI z2 105 ((gI z2 105) + (1 : Int32)) → (S_M_isDigit (fun (r5 : Int32) (z4 : St) => ((r5 = 0 → (B_M_number_64 post x1 v4 z4)) ∧ (¬ r5 = 0 → (S_M_here (fun (r7 : Int32) (z5 : St) => (∀ v8 : Int32, v8 = ((((10 : Int32) * v4) + r7) - (48 : Int32)) → (∀ z6 : St, z6 = sI z5 105 ((gI z5 105) + (1 : Int32)) → (B_M_number_64 post x1 v8 z6)))) z4)))) z3)))))) z1)) z0)
set_option maxHeartbeats 4000000 in
set_option maxRecDepth 100000 in
theorem w_M_number_0 {p : Program} {l : Launch} {e : Env} {R : Room} {s : State} {m : MethodId} {args : Array Value} {below : List Frame} {meth : Method} {c : Code} {Q : State → Prop} {G : GX} {A : Nat → Prop} (S : CallFix p m c cX12_number 4 s args GW RX12) (hE : env G A s s.heap) (hA : ∀ q, s.heap.size ≤ q → A q) (hRf : 1 ≤ R.frames) (hRl : 20 ≤ R.locals) {post : Int32 → St → Prop} (hret : RetI p l e R s m args below meth c Q 0 0 wM G A cX12_number post) (x1 : Int32) (z0 : St) (hB : S_M_number post x1 z0) : Xw p l e R s m args below meth c Q 0 0 wM G A z0 4 [(0, .ref (ad G 100)), (1, .int x1)] 0 [] := by
  intro H locs ls hP hD hS hl
  have hx := S.1
  have hb := S.2.1
  refine lv_aload_n hx hb dX12_number_0 rfl (lv_at hl 0 rfl) ?_
  refine xcVi [] S hE hA hP hD hS (c_M_look l G z0 H.size _) hB (gw_c lk_X12_131 (gw_c wi_X12_look (gw_c we_X12_X12_look_X12_look (gw_c wn_X12 (gw_c wc_X12_look (fun _ h9 => h9)))))) hd_X12_look rfl rfl (Nat.le_trans (Nat.le_of_ble_eq_true rfl) hRf) (Nat.le_trans (Nat.le_of_ble_eq_true rfl) hRl) ⟨Nat.zero_le _, Nat.zero_le _⟩ (va_recv hE.1 hP (ci := 11) (q0 := 0) rfl rfl) rfl hl.1 rfl (Nat.le_of_ble_eq_true rfl) dX12_number_1 (fun r1 z1 H locs hB hP hD hS => ?_)
  refine lv_istore_n (lv' := [(2, .int r1), (0, .ref (ad G 100)), (1, .int x1)]) hx hb dX12_number_4 rfl hl (by decide) rfl (fun ls hl => ?_)
  refine lv_aload_n hx hb dX12_number_5 rfl (lv_at hl 1 rfl) ?_
  refine xcVi [] S hE hA hP hD hS (c_M_isDigit l G z1 H.size _) hB (gw_c lk_X12_161 (gw_c wi_X12_isDigit (gw_c we_X12_X12_isDigit_X12_isDigit (gw_c wn_X12 (gw_c wc_X12_isDigit (fun _ h9 => h9)))))) hd_X12_isDigit rfl rfl (Nat.le_trans (Nat.le_of_ble_eq_true rfl) hRf) (Nat.le_trans (Nat.le_of_ble_eq_true rfl) hRl) ⟨Nat.zero_le _, Nat.zero_le _⟩ (va_recv hE.1 hP (ci := 11) (q0 := 0) rfl rfl) rfl hl.1 rfl (Nat.le_of_ble_eq_true rfl) dX12_number_6 (fun r2 z2 H locs hB hP hD hS => ?_)
  refine lv_if_ne (tgt := 19) hx hb dX12_number_9 (by decide) (fun c3 => ?_) (fun c3 => ?_)
  · have hB := hB.2 c3
    refine lv_iload_n hx hb dX12_number_19 rfl (lv_at hl 0 rfl) ?_
    refine lv_bipush (v := 48) hx hb dX12_number_20 (by decide) ?_
    refine lv_isub hx hb dX12_number_22 ?_
    refine lv_topi (fun v4 ev4 => ?_)
    have hB := hB v4 ev4
    refine lv_istore_n (lv' := [(3, .int v4), (2, .int r1), (0, .ref (ad G 100)), (1, .int x1)]) hx hb dX12_number_23 rfl hl (by decide) rfl (fun ls hl => ?_)
    refine lv_aload_n hx hb dX12_number_24 rfl (lv_at hl 2 rfl) ?_
    refine lv_dup hx hb dX12_number_25 rfl ?_
    refine xMg_100_at S hE hP lk_X12_112 dX12_number_26 ?_
    refine lv_iconst (v := 1) hx hb dX12_number_29 (by decide) ?_
    refine lv_iadd hx hb dX12_number_30 ?_
    obtain ⟨z3, ez3⟩ : ∃ z9, z9 = sI z2 105 ((gI z2 105) + (1 : Int32)) := ⟨_, rfl⟩
    have hB := hB z3 ez3
    refine xMp_100_at S hE hP hD hS lk_X12_112 dX12_number_31 (fun H locs hP hD hS => ?_)
    rw [← ez3] at hP hD
    refine lv_aload_n hx hb dX12_number_34 rfl (lv_at hl 2 rfl) ?_
    refine xcVi [] S hE hA hP hD hS (c_M_isDigit l G z3 H.size _) hB (gw_c lk_X12_161 (gw_c wi_X12_isDigit (gw_c we_X12_X12_isDigit_X12_isDigit (gw_c wn_X12 (gw_c wc_X12_isDigit (fun _ h9 => h9)))))) hd_X12_isDigit rfl rfl (Nat.le_trans (Nat.le_of_ble_eq_true rfl) hRf) (Nat.le_trans (Nat.le_of_ble_eq_true rfl) hRl) ⟨Nat.zero_le _, Nat.zero_le _⟩ (va_recv hE.1 hP (ci := 11) (q0 := 0) rfl rfl) rfl hl.1 rfl (Nat.le_of_ble_eq_true rfl) dX12_number_35 (fun r5 z4 H locs hB hP hD hS => ?_)
    refine lv_if_eq (tgt := 64) hx hb dX12_number_38 (by decide) (fun c6 => ?_) (fun c6 => ?_)
    · have hB := hB.1 c6
      exact w_M_number_64 S hE hA hRf hRl hret x1 v4 z4 hB _ _ _ hP hD hS (lv_sub hl [2, 3, 0] rfl)
    · have hB := hB.2 c6
      refine lv_bipush (v := 10) hx hb dX12_number_41 (by decide) ?_
      refine lv_iload_n hx hb dX12_number_43 rfl (lv_at hl 0 rfl) ?_
      refine lv_imul hx hb dX12_number_44 ?_
      refine lv_aload_n hx hb dX12_number_45 rfl (lv_at hl 2 rfl) ?_
      refine xcVi [] S hE hA hP hD hS (c_M_here l G z4 H.size _) hB (gw_c lk_X12_207 (gw_c wi_X12_here (gw_c we_X12_X12_here_X12_here (gw_c wn_X12 (gw_c wc_X12_here (fun _ h9 => h9)))))) hd_X12_here rfl rfl (Nat.le_trans (Nat.le_of_ble_eq_true rfl) hRf) (Nat.le_trans (Nat.le_of_ble_eq_true rfl) hRl) ⟨Nat.zero_le _, Nat.zero_le _⟩ (va_recv hE.1 hP (ci := 11) (q0 := 0) rfl rfl) rfl hl.1 rfl (Nat.le_of_ble_eq_true rfl) dX12_number_46 (fun r7 z5 H locs hB hP hD hS => ?_)
      refine lv_iadd hx hb dX12_number_49 ?_
      refine lv_bipush (v := 48) hx hb dX12_number_50 (by decide) ?_
      refine lv_isub hx hb dX12_number_52 ?_
      refine lv_topi (fun v8 ev8 => ?_)
      have hB := hB v8 ev8
      refine lv_istore_n (lv' := [(3, .int v8), (2, .int r1), (0, .ref (ad G 100)), (1, .int x1)]) hx hb dX12_number_53 rfl hl (by decide) rfl (fun ls hl => ?_)
      refine lv_aload_n hx hb dX12_number_54 rfl (lv_at hl 2 rfl) ?_
      refine lv_dup hx hb dX12_number_55 rfl ?_
      refine xMg_100_at S hE hP lk_X12_112 dX12_number_56 ?_
      refine lv_iconst (v := 1) hx hb dX12_number_59 (by decide) ?_
      refine lv_iadd hx hb dX12_number_60 ?_
      obtain ⟨z6, ez6⟩ : ∃ z9, z9 = sI z5 105 ((gI z5 105) + (1 : Int32)) := ⟨_, rfl⟩
      have hB := hB z6 ez6
      refine xMp_100_at S hE hP hD hS lk_X12_112 dX12_number_61 (fun H locs hP hD hS => ?_)
      rw [← ez6] at hP hD
      exact w_M_number_64 S hE hA hRf hRl hret x1 v8 z6 hB _ _ _ hP hD hS (lv_sub hl [2, 3, 0] rfl)
  · have hB := hB.1 c3
    refine lv_aload_n hx hb dX12_number_12 rfl (lv_at hl 1 rfl) ?_
    refine xcVi [] S hE hA hP hD hS (c_M_fails l G z2 H.size _) hB (gw_c lk_X12_127 (gw_c wi_X12_fails (gw_c we_X12_X12_fails_X12_fails (gw_c wn_X12 (gw_c wc_X12_fails (fun _ h9 => h9)))))) hd_X12_fails rfl rfl (Nat.le_trans (Nat.le_of_ble_eq_true rfl) hRf) (Nat.le_trans (Nat.le_of_ble_eq_true rfl) hRl) ⟨Nat.zero_le _, Nat.zero_le _⟩ (va_recv hE.1 hP (ci := 11) (q0 := 0) rfl rfl) rfl hl.1 rfl (Nat.le_of_ble_eq_true rfl) dX12_number_13 (fun r9 z7 H locs hB hP hD hS => ?_)
    refine lv_pop hx hb dX12_number_16 rfl ?_
    refine lv_iconst (v := 0) hx hb dX12_number_17 (by decide) ?_
    exact hret _ _ _ _ _ _ dX12_number_18 hB hP hD hS
set_option maxHeartbeats 4000000 in
set_option maxRecDepth 100000 in
theorem c_M_number (l : Launch) (G : GX) (z0 : St) (sz : Nat) (x1 : Int32) (post : Int32 → St → Prop) : MetI l wM yX12_number cX12_number 4 (some .int) ({ frames := 1, cells := 0, slots := 0, locals := 20 }) [.ref (ad G 100), .int x1] G z0 sz (S_M_number post x1 z0) post := by
  refine Met.ofW (cc := cX12_number) (maxL := 4) (ret := (some .int)) (by decide) rfl ?_
  intro p e s m args below meth c s₁ B hml hv
  obtain ⟨rfl, hsz, hP, hD0, hE, hB⟩ := hv
  have S : CallFix p m c cX12_number 4 s _ GW RX12 := ⟨B.exec, B.bytes, hml, findClass_of_methodNamed B.named, fun w h => atoms_spec (ws := Cond.code yX12_number cX12_number 4 (some .int) :: GW) B.pre w (List.mem_cons_of_mem _ h)⟩
  have hlocks := B.notSynchronized
  subst hsz
  have hD := hD0.self (sz := s.heap.size)
  generalize hAe : va_A (wM G z0) s.heap.size = A at hD hE ⊢
  have hA : ∀ q : Nat, s.heap.size ≤ q → A q := fun q h => by rw [← hAe]; exact Or.inr h
  have hS : va_S A s.heap s.heap [] := va_S.rf
  have hl := lv_entry ([.ref (ad G 100), .int x1]) (n := 4) (Nat.le_of_ble_eq_true rfl)
  rw [lg_entry_eq]
  generalize (lg_sl ([.ref (ad G 100), .int x1]) ++ List.replicate (4 - (lg_sl ([.ref (ad G 100), .int x1])).length) Slot.unset).toArray = ls at hl ⊢
  have hl : lv_has ls 4 [(0, .ref (ad G 100)), (1, .int x1)] := hl
  refine w_M_number_0 S hE hA (Nat.le_refl _) (Nat.le_refl _) ?_ x1 z0 hB _ _ _ hP hD hS hl
  intro pc ls r σ H locs hd hp hP hD hS
  exact W.iret (v := r) B.exec B.bytes B.returns (fun t ht hW => ⟨⟨r, σ, rfl, hp, by rw [ht]; exact hP, hD⟩, hS.F ht⟩) hS.2.2 hd
def S_M_usual (post : Int32 → St → Prop) (x0 : Int32) (x1 : Int32) (z0 : St) : Prop :=
  ((x0 = (115 : Int32) → ((x1 = 0 → (post (0 : Int32) z0)) ∧ (¬ x1 = 0 → ((x1 = (1 : Int32) → (post (5 : Int32) z0)) ∧ (¬ x1 = (1 : Int32) → (post (3 : Int32) z0)))))) ∧ (¬ x0 = (115 : Int32) → ((x0 = (100 : Int32) → (post (5 : Int32) z0)) ∧ (¬ x0 = (100 : Int32) → ((x1 = 0 → (post (0 : Int32) z0)) ∧ (¬ x1 = 0 → ((x1 = (1 : Int32) → (post (20 : Int32) z0)) ∧ (¬ x1 = (1 : Int32) → (post (5 : Int32) z0)))))))))
set_option maxHeartbeats 4000000 in
set_option maxRecDepth 100000 in
theorem w_M_usual_0 {p : Program} {l : Launch} {e : Env} {R : Room} {s : State} {m : MethodId} {args : Array Value} {below : List Frame} {meth : Method} {c : Code} {Q : State → Prop} {G : GX} {A : Nat → Prop} (S : CallFix p m c cX12_usual 2 s args GW RX12) (hE : env G A s s.heap) (hA : ∀ q, s.heap.size ≤ q → A q) (hRf : 0 ≤ R.frames) (hRl : 0 ≤ R.locals) {post : Int32 → St → Prop} (hret : RetI p l e R s m args below meth c Q 0 0 wM G A cX12_usual post) (x0 : Int32) (x1 : Int32) (z0 : St) (hB : S_M_usual post x0 x1 z0) : Xw p l e R s m args below meth c Q 0 0 wM G A z0 2 [(0, .int x0), (1, .int x1)] 0 [] := by
  intro H locs ls hP hD hS hl
  have hx := S.1
  have hb := S.2.1
  refine lv_iload_n hx hb dX12_usual_0 rfl (lv_at hl 0 rfl) ?_
  refine lv_bipush (v := 115) hx hb dX12_usual_1 (by decide) ?_
  refine lv_icmp_ne (tgt := 25) hx hb dX12_usual_3 (by decide) (fun c1 => ?_) (fun c1 => ?_)
  · have hB := hB.2 c1
    refine lv_iload_n hx hb dX12_usual_25 rfl (lv_at hl 0 rfl) ?_
    refine lv_bipush (v := 100) hx hb dX12_usual_26 (by decide) ?_
    refine lv_icmp_ne (tgt := 33) hx hb dX12_usual_28 (by decide) (fun c2 => ?_) (fun c2 => ?_)
    · have hB := hB.2 c2
      refine lv_iload_n hx hb dX12_usual_33 rfl (lv_at hl 1 rfl) ?_
      refine lv_if_ne (tgt := 41) hx hb dX12_usual_34 (by decide) (fun c3 => ?_) (fun c3 => ?_)
      · have hB := hB.2 c3
        refine lv_iload_n hx hb dX12_usual_41 rfl (lv_at hl 1 rfl) ?_
        refine lv_iconst (v := 1) hx hb dX12_usual_42 (by decide) ?_
        refine lv_icmp_ne (tgt := 51) hx hb dX12_usual_43 (by decide) (fun c4 => ?_) (fun c4 => ?_)
        · have hB := hB.2 c4
          refine lv_iconst (v := 5) hx hb dX12_usual_51 (by decide) ?_
          exact hret _ _ _ _ _ _ dX12_usual_52 hB hP hD hS
        · have hB := hB.1 c4
          refine lv_bipush (v := 20) hx hb dX12_usual_46 (by decide) ?_
          refine lv_goto (tgt := 52) hx hb dX12_usual_48 (by decide) ?_
          exact hret _ _ _ _ _ _ dX12_usual_52 hB hP hD hS
      · have hB := hB.1 c3
        refine lv_iconst (v := 0) hx hb dX12_usual_37 (by decide) ?_
        refine lv_goto (tgt := 52) hx hb dX12_usual_38 (by decide) ?_
        exact hret _ _ _ _ _ _ dX12_usual_52 hB hP hD hS
    · have hB := hB.1 c2
      refine lv_iconst (v := 5) hx hb dX12_usual_31 (by decide) ?_
      exact hret _ _ _ _ _ _ dX12_usual_32 hB hP hD hS
  · have hB := hB.1 c1
    refine lv_iload_n hx hb dX12_usual_6 rfl (lv_at hl 1 rfl) ?_
    refine lv_if_ne (tgt := 14) hx hb dX12_usual_7 (by decide) (fun c5 => ?_) (fun c5 => ?_)
    · have hB := hB.2 c5
      refine lv_iload_n hx hb dX12_usual_14 rfl (lv_at hl 1 rfl) ?_
      refine lv_iconst (v := 1) hx hb dX12_usual_15 (by decide) ?_
      refine lv_icmp_ne (tgt := 23) hx hb dX12_usual_16 (by decide) (fun c6 => ?_) (fun c6 => ?_)
      · have hB := hB.2 c6
        refine lv_iconst (v := 3) hx hb dX12_usual_23 (by decide) ?_
        exact hret _ _ _ _ _ _ dX12_usual_24 hB hP hD hS
      · have hB := hB.1 c6
        refine lv_iconst (v := 5) hx hb dX12_usual_19 (by decide) ?_
        refine lv_goto (tgt := 24) hx hb dX12_usual_20 (by decide) ?_
        exact hret _ _ _ _ _ _ dX12_usual_24 hB hP hD hS
    · have hB := hB.1 c5
      refine lv_iconst (v := 0) hx hb dX12_usual_10 (by decide) ?_
      refine lv_goto (tgt := 24) hx hb dX12_usual_11 (by decide) ?_
      exact hret _ _ _ _ _ _ dX12_usual_24 hB hP hD hS
set_option maxHeartbeats 4000000 in
set_option maxRecDepth 100000 in
theorem c_M_usual (l : Launch) (G : GX) (z0 : St) (sz : Nat) (x0 : Int32) (x1 : Int32) (post : Int32 → St → Prop) : MetI l wM yX12_usual cX12_usual 2 (some .int) ({ frames := 0, cells := 0, slots := 0, locals := 0 }) [.int x0, .int x1] G z0 sz (S_M_usual post x0 x1 z0) post := by
  refine Met.ofW (cc := cX12_usual) (maxL := 2) (ret := (some .int)) (by decide) rfl ?_
  intro p e s m args below meth c s₁ B hml hv
  obtain ⟨rfl, hsz, hP, hD0, hE, hB⟩ := hv
  have S : CallFix p m c cX12_usual 2 s _ GW RX12 := ⟨B.exec, B.bytes, hml, findClass_of_methodNamed B.named, fun w h => atoms_spec (ws := Cond.code yX12_usual cX12_usual 2 (some .int) :: GW) B.pre w (List.mem_cons_of_mem _ h)⟩
  have hlocks := B.notSynchronized
  subst hsz
  have hD := hD0.self (sz := s.heap.size)
  generalize hAe : va_A (wM G z0) s.heap.size = A at hD hE ⊢
  have hA : ∀ q : Nat, s.heap.size ≤ q → A q := fun q h => by rw [← hAe]; exact Or.inr h
  have hS : va_S A s.heap s.heap [] := va_S.rf
  have hl := lv_entry ([.int x0, .int x1]) (n := 2) (Nat.le_of_ble_eq_true rfl)
  rw [lg_entry_eq]
  generalize (lg_sl ([.int x0, .int x1]) ++ List.replicate (2 - (lg_sl ([.int x0, .int x1])).length) Slot.unset).toArray = ls at hl ⊢
  have hl : lv_has ls 2 [(0, .int x0), (1, .int x1)] := hl
  refine w_M_usual_0 S hE hA (Nat.le_refl _) (Nat.le_refl _) ?_ x0 x1 z0 hB _ _ _ hP hD hS hl
  intro pc ls r σ H locs hd hp hP hD hS
  exact W.iret (v := r) B.exec B.bytes B.returns (fun t ht hW => ⟨⟨r, σ, rfl, hp, by rw [ht]; exact hP, hD⟩, hS.F ht⟩) hS.2.2 hd
def B_M_readItems_r110_45 (post : St → Prop) (ih45 : Int32 → Int32 → Nat → Int32 → Int32 → St → Prop) (x1 : Int32) (x3 : Int32) (x4 : Nat) (x5 : Int32) (x6 : Int32) (z0 : St) : Prop :=
  ((x6 = (-1 : Int32) → (post z0)) ∧ (¬ x6 = (-1 : Int32) → (((gI z0 106) = (-1 : Int32) → (S_M_has (fun (r3 : Int32) (z1 : St) => ((r3 = 0 → (∀ v5 : Int32, v5 = (x5 ||| ((1 : Int32) <<< (x6 &&& 31))) → (∀ z2 : St, z2 = sI z1 105 ((gI z1 105) + (1 : Int32)) → (S_M_mostOf (fun (r6 : Int32) (z3 : St) => (S_M_number (fun (r7 : Int32) (z4 : St) => (vp_in (x3 + x6) 18 ∧ (∀ z5 : St, z5 = sA z4 110 (x3 + x6).toNatClampNeg r7 → (((gI z5 106) = (-1 : Int32) → (S_M_look (fun (r9 : Int32) (z6 : St) => (S_M_spotOf (fun (r10 : Int32) (z7 : St) => (ih45 x1 x3 x4 v5 r10 z7)) x4 r9 z6)) z5)) ∧ (¬ (gI z5 106) = (-1 : Int32) → (ih45 x1 x3 x4 v5 x6 z5)))))) r6 z3)) x1 x6 z2)))) ∧ (¬ r3 = 0 → (S_M_fails (fun (r11 : Int32) (z8 : St) => (post z8)) z1)))) x5 x6 z0)) ∧ (¬ (gI z0 106) = (-1 : Int32) → (post z0)))))
set_option maxHeartbeats 4000000 in
set_option maxRecDepth 100000 in
theorem w_M_readItems_r110_45 {p : Program} {l : Launch} {e : Env} {R : Room} {s : State} {m : MethodId} {args : Array Value} {below : List Frame} {meth : Method} {c : Code} {Q : State → Prop} {G : GX} {A : Nat → Prop} (S : CallFix p m c cX12_readItems 7 s args GW RX12) (hE : env G A s s.heap) (hA : ∀ q, s.heap.size ≤ q → A q) (hRf : 5 ≤ R.frames) (hRl : 107 ≤ R.locals) {post : St → Prop} (hret : RetV p l e R s m args below meth c Q 0 0 wM G A cX12_readItems post) {ih45 : Int32 → Int32 → Nat → Int32 → Int32 → St → Prop} (h45 : ∀ (x1 : Int32) (x3 : Int32) (x4 : Nat) (x5 : Int32) (x6 : Int32) (z0 : St), ih45 x1 x3 x4 x5 x6 z0 → Xw p l e R s m args below meth c Q 0 0 wM G A z0 7 [(0, .ref (ad G 100)), (1, .int x1), (2, .ref (ad G 110)), (3, .int x3), (4, .ref (tx G x4)), (5, .int x5), (6, .int x6)] 45 []) (x1 : Int32) (x3 : Int32) (x4 : Nat) (x5 : Int32) (x6 : Int32) (z0 : St) (hB : B_M_readItems_r110_45 post ih45 x1 x3 x4 x5 x6 z0) : Xw p l e R s m args below meth c Q 0 0 wM G A z0 7 [(0, .ref (ad G 100)), (1, .int x1), (2, .ref (ad G 110)), (3, .int x3), (4, .ref (tx G x4)), (5, .int x5), (6, .int x6)] 45 [] := by
  intro H locs ls hP hD hS hl
  have hx := S.1
  have hb := S.2.1
  refine lv_iload hx hb dX12_readItems_45 (lv_at hl 6 rfl) ?_
  refine lv_iconst (v := -1) hx hb dX12_readItems_47 (by decide) ?_
  refine lv_icmp_eq (tgt := 132) hx hb dX12_readItems_48 (by decide) (fun c1 => ?_) (fun c1 => ?_)
  · have hB := hB.1 c1
    exact hret _ _ _ _ _ dX12_readItems_132 hB hP hD hS
  · have hB := hB.2 c1
    refine lv_aload_n hx hb dX12_readItems_51 rfl (lv_at hl 0 rfl) ?_
    refine xMg_100_fault S hE hP lk_X12_121 dX12_readItems_52 ?_
    refine lv_iconst (v := -1) hx hb dX12_readItems_55 (by decide) ?_
    refine lv_icmp_ne (tgt := 132) hx hb dX12_readItems_56 (by decide) (fun c2 => ?_) (fun c2 => ?_)
    · have hB := hB.2 c2
      exact hret _ _ _ _ _ dX12_readItems_132 hB hP hD hS
    · have hB := hB.1 c2
      refine lv_iload hx hb dX12_readItems_59 (lv_at hl 5 rfl) ?_
      refine lv_iload hx hb dX12_readItems_61 (lv_at hl 6 rfl) ?_
      refine xcSi [.int x5, .int x6] S hE hA hP hD hS (c_M_has l G z0 H.size x5 x6 _) hB (gw_c lk_X12_218 (gw_c wt_X12_has (gw_c wn_X12 (gw_c wc_X12_has (fun _ h9 => h9))))) hs_X12_has rfl rfl (Nat.le_trans (Nat.le_of_ble_eq_true rfl) hRf) (Nat.le_trans (Nat.le_of_ble_eq_true rfl) hRl) ⟨Nat.zero_le _, Nat.zero_le _⟩ rfl hl.1 rfl (Nat.le_of_ble_eq_true rfl) dX12_readItems_63 (fun r3 z1 H locs hB hP hD hS => ?_)
      refine lv_if_eq (tgt := 75) hx hb dX12_readItems_66 (by decide) (fun c4 => ?_) (fun c4 => ?_)
      · have hB := hB.1 c4
        refine lv_iload hx hb dX12_readItems_75 (lv_at hl 5 rfl) ?_
        refine lv_iconst (v := 1) hx hb dX12_readItems_77 (by decide) ?_
        refine lv_iload hx hb dX12_readItems_78 (lv_at hl 6 rfl) ?_
        refine lv_ishl hx hb dX12_readItems_80 ?_
        refine lv_ior hx hb dX12_readItems_81 ?_
        refine lv_topi (fun v5 ev5 => ?_)
        have hB := hB v5 ev5
        refine lv_istore (lv' := [(5, .int v5), (0, .ref (ad G 100)), (1, .int x1), (2, .ref (ad G 110)), (3, .int x3), (4, .ref (tx G x4)), (6, .int x6)]) hx hb dX12_readItems_82 hl (by decide) rfl (fun ls hl => ?_)
        refine lv_aload_n hx hb dX12_readItems_84 rfl (lv_at hl 1 rfl) ?_
        refine lv_dup hx hb dX12_readItems_85 rfl ?_
        refine xMg_100_at S hE hP lk_X12_112 dX12_readItems_86 ?_
        refine lv_iconst (v := 1) hx hb dX12_readItems_89 (by decide) ?_
        refine lv_iadd hx hb dX12_readItems_90 ?_
        obtain ⟨z2, ez2⟩ : ∃ z9, z9 = sI z1 105 ((gI z1 105) + (1 : Int32)) := ⟨_, rfl⟩
        have hB := hB z2 ez2
        refine xMp_100_at S hE hP hD hS lk_X12_112 dX12_readItems_91 (fun H locs hP hD hS => ?_)
        rw [← ez2] at hP hD
        refine lv_aload_n hx hb dX12_readItems_94 rfl (lv_at hl 3 rfl) ?_
        refine lv_iload_n hx hb dX12_readItems_95 rfl (lv_at hl 4 rfl) ?_
        refine lv_iload hx hb dX12_readItems_96 (lv_at hl 6 rfl) ?_
        refine lv_iadd hx hb dX12_readItems_98 ?_
        refine lv_aload_n hx hb dX12_readItems_99 rfl (lv_at hl 1 rfl) ?_
        refine lv_iload_n hx hb dX12_readItems_100 rfl (lv_at hl 2 rfl) ?_
        refine lv_iload hx hb dX12_readItems_101 (lv_at hl 6 rfl) ?_
        refine xcSi [.int x1, .int x6] S hE hA hP hD hS (c_M_mostOf l G z2 H.size x1 x6 _) hB (gw_c lk_X12_222 (gw_c wt_X12_mostOf (gw_c wn_X12 (gw_c wc_X12_mostOf (fun _ h9 => h9))))) hs_X12_mostOf rfl rfl (Nat.le_trans (Nat.le_of_ble_eq_true rfl) hRf) (Nat.le_trans (Nat.le_of_ble_eq_true rfl) hRl) ⟨Nat.zero_le _, Nat.zero_le _⟩ rfl hl.1 rfl (Nat.le_of_ble_eq_true rfl) dX12_readItems_103 (fun r6 z3 H locs hB hP hD hS => ?_)
        refine xcVi [.int r6] S hE hA hP hD hS (c_M_number l G z3 H.size r6 _) hB (gw_c lk_X12_225 (gw_c wi_X12_number (gw_c we_X12_X12_number_X12_number (gw_c wn_X12 (gw_c wc_X12_number (fun _ h9 => h9)))))) hd_X12_number rfl rfl (Nat.le_trans (Nat.le_of_ble_eq_true rfl) hRf) (Nat.le_trans (Nat.le_of_ble_eq_true rfl) hRl) ⟨Nat.zero_le _, Nat.zero_le _⟩ (va_recv hE.1 hP (ci := 11) (q0 := 0) rfl rfl) rfl hl.1 rfl (Nat.le_of_ble_eq_true rfl) dX12_readItems_106 (fun r7 z4 H locs hB hP hD hS => ?_)
        obtain ⟨hi, hB⟩ := hB
        obtain ⟨z5, ez5⟩ : ∃ z9, z9 = sA z4 110 (x3 + x6).toNatClampNeg r7 := ⟨_, rfl⟩
        have hB := hB z5 ez5
        refine xMs_110 S hE hP hD hS _ rfl hi dX12_readItems_109 (fun H locs hP hD hS => ?_)
        rw [← ez5] at hP hD
        refine lv_aload_n hx hb dX12_readItems_110 rfl (lv_at hl 1 rfl) ?_
        refine xMg_100_fault S hE hP lk_X12_121 dX12_readItems_111 ?_
        refine lv_iconst (v := -1) hx hb dX12_readItems_114 (by decide) ?_
        refine lv_icmp_ne (tgt := 45) hx hb dX12_readItems_115 (by decide) (fun c8 => ?_) (fun c8 => ?_)
        · have hB := hB.2 c8
          exact h45 x1 x3 x4 v5 x6 z5 hB _ _ _ hP hD hS (lv_sub hl [1, 2, 3, 4, 5, 0, 6] rfl)
        · have hB := hB.1 c8
          refine lv_aload hx hb dX12_readItems_118 (lv_at hl 5 rfl) ?_
          refine lv_aload_n hx hb dX12_readItems_120 rfl (lv_at hl 1 rfl) ?_
          refine xcVi [] S hE hA hP hD hS (c_M_look l G z5 H.size _) hB (gw_c lk_X12_131 (gw_c wi_X12_look (gw_c we_X12_X12_look_X12_look (gw_c wn_X12 (gw_c wc_X12_look (fun _ h9 => h9)))))) hd_X12_look rfl rfl (Nat.le_trans (Nat.le_of_ble_eq_true rfl) hRf) (Nat.le_trans (Nat.le_of_ble_eq_true rfl) hRl) ⟨Nat.zero_le _, Nat.zero_le _⟩ (va_recv hE.1 hP (ci := 11) (q0 := 0) rfl rfl) rfl hl.1 rfl (Nat.le_of_ble_eq_true rfl) dX12_readItems_121 (fun r9 z6 H locs hB hP hD hS => ?_)
          refine xcSi [.ref (tx G x4), .int r9] S hE hA hP hD hS (c_M_spotOf l G z6 H.size x4 r9 _) hB (gw_c lk_X12_214 (gw_c wt_X12_spotOf (gw_c wn_X12 (gw_c wc_X12_spotOf (fun _ h9 => h9))))) hs_X12_spotOf rfl rfl (Nat.le_trans (Nat.le_of_ble_eq_true rfl) hRf) (Nat.le_trans (Nat.le_of_ble_eq_true rfl) hRl) ⟨Nat.zero_le _, Nat.zero_le _⟩ rfl hl.1 rfl (Nat.le_of_ble_eq_true rfl) dX12_readItems_124 (fun r10 z7 H locs hB hP hD hS => ?_)
          refine lv_istore (lv' := [(6, .int r10), (5, .int v5), (0, .ref (ad G 100)), (1, .int x1), (2, .ref (ad G 110)), (3, .int x3), (4, .ref (tx G x4))]) hx hb dX12_readItems_127 hl (by decide) rfl (fun ls hl => ?_)
          refine lv_goto (tgt := 45) hx hb dX12_readItems_129 (by decide) ?_
          exact h45 x1 x3 x4 v5 r10 z7 hB _ _ _ hP hD hS (lv_sub hl [2, 3, 4, 5, 6, 1, 0] rfl)
      · have hB := hB.2 c4
        refine lv_aload_n hx hb dX12_readItems_69 rfl (lv_at hl 0 rfl) ?_
        refine xcVi [] S hE hA hP hD hS (c_M_fails l G z1 H.size _) hB (gw_c lk_X12_127 (gw_c wi_X12_fails (gw_c we_X12_X12_fails_X12_fails (gw_c wn_X12 (gw_c wc_X12_fails (fun _ h9 => h9)))))) hd_X12_fails rfl rfl (Nat.le_trans (Nat.le_of_ble_eq_true rfl) hRf) (Nat.le_trans (Nat.le_of_ble_eq_true rfl) hRl) ⟨Nat.zero_le _, Nat.zero_le _⟩ (va_recv hE.1 hP (ci := 11) (q0 := 0) rfl rfl) rfl hl.1 rfl (Nat.le_of_ble_eq_true rfl) dX12_readItems_70 (fun r11 z8 H locs hB hP hD hS => ?_)
        refine lv_pop hx hb dX12_readItems_73 rfl ?_
        exact hret _ _ _ _ _ dX12_readItems_74 hB hP hD hS
def L_M_readItems_r110_45 (post : St → Prop) : Nat → Int32 → Int32 → Nat → Int32 → Int32 → St → Prop
  | 0 => fun _ _ _ _ _ _ => False
  | n + 1 => B_M_readItems_r110_45 post (L_M_readItems_r110_45 post n)
theorem wl_M_readItems_r110_45 {p : Program} {l : Launch} {e : Env} {R : Room} {s : State} {m : MethodId} {args : Array Value} {below : List Frame} {meth : Method} {c : Code} {Q : State → Prop} {G : GX} {A : Nat → Prop} (S : CallFix p m c cX12_readItems 7 s args GW RX12) (hE : env G A s s.heap) (hA : ∀ q, s.heap.size ≤ q → A q) (hRf : 5 ≤ R.frames) (hRl : 107 ≤ R.locals) {post : St → Prop} (hret : RetV p l e R s m args below meth c Q 0 0 wM G A cX12_readItems post) : ∀ (n : Nat) (x1 : Int32) (x3 : Int32) (x4 : Nat) (x5 : Int32) (x6 : Int32) (z0 : St), L_M_readItems_r110_45 post n x1 x3 x4 x5 x6 z0 → Xw p l e R s m args below meth c Q 0 0 wM G A z0 7 [(0, .ref (ad G 100)), (1, .int x1), (2, .ref (ad G 110)), (3, .int x3), (4, .ref (tx G x4)), (5, .int x5), (6, .int x6)] 45 [] := by
  intro n
  induction n with
  | zero => intro x1 x3 x4 x5 x6 z0 hB; exact absurd hB id
  | succ n ih => exact fun x1 x3 x4 x5 x6 z0 hB => w_M_readItems_r110_45 S hE hA hRf hRl hret ih x1 x3 x4 x5 x6 z0 hB
def B_M_readItems_r110_3 (post : St → Prop) (ih3 : Int32 → Int32 → Nat → Int32 → St → Prop) (x1 : Int32) (x3 : Int32) (x4 : Nat) (x5 : Int32) (z0 : St) : Prop :=
  (x4 < 8 ∧ (S_String_length_8abf5_M (fun (r1 : Int32) (z1 : St) => ((r1 ≤ x5 → (S_M_look (fun (r3 : Int32) (z2 : St) => (S_M_spotOf (fun (r4 : Int32) (z3 : St) => (∃ n5, L_M_readItems_r110_45 post n5 x1 x3 x4 (0 : Int32) r4 z3)) x4 r3 z2)) z1)) ∧ (¬ r1 ≤ x5 → (S_M_usual (fun (r6 : Int32) (z4 : St) => (vp_in (x3 + x5) 18 ∧ (∀ z5 : St, z5 = sA z4 110 (x3 + x5).toNatClampNeg r6 → (∀ v7 : Int32, v7 = x5 + (1 : Int32) → (ih3 x1 x3 x4 v7 z5))))) x1 x5 z1)))) x4 z0))
set_option maxHeartbeats 4000000 in
set_option maxRecDepth 100000 in
theorem w_M_readItems_r110_3 {p : Program} {l : Launch} {e : Env} {R : Room} {s : State} {m : MethodId} {args : Array Value} {below : List Frame} {meth : Method} {c : Code} {Q : State → Prop} {G : GX} {A : Nat → Prop} (S : CallFix p m c cX12_readItems 7 s args GW RX12) (hE : env G A s s.heap) (hA : ∀ q, s.heap.size ≤ q → A q) (hRf : 5 ≤ R.frames) (hRl : 107 ≤ R.locals) {post : St → Prop} (hret : RetV p l e R s m args below meth c Q 0 0 wM G A cX12_readItems post) {ih3 : Int32 → Int32 → Nat → Int32 → St → Prop} (h3 : ∀ (x1 : Int32) (x3 : Int32) (x4 : Nat) (x5 : Int32) (z0 : St), ih3 x1 x3 x4 x5 z0 → Xw p l e R s m args below meth c Q 0 0 wM G A z0 7 [(0, .ref (ad G 100)), (1, .int x1), (2, .ref (ad G 110)), (3, .int x3), (4, .ref (tx G x4)), (5, .int x5)] 3 []) (x1 : Int32) (x3 : Int32) (x4 : Nat) (x5 : Int32) (z0 : St) (hB : B_M_readItems_r110_3 post ih3 x1 x3 x4 x5 z0) : Xw p l e R s m args below meth c Q 0 0 wM G A z0 7 [(0, .ref (ad G 100)), (1, .int x1), (2, .ref (ad G 110)), (3, .int x3), (4, .ref (tx G x4)), (5, .int x5)] 3 [] := by
  intro H locs ls hP hD hS hl
  have hx := S.1
  have hb := S.2.1
  refine lv_iload hx hb dX12_readItems_3 (lv_at hl 5 rfl) ?_
  refine lv_aload hx hb dX12_readItems_5 (lv_at hl 4 rfl) ?_
  obtain ⟨hk9, hB⟩ := hB
  have hrv9 := vk_recv (eS hE.2) hk9 hS
  refine xcVi [] S hE hA hP hD hS (c_String_length_8abf5_M l G z0 H.size x4 _) hB (gw_c lk_X12_92 (gw_c wi_J0_length_8abf5 (gw_c we_J0_J0_length_8abf5_J0_length_8abf5 (gw_c wn_J0 (gw_c wc_J0_length_8abf5 (fun _ h9 => h9)))))) hd_J0_length_8abf5 rfl rfl (Nat.le_trans (Nat.le_of_ble_eq_true rfl) hRf) (Nat.le_trans (Nat.le_of_ble_eq_true rfl) hRl) ⟨Nat.zero_le _, Nat.zero_le _⟩ hrv9 rfl hl.1 rfl (Nat.le_of_ble_eq_true rfl) dX12_readItems_7 (fun r1 z1 H locs hB hP hD hS => ?_)
  refine lv_icmp_ge (tgt := 31) hx hb dX12_readItems_10 (by decide) (fun c2 => ?_) (fun c2 => ?_)
  · have hB := hB.1 c2
    refine lv_iconst (v := 0) hx hb dX12_readItems_31 (by decide) ?_
    refine lv_istore (lv' := [(5, .int (0 : Int32)), (0, .ref (ad G 100)), (1, .int x1), (2, .ref (ad G 110)), (3, .int x3), (4, .ref (tx G x4))]) hx hb dX12_readItems_32 hl (by decide) rfl (fun ls hl => ?_)
    refine lv_aload hx hb dX12_readItems_34 (lv_at hl 5 rfl) ?_
    refine lv_aload_n hx hb dX12_readItems_36 rfl (lv_at hl 1 rfl) ?_
    refine xcVi [] S hE hA hP hD hS (c_M_look l G z1 H.size _) hB (gw_c lk_X12_131 (gw_c wi_X12_look (gw_c we_X12_X12_look_X12_look (gw_c wn_X12 (gw_c wc_X12_look (fun _ h9 => h9)))))) hd_X12_look rfl rfl (Nat.le_trans (Nat.le_of_ble_eq_true rfl) hRf) (Nat.le_trans (Nat.le_of_ble_eq_true rfl) hRl) ⟨Nat.zero_le _, Nat.zero_le _⟩ (va_recv hE.1 hP (ci := 11) (q0 := 0) rfl rfl) rfl hl.1 rfl (Nat.le_of_ble_eq_true rfl) dX12_readItems_37 (fun r3 z2 H locs hB hP hD hS => ?_)
    refine xcSi [.ref (tx G x4), .int r3] S hE hA hP hD hS (c_M_spotOf l G z2 H.size x4 r3 _) hB (gw_c lk_X12_214 (gw_c wt_X12_spotOf (gw_c wn_X12 (gw_c wc_X12_spotOf (fun _ h9 => h9))))) hs_X12_spotOf rfl rfl (Nat.le_trans (Nat.le_of_ble_eq_true rfl) hRf) (Nat.le_trans (Nat.le_of_ble_eq_true rfl) hRl) ⟨Nat.zero_le _, Nat.zero_le _⟩ rfl hl.1 rfl (Nat.le_of_ble_eq_true rfl) dX12_readItems_40 (fun r4 z3 H locs hB hP hD hS => ?_)
    refine lv_istore (lv' := [(6, .int r4), (5, .int (0 : Int32)), (0, .ref (ad G 100)), (1, .int x1), (2, .ref (ad G 110)), (3, .int x3), (4, .ref (tx G x4))]) hx hb dX12_readItems_43 hl (by decide) rfl (fun ls hl => ?_)
    obtain ⟨n5, hB⟩ := hB
    exact wl_M_readItems_r110_45 S hE hA hRf hRl hret n5 x1 x3 x4 (0 : Int32) r4 z3 hB _ _ _ hP hD hS (lv_sub hl [2, 3, 4, 5, 6, 1, 0] rfl)
  · have hB := hB.2 c2
    refine lv_aload_n hx hb dX12_readItems_13 rfl (lv_at hl 2 rfl) ?_
    refine lv_iload_n hx hb dX12_readItems_14 rfl (lv_at hl 3 rfl) ?_
    refine lv_iload hx hb dX12_readItems_15 (lv_at hl 5 rfl) ?_
    refine lv_iadd hx hb dX12_readItems_17 ?_
    refine lv_iload_n hx hb dX12_readItems_18 rfl (lv_at hl 1 rfl) ?_
    refine lv_iload hx hb dX12_readItems_19 (lv_at hl 5 rfl) ?_
    refine xcSi [.int x1, .int x5] S hE hA hP hD hS (c_M_usual l G z1 H.size x1 x5 _) hB (gw_c lk_X12_210 (gw_c wt_X12_usual (gw_c wn_X12 (gw_c wc_X12_usual (fun _ h9 => h9))))) hs_X12_usual rfl rfl (Nat.le_trans (Nat.le_of_ble_eq_true rfl) hRf) (Nat.le_trans (Nat.le_of_ble_eq_true rfl) hRl) ⟨Nat.zero_le _, Nat.zero_le _⟩ rfl hl.1 rfl (Nat.le_of_ble_eq_true rfl) dX12_readItems_21 (fun r6 z4 H locs hB hP hD hS => ?_)
    obtain ⟨hi, hB⟩ := hB
    obtain ⟨z5, ez5⟩ : ∃ z9, z9 = sA z4 110 (x3 + x5).toNatClampNeg r6 := ⟨_, rfl⟩
    have hB := hB z5 ez5
    refine xMs_110 S hE hP hD hS _ rfl hi dX12_readItems_24 (fun H locs hP hD hS => ?_)
    rw [← ez5] at hP hD
    obtain ⟨v7, ev7⟩ : ∃ y9, y9 = x5 + (1 : Int32) := ⟨_, rfl⟩
    have hB := hB v7 ev7
    refine lv_iinc (v := v7) (lv' := [(5, .int v7), (0, .ref (ad G 100)), (1, .int x1), (2, .ref (ad G 110)), (3, .int x3), (4, .ref (tx G x4))]) hx hb dX12_readItems_25 hl (k := 5) rfl (by rw [ev7]; rfl) (by decide) rfl (fun ls hl => ?_)
    refine lv_goto (tgt := 3) hx hb dX12_readItems_28 (by decide) ?_
    exact h3 x1 x3 x4 v7 z5 hB _ _ _ hP hD hS (lv_sub hl [1, 2, 3, 4, 5, 0] rfl)
def L_M_readItems_r110_3 (post : St → Prop) : Nat → Int32 → Int32 → Nat → Int32 → St → Prop
  | 0 => fun _ _ _ _ _ => False
  | n + 1 => B_M_readItems_r110_3 post (L_M_readItems_r110_3 post n)
theorem wl_M_readItems_r110_3 {p : Program} {l : Launch} {e : Env} {R : Room} {s : State} {m : MethodId} {args : Array Value} {below : List Frame} {meth : Method} {c : Code} {Q : State → Prop} {G : GX} {A : Nat → Prop} (S : CallFix p m c cX12_readItems 7 s args GW RX12) (hE : env G A s s.heap) (hA : ∀ q, s.heap.size ≤ q → A q) (hRf : 5 ≤ R.frames) (hRl : 107 ≤ R.locals) {post : St → Prop} (hret : RetV p l e R s m args below meth c Q 0 0 wM G A cX12_readItems post) : ∀ (n : Nat) (x1 : Int32) (x3 : Int32) (x4 : Nat) (x5 : Int32) (z0 : St), L_M_readItems_r110_3 post n x1 x3 x4 x5 z0 → Xw p l e R s m args below meth c Q 0 0 wM G A z0 7 [(0, .ref (ad G 100)), (1, .int x1), (2, .ref (ad G 110)), (3, .int x3), (4, .ref (tx G x4)), (5, .int x5)] 3 [] := by
  intro n
  induction n with
  | zero => intro x1 x3 x4 x5 z0 hB; exact absurd hB id
  | succ n ih => exact fun x1 x3 x4 x5 z0 hB => w_M_readItems_r110_3 S hE hA hRf hRl hret ih x1 x3 x4 x5 z0 hB
def S_M_readItems_r110 (post : St → Prop) (x1 : Int32) (x3 : Int32) (x4 : Nat) (z0 : St) : Prop :=
  (∃ n1, L_M_readItems_r110_3 post n1 x1 x3 x4 (0 : Int32) z0)
set_option maxHeartbeats 4000000 in
set_option maxRecDepth 100000 in
theorem w_M_readItems_r110_0 {p : Program} {l : Launch} {e : Env} {R : Room} {s : State} {m : MethodId} {args : Array Value} {below : List Frame} {meth : Method} {c : Code} {Q : State → Prop} {G : GX} {A : Nat → Prop} (S : CallFix p m c cX12_readItems 7 s args GW RX12) (hE : env G A s s.heap) (hA : ∀ q, s.heap.size ≤ q → A q) (hRf : 5 ≤ R.frames) (hRl : 107 ≤ R.locals) {post : St → Prop} (hret : RetV p l e R s m args below meth c Q 0 0 wM G A cX12_readItems post) (x1 : Int32) (x3 : Int32) (x4 : Nat) (z0 : St) (hB : S_M_readItems_r110 post x1 x3 x4 z0) : Xw p l e R s m args below meth c Q 0 0 wM G A z0 7 [(0, .ref (ad G 100)), (1, .int x1), (2, .ref (ad G 110)), (3, .int x3), (4, .ref (tx G x4))] 0 [] := by
  intro H locs ls hP hD hS hl
  have hx := S.1
  have hb := S.2.1
  refine lv_iconst (v := 0) hx hb dX12_readItems_0 (by decide) ?_
  refine lv_istore (lv' := [(5, .int (0 : Int32)), (0, .ref (ad G 100)), (1, .int x1), (2, .ref (ad G 110)), (3, .int x3), (4, .ref (tx G x4))]) hx hb dX12_readItems_1 hl (by decide) rfl (fun ls hl => ?_)
  obtain ⟨n1, hB⟩ := hB
  exact wl_M_readItems_r110_3 S hE hA hRf hRl hret n1 x1 x3 x4 (0 : Int32) z0 hB _ _ _ hP hD hS (lv_sub hl [1, 2, 3, 4, 5, 0] rfl)
set_option maxHeartbeats 4000000 in
set_option maxRecDepth 100000 in
theorem c_M_readItems_r110 (l : Launch) (G : GX) (z0 : St) (sz : Nat) (x1 : Int32) (x3 : Int32) (x4 : Nat) (post : St → Prop) : MetV l wM yX12_readItems cX12_readItems 7 none ({ frames := 5, cells := 0, slots := 0, locals := 107 }) [.ref (ad G 100), .int x1, .ref (ad G 110), .int x3, .ref (tx G x4)] G z0 sz (S_M_readItems_r110 post x1 x3 x4 z0) post := by
  refine Met.ofW (cc := cX12_readItems) (maxL := 7) (ret := none) (by decide) rfl ?_
  intro p e s m args below meth c s₁ B hml hv
  obtain ⟨rfl, hsz, hP, hD0, hE, hB⟩ := hv
  have S : CallFix p m c cX12_readItems 7 s _ GW RX12 := ⟨B.exec, B.bytes, hml, findClass_of_methodNamed B.named, fun w h => atoms_spec (ws := Cond.code yX12_readItems cX12_readItems 7 none :: GW) B.pre w (List.mem_cons_of_mem _ h)⟩
  have hlocks := B.notSynchronized
  subst hsz
  have hD := hD0.self (sz := s.heap.size)
  generalize hAe : va_A (wM G z0) s.heap.size = A at hD hE ⊢
  have hA : ∀ q : Nat, s.heap.size ≤ q → A q := fun q h => by rw [← hAe]; exact Or.inr h
  have hS : va_S A s.heap s.heap [] := va_S.rf
  have hl := lv_entry ([.ref (ad G 100), .int x1, .ref (ad G 110), .int x3, .ref (tx G x4)]) (n := 7) (Nat.le_of_ble_eq_true rfl)
  rw [lg_entry_eq]
  generalize (lg_sl ([.ref (ad G 100), .int x1, .ref (ad G 110), .int x3, .ref (tx G x4)]) ++ List.replicate (7 - (lg_sl ([.ref (ad G 100), .int x1, .ref (ad G 110), .int x3, .ref (tx G x4)])).length) Slot.unset).toArray = ls at hl ⊢
  have hl : lv_has ls 7 [(0, .ref (ad G 100)), (1, .int x1), (2, .ref (ad G 110)), (3, .int x3), (4, .ref (tx G x4))] := hl
  refine w_M_readItems_r110_0 S hE hA (Nat.le_refl _) (Nat.le_refl _) ?_ x1 x3 x4 z0 hB _ _ _ hP hD hS hl
  intro pc ls σ H locs hd hp hP hD hS
  exact W.vret B.exec B.bytes B.returns (fun t ht hW => ⟨⟨σ, rfl, hp, by rw [ht]; exact hP, hD⟩, hS.F ht⟩) hS.2.2 hd
def B_M_readItems_r108_45 (post : St → Prop) (ih45 : Int32 → Int32 → Nat → Int32 → Int32 → St → Prop) (x1 : Int32) (x3 : Int32) (x4 : Nat) (x5 : Int32) (x6 : Int32) (z0 : St) : Prop :=
  ((x6 = (-1 : Int32) → (post z0)) ∧ (¬ x6 = (-1 : Int32) → (((gI z0 106) = (-1 : Int32) → (S_M_has (fun (r3 : Int32) (z1 : St) => ((r3 = 0 → (∀ v5 : Int32, v5 = (x5 ||| ((1 : Int32) <<< (x6 &&& 31))) → (∀ z2 : St, z2 = sI z1 105 ((gI z1 105) + (1 : Int32)) → (S_M_mostOf (fun (r6 : Int32) (z3 : St) => (S_M_number (fun (r7 : Int32) (z4 : St) => (vp_in (x3 + x6) 12 ∧ (∀ z5 : St, z5 = sA z4 108 (x3 + x6).toNatClampNeg r7 → (((gI z5 106) = (-1 : Int32) → (S_M_look (fun (r9 : Int32) (z6 : St) => (S_M_spotOf (fun (r10 : Int32) (z7 : St) => (ih45 x1 x3 x4 v5 r10 z7)) x4 r9 z6)) z5)) ∧ (¬ (gI z5 106) = (-1 : Int32) → (ih45 x1 x3 x4 v5 x6 z5)))))) r6 z3)) x1 x6 z2)))) ∧ (¬ r3 = 0 → (S_M_fails (fun (r11 : Int32) (z8 : St) => (post z8)) z1)))) x5 x6 z0)) ∧ (¬ (gI z0 106) = (-1 : Int32) → (post z0)))))
set_option maxHeartbeats 4000000 in
set_option maxRecDepth 100000 in
theorem w_M_readItems_r108_45 {p : Program} {l : Launch} {e : Env} {R : Room} {s : State} {m : MethodId} {args : Array Value} {below : List Frame} {meth : Method} {c : Code} {Q : State → Prop} {G : GX} {A : Nat → Prop} (S : CallFix p m c cX12_readItems 7 s args GW RX12) (hE : env G A s s.heap) (hA : ∀ q, s.heap.size ≤ q → A q) (hRf : 5 ≤ R.frames) (hRl : 107 ≤ R.locals) {post : St → Prop} (hret : RetV p l e R s m args below meth c Q 0 0 wM G A cX12_readItems post) {ih45 : Int32 → Int32 → Nat → Int32 → Int32 → St → Prop} (h45 : ∀ (x1 : Int32) (x3 : Int32) (x4 : Nat) (x5 : Int32) (x6 : Int32) (z0 : St), ih45 x1 x3 x4 x5 x6 z0 → Xw p l e R s m args below meth c Q 0 0 wM G A z0 7 [(0, .ref (ad G 100)), (1, .int x1), (2, .ref (ad G 108)), (3, .int x3), (4, .ref (tx G x4)), (5, .int x5), (6, .int x6)] 45 []) (x1 : Int32) (x3 : Int32) (x4 : Nat) (x5 : Int32) (x6 : Int32) (z0 : St) (hB : B_M_readItems_r108_45 post ih45 x1 x3 x4 x5 x6 z0) : Xw p l e R s m args below meth c Q 0 0 wM G A z0 7 [(0, .ref (ad G 100)), (1, .int x1), (2, .ref (ad G 108)), (3, .int x3), (4, .ref (tx G x4)), (5, .int x5), (6, .int x6)] 45 [] := by
  intro H locs ls hP hD hS hl
  have hx := S.1
  have hb := S.2.1
  refine lv_iload hx hb dX12_readItems_45 (lv_at hl 6 rfl) ?_
  refine lv_iconst (v := -1) hx hb dX12_readItems_47 (by decide) ?_
  refine lv_icmp_eq (tgt := 132) hx hb dX12_readItems_48 (by decide) (fun c1 => ?_) (fun c1 => ?_)
  · have hB := hB.1 c1
    exact hret _ _ _ _ _ dX12_readItems_132 hB hP hD hS
  · have hB := hB.2 c1
    refine lv_aload_n hx hb dX12_readItems_51 rfl (lv_at hl 0 rfl) ?_
    refine xMg_100_fault S hE hP lk_X12_121 dX12_readItems_52 ?_
    refine lv_iconst (v := -1) hx hb dX12_readItems_55 (by decide) ?_
    refine lv_icmp_ne (tgt := 132) hx hb dX12_readItems_56 (by decide) (fun c2 => ?_) (fun c2 => ?_)
    · have hB := hB.2 c2
      exact hret _ _ _ _ _ dX12_readItems_132 hB hP hD hS
    · have hB := hB.1 c2
      refine lv_iload hx hb dX12_readItems_59 (lv_at hl 5 rfl) ?_
      refine lv_iload hx hb dX12_readItems_61 (lv_at hl 6 rfl) ?_
      refine xcSi [.int x5, .int x6] S hE hA hP hD hS (c_M_has l G z0 H.size x5 x6 _) hB (gw_c lk_X12_218 (gw_c wt_X12_has (gw_c wn_X12 (gw_c wc_X12_has (fun _ h9 => h9))))) hs_X12_has rfl rfl (Nat.le_trans (Nat.le_of_ble_eq_true rfl) hRf) (Nat.le_trans (Nat.le_of_ble_eq_true rfl) hRl) ⟨Nat.zero_le _, Nat.zero_le _⟩ rfl hl.1 rfl (Nat.le_of_ble_eq_true rfl) dX12_readItems_63 (fun r3 z1 H locs hB hP hD hS => ?_)
      refine lv_if_eq (tgt := 75) hx hb dX12_readItems_66 (by decide) (fun c4 => ?_) (fun c4 => ?_)
      · have hB := hB.1 c4
        refine lv_iload hx hb dX12_readItems_75 (lv_at hl 5 rfl) ?_
        refine lv_iconst (v := 1) hx hb dX12_readItems_77 (by decide) ?_
        refine lv_iload hx hb dX12_readItems_78 (lv_at hl 6 rfl) ?_
        refine lv_ishl hx hb dX12_readItems_80 ?_
        refine lv_ior hx hb dX12_readItems_81 ?_
        refine lv_topi (fun v5 ev5 => ?_)
        have hB := hB v5 ev5
        refine lv_istore (lv' := [(5, .int v5), (0, .ref (ad G 100)), (1, .int x1), (2, .ref (ad G 108)), (3, .int x3), (4, .ref (tx G x4)), (6, .int x6)]) hx hb dX12_readItems_82 hl (by decide) rfl (fun ls hl => ?_)
        refine lv_aload_n hx hb dX12_readItems_84 rfl (lv_at hl 1 rfl) ?_
        refine lv_dup hx hb dX12_readItems_85 rfl ?_
        refine xMg_100_at S hE hP lk_X12_112 dX12_readItems_86 ?_
        refine lv_iconst (v := 1) hx hb dX12_readItems_89 (by decide) ?_
        refine lv_iadd hx hb dX12_readItems_90 ?_
        obtain ⟨z2, ez2⟩ : ∃ z9, z9 = sI z1 105 ((gI z1 105) + (1 : Int32)) := ⟨_, rfl⟩
        have hB := hB z2 ez2
        refine xMp_100_at S hE hP hD hS lk_X12_112 dX12_readItems_91 (fun H locs hP hD hS => ?_)
        rw [← ez2] at hP hD
        refine lv_aload_n hx hb dX12_readItems_94 rfl (lv_at hl 3 rfl) ?_
        refine lv_iload_n hx hb dX12_readItems_95 rfl (lv_at hl 4 rfl) ?_
        refine lv_iload hx hb dX12_readItems_96 (lv_at hl 6 rfl) ?_
        refine lv_iadd hx hb dX12_readItems_98 ?_
        refine lv_aload_n hx hb dX12_readItems_99 rfl (lv_at hl 1 rfl) ?_
        refine lv_iload_n hx hb dX12_readItems_100 rfl (lv_at hl 2 rfl) ?_
        refine lv_iload hx hb dX12_readItems_101 (lv_at hl 6 rfl) ?_
        refine xcSi [.int x1, .int x6] S hE hA hP hD hS (c_M_mostOf l G z2 H.size x1 x6 _) hB (gw_c lk_X12_222 (gw_c wt_X12_mostOf (gw_c wn_X12 (gw_c wc_X12_mostOf (fun _ h9 => h9))))) hs_X12_mostOf rfl rfl (Nat.le_trans (Nat.le_of_ble_eq_true rfl) hRf) (Nat.le_trans (Nat.le_of_ble_eq_true rfl) hRl) ⟨Nat.zero_le _, Nat.zero_le _⟩ rfl hl.1 rfl (Nat.le_of_ble_eq_true rfl) dX12_readItems_103 (fun r6 z3 H locs hB hP hD hS => ?_)
        refine xcVi [.int r6] S hE hA hP hD hS (c_M_number l G z3 H.size r6 _) hB (gw_c lk_X12_225 (gw_c wi_X12_number (gw_c we_X12_X12_number_X12_number (gw_c wn_X12 (gw_c wc_X12_number (fun _ h9 => h9)))))) hd_X12_number rfl rfl (Nat.le_trans (Nat.le_of_ble_eq_true rfl) hRf) (Nat.le_trans (Nat.le_of_ble_eq_true rfl) hRl) ⟨Nat.zero_le _, Nat.zero_le _⟩ (va_recv hE.1 hP (ci := 11) (q0 := 0) rfl rfl) rfl hl.1 rfl (Nat.le_of_ble_eq_true rfl) dX12_readItems_106 (fun r7 z4 H locs hB hP hD hS => ?_)
        obtain ⟨hi, hB⟩ := hB
        obtain ⟨z5, ez5⟩ : ∃ z9, z9 = sA z4 108 (x3 + x6).toNatClampNeg r7 := ⟨_, rfl⟩
        have hB := hB z5 ez5
        refine xMs_108 S hE hP hD hS _ rfl hi dX12_readItems_109 (fun H locs hP hD hS => ?_)
        rw [← ez5] at hP hD
        refine lv_aload_n hx hb dX12_readItems_110 rfl (lv_at hl 1 rfl) ?_
        refine xMg_100_fault S hE hP lk_X12_121 dX12_readItems_111 ?_
        refine lv_iconst (v := -1) hx hb dX12_readItems_114 (by decide) ?_
        refine lv_icmp_ne (tgt := 45) hx hb dX12_readItems_115 (by decide) (fun c8 => ?_) (fun c8 => ?_)
        · have hB := hB.2 c8
          exact h45 x1 x3 x4 v5 x6 z5 hB _ _ _ hP hD hS (lv_sub hl [1, 2, 3, 4, 5, 0, 6] rfl)
        · have hB := hB.1 c8
          refine lv_aload hx hb dX12_readItems_118 (lv_at hl 5 rfl) ?_
          refine lv_aload_n hx hb dX12_readItems_120 rfl (lv_at hl 1 rfl) ?_
          refine xcVi [] S hE hA hP hD hS (c_M_look l G z5 H.size _) hB (gw_c lk_X12_131 (gw_c wi_X12_look (gw_c we_X12_X12_look_X12_look (gw_c wn_X12 (gw_c wc_X12_look (fun _ h9 => h9)))))) hd_X12_look rfl rfl (Nat.le_trans (Nat.le_of_ble_eq_true rfl) hRf) (Nat.le_trans (Nat.le_of_ble_eq_true rfl) hRl) ⟨Nat.zero_le _, Nat.zero_le _⟩ (va_recv hE.1 hP (ci := 11) (q0 := 0) rfl rfl) rfl hl.1 rfl (Nat.le_of_ble_eq_true rfl) dX12_readItems_121 (fun r9 z6 H locs hB hP hD hS => ?_)
          refine xcSi [.ref (tx G x4), .int r9] S hE hA hP hD hS (c_M_spotOf l G z6 H.size x4 r9 _) hB (gw_c lk_X12_214 (gw_c wt_X12_spotOf (gw_c wn_X12 (gw_c wc_X12_spotOf (fun _ h9 => h9))))) hs_X12_spotOf rfl rfl (Nat.le_trans (Nat.le_of_ble_eq_true rfl) hRf) (Nat.le_trans (Nat.le_of_ble_eq_true rfl) hRl) ⟨Nat.zero_le _, Nat.zero_le _⟩ rfl hl.1 rfl (Nat.le_of_ble_eq_true rfl) dX12_readItems_124 (fun r10 z7 H locs hB hP hD hS => ?_)
          refine lv_istore (lv' := [(6, .int r10), (5, .int v5), (0, .ref (ad G 100)), (1, .int x1), (2, .ref (ad G 108)), (3, .int x3), (4, .ref (tx G x4))]) hx hb dX12_readItems_127 hl (by decide) rfl (fun ls hl => ?_)
          refine lv_goto (tgt := 45) hx hb dX12_readItems_129 (by decide) ?_
          exact h45 x1 x3 x4 v5 r10 z7 hB _ _ _ hP hD hS (lv_sub hl [2, 3, 4, 5, 6, 1, 0] rfl)
      · have hB := hB.2 c4
        refine lv_aload_n hx hb dX12_readItems_69 rfl (lv_at hl 0 rfl) ?_
        refine xcVi [] S hE hA hP hD hS (c_M_fails l G z1 H.size _) hB (gw_c lk_X12_127 (gw_c wi_X12_fails (gw_c we_X12_X12_fails_X12_fails (gw_c wn_X12 (gw_c wc_X12_fails (fun _ h9 => h9)))))) hd_X12_fails rfl rfl (Nat.le_trans (Nat.le_of_ble_eq_true rfl) hRf) (Nat.le_trans (Nat.le_of_ble_eq_true rfl) hRl) ⟨Nat.zero_le _, Nat.zero_le _⟩ (va_recv hE.1 hP (ci := 11) (q0 := 0) rfl rfl) rfl hl.1 rfl (Nat.le_of_ble_eq_true rfl) dX12_readItems_70 (fun r11 z8 H locs hB hP hD hS => ?_)
        refine lv_pop hx hb dX12_readItems_73 rfl ?_
        exact hret _ _ _ _ _ dX12_readItems_74 hB hP hD hS
def L_M_readItems_r108_45 (post : St → Prop) : Nat → Int32 → Int32 → Nat → Int32 → Int32 → St → Prop
  | 0 => fun _ _ _ _ _ _ => False
  | n + 1 => B_M_readItems_r108_45 post (L_M_readItems_r108_45 post n)
theorem wl_M_readItems_r108_45 {p : Program} {l : Launch} {e : Env} {R : Room} {s : State} {m : MethodId} {args : Array Value} {below : List Frame} {meth : Method} {c : Code} {Q : State → Prop} {G : GX} {A : Nat → Prop} (S : CallFix p m c cX12_readItems 7 s args GW RX12) (hE : env G A s s.heap) (hA : ∀ q, s.heap.size ≤ q → A q) (hRf : 5 ≤ R.frames) (hRl : 107 ≤ R.locals) {post : St → Prop} (hret : RetV p l e R s m args below meth c Q 0 0 wM G A cX12_readItems post) : ∀ (n : Nat) (x1 : Int32) (x3 : Int32) (x4 : Nat) (x5 : Int32) (x6 : Int32) (z0 : St), L_M_readItems_r108_45 post n x1 x3 x4 x5 x6 z0 → Xw p l e R s m args below meth c Q 0 0 wM G A z0 7 [(0, .ref (ad G 100)), (1, .int x1), (2, .ref (ad G 108)), (3, .int x3), (4, .ref (tx G x4)), (5, .int x5), (6, .int x6)] 45 [] := by
  intro n
  induction n with
  | zero => intro x1 x3 x4 x5 x6 z0 hB; exact absurd hB id
  | succ n ih => exact fun x1 x3 x4 x5 x6 z0 hB => w_M_readItems_r108_45 S hE hA hRf hRl hret ih x1 x3 x4 x5 x6 z0 hB
def B_M_readItems_r108_3 (post : St → Prop) (ih3 : Int32 → Int32 → Nat → Int32 → St → Prop) (x1 : Int32) (x3 : Int32) (x4 : Nat) (x5 : Int32) (z0 : St) : Prop :=
  (x4 < 8 ∧ (S_String_length_8abf5_M (fun (r1 : Int32) (z1 : St) => ((r1 ≤ x5 → (S_M_look (fun (r3 : Int32) (z2 : St) => (S_M_spotOf (fun (r4 : Int32) (z3 : St) => (∃ n5, L_M_readItems_r108_45 post n5 x1 x3 x4 (0 : Int32) r4 z3)) x4 r3 z2)) z1)) ∧ (¬ r1 ≤ x5 → (S_M_usual (fun (r6 : Int32) (z4 : St) => (vp_in (x3 + x5) 12 ∧ (∀ z5 : St, z5 = sA z4 108 (x3 + x5).toNatClampNeg r6 → (∀ v7 : Int32, v7 = x5 + (1 : Int32) → (ih3 x1 x3 x4 v7 z5))))) x1 x5 z1)))) x4 z0))
set_option maxHeartbeats 4000000 in
set_option maxRecDepth 100000 in
theorem w_M_readItems_r108_3 {p : Program} {l : Launch} {e : Env} {R : Room} {s : State} {m : MethodId} {args : Array Value} {below : List Frame} {meth : Method} {c : Code} {Q : State → Prop} {G : GX} {A : Nat → Prop} (S : CallFix p m c cX12_readItems 7 s args GW RX12) (hE : env G A s s.heap) (hA : ∀ q, s.heap.size ≤ q → A q) (hRf : 5 ≤ R.frames) (hRl : 107 ≤ R.locals) {post : St → Prop} (hret : RetV p l e R s m args below meth c Q 0 0 wM G A cX12_readItems post) {ih3 : Int32 → Int32 → Nat → Int32 → St → Prop} (h3 : ∀ (x1 : Int32) (x3 : Int32) (x4 : Nat) (x5 : Int32) (z0 : St), ih3 x1 x3 x4 x5 z0 → Xw p l e R s m args below meth c Q 0 0 wM G A z0 7 [(0, .ref (ad G 100)), (1, .int x1), (2, .ref (ad G 108)), (3, .int x3), (4, .ref (tx G x4)), (5, .int x5)] 3 []) (x1 : Int32) (x3 : Int32) (x4 : Nat) (x5 : Int32) (z0 : St) (hB : B_M_readItems_r108_3 post ih3 x1 x3 x4 x5 z0) : Xw p l e R s m args below meth c Q 0 0 wM G A z0 7 [(0, .ref (ad G 100)), (1, .int x1), (2, .ref (ad G 108)), (3, .int x3), (4, .ref (tx G x4)), (5, .int x5)] 3 [] := by
  intro H locs ls hP hD hS hl
  have hx := S.1
  have hb := S.2.1
  refine lv_iload hx hb dX12_readItems_3 (lv_at hl 5 rfl) ?_
  refine lv_aload hx hb dX12_readItems_5 (lv_at hl 4 rfl) ?_
  obtain ⟨hk9, hB⟩ := hB
  have hrv9 := vk_recv (eS hE.2) hk9 hS
  refine xcVi [] S hE hA hP hD hS (c_String_length_8abf5_M l G z0 H.size x4 _) hB (gw_c lk_X12_92 (gw_c wi_J0_length_8abf5 (gw_c we_J0_J0_length_8abf5_J0_length_8abf5 (gw_c wn_J0 (gw_c wc_J0_length_8abf5 (fun _ h9 => h9)))))) hd_J0_length_8abf5 rfl rfl (Nat.le_trans (Nat.le_of_ble_eq_true rfl) hRf) (Nat.le_trans (Nat.le_of_ble_eq_true rfl) hRl) ⟨Nat.zero_le _, Nat.zero_le _⟩ hrv9 rfl hl.1 rfl (Nat.le_of_ble_eq_true rfl) dX12_readItems_7 (fun r1 z1 H locs hB hP hD hS => ?_)
  refine lv_icmp_ge (tgt := 31) hx hb dX12_readItems_10 (by decide) (fun c2 => ?_) (fun c2 => ?_)
  · have hB := hB.1 c2
    refine lv_iconst (v := 0) hx hb dX12_readItems_31 (by decide) ?_
    refine lv_istore (lv' := [(5, .int (0 : Int32)), (0, .ref (ad G 100)), (1, .int x1), (2, .ref (ad G 108)), (3, .int x3), (4, .ref (tx G x4))]) hx hb dX12_readItems_32 hl (by decide) rfl (fun ls hl => ?_)
    refine lv_aload hx hb dX12_readItems_34 (lv_at hl 5 rfl) ?_
    refine lv_aload_n hx hb dX12_readItems_36 rfl (lv_at hl 1 rfl) ?_
    refine xcVi [] S hE hA hP hD hS (c_M_look l G z1 H.size _) hB (gw_c lk_X12_131 (gw_c wi_X12_look (gw_c we_X12_X12_look_X12_look (gw_c wn_X12 (gw_c wc_X12_look (fun _ h9 => h9)))))) hd_X12_look rfl rfl (Nat.le_trans (Nat.le_of_ble_eq_true rfl) hRf) (Nat.le_trans (Nat.le_of_ble_eq_true rfl) hRl) ⟨Nat.zero_le _, Nat.zero_le _⟩ (va_recv hE.1 hP (ci := 11) (q0 := 0) rfl rfl) rfl hl.1 rfl (Nat.le_of_ble_eq_true rfl) dX12_readItems_37 (fun r3 z2 H locs hB hP hD hS => ?_)
    refine xcSi [.ref (tx G x4), .int r3] S hE hA hP hD hS (c_M_spotOf l G z2 H.size x4 r3 _) hB (gw_c lk_X12_214 (gw_c wt_X12_spotOf (gw_c wn_X12 (gw_c wc_X12_spotOf (fun _ h9 => h9))))) hs_X12_spotOf rfl rfl (Nat.le_trans (Nat.le_of_ble_eq_true rfl) hRf) (Nat.le_trans (Nat.le_of_ble_eq_true rfl) hRl) ⟨Nat.zero_le _, Nat.zero_le _⟩ rfl hl.1 rfl (Nat.le_of_ble_eq_true rfl) dX12_readItems_40 (fun r4 z3 H locs hB hP hD hS => ?_)
    refine lv_istore (lv' := [(6, .int r4), (5, .int (0 : Int32)), (0, .ref (ad G 100)), (1, .int x1), (2, .ref (ad G 108)), (3, .int x3), (4, .ref (tx G x4))]) hx hb dX12_readItems_43 hl (by decide) rfl (fun ls hl => ?_)
    obtain ⟨n5, hB⟩ := hB
    exact wl_M_readItems_r108_45 S hE hA hRf hRl hret n5 x1 x3 x4 (0 : Int32) r4 z3 hB _ _ _ hP hD hS (lv_sub hl [2, 3, 4, 5, 6, 1, 0] rfl)
  · have hB := hB.2 c2
    refine lv_aload_n hx hb dX12_readItems_13 rfl (lv_at hl 2 rfl) ?_
    refine lv_iload_n hx hb dX12_readItems_14 rfl (lv_at hl 3 rfl) ?_
    refine lv_iload hx hb dX12_readItems_15 (lv_at hl 5 rfl) ?_
    refine lv_iadd hx hb dX12_readItems_17 ?_
    refine lv_iload_n hx hb dX12_readItems_18 rfl (lv_at hl 1 rfl) ?_
    refine lv_iload hx hb dX12_readItems_19 (lv_at hl 5 rfl) ?_
    refine xcSi [.int x1, .int x5] S hE hA hP hD hS (c_M_usual l G z1 H.size x1 x5 _) hB (gw_c lk_X12_210 (gw_c wt_X12_usual (gw_c wn_X12 (gw_c wc_X12_usual (fun _ h9 => h9))))) hs_X12_usual rfl rfl (Nat.le_trans (Nat.le_of_ble_eq_true rfl) hRf) (Nat.le_trans (Nat.le_of_ble_eq_true rfl) hRl) ⟨Nat.zero_le _, Nat.zero_le _⟩ rfl hl.1 rfl (Nat.le_of_ble_eq_true rfl) dX12_readItems_21 (fun r6 z4 H locs hB hP hD hS => ?_)
    obtain ⟨hi, hB⟩ := hB
    obtain ⟨z5, ez5⟩ : ∃ z9, z9 = sA z4 108 (x3 + x5).toNatClampNeg r6 := ⟨_, rfl⟩
    have hB := hB z5 ez5
    refine xMs_108 S hE hP hD hS _ rfl hi dX12_readItems_24 (fun H locs hP hD hS => ?_)
    rw [← ez5] at hP hD
    obtain ⟨v7, ev7⟩ : ∃ y9, y9 = x5 + (1 : Int32) := ⟨_, rfl⟩
    have hB := hB v7 ev7
    refine lv_iinc (v := v7) (lv' := [(5, .int v7), (0, .ref (ad G 100)), (1, .int x1), (2, .ref (ad G 108)), (3, .int x3), (4, .ref (tx G x4))]) hx hb dX12_readItems_25 hl (k := 5) rfl (by rw [ev7]; rfl) (by decide) rfl (fun ls hl => ?_)
    refine lv_goto (tgt := 3) hx hb dX12_readItems_28 (by decide) ?_
    exact h3 x1 x3 x4 v7 z5 hB _ _ _ hP hD hS (lv_sub hl [1, 2, 3, 4, 5, 0] rfl)
def L_M_readItems_r108_3 (post : St → Prop) : Nat → Int32 → Int32 → Nat → Int32 → St → Prop
  | 0 => fun _ _ _ _ _ => False
  | n + 1 => B_M_readItems_r108_3 post (L_M_readItems_r108_3 post n)
theorem wl_M_readItems_r108_3 {p : Program} {l : Launch} {e : Env} {R : Room} {s : State} {m : MethodId} {args : Array Value} {below : List Frame} {meth : Method} {c : Code} {Q : State → Prop} {G : GX} {A : Nat → Prop} (S : CallFix p m c cX12_readItems 7 s args GW RX12) (hE : env G A s s.heap) (hA : ∀ q, s.heap.size ≤ q → A q) (hRf : 5 ≤ R.frames) (hRl : 107 ≤ R.locals) {post : St → Prop} (hret : RetV p l e R s m args below meth c Q 0 0 wM G A cX12_readItems post) : ∀ (n : Nat) (x1 : Int32) (x3 : Int32) (x4 : Nat) (x5 : Int32) (z0 : St), L_M_readItems_r108_3 post n x1 x3 x4 x5 z0 → Xw p l e R s m args below meth c Q 0 0 wM G A z0 7 [(0, .ref (ad G 100)), (1, .int x1), (2, .ref (ad G 108)), (3, .int x3), (4, .ref (tx G x4)), (5, .int x5)] 3 [] := by
  intro n
  induction n with
  | zero => intro x1 x3 x4 x5 z0 hB; exact absurd hB id
  | succ n ih => exact fun x1 x3 x4 x5 z0 hB => w_M_readItems_r108_3 S hE hA hRf hRl hret ih x1 x3 x4 x5 z0 hB
def S_M_readItems_r108 (post : St → Prop) (x1 : Int32) (x3 : Int32) (x4 : Nat) (z0 : St) : Prop :=
  (∃ n1, L_M_readItems_r108_3 post n1 x1 x3 x4 (0 : Int32) z0)
set_option maxHeartbeats 4000000 in
set_option maxRecDepth 100000 in
theorem w_M_readItems_r108_0 {p : Program} {l : Launch} {e : Env} {R : Room} {s : State} {m : MethodId} {args : Array Value} {below : List Frame} {meth : Method} {c : Code} {Q : State → Prop} {G : GX} {A : Nat → Prop} (S : CallFix p m c cX12_readItems 7 s args GW RX12) (hE : env G A s s.heap) (hA : ∀ q, s.heap.size ≤ q → A q) (hRf : 5 ≤ R.frames) (hRl : 107 ≤ R.locals) {post : St → Prop} (hret : RetV p l e R s m args below meth c Q 0 0 wM G A cX12_readItems post) (x1 : Int32) (x3 : Int32) (x4 : Nat) (z0 : St) (hB : S_M_readItems_r108 post x1 x3 x4 z0) : Xw p l e R s m args below meth c Q 0 0 wM G A z0 7 [(0, .ref (ad G 100)), (1, .int x1), (2, .ref (ad G 108)), (3, .int x3), (4, .ref (tx G x4))] 0 [] := by
  intro H locs ls hP hD hS hl
  have hx := S.1
  have hb := S.2.1
  refine lv_iconst (v := 0) hx hb dX12_readItems_0 (by decide) ?_
  refine lv_istore (lv' := [(5, .int (0 : Int32)), (0, .ref (ad G 100)), (1, .int x1), (2, .ref (ad G 108)), (3, .int x3), (4, .ref (tx G x4))]) hx hb dX12_readItems_1 hl (by decide) rfl (fun ls hl => ?_)
  obtain ⟨n1, hB⟩ := hB
  exact wl_M_readItems_r108_3 S hE hA hRf hRl hret n1 x1 x3 x4 (0 : Int32) z0 hB _ _ _ hP hD hS (lv_sub hl [1, 2, 3, 4, 5, 0] rfl)
set_option maxHeartbeats 4000000 in
set_option maxRecDepth 100000 in
theorem c_M_readItems_r108 (l : Launch) (G : GX) (z0 : St) (sz : Nat) (x1 : Int32) (x3 : Int32) (x4 : Nat) (post : St → Prop) : MetV l wM yX12_readItems cX12_readItems 7 none ({ frames := 5, cells := 0, slots := 0, locals := 107 }) [.ref (ad G 100), .int x1, .ref (ad G 108), .int x3, .ref (tx G x4)] G z0 sz (S_M_readItems_r108 post x1 x3 x4 z0) post := by
  refine Met.ofW (cc := cX12_readItems) (maxL := 7) (ret := none) (by decide) rfl ?_
  intro p e s m args below meth c s₁ B hml hv
  obtain ⟨rfl, hsz, hP, hD0, hE, hB⟩ := hv
  have S : CallFix p m c cX12_readItems 7 s _ GW RX12 := ⟨B.exec, B.bytes, hml, findClass_of_methodNamed B.named, fun w h => atoms_spec (ws := Cond.code yX12_readItems cX12_readItems 7 none :: GW) B.pre w (List.mem_cons_of_mem _ h)⟩
  have hlocks := B.notSynchronized
  subst hsz
  have hD := hD0.self (sz := s.heap.size)
  generalize hAe : va_A (wM G z0) s.heap.size = A at hD hE ⊢
  have hA : ∀ q : Nat, s.heap.size ≤ q → A q := fun q h => by rw [← hAe]; exact Or.inr h
  have hS : va_S A s.heap s.heap [] := va_S.rf
  have hl := lv_entry ([.ref (ad G 100), .int x1, .ref (ad G 108), .int x3, .ref (tx G x4)]) (n := 7) (Nat.le_of_ble_eq_true rfl)
  rw [lg_entry_eq]
  generalize (lg_sl ([.ref (ad G 100), .int x1, .ref (ad G 108), .int x3, .ref (tx G x4)]) ++ List.replicate (7 - (lg_sl ([.ref (ad G 100), .int x1, .ref (ad G 108), .int x3, .ref (tx G x4)])).length) Slot.unset).toArray = ls at hl ⊢
  have hl : lv_has ls 7 [(0, .ref (ad G 100)), (1, .int x1), (2, .ref (ad G 108)), (3, .int x3), (4, .ref (tx G x4))] := hl
  refine w_M_readItems_r108_0 S hE hA (Nat.le_refl _) (Nat.le_refl _) ?_ x1 x3 x4 z0 hB _ _ _ hP hD hS hl
  intro pc ls σ H locs hd hp hP hD hS
  exact W.vret B.exec B.bytes B.returns (fun t ht hW => ⟨⟨σ, rfl, hp, by rw [ht]; exact hP, hD⟩, hS.F ht⟩) hS.2.2 hd
def B_M_readItems_r106_45 (post : St → Prop) (ih45 : Int32 → Int32 → Nat → Int32 → Int32 → St → Prop) (x1 : Int32) (x3 : Int32) (x4 : Nat) (x5 : Int32) (x6 : Int32) (z0 : St) : Prop :=
  ((x6 = (-1 : Int32) → (post z0)) ∧ (¬ x6 = (-1 : Int32) → (((gI z0 106) = (-1 : Int32) → (S_M_has (fun (r3 : Int32) (z1 : St) => ((r3 = 0 → (∀ v5 : Int32, v5 = (x5 ||| ((1 : Int32) <<< (x6 &&& 31))) → (∀ z2 : St, z2 = sI z1 105 ((gI z1 105) + (1 : Int32)) → (S_M_mostOf (fun (r6 : Int32) (z3 : St) => (S_M_number (fun (r7 : Int32) (z4 : St) => (vp_in (x3 + x6) 3 ∧ (∀ z5 : St, z5 = sA z4 106 (x3 + x6).toNatClampNeg r7 → (((gI z5 106) = (-1 : Int32) → (S_M_look (fun (r9 : Int32) (z6 : St) => (S_M_spotOf (fun (r10 : Int32) (z7 : St) => (ih45 x1 x3 x4 v5 r10 z7)) x4 r9 z6)) z5)) ∧ (¬ (gI z5 106) = (-1 : Int32) → (ih45 x1 x3 x4 v5 x6 z5)))))) r6 z3)) x1 x6 z2)))) ∧ (¬ r3 = 0 → (S_M_fails (fun (r11 : Int32) (z8 : St) => (post z8)) z1)))) x5 x6 z0)) ∧ (¬ (gI z0 106) = (-1 : Int32) → (post z0)))))
set_option maxHeartbeats 4000000 in
set_option maxRecDepth 100000 in
theorem w_M_readItems_r106_45 {p : Program} {l : Launch} {e : Env} {R : Room} {s : State} {m : MethodId} {args : Array Value} {below : List Frame} {meth : Method} {c : Code} {Q : State → Prop} {G : GX} {A : Nat → Prop} (S : CallFix p m c cX12_readItems 7 s args GW RX12) (hE : env G A s s.heap) (hA : ∀ q, s.heap.size ≤ q → A q) (hRf : 5 ≤ R.frames) (hRl : 107 ≤ R.locals) {post : St → Prop} (hret : RetV p l e R s m args below meth c Q 0 0 wM G A cX12_readItems post) {ih45 : Int32 → Int32 → Nat → Int32 → Int32 → St → Prop} (h45 : ∀ (x1 : Int32) (x3 : Int32) (x4 : Nat) (x5 : Int32) (x6 : Int32) (z0 : St), ih45 x1 x3 x4 x5 x6 z0 → Xw p l e R s m args below meth c Q 0 0 wM G A z0 7 [(0, .ref (ad G 100)), (1, .int x1), (2, .ref (ad G 106)), (3, .int x3), (4, .ref (tx G x4)), (5, .int x5), (6, .int x6)] 45 []) (x1 : Int32) (x3 : Int32) (x4 : Nat) (x5 : Int32) (x6 : Int32) (z0 : St) (hB : B_M_readItems_r106_45 post ih45 x1 x3 x4 x5 x6 z0) : Xw p l e R s m args below meth c Q 0 0 wM G A z0 7 [(0, .ref (ad G 100)), (1, .int x1), (2, .ref (ad G 106)), (3, .int x3), (4, .ref (tx G x4)), (5, .int x5), (6, .int x6)] 45 [] := by
  intro H locs ls hP hD hS hl
  have hx := S.1
  have hb := S.2.1
  refine lv_iload hx hb dX12_readItems_45 (lv_at hl 6 rfl) ?_
  refine lv_iconst (v := -1) hx hb dX12_readItems_47 (by decide) ?_
  refine lv_icmp_eq (tgt := 132) hx hb dX12_readItems_48 (by decide) (fun c1 => ?_) (fun c1 => ?_)
  · have hB := hB.1 c1
    exact hret _ _ _ _ _ dX12_readItems_132 hB hP hD hS
  · have hB := hB.2 c1
    refine lv_aload_n hx hb dX12_readItems_51 rfl (lv_at hl 0 rfl) ?_
    refine xMg_100_fault S hE hP lk_X12_121 dX12_readItems_52 ?_
    refine lv_iconst (v := -1) hx hb dX12_readItems_55 (by decide) ?_
    refine lv_icmp_ne (tgt := 132) hx hb dX12_readItems_56 (by decide) (fun c2 => ?_) (fun c2 => ?_)
    · have hB := hB.2 c2
      exact hret _ _ _ _ _ dX12_readItems_132 hB hP hD hS
    · have hB := hB.1 c2
      refine lv_iload hx hb dX12_readItems_59 (lv_at hl 5 rfl) ?_
      refine lv_iload hx hb dX12_readItems_61 (lv_at hl 6 rfl) ?_
      refine xcSi [.int x5, .int x6] S hE hA hP hD hS (c_M_has l G z0 H.size x5 x6 _) hB (gw_c lk_X12_218 (gw_c wt_X12_has (gw_c wn_X12 (gw_c wc_X12_has (fun _ h9 => h9))))) hs_X12_has rfl rfl (Nat.le_trans (Nat.le_of_ble_eq_true rfl) hRf) (Nat.le_trans (Nat.le_of_ble_eq_true rfl) hRl) ⟨Nat.zero_le _, Nat.zero_le _⟩ rfl hl.1 rfl (Nat.le_of_ble_eq_true rfl) dX12_readItems_63 (fun r3 z1 H locs hB hP hD hS => ?_)
      refine lv_if_eq (tgt := 75) hx hb dX12_readItems_66 (by decide) (fun c4 => ?_) (fun c4 => ?_)
      · have hB := hB.1 c4
        refine lv_iload hx hb dX12_readItems_75 (lv_at hl 5 rfl) ?_
        refine lv_iconst (v := 1) hx hb dX12_readItems_77 (by decide) ?_
        refine lv_iload hx hb dX12_readItems_78 (lv_at hl 6 rfl) ?_
        refine lv_ishl hx hb dX12_readItems_80 ?_
        refine lv_ior hx hb dX12_readItems_81 ?_
        refine lv_topi (fun v5 ev5 => ?_)
        have hB := hB v5 ev5
        refine lv_istore (lv' := [(5, .int v5), (0, .ref (ad G 100)), (1, .int x1), (2, .ref (ad G 106)), (3, .int x3), (4, .ref (tx G x4)), (6, .int x6)]) hx hb dX12_readItems_82 hl (by decide) rfl (fun ls hl => ?_)
        refine lv_aload_n hx hb dX12_readItems_84 rfl (lv_at hl 1 rfl) ?_
        refine lv_dup hx hb dX12_readItems_85 rfl ?_
        refine xMg_100_at S hE hP lk_X12_112 dX12_readItems_86 ?_
        refine lv_iconst (v := 1) hx hb dX12_readItems_89 (by decide) ?_
        refine lv_iadd hx hb dX12_readItems_90 ?_
        obtain ⟨z2, ez2⟩ : ∃ z9, z9 = sI z1 105 ((gI z1 105) + (1 : Int32)) := ⟨_, rfl⟩
        have hB := hB z2 ez2
        refine xMp_100_at S hE hP hD hS lk_X12_112 dX12_readItems_91 (fun H locs hP hD hS => ?_)
        rw [← ez2] at hP hD
        refine lv_aload_n hx hb dX12_readItems_94 rfl (lv_at hl 3 rfl) ?_
        refine lv_iload_n hx hb dX12_readItems_95 rfl (lv_at hl 4 rfl) ?_
        refine lv_iload hx hb dX12_readItems_96 (lv_at hl 6 rfl) ?_
        refine lv_iadd hx hb dX12_readItems_98 ?_
        refine lv_aload_n hx hb dX12_readItems_99 rfl (lv_at hl 1 rfl) ?_
        refine lv_iload_n hx hb dX12_readItems_100 rfl (lv_at hl 2 rfl) ?_
        refine lv_iload hx hb dX12_readItems_101 (lv_at hl 6 rfl) ?_
        refine xcSi [.int x1, .int x6] S hE hA hP hD hS (c_M_mostOf l G z2 H.size x1 x6 _) hB (gw_c lk_X12_222 (gw_c wt_X12_mostOf (gw_c wn_X12 (gw_c wc_X12_mostOf (fun _ h9 => h9))))) hs_X12_mostOf rfl rfl (Nat.le_trans (Nat.le_of_ble_eq_true rfl) hRf) (Nat.le_trans (Nat.le_of_ble_eq_true rfl) hRl) ⟨Nat.zero_le _, Nat.zero_le _⟩ rfl hl.1 rfl (Nat.le_of_ble_eq_true rfl) dX12_readItems_103 (fun r6 z3 H locs hB hP hD hS => ?_)
        refine xcVi [.int r6] S hE hA hP hD hS (c_M_number l G z3 H.size r6 _) hB (gw_c lk_X12_225 (gw_c wi_X12_number (gw_c we_X12_X12_number_X12_number (gw_c wn_X12 (gw_c wc_X12_number (fun _ h9 => h9)))))) hd_X12_number rfl rfl (Nat.le_trans (Nat.le_of_ble_eq_true rfl) hRf) (Nat.le_trans (Nat.le_of_ble_eq_true rfl) hRl) ⟨Nat.zero_le _, Nat.zero_le _⟩ (va_recv hE.1 hP (ci := 11) (q0 := 0) rfl rfl) rfl hl.1 rfl (Nat.le_of_ble_eq_true rfl) dX12_readItems_106 (fun r7 z4 H locs hB hP hD hS => ?_)
        obtain ⟨hi, hB⟩ := hB
        obtain ⟨z5, ez5⟩ : ∃ z9, z9 = sA z4 106 (x3 + x6).toNatClampNeg r7 := ⟨_, rfl⟩
        have hB := hB z5 ez5
        refine xMs_106 S hE hP hD hS _ rfl hi dX12_readItems_109 (fun H locs hP hD hS => ?_)
        rw [← ez5] at hP hD
        refine lv_aload_n hx hb dX12_readItems_110 rfl (lv_at hl 1 rfl) ?_
        refine xMg_100_fault S hE hP lk_X12_121 dX12_readItems_111 ?_
        refine lv_iconst (v := -1) hx hb dX12_readItems_114 (by decide) ?_
        refine lv_icmp_ne (tgt := 45) hx hb dX12_readItems_115 (by decide) (fun c8 => ?_) (fun c8 => ?_)
        · have hB := hB.2 c8
          exact h45 x1 x3 x4 v5 x6 z5 hB _ _ _ hP hD hS (lv_sub hl [1, 2, 3, 4, 5, 0, 6] rfl)
        · have hB := hB.1 c8
          refine lv_aload hx hb dX12_readItems_118 (lv_at hl 5 rfl) ?_
          refine lv_aload_n hx hb dX12_readItems_120 rfl (lv_at hl 1 rfl) ?_
          refine xcVi [] S hE hA hP hD hS (c_M_look l G z5 H.size _) hB (gw_c lk_X12_131 (gw_c wi_X12_look (gw_c we_X12_X12_look_X12_look (gw_c wn_X12 (gw_c wc_X12_look (fun _ h9 => h9)))))) hd_X12_look rfl rfl (Nat.le_trans (Nat.le_of_ble_eq_true rfl) hRf) (Nat.le_trans (Nat.le_of_ble_eq_true rfl) hRl) ⟨Nat.zero_le _, Nat.zero_le _⟩ (va_recv hE.1 hP (ci := 11) (q0 := 0) rfl rfl) rfl hl.1 rfl (Nat.le_of_ble_eq_true rfl) dX12_readItems_121 (fun r9 z6 H locs hB hP hD hS => ?_)
          refine xcSi [.ref (tx G x4), .int r9] S hE hA hP hD hS (c_M_spotOf l G z6 H.size x4 r9 _) hB (gw_c lk_X12_214 (gw_c wt_X12_spotOf (gw_c wn_X12 (gw_c wc_X12_spotOf (fun _ h9 => h9))))) hs_X12_spotOf rfl rfl (Nat.le_trans (Nat.le_of_ble_eq_true rfl) hRf) (Nat.le_trans (Nat.le_of_ble_eq_true rfl) hRl) ⟨Nat.zero_le _, Nat.zero_le _⟩ rfl hl.1 rfl (Nat.le_of_ble_eq_true rfl) dX12_readItems_124 (fun r10 z7 H locs hB hP hD hS => ?_)
          refine lv_istore (lv' := [(6, .int r10), (5, .int v5), (0, .ref (ad G 100)), (1, .int x1), (2, .ref (ad G 106)), (3, .int x3), (4, .ref (tx G x4))]) hx hb dX12_readItems_127 hl (by decide) rfl (fun ls hl => ?_)
          refine lv_goto (tgt := 45) hx hb dX12_readItems_129 (by decide) ?_
          exact h45 x1 x3 x4 v5 r10 z7 hB _ _ _ hP hD hS (lv_sub hl [2, 3, 4, 5, 6, 1, 0] rfl)
      · have hB := hB.2 c4
        refine lv_aload_n hx hb dX12_readItems_69 rfl (lv_at hl 0 rfl) ?_
        refine xcVi [] S hE hA hP hD hS (c_M_fails l G z1 H.size _) hB (gw_c lk_X12_127 (gw_c wi_X12_fails (gw_c we_X12_X12_fails_X12_fails (gw_c wn_X12 (gw_c wc_X12_fails (fun _ h9 => h9)))))) hd_X12_fails rfl rfl (Nat.le_trans (Nat.le_of_ble_eq_true rfl) hRf) (Nat.le_trans (Nat.le_of_ble_eq_true rfl) hRl) ⟨Nat.zero_le _, Nat.zero_le _⟩ (va_recv hE.1 hP (ci := 11) (q0 := 0) rfl rfl) rfl hl.1 rfl (Nat.le_of_ble_eq_true rfl) dX12_readItems_70 (fun r11 z8 H locs hB hP hD hS => ?_)
        refine lv_pop hx hb dX12_readItems_73 rfl ?_
        exact hret _ _ _ _ _ dX12_readItems_74 hB hP hD hS
def L_M_readItems_r106_45 (post : St → Prop) : Nat → Int32 → Int32 → Nat → Int32 → Int32 → St → Prop
  | 0 => fun _ _ _ _ _ _ => False
  | n + 1 => B_M_readItems_r106_45 post (L_M_readItems_r106_45 post n)
theorem wl_M_readItems_r106_45 {p : Program} {l : Launch} {e : Env} {R : Room} {s : State} {m : MethodId} {args : Array Value} {below : List Frame} {meth : Method} {c : Code} {Q : State → Prop} {G : GX} {A : Nat → Prop} (S : CallFix p m c cX12_readItems 7 s args GW RX12) (hE : env G A s s.heap) (hA : ∀ q, s.heap.size ≤ q → A q) (hRf : 5 ≤ R.frames) (hRl : 107 ≤ R.locals) {post : St → Prop} (hret : RetV p l e R s m args below meth c Q 0 0 wM G A cX12_readItems post) : ∀ (n : Nat) (x1 : Int32) (x3 : Int32) (x4 : Nat) (x5 : Int32) (x6 : Int32) (z0 : St), L_M_readItems_r106_45 post n x1 x3 x4 x5 x6 z0 → Xw p l e R s m args below meth c Q 0 0 wM G A z0 7 [(0, .ref (ad G 100)), (1, .int x1), (2, .ref (ad G 106)), (3, .int x3), (4, .ref (tx G x4)), (5, .int x5), (6, .int x6)] 45 [] := by
  intro n
  induction n with
  | zero => intro x1 x3 x4 x5 x6 z0 hB; exact absurd hB id
  | succ n ih => exact fun x1 x3 x4 x5 x6 z0 hB => w_M_readItems_r106_45 S hE hA hRf hRl hret ih x1 x3 x4 x5 x6 z0 hB
def B_M_readItems_r106_3 (post : St → Prop) (ih3 : Int32 → Int32 → Nat → Int32 → St → Prop) (x1 : Int32) (x3 : Int32) (x4 : Nat) (x5 : Int32) (z0 : St) : Prop :=
  (x4 < 8 ∧ (S_String_length_8abf5_M (fun (r1 : Int32) (z1 : St) => ((r1 ≤ x5 → (S_M_look (fun (r3 : Int32) (z2 : St) => (S_M_spotOf (fun (r4 : Int32) (z3 : St) => (∃ n5, L_M_readItems_r106_45 post n5 x1 x3 x4 (0 : Int32) r4 z3)) x4 r3 z2)) z1)) ∧ (¬ r1 ≤ x5 → (S_M_usual (fun (r6 : Int32) (z4 : St) => (vp_in (x3 + x5) 3 ∧ (∀ z5 : St, z5 = sA z4 106 (x3 + x5).toNatClampNeg r6 → (∀ v7 : Int32, v7 = x5 + (1 : Int32) → (ih3 x1 x3 x4 v7 z5))))) x1 x5 z1)))) x4 z0))
set_option maxHeartbeats 4000000 in
set_option maxRecDepth 100000 in
theorem w_M_readItems_r106_3 {p : Program} {l : Launch} {e : Env} {R : Room} {s : State} {m : MethodId} {args : Array Value} {below : List Frame} {meth : Method} {c : Code} {Q : State → Prop} {G : GX} {A : Nat → Prop} (S : CallFix p m c cX12_readItems 7 s args GW RX12) (hE : env G A s s.heap) (hA : ∀ q, s.heap.size ≤ q → A q) (hRf : 5 ≤ R.frames) (hRl : 107 ≤ R.locals) {post : St → Prop} (hret : RetV p l e R s m args below meth c Q 0 0 wM G A cX12_readItems post) {ih3 : Int32 → Int32 → Nat → Int32 → St → Prop} (h3 : ∀ (x1 : Int32) (x3 : Int32) (x4 : Nat) (x5 : Int32) (z0 : St), ih3 x1 x3 x4 x5 z0 → Xw p l e R s m args below meth c Q 0 0 wM G A z0 7 [(0, .ref (ad G 100)), (1, .int x1), (2, .ref (ad G 106)), (3, .int x3), (4, .ref (tx G x4)), (5, .int x5)] 3 []) (x1 : Int32) (x3 : Int32) (x4 : Nat) (x5 : Int32) (z0 : St) (hB : B_M_readItems_r106_3 post ih3 x1 x3 x4 x5 z0) : Xw p l e R s m args below meth c Q 0 0 wM G A z0 7 [(0, .ref (ad G 100)), (1, .int x1), (2, .ref (ad G 106)), (3, .int x3), (4, .ref (tx G x4)), (5, .int x5)] 3 [] := by
  intro H locs ls hP hD hS hl
  have hx := S.1
  have hb := S.2.1
  refine lv_iload hx hb dX12_readItems_3 (lv_at hl 5 rfl) ?_
  refine lv_aload hx hb dX12_readItems_5 (lv_at hl 4 rfl) ?_
  obtain ⟨hk9, hB⟩ := hB
  have hrv9 := vk_recv (eS hE.2) hk9 hS
  refine xcVi [] S hE hA hP hD hS (c_String_length_8abf5_M l G z0 H.size x4 _) hB (gw_c lk_X12_92 (gw_c wi_J0_length_8abf5 (gw_c we_J0_J0_length_8abf5_J0_length_8abf5 (gw_c wn_J0 (gw_c wc_J0_length_8abf5 (fun _ h9 => h9)))))) hd_J0_length_8abf5 rfl rfl (Nat.le_trans (Nat.le_of_ble_eq_true rfl) hRf) (Nat.le_trans (Nat.le_of_ble_eq_true rfl) hRl) ⟨Nat.zero_le _, Nat.zero_le _⟩ hrv9 rfl hl.1 rfl (Nat.le_of_ble_eq_true rfl) dX12_readItems_7 (fun r1 z1 H locs hB hP hD hS => ?_)
  refine lv_icmp_ge (tgt := 31) hx hb dX12_readItems_10 (by decide) (fun c2 => ?_) (fun c2 => ?_)
  · have hB := hB.1 c2
    refine lv_iconst (v := 0) hx hb dX12_readItems_31 (by decide) ?_
    refine lv_istore (lv' := [(5, .int (0 : Int32)), (0, .ref (ad G 100)), (1, .int x1), (2, .ref (ad G 106)), (3, .int x3), (4, .ref (tx G x4))]) hx hb dX12_readItems_32 hl (by decide) rfl (fun ls hl => ?_)
    refine lv_aload hx hb dX12_readItems_34 (lv_at hl 5 rfl) ?_
    refine lv_aload_n hx hb dX12_readItems_36 rfl (lv_at hl 1 rfl) ?_
    refine xcVi [] S hE hA hP hD hS (c_M_look l G z1 H.size _) hB (gw_c lk_X12_131 (gw_c wi_X12_look (gw_c we_X12_X12_look_X12_look (gw_c wn_X12 (gw_c wc_X12_look (fun _ h9 => h9)))))) hd_X12_look rfl rfl (Nat.le_trans (Nat.le_of_ble_eq_true rfl) hRf) (Nat.le_trans (Nat.le_of_ble_eq_true rfl) hRl) ⟨Nat.zero_le _, Nat.zero_le _⟩ (va_recv hE.1 hP (ci := 11) (q0 := 0) rfl rfl) rfl hl.1 rfl (Nat.le_of_ble_eq_true rfl) dX12_readItems_37 (fun r3 z2 H locs hB hP hD hS => ?_)
    refine xcSi [.ref (tx G x4), .int r3] S hE hA hP hD hS (c_M_spotOf l G z2 H.size x4 r3 _) hB (gw_c lk_X12_214 (gw_c wt_X12_spotOf (gw_c wn_X12 (gw_c wc_X12_spotOf (fun _ h9 => h9))))) hs_X12_spotOf rfl rfl (Nat.le_trans (Nat.le_of_ble_eq_true rfl) hRf) (Nat.le_trans (Nat.le_of_ble_eq_true rfl) hRl) ⟨Nat.zero_le _, Nat.zero_le _⟩ rfl hl.1 rfl (Nat.le_of_ble_eq_true rfl) dX12_readItems_40 (fun r4 z3 H locs hB hP hD hS => ?_)
    refine lv_istore (lv' := [(6, .int r4), (5, .int (0 : Int32)), (0, .ref (ad G 100)), (1, .int x1), (2, .ref (ad G 106)), (3, .int x3), (4, .ref (tx G x4))]) hx hb dX12_readItems_43 hl (by decide) rfl (fun ls hl => ?_)
    obtain ⟨n5, hB⟩ := hB
    exact wl_M_readItems_r106_45 S hE hA hRf hRl hret n5 x1 x3 x4 (0 : Int32) r4 z3 hB _ _ _ hP hD hS (lv_sub hl [2, 3, 4, 5, 6, 1, 0] rfl)
  · have hB := hB.2 c2
    refine lv_aload_n hx hb dX12_readItems_13 rfl (lv_at hl 2 rfl) ?_
    refine lv_iload_n hx hb dX12_readItems_14 rfl (lv_at hl 3 rfl) ?_
    refine lv_iload hx hb dX12_readItems_15 (lv_at hl 5 rfl) ?_
    refine lv_iadd hx hb dX12_readItems_17 ?_
    refine lv_iload_n hx hb dX12_readItems_18 rfl (lv_at hl 1 rfl) ?_
    refine lv_iload hx hb dX12_readItems_19 (lv_at hl 5 rfl) ?_
    refine xcSi [.int x1, .int x5] S hE hA hP hD hS (c_M_usual l G z1 H.size x1 x5 _) hB (gw_c lk_X12_210 (gw_c wt_X12_usual (gw_c wn_X12 (gw_c wc_X12_usual (fun _ h9 => h9))))) hs_X12_usual rfl rfl (Nat.le_trans (Nat.le_of_ble_eq_true rfl) hRf) (Nat.le_trans (Nat.le_of_ble_eq_true rfl) hRl) ⟨Nat.zero_le _, Nat.zero_le _⟩ rfl hl.1 rfl (Nat.le_of_ble_eq_true rfl) dX12_readItems_21 (fun r6 z4 H locs hB hP hD hS => ?_)
    obtain ⟨hi, hB⟩ := hB
    obtain ⟨z5, ez5⟩ : ∃ z9, z9 = sA z4 106 (x3 + x5).toNatClampNeg r6 := ⟨_, rfl⟩
    have hB := hB z5 ez5
    refine xMs_106 S hE hP hD hS _ rfl hi dX12_readItems_24 (fun H locs hP hD hS => ?_)
    rw [← ez5] at hP hD
    obtain ⟨v7, ev7⟩ : ∃ y9, y9 = x5 + (1 : Int32) := ⟨_, rfl⟩
    have hB := hB v7 ev7
    refine lv_iinc (v := v7) (lv' := [(5, .int v7), (0, .ref (ad G 100)), (1, .int x1), (2, .ref (ad G 106)), (3, .int x3), (4, .ref (tx G x4))]) hx hb dX12_readItems_25 hl (k := 5) rfl (by rw [ev7]; rfl) (by decide) rfl (fun ls hl => ?_)
    refine lv_goto (tgt := 3) hx hb dX12_readItems_28 (by decide) ?_
    exact h3 x1 x3 x4 v7 z5 hB _ _ _ hP hD hS (lv_sub hl [1, 2, 3, 4, 5, 0] rfl)
def L_M_readItems_r106_3 (post : St → Prop) : Nat → Int32 → Int32 → Nat → Int32 → St → Prop
  | 0 => fun _ _ _ _ _ => False
  | n + 1 => B_M_readItems_r106_3 post (L_M_readItems_r106_3 post n)
theorem wl_M_readItems_r106_3 {p : Program} {l : Launch} {e : Env} {R : Room} {s : State} {m : MethodId} {args : Array Value} {below : List Frame} {meth : Method} {c : Code} {Q : State → Prop} {G : GX} {A : Nat → Prop} (S : CallFix p m c cX12_readItems 7 s args GW RX12) (hE : env G A s s.heap) (hA : ∀ q, s.heap.size ≤ q → A q) (hRf : 5 ≤ R.frames) (hRl : 107 ≤ R.locals) {post : St → Prop} (hret : RetV p l e R s m args below meth c Q 0 0 wM G A cX12_readItems post) : ∀ (n : Nat) (x1 : Int32) (x3 : Int32) (x4 : Nat) (x5 : Int32) (z0 : St), L_M_readItems_r106_3 post n x1 x3 x4 x5 z0 → Xw p l e R s m args below meth c Q 0 0 wM G A z0 7 [(0, .ref (ad G 100)), (1, .int x1), (2, .ref (ad G 106)), (3, .int x3), (4, .ref (tx G x4)), (5, .int x5)] 3 [] := by
  intro n
  induction n with
  | zero => intro x1 x3 x4 x5 z0 hB; exact absurd hB id
  | succ n ih => exact fun x1 x3 x4 x5 z0 hB => w_M_readItems_r106_3 S hE hA hRf hRl hret ih x1 x3 x4 x5 z0 hB
def S_M_readItems_r106 (post : St → Prop) (x1 : Int32) (x3 : Int32) (x4 : Nat) (z0 : St) : Prop :=
  (∃ n1, L_M_readItems_r106_3 post n1 x1 x3 x4 (0 : Int32) z0)
set_option maxHeartbeats 4000000 in
set_option maxRecDepth 100000 in
theorem w_M_readItems_r106_0 {p : Program} {l : Launch} {e : Env} {R : Room} {s : State} {m : MethodId} {args : Array Value} {below : List Frame} {meth : Method} {c : Code} {Q : State → Prop} {G : GX} {A : Nat → Prop} (S : CallFix p m c cX12_readItems 7 s args GW RX12) (hE : env G A s s.heap) (hA : ∀ q, s.heap.size ≤ q → A q) (hRf : 5 ≤ R.frames) (hRl : 107 ≤ R.locals) {post : St → Prop} (hret : RetV p l e R s m args below meth c Q 0 0 wM G A cX12_readItems post) (x1 : Int32) (x3 : Int32) (x4 : Nat) (z0 : St) (hB : S_M_readItems_r106 post x1 x3 x4 z0) : Xw p l e R s m args below meth c Q 0 0 wM G A z0 7 [(0, .ref (ad G 100)), (1, .int x1), (2, .ref (ad G 106)), (3, .int x3), (4, .ref (tx G x4))] 0 [] := by
  intro H locs ls hP hD hS hl
  have hx := S.1
  have hb := S.2.1
  refine lv_iconst (v := 0) hx hb dX12_readItems_0 (by decide) ?_
  refine lv_istore (lv' := [(5, .int (0 : Int32)), (0, .ref (ad G 100)), (1, .int x1), (2, .ref (ad G 106)), (3, .int x3), (4, .ref (tx G x4))]) hx hb dX12_readItems_1 hl (by decide) rfl (fun ls hl => ?_)
  obtain ⟨n1, hB⟩ := hB
  exact wl_M_readItems_r106_3 S hE hA hRf hRl hret n1 x1 x3 x4 (0 : Int32) z0 hB _ _ _ hP hD hS (lv_sub hl [1, 2, 3, 4, 5, 0] rfl)
set_option maxHeartbeats 4000000 in
set_option maxRecDepth 100000 in
theorem c_M_readItems_r106 (l : Launch) (G : GX) (z0 : St) (sz : Nat) (x1 : Int32) (x3 : Int32) (x4 : Nat) (post : St → Prop) : MetV l wM yX12_readItems cX12_readItems 7 none ({ frames := 5, cells := 0, slots := 0, locals := 107 }) [.ref (ad G 100), .int x1, .ref (ad G 106), .int x3, .ref (tx G x4)] G z0 sz (S_M_readItems_r106 post x1 x3 x4 z0) post := by
  refine Met.ofW (cc := cX12_readItems) (maxL := 7) (ret := none) (by decide) rfl ?_
  intro p e s m args below meth c s₁ B hml hv
  obtain ⟨rfl, hsz, hP, hD0, hE, hB⟩ := hv
  have S : CallFix p m c cX12_readItems 7 s _ GW RX12 := ⟨B.exec, B.bytes, hml, findClass_of_methodNamed B.named, fun w h => atoms_spec (ws := Cond.code yX12_readItems cX12_readItems 7 none :: GW) B.pre w (List.mem_cons_of_mem _ h)⟩
  have hlocks := B.notSynchronized
  subst hsz
  have hD := hD0.self (sz := s.heap.size)
  generalize hAe : va_A (wM G z0) s.heap.size = A at hD hE ⊢
  have hA : ∀ q : Nat, s.heap.size ≤ q → A q := fun q h => by rw [← hAe]; exact Or.inr h
  have hS : va_S A s.heap s.heap [] := va_S.rf
  have hl := lv_entry ([.ref (ad G 100), .int x1, .ref (ad G 106), .int x3, .ref (tx G x4)]) (n := 7) (Nat.le_of_ble_eq_true rfl)
  rw [lg_entry_eq]
  generalize (lg_sl ([.ref (ad G 100), .int x1, .ref (ad G 106), .int x3, .ref (tx G x4)]) ++ List.replicate (7 - (lg_sl ([.ref (ad G 100), .int x1, .ref (ad G 106), .int x3, .ref (tx G x4)])).length) Slot.unset).toArray = ls at hl ⊢
  have hl : lv_has ls 7 [(0, .ref (ad G 100)), (1, .int x1), (2, .ref (ad G 106)), (3, .int x3), (4, .ref (tx G x4))] := hl
  refine w_M_readItems_r106_0 S hE hA (Nat.le_refl _) (Nat.le_refl _) ?_ x1 x3 x4 z0 hB _ _ _ hP hD hS hl
  intro pc ls σ H locs hd hp hP hD hS
  exact W.vret B.exec B.bytes B.returns (fun t ht hW => ⟨⟨σ, rfl, hp, by rw [ht]; exact hP, hD⟩, hS.F ht⟩) hS.2.2 hd
def B_M_readClause_53 (post : St → Prop) (x1 : Int32) (s0 : Int32) (z0 : St) : Prop :=
  ((s0 = 0 → (S_M_fails (fun (r4 : Int32) (z8 : St) => (post z8)) z0)) ∧ (¬ s0 = 0 → (∀ z1 : St, z1 = sI z0 105 ((gI z0 105) + (1 : Int32)) → ((x1 = (115 : Int32) → (∀ z6 : St, z6 = sI z1 116 (1 : Int32) → (S_M_readItems_r106 (fun (z7 : St) => (post z7)) x1 (0 : Int32) 2 z6))) ∧ (¬ x1 = (115 : Int32) → ((x1 = (100 : Int32) → (∀ z4 : St, z4 = sI z1 113 ((gI z1 113) + (1 : Int32)) → (S_M_readItems_r108 (fun (z5 : St) => (post z5)) x1 ((2 : Int32) * ((gI z4 113) - (1 : Int32))) 3 z4))) ∧ (¬ x1 = (100 : Int32) → (∀ z2 : St, z2 = sI z1 114 ((gI z1 114) + (1 : Int32)) → (S_M_readItems_r110 (fun (z3 : St) => (post z3)) x1 ((3 : Int32) * ((gI z2 114) - (1 : Int32))) 4 z2)))))))))
set_option maxHeartbeats 4000000 in
set_option maxRecDepth 100000 in
theorem w_M_readClause_53 {p : Program} {l : Launch} {e : Env} {R : Room} {s : State} {m : MethodId} {args : Array Value} {below : List Frame} {meth : Method} {c : Code} {Q : State → Prop} {G : GX} {A : Nat → Prop} (S : CallFix p m c cX12_readClause 3 s args GW RX12) (hE : env G A s s.heap) (hA : ∀ q, s.heap.size ≤ q → A q) (hRf : 6 ≤ R.frames) (hRl : 133 ≤ R.locals) {post : St → Prop} (hret : RetV p l e R s m args below meth c Q 0 0 wM G A cX12_readClause post) (x1 : Int32) (s0 : Int32) (z0 : St) (hB : B_M_readClause_53 post x1 s0 z0) : Xw p l e R s m args below meth c Q 0 0 wM G A z0 3 [(0, .ref (ad G 100)), (1, .int x1)] 53 [.int s0] := by
  intro H locs ls hP hD hS hl
  have hx := S.1
  have hb := S.2.1
  refine lv_istore_n (lv' := [(2, .int s0), (0, .ref (ad G 100)), (1, .int x1)]) hx hb dX12_readClause_53 rfl hl (by decide) rfl (fun ls hl => ?_)
  refine lv_iload_n hx hb dX12_readClause_54 rfl (lv_at hl 0 rfl) ?_
  refine lv_if_ne (tgt := 64) hx hb dX12_readClause_55 (by decide) (fun c1 => ?_) (fun c1 => ?_)
  · have hB := hB.2 c1
    refine lv_aload_n hx hb dX12_readClause_64 rfl (lv_at hl 1 rfl) ?_
    refine lv_dup hx hb dX12_readClause_65 rfl ?_
    refine xMg_100_at S hE hP lk_X12_112 dX12_readClause_66 ?_
    refine lv_iconst (v := 1) hx hb dX12_readClause_69 (by decide) ?_
    refine lv_iadd hx hb dX12_readClause_70 ?_
    obtain ⟨z1, ez1⟩ : ∃ z9, z9 = sI z0 105 ((gI z0 105) + (1 : Int32)) := ⟨_, rfl⟩
    have hB := hB z1 ez1
    refine xMp_100_at S hE hP hD hS lk_X12_112 dX12_readClause_71 (fun H locs hP hD hS => ?_)
    rw [← ez1] at hP hD
    refine lv_iload_n hx hb dX12_readClause_74 rfl (lv_at hl 2 rfl) ?_
    refine lv_bipush (v := 115) hx hb dX12_readClause_75 (by decide) ?_
    refine lv_icmp_ne (tgt := 100) hx hb dX12_readClause_77 (by decide) (fun c2 => ?_) (fun c2 => ?_)
    · have hB := hB.2 c2
      refine lv_iload_n hx hb dX12_readClause_100 rfl (lv_at hl 2 rfl) ?_
      refine lv_bipush (v := 100) hx hb dX12_readClause_101 (by decide) ?_
      refine lv_icmp_ne (tgt := 138) hx hb dX12_readClause_103 (by decide) (fun c3 => ?_) (fun c3 => ?_)
      · have hB := hB.2 c3
        refine lv_aload_n hx hb dX12_readClause_138 rfl (lv_at hl 1 rfl) ?_
        refine lv_dup hx hb dX12_readClause_139 rfl ?_
        refine xMg_100_guestsRead S hE hP lk_X12_234 dX12_readClause_140 ?_
        refine lv_iconst (v := 1) hx hb dX12_readClause_143 (by decide) ?_
        refine lv_iadd hx hb dX12_readClause_144 ?_
        obtain ⟨z2, ez2⟩ : ∃ z9, z9 = sI z1 114 ((gI z1 114) + (1 : Int32)) := ⟨_, rfl⟩
        have hB := hB z2 ez2
        refine xMp_100_guestsRead S hE hP hD hS lk_X12_234 dX12_readClause_145 (fun H locs hP hD hS => ?_)
        rw [← ez2] at hP hD
        refine lv_aload_n hx hb dX12_readClause_148 rfl (lv_at hl 1 rfl) ?_
        refine lv_iload_n hx hb dX12_readClause_149 rfl (lv_at hl 2 rfl) ?_
        refine lv_aload_n hx hb dX12_readClause_150 rfl (lv_at hl 1 rfl) ?_
        refine xMg_100_guestRead S hE hP lk_X12_52 dX12_readClause_151 ?_
        refine lv_iconst (v := 3) hx hb dX12_readClause_154 (by decide) ?_
        refine lv_aload_n hx hb dX12_readClause_155 rfl (lv_at hl 1 rfl) ?_
        refine xMg_100_guestsRead S hE hP lk_X12_234 dX12_readClause_156 ?_
        refine lv_iconst (v := 1) hx hb dX12_readClause_159 (by decide) ?_
        refine lv_isub hx hb dX12_readClause_160 ?_
        refine lv_imul hx hb dX12_readClause_161 ?_
        refine va_ldcS hx hb S.2.2.2.1 (es_X12_245 hE.2) dX12_readClause_162 ?_
        refine xcVv [.int x1, .ref (ad G 110), .int ((3 : Int32) * ((gI z2 114) - (1 : Int32))), .ref (tx G 4)] S hE hA hP hD hS (c_M_readItems_r110 l G z2 H.size x1 ((3 : Int32) * ((gI z2 114) - (1 : Int32))) 4 _) hB (gw_c lk_X12_239 (gw_c wi_X12_readItems (gw_c we_X12_X12_readItems_X12_readItems (gw_c wn_X12 (gw_c wc_X12_readItems (fun _ h9 => h9)))))) hd_X12_readItems rfl rfl (Nat.le_trans (Nat.le_of_ble_eq_true rfl) hRf) (Nat.le_trans (Nat.le_of_ble_eq_true rfl) hRl) ⟨Nat.zero_le _, Nat.zero_le _⟩ (va_recv hE.1 hP (ci := 11) (q0 := 0) rfl rfl) rfl hl.1 rfl (Nat.le_of_ble_eq_true rfl) dX12_readClause_164 (fun z3 H locs hB hP hD hS => ?_)
        exact hret _ _ _ _ _ dX12_readClause_167 hB hP hD hS
      · have hB := hB.1 c3
        refine lv_aload_n hx hb dX12_readClause_106 rfl (lv_at hl 1 rfl) ?_
        refine lv_dup hx hb dX12_readClause_107 rfl ?_
        refine xMg_100_drinksRead S hE hP lk_X12_231 dX12_readClause_108 ?_
        refine lv_iconst (v := 1) hx hb dX12_readClause_111 (by decide) ?_
        refine lv_iadd hx hb dX12_readClause_112 ?_
        obtain ⟨z4, ez4⟩ : ∃ z9, z9 = sI z1 113 ((gI z1 113) + (1 : Int32)) := ⟨_, rfl⟩
        have hB := hB z4 ez4
        refine xMp_100_drinksRead S hE hP hD hS lk_X12_231 dX12_readClause_113 (fun H locs hP hD hS => ?_)
        rw [← ez4] at hP hD
        refine lv_aload_n hx hb dX12_readClause_116 rfl (lv_at hl 1 rfl) ?_
        refine lv_iload_n hx hb dX12_readClause_117 rfl (lv_at hl 2 rfl) ?_
        refine lv_aload_n hx hb dX12_readClause_118 rfl (lv_at hl 1 rfl) ?_
        refine xMg_100_drinkRead S hE hP lk_X12_46 dX12_readClause_119 ?_
        refine lv_iconst (v := 2) hx hb dX12_readClause_122 (by decide) ?_
        refine lv_aload_n hx hb dX12_readClause_123 rfl (lv_at hl 1 rfl) ?_
        refine xMg_100_drinksRead S hE hP lk_X12_231 dX12_readClause_124 ?_
        refine lv_iconst (v := 1) hx hb dX12_readClause_127 (by decide) ?_
        refine lv_isub hx hb dX12_readClause_128 ?_
        refine lv_imul hx hb dX12_readClause_129 ?_
        refine va_ldcS hx hb S.2.2.2.1 (es_X12_243 hE.2) dX12_readClause_130 ?_
        refine xcVv [.int x1, .ref (ad G 108), .int ((2 : Int32) * ((gI z4 113) - (1 : Int32))), .ref (tx G 3)] S hE hA hP hD hS (c_M_readItems_r108 l G z4 H.size x1 ((2 : Int32) * ((gI z4 113) - (1 : Int32))) 3 _) hB (gw_c lk_X12_239 (gw_c wi_X12_readItems (gw_c we_X12_X12_readItems_X12_readItems (gw_c wn_X12 (gw_c wc_X12_readItems (fun _ h9 => h9)))))) hd_X12_readItems rfl rfl (Nat.le_trans (Nat.le_of_ble_eq_true rfl) hRf) (Nat.le_trans (Nat.le_of_ble_eq_true rfl) hRl) ⟨Nat.zero_le _, Nat.zero_le _⟩ (va_recv hE.1 hP (ci := 11) (q0 := 0) rfl rfl) rfl hl.1 rfl (Nat.le_of_ble_eq_true rfl) dX12_readClause_132 (fun z5 H locs hB hP hD hS => ?_)
        refine lv_goto (tgt := 167) hx hb dX12_readClause_135 (by decide) ?_
        exact hret _ _ _ _ _ dX12_readClause_167 hB hP hD hS
    · have hB := hB.1 c2
      refine lv_aload_n hx hb dX12_readClause_80 rfl (lv_at hl 1 rfl) ?_
      refine lv_iconst (v := 1) hx hb dX12_readClause_81 (by decide) ?_
      obtain ⟨z6, ez6⟩ : ∃ z9, z9 = sI z1 116 (1 : Int32) := ⟨_, rfl⟩
      have hB := hB z6 ez6
      refine xMp_100_hasRules S hE hP hD hS lk_X12_228 (by decide) dX12_readClause_82 (fun H locs hP hD hS => ?_)
      rw [← ez6] at hP hD
      refine lv_aload_n hx hb dX12_readClause_85 rfl (lv_at hl 1 rfl) ?_
      refine lv_iload_n hx hb dX12_readClause_86 rfl (lv_at hl 2 rfl) ?_
      refine lv_aload_n hx hb dX12_readClause_87 rfl (lv_at hl 1 rfl) ?_
      refine xMg_100_ruleRead S hE hP lk_X12_40 dX12_readClause_88 ?_
      refine lv_iconst (v := 0) hx hb dX12_readClause_91 (by decide) ?_
      refine va_ldcS hx hb S.2.2.2.1 (es_X12_237 hE.2) dX12_readClause_92 ?_
      refine xcVv [.int x1, .ref (ad G 106), .int (0 : Int32), .ref (tx G 2)] S hE hA hP hD hS (c_M_readItems_r106 l G z6 H.size x1 (0 : Int32) 2 _) hB (gw_c lk_X12_239 (gw_c wi_X12_readItems (gw_c we_X12_X12_readItems_X12_readItems (gw_c wn_X12 (gw_c wc_X12_readItems (fun _ h9 => h9)))))) hd_X12_readItems rfl rfl (Nat.le_trans (Nat.le_of_ble_eq_true rfl) hRf) (Nat.le_trans (Nat.le_of_ble_eq_true rfl) hRl) ⟨Nat.zero_le _, Nat.zero_le _⟩ (va_recv hE.1 hP (ci := 11) (q0 := 0) rfl rfl) rfl hl.1 rfl (Nat.le_of_ble_eq_true rfl) dX12_readClause_94 (fun z7 H locs hB hP hD hS => ?_)
      refine lv_goto (tgt := 167) hx hb dX12_readClause_97 (by decide) ?_
      exact hret _ _ _ _ _ dX12_readClause_167 hB hP hD hS
  · have hB := hB.1 c1
    refine lv_aload_n hx hb dX12_readClause_58 rfl (lv_at hl 1 rfl) ?_
    refine xcVi [] S hE hA hP hD hS (c_M_fails l G z0 H.size _) hB (gw_c lk_X12_127 (gw_c wi_X12_fails (gw_c we_X12_X12_fails_X12_fails (gw_c wn_X12 (gw_c wc_X12_fails (fun _ h9 => h9)))))) hd_X12_fails rfl rfl (Nat.le_trans (Nat.le_of_ble_eq_true rfl) hRf) (Nat.le_trans (Nat.le_of_ble_eq_true rfl) hRl) ⟨Nat.zero_le _, Nat.zero_le _⟩ (va_recv hE.1 hP (ci := 11) (q0 := 0) rfl rfl) rfl hl.1 rfl (Nat.le_of_ble_eq_true rfl) dX12_readClause_59 (fun r4 z8 H locs hB hP hD hS => ?_)
    refine lv_pop hx hb dX12_readClause_62 rfl ?_
    exact hret _ _ _ _ _ dX12_readClause_63 hB hP hD hS
def B_M_readClause_52 (post : St → Prop) (x1 : Int32) (z0 : St) : Prop :=
  (B_M_readClause_53 post x1 (0 : Int32) z0)
set_option maxHeartbeats 4000000 in
set_option maxRecDepth 100000 in
theorem w_M_readClause_52 {p : Program} {l : Launch} {e : Env} {R : Room} {s : State} {m : MethodId} {args : Array Value} {below : List Frame} {meth : Method} {c : Code} {Q : State → Prop} {G : GX} {A : Nat → Prop} (S : CallFix p m c cX12_readClause 3 s args GW RX12) (hE : env G A s s.heap) (hA : ∀ q, s.heap.size ≤ q → A q) (hRf : 6 ≤ R.frames) (hRl : 133 ≤ R.locals) {post : St → Prop} (hret : RetV p l e R s m args below meth c Q 0 0 wM G A cX12_readClause post) (x1 : Int32) (z0 : St) (hB : B_M_readClause_52 post x1 z0) : Xw p l e R s m args below meth c Q 0 0 wM G A z0 3 [(0, .ref (ad G 100)), (1, .int x1)] 52 [] := by
  intro H locs ls hP hD hS hl
  have hx := S.1
  have hb := S.2.1
  refine lv_iconst (v := 0) hx hb dX12_readClause_52 (by decide) ?_
  exact w_M_readClause_53 S hE hA hRf hRl hret x1 (0 : Int32) z0 hB _ _ _ hP hD hS (lv_sub hl [0, 1] rfl)
def B_M_readClause_48 (post : St → Prop) (x1 : Int32) (z0 : St) : Prop :=
  (B_M_readClause_53 post x1 (1 : Int32) z0)
set_option maxHeartbeats 4000000 in
set_option maxRecDepth 100000 in
theorem w_M_readClause_48 {p : Program} {l : Launch} {e : Env} {R : Room} {s : State} {m : MethodId} {args : Array Value} {below : List Frame} {meth : Method} {c : Code} {Q : State → Prop} {G : GX} {A : Nat → Prop} (S : CallFix p m c cX12_readClause 3 s args GW RX12) (hE : env G A s s.heap) (hA : ∀ q, s.heap.size ≤ q → A q) (hRf : 6 ≤ R.frames) (hRl : 133 ≤ R.locals) {post : St → Prop} (hret : RetV p l e R s m args below meth c Q 0 0 wM G A cX12_readClause post) (x1 : Int32) (z0 : St) (hB : B_M_readClause_48 post x1 z0) : Xw p l e R s m args below meth c Q 0 0 wM G A z0 3 [(0, .ref (ad G 100)), (1, .int x1)] 48 [] := by
  intro H locs ls hP hD hS hl
  have hx := S.1
  have hb := S.2.1
  refine lv_iconst (v := 1) hx hb dX12_readClause_48 (by decide) ?_
  refine lv_goto (tgt := 53) hx hb dX12_readClause_49 (by decide) ?_
  exact w_M_readClause_53 S hE hA hRf hRl hret x1 (1 : Int32) z0 hB _ _ _ hP hD hS (lv_sub hl [0, 1] rfl)
def B_M_readClause_33 (post : St → Prop) (x1 : Int32) (z0 : St) : Prop :=
  ((x1 = (103 : Int32) → (((6 : Int32) ≤ (gI z0 114) → (B_M_readClause_52 post x1 z0)) ∧ (¬ (6 : Int32) ≤ (gI z0 114) → (B_M_readClause_48 post x1 z0)))) ∧ (¬ x1 = (103 : Int32) → (B_M_readClause_52 post x1 z0)))
set_option maxHeartbeats 4000000 in
set_option maxRecDepth 100000 in
theorem w_M_readClause_33 {p : Program} {l : Launch} {e : Env} {R : Room} {s : State} {m : MethodId} {args : Array Value} {below : List Frame} {meth : Method} {c : Code} {Q : State → Prop} {G : GX} {A : Nat → Prop} (S : CallFix p m c cX12_readClause 3 s args GW RX12) (hE : env G A s s.heap) (hA : ∀ q, s.heap.size ≤ q → A q) (hRf : 6 ≤ R.frames) (hRl : 133 ≤ R.locals) {post : St → Prop} (hret : RetV p l e R s m args below meth c Q 0 0 wM G A cX12_readClause post) (x1 : Int32) (z0 : St) (hB : B_M_readClause_33 post x1 z0) : Xw p l e R s m args below meth c Q 0 0 wM G A z0 3 [(0, .ref (ad G 100)), (1, .int x1)] 33 [] := by
  intro H locs ls hP hD hS hl
  have hx := S.1
  have hb := S.2.1
  refine lv_iload_n hx hb dX12_readClause_33 rfl (lv_at hl 1 rfl) ?_
  refine lv_bipush (v := 103) hx hb dX12_readClause_34 (by decide) ?_
  refine lv_icmp_ne (tgt := 52) hx hb dX12_readClause_36 (by decide) (fun c1 => ?_) (fun c1 => ?_)
  · have hB := hB.2 c1
    exact w_M_readClause_52 S hE hA hRf hRl hret x1 z0 hB _ _ _ hP hD hS (lv_sub hl [0, 1] rfl)
  · have hB := hB.1 c1
    refine lv_aload_n hx hb dX12_readClause_39 rfl (lv_at hl 0 rfl) ?_
    refine xMg_100_guestsRead S hE hP lk_X12_234 dX12_readClause_40 ?_
    refine lv_bipush (v := 6) hx hb dX12_readClause_43 (by decide) ?_
    refine lv_icmp_ge (tgt := 52) hx hb dX12_readClause_45 (by decide) (fun c2 => ?_) (fun c2 => ?_)
    · have hB := hB.1 c2
      exact w_M_readClause_52 S hE hA hRf hRl hret x1 z0 hB _ _ _ hP hD hS (lv_sub hl [0, 1] rfl)
    · have hB := hB.2 c2
      exact w_M_readClause_48 S hE hA hRf hRl hret x1 z0 hB _ _ _ hP hD hS (lv_sub hl [0, 1] rfl)
def B_M_readClause_18 (post : St → Prop) (x1 : Int32) (z0 : St) : Prop :=
  ((x1 = (100 : Int32) → (((gI z0 113) < (6 : Int32) → (B_M_readClause_48 post x1 z0)) ∧ (¬ (gI z0 113) < (6 : Int32) → (B_M_readClause_33 post x1 z0)))) ∧ (¬ x1 = (100 : Int32) → (B_M_readClause_33 post x1 z0)))
set_option maxHeartbeats 4000000 in
set_option maxRecDepth 100000 in
theorem w_M_readClause_18 {p : Program} {l : Launch} {e : Env} {R : Room} {s : State} {m : MethodId} {args : Array Value} {below : List Frame} {meth : Method} {c : Code} {Q : State → Prop} {G : GX} {A : Nat → Prop} (S : CallFix p m c cX12_readClause 3 s args GW RX12) (hE : env G A s s.heap) (hA : ∀ q, s.heap.size ≤ q → A q) (hRf : 6 ≤ R.frames) (hRl : 133 ≤ R.locals) {post : St → Prop} (hret : RetV p l e R s m args below meth c Q 0 0 wM G A cX12_readClause post) (x1 : Int32) (z0 : St) (hB : B_M_readClause_18 post x1 z0) : Xw p l e R s m args below meth c Q 0 0 wM G A z0 3 [(0, .ref (ad G 100)), (1, .int x1)] 18 [] := by
  intro H locs ls hP hD hS hl
  have hx := S.1
  have hb := S.2.1
  refine lv_iload_n hx hb dX12_readClause_18 rfl (lv_at hl 1 rfl) ?_
  refine lv_bipush (v := 100) hx hb dX12_readClause_19 (by decide) ?_
  refine lv_icmp_ne (tgt := 33) hx hb dX12_readClause_21 (by decide) (fun c1 => ?_) (fun c1 => ?_)
  · have hB := hB.2 c1
    exact w_M_readClause_33 S hE hA hRf hRl hret x1 z0 hB _ _ _ hP hD hS (lv_sub hl [0, 1] rfl)
  · have hB := hB.1 c1
    refine lv_aload_n hx hb dX12_readClause_24 rfl (lv_at hl 0 rfl) ?_
    refine xMg_100_drinksRead S hE hP lk_X12_231 dX12_readClause_25 ?_
    refine lv_bipush (v := 6) hx hb dX12_readClause_28 (by decide) ?_
    refine lv_icmp_lt (tgt := 48) hx hb dX12_readClause_30 (by decide) (fun c2 => ?_) (fun c2 => ?_)
    · have hB := hB.1 c2
      exact w_M_readClause_48 S hE hA hRf hRl hret x1 z0 hB _ _ _ hP hD hS (lv_sub hl [0, 1] rfl)
    · have hB := hB.2 c2
      exact w_M_readClause_33 S hE hA hRf hRl hret x1 z0 hB _ _ _ hP hD hS (lv_sub hl [0, 1] rfl)
def S_M_readClause (post : St → Prop) (z0 : St) : Prop :=
  (S_M_look (fun (r1 : Int32) (z1 : St) => ((r1 = (115 : Int32) → (((gI z1 116) = 0 → (B_M_readClause_48 post r1 z1)) ∧ (¬ (gI z1 116) = 0 → (B_M_readClause_18 post r1 z1)))) ∧ (¬ r1 = (115 : Int32) → (B_M_readClause_18 post r1 z1)))) z0)
set_option maxHeartbeats 4000000 in
set_option maxRecDepth 100000 in
theorem w_M_readClause_0 {p : Program} {l : Launch} {e : Env} {R : Room} {s : State} {m : MethodId} {args : Array Value} {below : List Frame} {meth : Method} {c : Code} {Q : State → Prop} {G : GX} {A : Nat → Prop} (S : CallFix p m c cX12_readClause 3 s args GW RX12) (hE : env G A s s.heap) (hA : ∀ q, s.heap.size ≤ q → A q) (hRf : 6 ≤ R.frames) (hRl : 133 ≤ R.locals) {post : St → Prop} (hret : RetV p l e R s m args below meth c Q 0 0 wM G A cX12_readClause post) (z0 : St) (hB : S_M_readClause post z0) : Xw p l e R s m args below meth c Q 0 0 wM G A z0 3 [(0, .ref (ad G 100))] 0 [] := by
  intro H locs ls hP hD hS hl
  have hx := S.1
  have hb := S.2.1
  refine lv_aload_n hx hb dX12_readClause_0 rfl (lv_at hl 0 rfl) ?_
  refine xcVi [] S hE hA hP hD hS (c_M_look l G z0 H.size _) hB (gw_c lk_X12_131 (gw_c wi_X12_look (gw_c we_X12_X12_look_X12_look (gw_c wn_X12 (gw_c wc_X12_look (fun _ h9 => h9)))))) hd_X12_look rfl rfl (Nat.le_trans (Nat.le_of_ble_eq_true rfl) hRf) (Nat.le_trans (Nat.le_of_ble_eq_true rfl) hRl) ⟨Nat.zero_le _, Nat.zero_le _⟩ (va_recv hE.1 hP (ci := 11) (q0 := 0) rfl rfl) rfl hl.1 rfl (Nat.le_of_ble_eq_true rfl) dX12_readClause_1 (fun r1 z1 H locs hB hP hD hS => ?_)
  refine lv_istore_n (lv' := [(1, .int r1), (0, .ref (ad G 100))]) hx hb dX12_readClause_4 rfl hl (by decide) rfl (fun ls hl => ?_)
  refine lv_iload_n hx hb dX12_readClause_5 rfl (lv_at hl 0 rfl) ?_
  refine lv_bipush (v := 115) hx hb dX12_readClause_6 (by decide) ?_
  refine lv_icmp_ne (tgt := 18) hx hb dX12_readClause_8 (by decide) (fun c2 => ?_) (fun c2 => ?_)
  · have hB := hB.2 c2
    exact w_M_readClause_18 S hE hA hRf hRl hret r1 z1 hB _ _ _ hP hD hS (lv_sub hl [1, 0] rfl)
  · have hB := hB.1 c2
    refine lv_aload_n hx hb dX12_readClause_11 rfl (lv_at hl 1 rfl) ?_
    refine xMg_100_hasRules S hE hP lk_X12_228 dX12_readClause_12 ?_
    refine lv_if_eq (tgt := 48) hx hb dX12_readClause_15 (by decide) (fun c3 => ?_) (fun c3 => ?_)
    · have hB := hB.1 c3
      exact w_M_readClause_48 S hE hA hRf hRl hret r1 z1 hB _ _ _ hP hD hS (lv_sub hl [1, 0] rfl)
    · have hB := hB.2 c3
      exact w_M_readClause_18 S hE hA hRf hRl hret r1 z1 hB _ _ _ hP hD hS (lv_sub hl [1, 0] rfl)
set_option maxHeartbeats 4000000 in
set_option maxRecDepth 100000 in
theorem c_M_readClause (l : Launch) (G : GX) (z0 : St) (sz : Nat) (post : St → Prop) : MetV l wM yX12_readClause cX12_readClause 3 none ({ frames := 6, cells := 0, slots := 0, locals := 133 }) [.ref (ad G 100)] G z0 sz (S_M_readClause post z0) post := by
  refine Met.ofW (cc := cX12_readClause) (maxL := 3) (ret := none) (by decide) rfl ?_
  intro p e s m args below meth c s₁ B hml hv
  obtain ⟨rfl, hsz, hP, hD0, hE, hB⟩ := hv
  have S : CallFix p m c cX12_readClause 3 s _ GW RX12 := ⟨B.exec, B.bytes, hml, findClass_of_methodNamed B.named, fun w h => atoms_spec (ws := Cond.code yX12_readClause cX12_readClause 3 none :: GW) B.pre w (List.mem_cons_of_mem _ h)⟩
  have hlocks := B.notSynchronized
  subst hsz
  have hD := hD0.self (sz := s.heap.size)
  generalize hAe : va_A (wM G z0) s.heap.size = A at hD hE ⊢
  have hA : ∀ q : Nat, s.heap.size ≤ q → A q := fun q h => by rw [← hAe]; exact Or.inr h
  have hS : va_S A s.heap s.heap [] := va_S.rf
  have hl := lv_entry ([.ref (ad G 100)]) (n := 3) (Nat.le_of_ble_eq_true rfl)
  rw [lg_entry_eq]
  generalize (lg_sl ([.ref (ad G 100)]) ++ List.replicate (3 - (lg_sl ([.ref (ad G 100)])).length) Slot.unset).toArray = ls at hl ⊢
  have hl : lv_has ls 3 [(0, .ref (ad G 100))] := hl
  refine w_M_readClause_0 S hE hA (Nat.le_refl _) (Nat.le_refl _) ?_  z0 hB _ _ _ hP hD hS hl
  intro pc ls σ H locs hd hp hP hD hS
  exact W.vret B.exec B.bytes B.returns (fun t ht hW => ⟨⟨σ, rfl, hp, by rw [ht]; exact hP, hD⟩, hS.F ht⟩) hS.2.2 hd
def B_M_readHouse_134 (post : St → Prop) (z0 : St) : Prop :=
  (S_M_fails (fun (r1 : Int32) (z1 : St) => (post z1)) z0)
set_option maxHeartbeats 4000000 in
set_option maxRecDepth 100000 in
theorem w_M_readHouse_134 {p : Program} {l : Launch} {e : Env} {R : Room} {s : State} {m : MethodId} {args : Array Value} {below : List Frame} {meth : Method} {c : Code} {Q : State → Prop} {G : GX} {A : Nat → Prop} (S : CallFix p m c cX12_readHouse 2 s args GW RX12) (hE : env G A s s.heap) (hA : ∀ q, s.heap.size ≤ q → A q) (hRf : 7 ≤ R.frames) (hRl : 155 ≤ R.locals) {post : St → Prop} (hret : RetV p l e R s m args below meth c Q 0 0 wM G A cX12_readHouse post) (z0 : St) (hB : B_M_readHouse_134 post z0) : Xw p l e R s m args below meth c Q 0 0 wM G A z0 2 [(0, .ref (ad G 100))] 134 [] := by
  intro H locs ls hP hD hS hl
  have hx := S.1
  have hb := S.2.1
  refine lv_aload_n hx hb dX12_readHouse_134 rfl (lv_at hl 0 rfl) ?_
  refine xcVi [] S hE hA hP hD hS (c_M_fails l G z0 H.size _) hB (gw_c lk_X12_127 (gw_c wi_X12_fails (gw_c we_X12_X12_fails_X12_fails (gw_c wn_X12 (gw_c wc_X12_fails (fun _ h9 => h9)))))) hd_X12_fails rfl rfl (Nat.le_trans (Nat.le_of_ble_eq_true rfl) hRf) (Nat.le_trans (Nat.le_of_ble_eq_true rfl) hRl) ⟨Nat.zero_le _, Nat.zero_le _⟩ (va_recv hE.1 hP (ci := 11) (q0 := 0) rfl rfl) rfl hl.1 rfl (Nat.le_of_ble_eq_true rfl) dX12_readHouse_135 (fun r1 z1 H locs hB hP hD hS => ?_)
  refine lv_pop hx hb dX12_readHouse_138 rfl ?_
  exact hret _ _ _ _ _ dX12_readHouse_139 hB hP hD hS
def B_M_readHouse_111 (post : St → Prop) (z0 : St) : Prop :=
  (((gI z0 106) = (-1 : Int32) → (S_M_look (fun (r2 : Int32) (z1 : St) => ((r2 = (-1 : Int32) → (S_M_isWhole (fun (r4 : Int32) (z2 : St) => ((r4 = 0 → (B_M_readHouse_134 post z2)) ∧ (¬ r4 = 0 → (post z2)))) z1)) ∧ (¬ r2 = (-1 : Int32) → (B_M_readHouse_134 post z1)))) z0)) ∧ (¬ (gI z0 106) = (-1 : Int32) → (post z0)))
set_option maxHeartbeats 4000000 in
set_option maxRecDepth 100000 in
theorem w_M_readHouse_111 {p : Program} {l : Launch} {e : Env} {R : Room} {s : State} {m : MethodId} {args : Array Value} {below : List Frame} {meth : Method} {c : Code} {Q : State → Prop} {G : GX} {A : Nat → Prop} (S : CallFix p m c cX12_readHouse 2 s args GW RX12) (hE : env G A s s.heap) (hA : ∀ q, s.heap.size ≤ q → A q) (hRf : 7 ≤ R.frames) (hRl : 155 ≤ R.locals) {post : St → Prop} (hret : RetV p l e R s m args below meth c Q 0 0 wM G A cX12_readHouse post) (z0 : St) (hB : B_M_readHouse_111 post z0) : Xw p l e R s m args below meth c Q 0 0 wM G A z0 2 [(0, .ref (ad G 100))] 111 [] := by
  intro H locs ls hP hD hS hl
  have hx := S.1
  have hb := S.2.1
  refine lv_aload_n hx hb dX12_readHouse_111 rfl (lv_at hl 0 rfl) ?_
  refine xMg_100_fault S hE hP lk_X12_121 dX12_readHouse_112 ?_
  refine lv_iconst (v := -1) hx hb dX12_readHouse_115 (by decide) ?_
  refine lv_icmp_ne (tgt := 139) hx hb dX12_readHouse_116 (by decide) (fun c1 => ?_) (fun c1 => ?_)
  · have hB := hB.2 c1
    exact hret _ _ _ _ _ dX12_readHouse_139 hB hP hD hS
  · have hB := hB.1 c1
    refine lv_aload_n hx hb dX12_readHouse_119 rfl (lv_at hl 0 rfl) ?_
    refine xcVi [] S hE hA hP hD hS (c_M_look l G z0 H.size _) hB (gw_c lk_X12_131 (gw_c wi_X12_look (gw_c we_X12_X12_look_X12_look (gw_c wn_X12 (gw_c wc_X12_look (fun _ h9 => h9)))))) hd_X12_look rfl rfl (Nat.le_trans (Nat.le_of_ble_eq_true rfl) hRf) (Nat.le_trans (Nat.le_of_ble_eq_true rfl) hRl) ⟨Nat.zero_le _, Nat.zero_le _⟩ (va_recv hE.1 hP (ci := 11) (q0 := 0) rfl rfl) rfl hl.1 rfl (Nat.le_of_ble_eq_true rfl) dX12_readHouse_120 (fun r2 z1 H locs hB hP hD hS => ?_)
    refine lv_iconst (v := -1) hx hb dX12_readHouse_123 (by decide) ?_
    refine lv_icmp_ne (tgt := 134) hx hb dX12_readHouse_124 (by decide) (fun c3 => ?_) (fun c3 => ?_)
    · have hB := hB.2 c3
      exact w_M_readHouse_134 S hE hA hRf hRl hret z1 hB _ _ _ hP hD hS (lv_sub hl [0] rfl)
    · have hB := hB.1 c3
      refine lv_aload_n hx hb dX12_readHouse_127 rfl (lv_at hl 0 rfl) ?_
      refine xcVi [] S hE hA hP hD hS (c_M_isWhole l G z1 H.size _) hB (gw_c lk_X12_250 (gw_c wi_X12_isWhole (gw_c we_X12_X12_isWhole_X12_isWhole (gw_c wn_X12 (gw_c wc_X12_isWhole (fun _ h9 => h9)))))) hd_X12_isWhole rfl rfl (Nat.le_trans (Nat.le_of_ble_eq_true rfl) hRf) (Nat.le_trans (Nat.le_of_ble_eq_true rfl) hRl) ⟨Nat.zero_le _, Nat.zero_le _⟩ (va_recv hE.1 hP (ci := 11) (q0 := 0) rfl rfl) rfl hl.1 rfl (Nat.le_of_ble_eq_true rfl) dX12_readHouse_128 (fun r4 z2 H locs hB hP hD hS => ?_)
      refine lv_if_ne (tgt := 139) hx hb dX12_readHouse_131 (by decide) (fun c5 => ?_) (fun c5 => ?_)
      · have hB := hB.2 c5
        exact hret _ _ _ _ _ dX12_readHouse_139 hB hP hD hS
      · have hB := hB.1 c5
        exact w_M_readHouse_134 S hE hA hRf hRl hret z2 hB _ _ _ hP hD hS (lv_sub hl [0] rfl)
def B_M_readHouse_93 (post : St → Prop) (ih55 : Int32 → St → Prop) (s0 : Int32) (z0 : St) : Prop :=
  ((s0 = 0 → (ih55 s0 z0)) ∧ (¬ s0 = 0 → (∀ z1 : St, z1 = sI z0 105 ((gI z0 105) + (1 : Int32)) → (ih55 s0 z1))))
set_option maxHeartbeats 4000000 in
set_option maxRecDepth 100000 in
theorem w_M_readHouse_93 {p : Program} {l : Launch} {e : Env} {R : Room} {s : State} {m : MethodId} {args : Array Value} {below : List Frame} {meth : Method} {c : Code} {Q : State → Prop} {G : GX} {A : Nat → Prop} (S : CallFix p m c cX12_readHouse 2 s args GW RX12) (hE : env G A s s.heap) (hA : ∀ q, s.heap.size ≤ q → A q) (hRf : 7 ≤ R.frames) (hRl : 155 ≤ R.locals) {post : St → Prop} (hret : RetV p l e R s m args below meth c Q 0 0 wM G A cX12_readHouse post) {ih55 : Int32 → St → Prop} (h55 : ∀ (x1 : Int32) (z0 : St), ih55 x1 z0 → Xw p l e R s m args below meth c Q 0 0 wM G A z0 2 [(0, .ref (ad G 100)), (1, .int x1)] 55 []) (s0 : Int32) (z0 : St) (hB : B_M_readHouse_93 post ih55 s0 z0) : Xw p l e R s m args below meth c Q 0 0 wM G A z0 2 [(0, .ref (ad G 100))] 93 [.int s0] := by
  intro H locs ls hP hD hS hl
  have hx := S.1
  have hb := S.2.1
  refine lv_istore_n (lv' := [(1, .int s0), (0, .ref (ad G 100))]) hx hb dX12_readHouse_93 rfl hl (by decide) rfl (fun ls hl => ?_)
  refine lv_iload_n hx hb dX12_readHouse_94 rfl (lv_at hl 0 rfl) ?_
  refine lv_if_eq (tgt := 55) hx hb dX12_readHouse_95 (by decide) (fun c1 => ?_) (fun c1 => ?_)
  · have hB := hB.1 c1
    exact h55 s0 z0 hB _ _ _ hP hD hS (lv_sub hl [1, 0] rfl)
  · have hB := hB.2 c1
    refine lv_aload_n hx hb dX12_readHouse_98 rfl (lv_at hl 1 rfl) ?_
    refine lv_dup hx hb dX12_readHouse_99 rfl ?_
    refine xMg_100_at S hE hP lk_X12_112 dX12_readHouse_100 ?_
    refine lv_iconst (v := 1) hx hb dX12_readHouse_103 (by decide) ?_
    refine lv_iadd hx hb dX12_readHouse_104 ?_
    obtain ⟨z1, ez1⟩ : ∃ z9, z9 = sI z0 105 ((gI z0 105) + (1 : Int32)) := ⟨_, rfl⟩
    have hB := hB z1 ez1
    refine xMp_100_at S hE hP hD hS lk_X12_112 dX12_readHouse_105 (fun H locs hP hD hS => ?_)
    rw [← ez1] at hP hD
    refine lv_goto (tgt := 55) hx hb dX12_readHouse_108 (by decide) ?_
    exact h55 s0 z1 hB _ _ _ hP hD hS (lv_sub hl [1, 0] rfl)
def B_M_readHouse_92 (post : St → Prop) (ih55 : Int32 → St → Prop) (z0 : St) : Prop :=
  (B_M_readHouse_93 post ih55 (0 : Int32) z0)
set_option maxHeartbeats 4000000 in
set_option maxRecDepth 100000 in
theorem w_M_readHouse_92 {p : Program} {l : Launch} {e : Env} {R : Room} {s : State} {m : MethodId} {args : Array Value} {below : List Frame} {meth : Method} {c : Code} {Q : State → Prop} {G : GX} {A : Nat → Prop} (S : CallFix p m c cX12_readHouse 2 s args GW RX12) (hE : env G A s s.heap) (hA : ∀ q, s.heap.size ≤ q → A q) (hRf : 7 ≤ R.frames) (hRl : 155 ≤ R.locals) {post : St → Prop} (hret : RetV p l e R s m args below meth c Q 0 0 wM G A cX12_readHouse post) {ih55 : Int32 → St → Prop} (h55 : ∀ (x1 : Int32) (z0 : St), ih55 x1 z0 → Xw p l e R s m args below meth c Q 0 0 wM G A z0 2 [(0, .ref (ad G 100)), (1, .int x1)] 55 []) (z0 : St) (hB : B_M_readHouse_92 post ih55 z0) : Xw p l e R s m args below meth c Q 0 0 wM G A z0 2 [(0, .ref (ad G 100))] 92 [] := by
  intro H locs ls hP hD hS hl
  have hx := S.1
  have hb := S.2.1
  refine lv_iconst (v := 0) hx hb dX12_readHouse_92 (by decide) ?_
  exact w_M_readHouse_93 S hE hA hRf hRl hret h55 (0 : Int32) z0 hB _ _ _ hP hD hS (lv_sub hl [0] rfl)
def B_M_readHouse_55 (post : St → Prop) (ih55 : Int32 → St → Prop) (x1 : Int32) (z0 : St) : Prop :=
  ((x1 = 0 → (B_M_readHouse_111 post z0)) ∧ (¬ x1 = 0 → (((gI z0 106) = (-1 : Int32) → (S_M_readClause (fun (z1 : St) => (((gI z1 106) = (-1 : Int32) → (S_M_look (fun (r4 : Int32) (z2 : St) => ((r4 = (59 : Int32) → (B_M_readHouse_93 post ih55 (1 : Int32) z2)) ∧ (¬ r4 = (59 : Int32) → (B_M_readHouse_92 post ih55 z2)))) z1)) ∧ (¬ (gI z1 106) = (-1 : Int32) → (B_M_readHouse_92 post ih55 z1)))) z0)) ∧ (¬ (gI z0 106) = (-1 : Int32) → (B_M_readHouse_111 post z0)))))
set_option maxHeartbeats 4000000 in
set_option maxRecDepth 100000 in
theorem w_M_readHouse_55 {p : Program} {l : Launch} {e : Env} {R : Room} {s : State} {m : MethodId} {args : Array Value} {below : List Frame} {meth : Method} {c : Code} {Q : State → Prop} {G : GX} {A : Nat → Prop} (S : CallFix p m c cX12_readHouse 2 s args GW RX12) (hE : env G A s s.heap) (hA : ∀ q, s.heap.size ≤ q → A q) (hRf : 7 ≤ R.frames) (hRl : 155 ≤ R.locals) {post : St → Prop} (hret : RetV p l e R s m args below meth c Q 0 0 wM G A cX12_readHouse post) {ih55 : Int32 → St → Prop} (h55 : ∀ (x1 : Int32) (z0 : St), ih55 x1 z0 → Xw p l e R s m args below meth c Q 0 0 wM G A z0 2 [(0, .ref (ad G 100)), (1, .int x1)] 55 []) (x1 : Int32) (z0 : St) (hB : B_M_readHouse_55 post ih55 x1 z0) : Xw p l e R s m args below meth c Q 0 0 wM G A z0 2 [(0, .ref (ad G 100)), (1, .int x1)] 55 [] := by
  intro H locs ls hP hD hS hl
  have hx := S.1
  have hb := S.2.1
  refine lv_iload_n hx hb dX12_readHouse_55 rfl (lv_at hl 1 rfl) ?_
  refine lv_if_eq (tgt := 111) hx hb dX12_readHouse_56 (by decide) (fun c1 => ?_) (fun c1 => ?_)
  · have hB := hB.1 c1
    exact w_M_readHouse_111 S hE hA hRf hRl hret z0 hB _ _ _ hP hD hS (lv_sub hl [0] rfl)
  · have hB := hB.2 c1
    refine lv_aload_n hx hb dX12_readHouse_59 rfl (lv_at hl 0 rfl) ?_
    refine xMg_100_fault S hE hP lk_X12_121 dX12_readHouse_60 ?_
    refine lv_iconst (v := -1) hx hb dX12_readHouse_63 (by decide) ?_
    refine lv_icmp_ne (tgt := 111) hx hb dX12_readHouse_64 (by decide) (fun c2 => ?_) (fun c2 => ?_)
    · have hB := hB.2 c2
      exact w_M_readHouse_111 S hE hA hRf hRl hret z0 hB _ _ _ hP hD hS (lv_sub hl [0] rfl)
    · have hB := hB.1 c2
      refine lv_aload_n hx hb dX12_readHouse_67 rfl (lv_at hl 0 rfl) ?_
      refine xcVv [] S hE hA hP hD hS (c_M_readClause l G z0 H.size _) hB (gw_c lk_X12_247 (gw_c wi_X12_readClause (gw_c we_X12_X12_readClause_X12_readClause (gw_c wn_X12 (gw_c wc_X12_readClause (fun _ h9 => h9)))))) hd_X12_readClause rfl rfl (Nat.le_trans (Nat.le_of_ble_eq_true rfl) hRf) (Nat.le_trans (Nat.le_of_ble_eq_true rfl) hRl) ⟨Nat.zero_le _, Nat.zero_le _⟩ (va_recv hE.1 hP (ci := 11) (q0 := 0) rfl rfl) rfl hl.1 rfl (Nat.le_of_ble_eq_true rfl) dX12_readHouse_68 (fun z1 H locs hB hP hD hS => ?_)
      refine lv_aload_n hx hb dX12_readHouse_71 rfl (lv_at hl 0 rfl) ?_
      refine xMg_100_fault S hE hP lk_X12_121 dX12_readHouse_72 ?_
      refine lv_iconst (v := -1) hx hb dX12_readHouse_75 (by decide) ?_
      refine lv_icmp_ne (tgt := 92) hx hb dX12_readHouse_76 (by decide) (fun c3 => ?_) (fun c3 => ?_)
      · have hB := hB.2 c3
        exact w_M_readHouse_92 S hE hA hRf hRl hret h55 z1 hB _ _ _ hP hD hS (lv_sub hl [0] rfl)
      · have hB := hB.1 c3
        refine lv_aload_n hx hb dX12_readHouse_79 rfl (lv_at hl 0 rfl) ?_
        refine xcVi [] S hE hA hP hD hS (c_M_look l G z1 H.size _) hB (gw_c lk_X12_131 (gw_c wi_X12_look (gw_c we_X12_X12_look_X12_look (gw_c wn_X12 (gw_c wc_X12_look (fun _ h9 => h9)))))) hd_X12_look rfl rfl (Nat.le_trans (Nat.le_of_ble_eq_true rfl) hRf) (Nat.le_trans (Nat.le_of_ble_eq_true rfl) hRl) ⟨Nat.zero_le _, Nat.zero_le _⟩ (va_recv hE.1 hP (ci := 11) (q0 := 0) rfl rfl) rfl hl.1 rfl (Nat.le_of_ble_eq_true rfl) dX12_readHouse_80 (fun r4 z2 H locs hB hP hD hS => ?_)
        refine lv_bipush (v := 59) hx hb dX12_readHouse_83 (by decide) ?_
        refine lv_icmp_ne (tgt := 92) hx hb dX12_readHouse_85 (by decide) (fun c5 => ?_) (fun c5 => ?_)
        · have hB := hB.2 c5
          exact w_M_readHouse_92 S hE hA hRf hRl hret h55 z2 hB _ _ _ hP hD hS (lv_sub hl [0] rfl)
        · have hB := hB.1 c5
          refine lv_iconst (v := 1) hx hb dX12_readHouse_88 (by decide) ?_
          refine lv_goto (tgt := 93) hx hb dX12_readHouse_89 (by decide) ?_
          exact w_M_readHouse_93 S hE hA hRf hRl hret h55 (1 : Int32) z2 hB _ _ _ hP hD hS (lv_sub hl [0] rfl)
def L_M_readHouse_55 (post : St → Prop) : Nat → Int32 → St → Prop
  | 0 => fun _ _ => False
  | n + 1 => B_M_readHouse_55 post (L_M_readHouse_55 post n)
theorem wl_M_readHouse_55 {p : Program} {l : Launch} {e : Env} {R : Room} {s : State} {m : MethodId} {args : Array Value} {below : List Frame} {meth : Method} {c : Code} {Q : State → Prop} {G : GX} {A : Nat → Prop} (S : CallFix p m c cX12_readHouse 2 s args GW RX12) (hE : env G A s s.heap) (hA : ∀ q, s.heap.size ≤ q → A q) (hRf : 7 ≤ R.frames) (hRl : 155 ≤ R.locals) {post : St → Prop} (hret : RetV p l e R s m args below meth c Q 0 0 wM G A cX12_readHouse post) : ∀ (n : Nat) (x1 : Int32) (z0 : St), L_M_readHouse_55 post n x1 z0 → Xw p l e R s m args below meth c Q 0 0 wM G A z0 2 [(0, .ref (ad G 100)), (1, .int x1)] 55 [] := by
  intro n
  induction n with
  | zero => intro x1 z0 hB; exact absurd hB id
  | succ n ih => exact fun x1 z0 hB => w_M_readHouse_55 S hE hA hRf hRl hret ih x1 z0 hB
def B_M_readHouse_30 (post : St → Prop) (ih30 : Int32 → St → Prop) (x1 : Int32) (z0 : St) : Prop :=
  (((3 : Int32) ≤ x1 → (∃ n2, L_M_readHouse_55 post n2 (1 : Int32) z0)) ∧ (¬ (3 : Int32) ≤ x1 → (S_M_usual (fun (r3 : Int32) (z1 : St) => (vp_in x1 3 ∧ (∀ z2 : St, z2 = sA z1 106 x1.toNatClampNeg r3 → (∀ v4 : Int32, v4 = x1 + (1 : Int32) → (ih30 v4 z2))))) (115 : Int32) x1 z0)))
set_option maxHeartbeats 4000000 in
set_option maxRecDepth 100000 in
theorem w_M_readHouse_30 {p : Program} {l : Launch} {e : Env} {R : Room} {s : State} {m : MethodId} {args : Array Value} {below : List Frame} {meth : Method} {c : Code} {Q : State → Prop} {G : GX} {A : Nat → Prop} (S : CallFix p m c cX12_readHouse 2 s args GW RX12) (hE : env G A s s.heap) (hA : ∀ q, s.heap.size ≤ q → A q) (hRf : 7 ≤ R.frames) (hRl : 155 ≤ R.locals) {post : St → Prop} (hret : RetV p l e R s m args below meth c Q 0 0 wM G A cX12_readHouse post) {ih30 : Int32 → St → Prop} (h30 : ∀ (x1 : Int32) (z0 : St), ih30 x1 z0 → Xw p l e R s m args below meth c Q 0 0 wM G A z0 2 [(0, .ref (ad G 100)), (1, .int x1)] 30 []) (x1 : Int32) (z0 : St) (hB : B_M_readHouse_30 post ih30 x1 z0) : Xw p l e R s m args below meth c Q 0 0 wM G A z0 2 [(0, .ref (ad G 100)), (1, .int x1)] 30 [] := by
  intro H locs ls hP hD hS hl
  have hx := S.1
  have hb := S.2.1
  refine lv_iload_n hx hb dX12_readHouse_30 rfl (lv_at hl 1 rfl) ?_
  refine lv_iconst (v := 3) hx hb dX12_readHouse_31 (by decide) ?_
  refine lv_icmp_ge (tgt := 53) hx hb dX12_readHouse_32 (by decide) (fun c1 => ?_) (fun c1 => ?_)
  · have hB := hB.1 c1
    refine lv_iconst (v := 1) hx hb dX12_readHouse_53 (by decide) ?_
    refine lv_istore_n (lv' := [(1, .int (1 : Int32)), (0, .ref (ad G 100))]) hx hb dX12_readHouse_54 rfl hl (by decide) rfl (fun ls hl => ?_)
    obtain ⟨n2, hB⟩ := hB
    exact wl_M_readHouse_55 S hE hA hRf hRl hret n2 (1 : Int32) z0 hB _ _ _ hP hD hS (lv_sub hl [1, 0] rfl)
  · have hB := hB.2 c1
    refine lv_aload_n hx hb dX12_readHouse_35 rfl (lv_at hl 0 rfl) ?_
    refine xMg_100_ruleRead S hE hP lk_X12_40 dX12_readHouse_36 ?_
    refine lv_iload_n hx hb dX12_readHouse_39 rfl (lv_at hl 1 rfl) ?_
    refine lv_bipush (v := 115) hx hb dX12_readHouse_40 (by decide) ?_
    refine lv_iload_n hx hb dX12_readHouse_42 rfl (lv_at hl 1 rfl) ?_
    refine xcSi [.int (115 : Int32), .int x1] S hE hA hP hD hS (c_M_usual l G z0 H.size (115 : Int32) x1 _) hB (gw_c lk_X12_210 (gw_c wt_X12_usual (gw_c wn_X12 (gw_c wc_X12_usual (fun _ h9 => h9))))) hs_X12_usual rfl rfl (Nat.le_trans (Nat.le_of_ble_eq_true rfl) hRf) (Nat.le_trans (Nat.le_of_ble_eq_true rfl) hRl) ⟨Nat.zero_le _, Nat.zero_le _⟩ rfl hl.1 rfl (Nat.le_of_ble_eq_true rfl) dX12_readHouse_43 (fun r3 z1 H locs hB hP hD hS => ?_)
    obtain ⟨hi, hB⟩ := hB
    obtain ⟨z2, ez2⟩ : ∃ z9, z9 = sA z1 106 x1.toNatClampNeg r3 := ⟨_, rfl⟩
    have hB := hB z2 ez2
    refine xMs_106 S hE hP hD hS _ rfl hi dX12_readHouse_46 (fun H locs hP hD hS => ?_)
    rw [← ez2] at hP hD
    obtain ⟨v4, ev4⟩ : ∃ y9, y9 = x1 + (1 : Int32) := ⟨_, rfl⟩
    have hB := hB v4 ev4
    refine lv_iinc (v := v4) (lv' := [(1, .int v4), (0, .ref (ad G 100))]) hx hb dX12_readHouse_47 hl (k := 1) rfl (by rw [ev4]; rfl) (by decide) rfl (fun ls hl => ?_)
    refine lv_goto (tgt := 30) hx hb dX12_readHouse_50 (by decide) ?_
    exact h30 v4 z2 hB _ _ _ hP hD hS (lv_sub hl [1, 0] rfl)
def L_M_readHouse_30 (post : St → Prop) : Nat → Int32 → St → Prop
  | 0 => fun _ _ => False
  | n + 1 => B_M_readHouse_30 post (L_M_readHouse_30 post n)
theorem wl_M_readHouse_30 {p : Program} {l : Launch} {e : Env} {R : Room} {s : State} {m : MethodId} {args : Array Value} {below : List Frame} {meth : Method} {c : Code} {Q : State → Prop} {G : GX} {A : Nat → Prop} (S : CallFix p m c cX12_readHouse 2 s args GW RX12) (hE : env G A s s.heap) (hA : ∀ q, s.heap.size ≤ q → A q) (hRf : 7 ≤ R.frames) (hRl : 155 ≤ R.locals) {post : St → Prop} (hret : RetV p l e R s m args below meth c Q 0 0 wM G A cX12_readHouse post) : ∀ (n : Nat) (x1 : Int32) (z0 : St), L_M_readHouse_30 post n x1 z0 → Xw p l e R s m args below meth c Q 0 0 wM G A z0 2 [(0, .ref (ad G 100)), (1, .int x1)] 30 [] := by
  intro n
  induction n with
  | zero => intro x1 z0 hB; exact absurd hB id
  | succ n ih => exact fun x1 z0 hB => w_M_readHouse_30 S hE hA hRf hRl hret ih x1 z0 hB
def S_M_readHouse (post : St → Prop) (z0 : St) : Prop :=
  (S_M_starts_r101 (fun (z1 : St) => (∀ z2 : St, z2 = sI z1 113 (0 : Int32) → (∀ z3 : St, z3 = sI z2 114 (0 : Int32) → (∀ z4 : St, z4 = sI z3 116 (0 : Int32) → (∃ n1, L_M_readHouse_30 post n1 (0 : Int32) z4))))) (0 : Int32) (gI z0 101) z0)
set_option maxHeartbeats 4000000 in
set_option maxRecDepth 100000 in
theorem w_M_readHouse_0 {p : Program} {l : Launch} {e : Env} {R : Room} {s : State} {m : MethodId} {args : Array Value} {below : List Frame} {meth : Method} {c : Code} {Q : State → Prop} {G : GX} {A : Nat → Prop} (S : CallFix p m c cX12_readHouse 2 s args GW RX12) (hE : env G A s s.heap) (hA : ∀ q, s.heap.size ≤ q → A q) (hRf : 7 ≤ R.frames) (hRl : 155 ≤ R.locals) {post : St → Prop} (hret : RetV p l e R s m args below meth c Q 0 0 wM G A cX12_readHouse post) (z0 : St) (hB : S_M_readHouse post z0) : Xw p l e R s m args below meth c Q 0 0 wM G A z0 2 [(0, .ref (ad G 100))] 0 [] := by
  intro H locs ls hP hD hS hl
  have hx := S.1
  have hb := S.2.1
  refine lv_aload_n hx hb dX12_readHouse_0 rfl (lv_at hl 0 rfl) ?_
  refine lv_aload_n hx hb dX12_readHouse_1 rfl (lv_at hl 0 rfl) ?_
  refine xMg_100_tape S hE hP lk_X12_9 dX12_readHouse_2 ?_
  refine lv_iconst (v := 0) hx hb dX12_readHouse_5 (by decide) ?_
  refine lv_aload_n hx hb dX12_readHouse_6 rfl (lv_at hl 0 rfl) ?_
  refine xMg_100_length S hE hP lk_X12_102 dX12_readHouse_7 ?_
  refine xcVv [.ref (ad G 101), .int (0 : Int32), .int (gI z0 101)] S hE hA hP hD hS (c_M_starts_r101 l G z0 H.size (0 : Int32) (gI z0 101) _) hB (gw_c lk_X12_200 (gw_c wi_X12_starts (gw_c we_X12_X12_starts_X12_starts (gw_c wn_X12 (gw_c wc_X12_starts (fun _ h9 => h9)))))) hd_X12_starts rfl rfl (Nat.le_trans (Nat.le_of_ble_eq_true rfl) hRf) (Nat.le_trans (Nat.le_of_ble_eq_true rfl) hRl) ⟨Nat.zero_le _, Nat.zero_le _⟩ (va_recv hE.1 hP (ci := 11) (q0 := 0) rfl rfl) rfl hl.1 rfl (Nat.le_of_ble_eq_true rfl) dX12_readHouse_10 (fun z1 H locs hB hP hD hS => ?_)
  refine lv_aload_n hx hb dX12_readHouse_13 rfl (lv_at hl 0 rfl) ?_
  refine lv_iconst (v := 0) hx hb dX12_readHouse_14 (by decide) ?_
  obtain ⟨z2, ez2⟩ : ∃ z9, z9 = sI z1 113 (0 : Int32) := ⟨_, rfl⟩
  have hB := hB z2 ez2
  refine xMp_100_drinksRead S hE hP hD hS lk_X12_231 dX12_readHouse_15 (fun H locs hP hD hS => ?_)
  rw [← ez2] at hP hD
  refine lv_aload_n hx hb dX12_readHouse_18 rfl (lv_at hl 0 rfl) ?_
  refine lv_iconst (v := 0) hx hb dX12_readHouse_19 (by decide) ?_
  obtain ⟨z3, ez3⟩ : ∃ z9, z9 = sI z2 114 (0 : Int32) := ⟨_, rfl⟩
  have hB := hB z3 ez3
  refine xMp_100_guestsRead S hE hP hD hS lk_X12_234 dX12_readHouse_20 (fun H locs hP hD hS => ?_)
  rw [← ez3] at hP hD
  refine lv_aload_n hx hb dX12_readHouse_23 rfl (lv_at hl 0 rfl) ?_
  refine lv_iconst (v := 0) hx hb dX12_readHouse_24 (by decide) ?_
  obtain ⟨z4, ez4⟩ : ∃ z9, z9 = sI z3 116 (0 : Int32) := ⟨_, rfl⟩
  have hB := hB z4 ez4
  refine xMp_100_hasRules S hE hP hD hS lk_X12_228 (by decide) dX12_readHouse_25 (fun H locs hP hD hS => ?_)
  rw [← ez4] at hP hD
  refine lv_iconst (v := 0) hx hb dX12_readHouse_28 (by decide) ?_
  refine lv_istore_n (lv' := [(1, .int (0 : Int32)), (0, .ref (ad G 100))]) hx hb dX12_readHouse_29 rfl hl (by decide) rfl (fun ls hl => ?_)
  obtain ⟨n1, hB⟩ := hB
  exact wl_M_readHouse_30 S hE hA hRf hRl hret n1 (0 : Int32) z4 hB _ _ _ hP hD hS (lv_sub hl [1, 0] rfl)
set_option maxHeartbeats 4000000 in
set_option maxRecDepth 100000 in
theorem c_M_readHouse (l : Launch) (G : GX) (z0 : St) (sz : Nat) (post : St → Prop) : MetV l wM yX12_readHouse cX12_readHouse 2 none ({ frames := 7, cells := 0, slots := 0, locals := 155 }) [.ref (ad G 100)] G z0 sz (S_M_readHouse post z0) post := by
  refine Met.ofW (cc := cX12_readHouse) (maxL := 2) (ret := none) (by decide) rfl ?_
  intro p e s m args below meth c s₁ B hml hv
  obtain ⟨rfl, hsz, hP, hD0, hE, hB⟩ := hv
  have S : CallFix p m c cX12_readHouse 2 s _ GW RX12 := ⟨B.exec, B.bytes, hml, findClass_of_methodNamed B.named, fun w h => atoms_spec (ws := Cond.code yX12_readHouse cX12_readHouse 2 none :: GW) B.pre w (List.mem_cons_of_mem _ h)⟩
  have hlocks := B.notSynchronized
  subst hsz
  have hD := hD0.self (sz := s.heap.size)
  generalize hAe : va_A (wM G z0) s.heap.size = A at hD hE ⊢
  have hA : ∀ q : Nat, s.heap.size ≤ q → A q := fun q h => by rw [← hAe]; exact Or.inr h
  have hS : va_S A s.heap s.heap [] := va_S.rf
  have hl := lv_entry ([.ref (ad G 100)]) (n := 2) (Nat.le_of_ble_eq_true rfl)
  rw [lg_entry_eq]
  generalize (lg_sl ([.ref (ad G 100)]) ++ List.replicate (2 - (lg_sl ([.ref (ad G 100)])).length) Slot.unset).toArray = ls at hl ⊢
  have hl : lv_has ls 2 [(0, .ref (ad G 100))] := hl
  refine w_M_readHouse_0 S hE hA (Nat.le_refl _) (Nat.le_refl _) ?_  z0 hB _ _ _ hP hD hS hl
  intro pc ls σ H locs hd hp hP hD hS
  exact W.vret B.exec B.bytes B.returns (fun t ht hW => ⟨⟨σ, rfl, hp, by rw [ht]; exact hP, hD⟩, hS.F ht⟩) hS.2.2 hd
def B_M_fault_55 (post : Int32 → St → Prop) (z0 : St) : Prop :=
  (post (gI z0 106) z0)
set_option maxHeartbeats 4000000 in
set_option maxRecDepth 100000 in
theorem w_M_fault_55 {p : Program} {l : Launch} {e : Env} {R : Room} {s : State} {m : MethodId} {args : Array Value} {below : List Frame} {meth : Method} {c : Code} {Q : State → Prop} {G : GX} {A : Nat → Prop} (S : CallFix p m c cX12_fault 2 s args GW RX12) (hE : env G A s s.heap) (hA : ∀ q, s.heap.size ≤ q → A q) (hRf : 60 ≤ R.frames) (hRl : 1691 ≤ R.locals) {post : Int32 → St → Prop} (hret : RetI p l e R s m args below meth c Q 0 0 wM G A cX12_fault post) (z0 : St) (hB : B_M_fault_55 post z0) : Xw p l e R s m args below meth c Q 0 0 wM G A z0 2 [(0, .ref (ad G 100))] 55 [] := by
  intro H locs ls hP hD hS hl
  have hx := S.1
  have hb := S.2.1
  refine lv_aload_n hx hb dX12_fault_55 rfl (lv_at hl 0 rfl) ?_
  refine xMg_100_fault S hE hP lk_X12_121 dX12_fault_56 ?_
  exact hret _ _ _ _ _ _ dX12_fault_59 hB hP hD hS
def B_M_fault_46 (post : Int32 → St → Prop) (x1 : Int32) (z0 : St) : Prop :=
  ((x1 = (2 : Int32) → (S_M_readWinter (fun (z1 : St) => (B_M_fault_55 post z1)) z0)) ∧ (¬ x1 = (2 : Int32) → (B_M_fault_55 post z0)))
set_option maxHeartbeats 4000000 in
set_option maxRecDepth 100000 in
theorem w_M_fault_46 {p : Program} {l : Launch} {e : Env} {R : Room} {s : State} {m : MethodId} {args : Array Value} {below : List Frame} {meth : Method} {c : Code} {Q : State → Prop} {G : GX} {A : Nat → Prop} (S : CallFix p m c cX12_fault 2 s args GW RX12) (hE : env G A s s.heap) (hA : ∀ q, s.heap.size ≤ q → A q) (hRf : 60 ≤ R.frames) (hRl : 1691 ≤ R.locals) {post : Int32 → St → Prop} (hret : RetI p l e R s m args below meth c Q 0 0 wM G A cX12_fault post) (x1 : Int32) (z0 : St) (hB : B_M_fault_46 post x1 z0) : Xw p l e R s m args below meth c Q 0 0 wM G A z0 2 [(0, .ref (ad G 100)), (1, .int x1)] 46 [] := by
  intro H locs ls hP hD hS hl
  have hx := S.1
  have hb := S.2.1
  refine lv_iload_n hx hb dX12_fault_46 rfl (lv_at hl 1 rfl) ?_
  refine lv_iconst (v := 2) hx hb dX12_fault_47 (by decide) ?_
  refine lv_icmp_ne (tgt := 55) hx hb dX12_fault_48 (by decide) (fun c1 => ?_) (fun c1 => ?_)
  · have hB := hB.2 c1
    exact w_M_fault_55 S hE hA hRf hRl hret z0 hB _ _ _ hP hD hS (lv_sub hl [0] rfl)
  · have hB := hB.1 c1
    refine lv_aload_n hx hb dX12_fault_51 rfl (lv_at hl 0 rfl) ?_
    refine xcVv [] S hE hA hP hD hS (c_M_readWinter l G z0 H.size _) hB (gw_c lk_X12_270 (gw_c wi_X12_readWinter (gw_c we_X12_X12_readWinter_X12_readWinter (gw_c wn_X12 (gw_c wc_X12_readWinter (fun _ h9 => h9)))))) hd_X12_readWinter rfl rfl (Nat.le_trans (Nat.le_of_ble_eq_true rfl) hRf) (Nat.le_trans (Nat.le_of_ble_eq_true rfl) hRl) ⟨Nat.zero_le _, Nat.zero_le _⟩ (va_recv hE.1 hP (ci := 11) (q0 := 0) rfl rfl) rfl hl.1 rfl (Nat.le_of_ble_eq_true rfl) dX12_fault_52 (fun z1 H locs hB hP hD hS => ?_)
    exact w_M_fault_55 S hE hA hRf hRl hret z1 hB _ _ _ hP hD hS (lv_sub hl [0] rfl)
def B_M_fault_28 (post : Int32 → St → Prop) (x1 : Int32) (z0 : St) : Prop :=
  ((x1 = (1 : Int32) → (S_M_goThrough_r101 (fun (z1 : St) => (B_M_fault_46 post x1 z1)) (0 : Int32) (gI z0 101) z0)) ∧ (¬ x1 = (1 : Int32) → (B_M_fault_46 post x1 z0)))
set_option maxHeartbeats 4000000 in
set_option maxRecDepth 100000 in
theorem w_M_fault_28 {p : Program} {l : Launch} {e : Env} {R : Room} {s : State} {m : MethodId} {args : Array Value} {below : List Frame} {meth : Method} {c : Code} {Q : State → Prop} {G : GX} {A : Nat → Prop} (S : CallFix p m c cX12_fault 2 s args GW RX12) (hE : env G A s s.heap) (hA : ∀ q, s.heap.size ≤ q → A q) (hRf : 60 ≤ R.frames) (hRl : 1691 ≤ R.locals) {post : Int32 → St → Prop} (hret : RetI p l e R s m args below meth c Q 0 0 wM G A cX12_fault post) (x1 : Int32) (z0 : St) (hB : B_M_fault_28 post x1 z0) : Xw p l e R s m args below meth c Q 0 0 wM G A z0 2 [(0, .ref (ad G 100)), (1, .int x1)] 28 [] := by
  intro H locs ls hP hD hS hl
  have hx := S.1
  have hb := S.2.1
  refine lv_iload_n hx hb dX12_fault_28 rfl (lv_at hl 1 rfl) ?_
  refine lv_iconst (v := 1) hx hb dX12_fault_29 (by decide) ?_
  refine lv_icmp_ne (tgt := 46) hx hb dX12_fault_30 (by decide) (fun c1 => ?_) (fun c1 => ?_)
  · have hB := hB.2 c1
    exact w_M_fault_46 S hE hA hRf hRl hret x1 z0 hB _ _ _ hP hD hS (lv_sub hl [0, 1] rfl)
  · have hB := hB.1 c1
    refine lv_aload_n hx hb dX12_fault_33 rfl (lv_at hl 0 rfl) ?_
    refine lv_aload_n hx hb dX12_fault_34 rfl (lv_at hl 0 rfl) ?_
    refine xMg_100_tape S hE hP lk_X12_9 dX12_fault_35 ?_
    refine lv_iconst (v := 0) hx hb dX12_fault_38 (by decide) ?_
    refine lv_aload_n hx hb dX12_fault_39 rfl (lv_at hl 0 rfl) ?_
    refine xMg_100_length S hE hP lk_X12_102 dX12_fault_40 ?_
    refine xcVv [.ref (ad G 101), .int (0 : Int32), .int (gI z0 101)] S hE hA hP hD hS (c_M_goThrough_r101 l G z0 H.size (0 : Int32) (gI z0 101) _) hB (gw_c lk_X12_267 (gw_c wi_X12_goThrough (gw_c we_X12_X12_goThrough_X12_goThrough (gw_c wn_X12 (gw_c wc_X12_goThrough (fun _ h9 => h9)))))) hd_X12_goThrough rfl rfl (Nat.le_trans (Nat.le_of_ble_eq_true rfl) hRf) (Nat.le_trans (Nat.le_of_ble_eq_true rfl) hRl) ⟨Nat.zero_le _, Nat.zero_le _⟩ (va_recv hE.1 hP (ci := 11) (q0 := 0) rfl rfl) rfl hl.1 rfl (Nat.le_of_ble_eq_true rfl) dX12_fault_43 (fun z1 H locs hB hP hD hS => ?_)
    exact w_M_fault_46 S hE hA hRf hRl hret x1 z1 hB _ _ _ hP hD hS (lv_sub hl [0, 1] rfl)
def S_M_fault (post : Int32 → St → Prop) (x1 : Int32) (z0 : St) : Prop :=
  (∀ z1 : St, z1 = sI z0 100 (0 : Int32) → (S_M_isIn (fun (r1 : Int32) (z2 : St) => ((r1 = 0 → (post (-2 : Int32) z2)) ∧ (¬ r1 = 0 → ((x1 = 0 → (S_M_readHouse (fun (z3 : St) => (B_M_fault_28 post x1 z3)) z2)) ∧ (¬ x1 = 0 → (B_M_fault_28 post x1 z2)))))) ((x1).toInt64) (0 : Int64) (2 : Int64) z1))
set_option maxHeartbeats 4000000 in
set_option maxRecDepth 100000 in
theorem w_M_fault_0 {p : Program} {l : Launch} {e : Env} {R : Room} {s : State} {m : MethodId} {args : Array Value} {below : List Frame} {meth : Method} {c : Code} {Q : State → Prop} {G : GX} {A : Nat → Prop} (S : CallFix p m c cX12_fault 2 s args GW RX12) (hE : env G A s s.heap) (hA : ∀ q, s.heap.size ≤ q → A q) (hRf : 60 ≤ R.frames) (hRl : 1691 ≤ R.locals) {post : Int32 → St → Prop} (hret : RetI p l e R s m args below meth c Q 0 0 wM G A cX12_fault post) (x1 : Int32) (z0 : St) (hB : S_M_fault post x1 z0) : Xw p l e R s m args below meth c Q 0 0 wM G A z0 2 [(0, .ref (ad G 100)), (1, .int x1)] 0 [] := by
  intro H locs ls hP hD hS hl
  have hx := S.1
  have hb := S.2.1
  refine lv_aload_n hx hb dX12_fault_0 rfl (lv_at hl 0 rfl) ?_
  refine lv_iconst (v := 0) hx hb dX12_fault_1 (by decide) ?_
  obtain ⟨z1, ez1⟩ : ∃ z9, z9 = sI z0 100 (0 : Int32) := ⟨_, rfl⟩
  have hB := hB z1 ez1
  refine xMp_100_thrown S hE hP hD hS lk_X12_89 dX12_fault_2 (fun H locs hP hD hS => ?_)
  rw [← ez1] at hP hD
  refine lv_iload_n hx hb dX12_fault_5 rfl (lv_at hl 1 rfl) ?_
  refine lv_i2l hx hb dX12_fault_6 rfl ?_
  refine lv_lconst (v := 0) hx hb dX12_fault_7 (by decide) ?_
  refine lv_ldc2 hx hb S.2.2.2.1 (S.2.2.2.2 _ lk_X12_258) dX12_fault_8 ?_
  refine xcSi [.long ((x1).toInt64), .long (0 : Int64), .long (2 : Int64)] S hE hA hP hD hS (c_M_isIn l G z1 H.size ((x1).toInt64) (0 : Int64) (2 : Int64) _) hB (gw_c lk_X12_260 (gw_c wt_X12_isIn (gw_c wn_X12 (gw_c wc_X12_isIn (fun _ h9 => h9))))) hs_X12_isIn rfl rfl (Nat.le_trans (Nat.le_of_ble_eq_true rfl) hRf) (Nat.le_trans (Nat.le_of_ble_eq_true rfl) hRl) ⟨Nat.zero_le _, Nat.zero_le _⟩ rfl hl.1 rfl (Nat.le_of_ble_eq_true rfl) dX12_fault_11 (fun r1 z2 H locs hB hP hD hS => ?_)
  refine lv_if_ne (tgt := 20) hx hb dX12_fault_14 (by decide) (fun c2 => ?_) (fun c2 => ?_)
  · have hB := hB.2 c2
    refine lv_iload_n hx hb dX12_fault_20 rfl (lv_at hl 1 rfl) ?_
    refine lv_if_ne (tgt := 28) hx hb dX12_fault_21 (by decide) (fun c3 => ?_) (fun c3 => ?_)
    · have hB := hB.2 c3
      exact w_M_fault_28 S hE hA hRf hRl hret x1 z2 hB _ _ _ hP hD hS (lv_sub hl [0, 1] rfl)
    · have hB := hB.1 c3
      refine lv_aload_n hx hb dX12_fault_24 rfl (lv_at hl 0 rfl) ?_
      refine xcVv [] S hE hA hP hD hS (c_M_readHouse l G z2 H.size _) hB (gw_c lk_X12_264 (gw_c wi_X12_readHouse (gw_c we_X12_X12_readHouse_X12_readHouse (gw_c wn_X12 (gw_c wc_X12_readHouse (fun _ h9 => h9)))))) hd_X12_readHouse rfl rfl (Nat.le_trans (Nat.le_of_ble_eq_true rfl) hRf) (Nat.le_trans (Nat.le_of_ble_eq_true rfl) hRl) ⟨Nat.zero_le _, Nat.zero_le _⟩ (va_recv hE.1 hP (ci := 11) (q0 := 0) rfl rfl) rfl hl.1 rfl (Nat.le_of_ble_eq_true rfl) dX12_fault_25 (fun z3 H locs hB hP hD hS => ?_)
      exact w_M_fault_28 S hE hA hRf hRl hret x1 z3 hB _ _ _ hP hD hS (lv_sub hl [0, 1] rfl)
  · have hB := hB.1 c2
    refine lv_bipush (v := -2) hx hb dX12_fault_17 (by decide) ?_
    exact hret _ _ _ _ _ _ dX12_fault_19 hB hP hD hS
set_option maxHeartbeats 4000000 in
set_option maxRecDepth 100000 in
theorem c_M_fault (l : Launch) (G : GX) (z0 : St) (sz : Nat) (x1 : Int32) (post : Int32 → St → Prop) : MetI l wM yX12_fault cX12_fault 2 (some .int) ({ frames := 60, cells := 0, slots := 0, locals := 1691 }) [.ref (ad G 100), .int x1] G z0 sz (S_M_fault post x1 z0) post := by
  refine Met.ofW (cc := cX12_fault) (maxL := 2) (ret := (some .int)) (by decide) rfl ?_
  intro p e s m args below meth c s₁ B hml hv
  obtain ⟨rfl, hsz, hP, hD0, hE, hB⟩ := hv
  have S : CallFix p m c cX12_fault 2 s _ GW RX12 := ⟨B.exec, B.bytes, hml, findClass_of_methodNamed B.named, fun w h => atoms_spec (ws := Cond.code yX12_fault cX12_fault 2 (some .int) :: GW) B.pre w (List.mem_cons_of_mem _ h)⟩
  have hlocks := B.notSynchronized
  subst hsz
  have hD := hD0.self (sz := s.heap.size)
  generalize hAe : va_A (wM G z0) s.heap.size = A at hD hE ⊢
  have hA : ∀ q : Nat, s.heap.size ≤ q → A q := fun q h => by rw [← hAe]; exact Or.inr h
  have hS : va_S A s.heap s.heap [] := va_S.rf
  have hl := lv_entry ([.ref (ad G 100), .int x1]) (n := 2) (Nat.le_of_ble_eq_true rfl)
  rw [lg_entry_eq]
  generalize (lg_sl ([.ref (ad G 100), .int x1]) ++ List.replicate (2 - (lg_sl ([.ref (ad G 100), .int x1])).length) Slot.unset).toArray = ls at hl ⊢
  have hl : lv_has ls 2 [(0, .ref (ad G 100)), (1, .int x1)] := hl
  refine w_M_fault_0 S hE hA (Nat.le_refl _) (Nat.le_refl _) ?_ x1 z0 hB _ _ _ hP hD hS hl
  intro pc ls r σ H locs hd hp hP hD hS
  exact W.iret (v := r) B.exec B.bytes B.returns (fun t ht hW => ⟨⟨r, σ, rfl, hp, by rw [ht]; exact hP, hD⟩, hS.F ht⟩) hS.2.2 hd
