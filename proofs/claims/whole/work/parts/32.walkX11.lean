def B_B_perform_29 (post : Int32 → St → Prop) (ih29 : Nat → Int32 → Int32 → St → Prop) (x2 : Nat) (x2j : Int32) (x3 : Int32) (z0 : St) : Prop :=
  (vp_in x2j 4 ∧ x2 = gZ z0 (0 + x2j.toNatClampNeg) ∧ (((Int32.ofNat (gZ z0 (8 + (0 + x2j.toNatClampNeg)))) ≤ x3 → (vp_in x2j 4 ∧ x2 = gZ z0 (0 + x2j.toNatClampNeg) ∧ (post (Int32.ofNat (gZ z0 (8 + (0 + x2j.toNatClampNeg)))) z0))) ∧ (¬ (Int32.ofNat (gZ z0 (8 + (0 + x2j.toNatClampNeg)))) ≤ x3 → (vp_in x2j 4 ∧ x2 = gZ z0 (0 + x2j.toNatClampNeg) ∧ vp_in x3 (gZ z0 (8 + (0 + x2j.toNatClampNeg))) ∧ (vp_in x2j 4 ∧ x2 = gZ z0 (0 + x2j.toNatClampNeg) ∧ vp_in x3 (gZ z0 (8 + (0 + x2j.toNatClampNeg))) ∧ (S_B_act (fun (r2 : Int32) (z1 : St) => ((r2 = 0 → (post x3 z1)) ∧ (¬ r2 = 0 → (∀ v4 : Int32, v4 = x3 + (1 : Int32) → (ih29 x2 x2j v4 z1))))) ((gA z0 (32 + (0 + x2j.toNatClampNeg)) x3.toNatClampNeg) / (10 : Int32)) ((gA z0 (32 + (0 + x2j.toNatClampNeg)) x3.toNatClampNeg) - (gA z0 (32 + (0 + x2j.toNatClampNeg)) x3.toNatClampNeg) / (10 : Int32) * (10 : Int32)) z0))))))
set_option maxHeartbeats 4000000 in
set_option maxRecDepth 100000 in
theorem w_B_perform_29 {p : Program} {l : Launch} {e : Env} {R : Room} {s : State} {m : MethodId} {args : Array Value} {below : List Frame} {meth : Method} {c : Code} {Q : State → Prop} {G : GX} {A : Nat → Prop} (S : CallFix p m c cX11_perform 4 s args GW RX11) (hE : env G A s s.heap) (hA : ∀ q, s.heap.size ≤ q → A q) (hRf : 6 ≤ R.frames) (hRl : 148 ≤ R.locals) {post : Int32 → St → Prop} (hret : RetI p l e R s m args below meth c Q 0 0 wX G A cX11_perform post) {ih29 : Nat → Int32 → Int32 → St → Prop} (h29 : ∀ (x2 : Nat) (x2j : Int32) (x3 : Int32) (z0 : St), ih29 x2 x2j x3 z0 → Xw p l e R s m args below meth c Q 0 0 wX G A z0 4 [(0, .ref (ad G 0)), (2, .ref x2), (3, .int x3)] 29 []) (x2 : Nat) (x2j : Int32) (x3 : Int32) (z0 : St) (hB : B_B_perform_29 post ih29 x2 x2j x3 z0) : Xw p l e R s m args below meth c Q 0 0 wX G A z0 4 [(0, .ref (ad G 0)), (2, .ref x2), (3, .int x3)] 29 [] := by
  intro H locs ls hP hD hS hl
  have hx := S.1
  have hb := S.2.1
  refine lv_iload_n hx hb dX11_perform_29 rfl (lv_at hl 2 rfl) ?_
  refine lv_aload_n hx hb dX11_perform_30 rfl (lv_at hl 1 rfl) ?_
  obtain ⟨hj, ha9, hB⟩ := hB
  refine xXdn S hE hP (show 0 + x2j.toNatClampNeg < 8 by have := vin_lt hj; omega) ha9 dX11_perform_31 ?_
  refine lv_icmp_ge (tgt := 62) hx hb dX11_perform_32 (by decide) (fun c1 => ?_) (fun c1 => ?_)
  · have hB := hB.1 c1
    refine lv_aload_n hx hb dX11_perform_62 rfl (lv_at hl 1 rfl) ?_
    obtain ⟨hj, ha9, hB⟩ := hB
    refine xXdn S hE hP (show 0 + x2j.toNatClampNeg < 8 by have := vin_lt hj; omega) ha9 dX11_perform_63 ?_
    exact hret _ _ _ _ _ _ dX11_perform_64 hB hP hD hS
  · have hB := hB.2 c1
    refine lv_aload_n hx hb dX11_perform_35 rfl (lv_at hl 0 rfl) ?_
    refine lv_aload_n hx hb dX11_perform_36 rfl (lv_at hl 1 rfl) ?_
    refine lv_iload_n hx hb dX11_perform_37 rfl (lv_at hl 2 rfl) ?_
    obtain ⟨hj, ha9, hi, hB⟩ := hB
    refine xXd S hE hP (show 0 + x2j.toNatClampNeg < 8 by have := vin_lt hj; omega) ha9 hi dX11_perform_38 ?_
    refine lv_bipush (v := 10) hx hb dX11_perform_39 (by decide) ?_
    refine lv_idiv hx hb dX11_perform_41 (by decide) ?_
    refine lv_aload_n hx hb dX11_perform_42 rfl (lv_at hl 1 rfl) ?_
    refine lv_iload_n hx hb dX11_perform_43 rfl (lv_at hl 2 rfl) ?_
    obtain ⟨hj, ha9, hi, hB⟩ := hB
    refine xXd S hE hP (show 0 + x2j.toNatClampNeg < 8 by have := vin_lt hj; omega) ha9 hi dX11_perform_44 ?_
    refine lv_bipush (v := 10) hx hb dX11_perform_45 (by decide) ?_
    refine lv_irem hx hb dX11_perform_47 (by decide) ?_
    refine xcVi [.int ((gA z0 (32 + (0 + x2j.toNatClampNeg)) x3.toNatClampNeg) / (10 : Int32)), .int ((gA z0 (32 + (0 + x2j.toNatClampNeg)) x3.toNatClampNeg) - (gA z0 (32 + (0 + x2j.toNatClampNeg)) x3.toNatClampNeg) / (10 : Int32) * (10 : Int32))] S hE hA hP hD hS (c_B_act l G z0 H.size ((gA z0 (32 + (0 + x2j.toNatClampNeg)) x3.toNatClampNeg) / (10 : Int32)) ((gA z0 (32 + (0 + x2j.toNatClampNeg)) x3.toNatClampNeg) - (gA z0 (32 + (0 + x2j.toNatClampNeg)) x3.toNatClampNeg) / (10 : Int32) * (10 : Int32)) _) hB (gw_c lk_X11_199 (gw_c wi_X11_act (gw_c we_X11_X11_act_X11_act (gw_c wn_X11 (gw_c wc_X11_act (fun _ h9 => h9)))))) hd_X11_act rfl rfl (Nat.le_trans (Nat.le_of_ble_eq_true rfl) hRf) (Nat.le_trans (Nat.le_of_ble_eq_true rfl) hRl) ⟨Nat.zero_le _, Nat.zero_le _⟩ (va_recv hE.1 hP (ci := 10) (q0 := 0) rfl rfl) rfl hl.1 rfl (Nat.le_of_ble_eq_true rfl) dX11_perform_48 (fun r2 z1 H locs hB hP hD hS => ?_)
    refine lv_if_ne (tgt := 56) hx hb dX11_perform_51 (by decide) (fun c3 => ?_) (fun c3 => ?_)
    · have hB := hB.2 c3
      obtain ⟨v4, ev4⟩ : ∃ y9, y9 = x3 + (1 : Int32) := ⟨_, rfl⟩
      have hB := hB v4 ev4
      refine lv_iinc (v := v4) (lv' := [(3, .int v4), (0, .ref (ad G 0)), (2, .ref x2)]) hx hb dX11_perform_56 hl (k := 2) rfl (by rw [ev4]; rfl) (by decide) rfl (fun ls hl => ?_)
      refine lv_goto (tgt := 29) hx hb dX11_perform_59 (by decide) ?_
      exact h29 x2 x2j v4 z1 hB _ _ _ hP hD hS (lv_sub hl [1, 2, 0] rfl)
    · have hB := hB.1 c3
      refine lv_iload_n hx hb dX11_perform_54 rfl (lv_at hl 2 rfl) ?_
      exact hret _ _ _ _ _ _ dX11_perform_55 hB hP hD hS
def L_B_perform_29 (post : Int32 → St → Prop) : Nat → Nat → Int32 → Int32 → St → Prop
  | 0 => fun _ _ _ _ => False
  | n + 1 => B_B_perform_29 post (L_B_perform_29 post n)
theorem wl_B_perform_29 {p : Program} {l : Launch} {e : Env} {R : Room} {s : State} {m : MethodId} {args : Array Value} {below : List Frame} {meth : Method} {c : Code} {Q : State → Prop} {G : GX} {A : Nat → Prop} (S : CallFix p m c cX11_perform 4 s args GW RX11) (hE : env G A s s.heap) (hA : ∀ q, s.heap.size ≤ q → A q) (hRf : 6 ≤ R.frames) (hRl : 148 ≤ R.locals) {post : Int32 → St → Prop} (hret : RetI p l e R s m args below meth c Q 0 0 wX G A cX11_perform post) : ∀ (n : Nat) (x2 : Nat) (x2j : Int32) (x3 : Int32) (z0 : St), L_B_perform_29 post n x2 x2j x3 z0 → Xw p l e R s m args below meth c Q 0 0 wX G A z0 4 [(0, .ref (ad G 0)), (2, .ref x2), (3, .int x3)] 29 [] := by
  intro n
  induction n with
  | zero => intro x2 x2j x3 z0 hB; exact absurd hB id
  | succ n ih => exact fun x2 x2j x3 z0 hB => w_B_perform_29 S hE hA hRf hRl hret ih x2 x2j x3 z0 hB
def S_B_perform (post : Int32 → St → Prop) (x1 : Int32) (z0 : St) : Prop :=
  (S_House_isTold (fun (r1 : Int32) (z1 : St) => ((r1 = 0 → (post (-1 : Int32) z1)) ∧ (¬ r1 = 0 → (S_B_hasWinter (fun (r3 : Int32) (z2 : St) => ((r3 = 0 → (post (-1 : Int32) z2)) ∧ (¬ r3 = 0 → (vp_in x1 4 ∧ ∀ a5 : Nat, a5 = gZ z2 (0 + x1.toNatClampNeg) → (∃ n6, L_B_perform_29 post n6 a5 x1 (0 : Int32) z2))))) x1 z1)))) z0)
set_option maxHeartbeats 4000000 in
set_option maxRecDepth 100000 in
theorem w_B_perform_0 {p : Program} {l : Launch} {e : Env} {R : Room} {s : State} {m : MethodId} {args : Array Value} {below : List Frame} {meth : Method} {c : Code} {Q : State → Prop} {G : GX} {A : Nat → Prop} (S : CallFix p m c cX11_perform 4 s args GW RX11) (hE : env G A s s.heap) (hA : ∀ q, s.heap.size ≤ q → A q) (hRf : 6 ≤ R.frames) (hRl : 148 ≤ R.locals) {post : Int32 → St → Prop} (hret : RetI p l e R s m args below meth c Q 0 0 wX G A cX11_perform post) (x1 : Int32) (z0 : St) (hB : S_B_perform post x1 z0) : Xw p l e R s m args below meth c Q 0 0 wX G A z0 4 [(0, .ref (ad G 0)), (1, .int x1)] 0 [] := by
  intro H locs ls hP hD hS hl
  have hx := S.1
  have hb := S.2.1
  refine lv_aload_n hx hb dX11_perform_0 rfl (lv_at hl 0 rfl) ?_
  refine xXg_0_house S hE hP lk_X11_64 dX11_perform_1 ?_
  refine xcVi [] S hE hA hP hD hS (c_House_isTold l G z0 H.size _) hB (gw_c lk_X11_147 (gw_c wi_X0_isTold (gw_c we_X0_X0_isTold_X0_isTold (gw_c wn_X0 (gw_c wc_X0_isTold (fun _ h9 => h9)))))) hd_X0_isTold rfl rfl (Nat.le_trans (Nat.le_of_ble_eq_true rfl) hRf) (Nat.le_trans (Nat.le_of_ble_eq_true rfl) hRl) ⟨Nat.zero_le _, Nat.zero_le _⟩ (va_recv hE.1 hP (ci := 0) (q0 := 6) rfl rfl) rfl hl.1 rfl (Nat.le_of_ble_eq_true rfl) dX11_perform_4 (fun r1 z1 H locs hB hP hD hS => ?_)
  refine lv_if_eq (tgt := 18) hx hb dX11_perform_7 (by decide) (fun c2 => ?_) (fun c2 => ?_)
  · have hB := hB.1 c2
    refine lv_iconst (v := -1) hx hb dX11_perform_18 (by decide) ?_
    exact hret _ _ _ _ _ _ dX11_perform_19 hB hP hD hS
  · have hB := hB.2 c2
    refine lv_aload_n hx hb dX11_perform_10 rfl (lv_at hl 0 rfl) ?_
    refine lv_iload_n hx hb dX11_perform_11 rfl (lv_at hl 1 rfl) ?_
    refine xcVi [.int x1] S hE hA hP hD hS (c_B_hasWinter l G z1 H.size x1 _) hB (gw_c lk_X11_269 (gw_c wi_X11_hasWinter (gw_c we_X11_X11_hasWinter_X11_hasWinter (gw_c wn_X11 (gw_c wc_X11_hasWinter (fun _ h9 => h9)))))) hd_X11_hasWinter rfl rfl (Nat.le_trans (Nat.le_of_ble_eq_true rfl) hRf) (Nat.le_trans (Nat.le_of_ble_eq_true rfl) hRl) ⟨Nat.zero_le _, Nat.zero_le _⟩ (va_recv hE.1 hP (ci := 10) (q0 := 0) rfl rfl) rfl hl.1 rfl (Nat.le_of_ble_eq_true rfl) dX11_perform_12 (fun r3 z2 H locs hB hP hD hS => ?_)
    refine lv_if_ne (tgt := 20) hx hb dX11_perform_15 (by decide) (fun c4 => ?_) (fun c4 => ?_)
    · have hB := hB.2 c4
      refine lv_aload_n hx hb dX11_perform_20 rfl (lv_at hl 0 rfl) ?_
      refine xXg_0_winters S hE hP lk_X11_39 dX11_perform_21 ?_
      refine lv_iload_n hx hb dX11_perform_24 rfl (lv_at hl 1 rfl) ?_
      obtain ⟨hi, hB⟩ := hB
      refine xXo_17 S hE hP hi dX11_perform_25 ?_
      obtain ⟨a5, ea5⟩ : ∃ y9, y9 = gZ z2 (0 + x1.toNatClampNeg) := ⟨_, rfl⟩
      have hB := hB a5 ea5
      rw [← ea5]
      refine lv_astore_n (lv' := [(2, .ref a5), (0, .ref (ad G 0)), (1, .int x1)]) hx hb dX11_perform_26 rfl hl (by decide) rfl (fun ls hl => ?_)
      refine lv_iconst (v := 0) hx hb dX11_perform_27 (by decide) ?_
      refine lv_istore_n (lv' := [(3, .int (0 : Int32)), (2, .ref a5), (0, .ref (ad G 0)), (1, .int x1)]) hx hb dX11_perform_28 rfl hl (by decide) rfl (fun ls hl => ?_)
      obtain ⟨n6, hB⟩ := hB
      exact wl_B_perform_29 S hE hA hRf hRl hret n6 a5 x1 (0 : Int32) z2 hB _ _ _ hP hD hS (lv_sub hl [2, 1, 0] rfl)
    · have hB := hB.1 c4
      refine lv_iconst (v := -1) hx hb dX11_perform_18 (by decide) ?_
      exact hret _ _ _ _ _ _ dX11_perform_19 hB hP hD hS
set_option maxHeartbeats 4000000 in
set_option maxRecDepth 100000 in
theorem c_B_perform (l : Launch) (G : GX) (z0 : St) (sz : Nat) (x1 : Int32) (post : Int32 → St → Prop) : MetI l wX yX11_perform cX11_perform 4 (some .int) ({ frames := 6, cells := 0, slots := 0, locals := 148 }) [.ref (ad G 0), .int x1] G z0 sz (S_B_perform post x1 z0) post := by
  refine Met.ofW (cc := cX11_perform) (maxL := 4) (ret := (some .int)) (by decide) rfl ?_
  intro p e s m args below meth c s₁ B hml hv
  obtain ⟨rfl, hsz, hP, hD0, hE, hB⟩ := hv
  have S : CallFix p m c cX11_perform 4 s _ GW RX11 := ⟨B.exec, B.bytes, hml, findClass_of_methodNamed B.named, fun w h => atoms_spec (ws := Cond.code yX11_perform cX11_perform 4 (some .int) :: GW) B.pre w (List.mem_cons_of_mem _ h)⟩
  have hlocks := B.notSynchronized
  subst hsz
  have hD := hD0.self (sz := s.heap.size)
  generalize hAe : va_A (wX G z0) s.heap.size = A at hD hE ⊢
  have hA : ∀ q : Nat, s.heap.size ≤ q → A q := fun q h => by rw [← hAe]; exact Or.inr h
  have hS : va_S A s.heap s.heap [] := va_S.rf
  have hl := lv_entry ([.ref (ad G 0), .int x1]) (n := 4) (Nat.le_of_ble_eq_true rfl)
  rw [lg_entry_eq]
  generalize (lg_sl ([.ref (ad G 0), .int x1]) ++ List.replicate (4 - (lg_sl ([.ref (ad G 0), .int x1])).length) Slot.unset).toArray = ls at hl ⊢
  have hl : lv_has ls 4 [(0, .ref (ad G 0)), (1, .int x1)] := hl
  refine w_B_perform_0 S hE hA (Nat.le_refl _) (Nat.le_refl _) ?_ x1 z0 hB _ _ _ hP hD hS hl
  intro pc ls r σ H locs hd hp hP hD hS
  exact W.iret (v := r) B.exec B.bytes B.returns (fun t ht hW => ⟨⟨r, σ, rfl, hp, by rw [ht]; exact hP, hD⟩, hS.F ht⟩) hS.2.2 hd
def S_Rows_forget (post : St → Prop) (z0 : St) : Prop :=
  (∀ z1 : St, z1 = sI z0 36 (0 : Int32) → (∀ z2 : St, z2 = sI z1 37 (-1 : Int32) → (∀ z3 : St, z3 = sI z2 38 (0 : Int32) → (∀ z4 : St, z4 = sI z3 39 (0 : Int32) → (∀ z5 : St, z5 = sI z4 40 (0 : Int32) → (post z5))))))
set_option maxHeartbeats 4000000 in
set_option maxRecDepth 100000 in
theorem w_Rows_forget_0 {p : Program} {l : Launch} {e : Env} {R : Room} {s : State} {m : MethodId} {args : Array Value} {below : List Frame} {meth : Method} {c : Code} {Q : State → Prop} {G : GX} {A : Nat → Prop} (S : CallFix p m c cX6_forget 1 s args GW RX6) (hE : env G A s s.heap) (hA : ∀ q, s.heap.size ≤ q → A q) (hRf : 0 ≤ R.frames) (hRl : 0 ≤ R.locals) {post : St → Prop} (hret : RetV p l e R s m args below meth c Q 0 0 wX G A cX6_forget post) (z0 : St) (hB : S_Rows_forget post z0) : Xw p l e R s m args below meth c Q 0 0 wX G A z0 1 [(0, .ref (ad G 10))] 0 [] := by
  intro H locs ls hP hD hS hl
  have hx := S.1
  have hb := S.2.1
  refine lv_aload_n hx hb dX6_forget_0 rfl (lv_at hl 0 rfl) ?_
  refine lv_iconst (v := 0) hx hb dX6_forget_1 (by decide) ?_
  obtain ⟨z1, ez1⟩ : ∃ z9, z9 = sI z0 36 (0 : Int32) := ⟨_, rfl⟩
  have hB := hB z1 ez1
  refine xXp_10_topRow S hE hP hD hS lk_X6_54 dX6_forget_2 (fun H locs hP hD hS => ?_)
  rw [← ez1] at hP hD
  refine lv_aload_n hx hb dX6_forget_5 rfl (lv_at hl 0 rfl) ?_
  refine lv_iconst (v := -1) hx hb dX6_forget_6 (by decide) ?_
  obtain ⟨z2, ez2⟩ : ∃ z9, z9 = sI z1 37 (-1 : Int32) := ⟨_, rfl⟩
  have hB := hB z2 ez2
  refine xXp_10_topJoy S hE hP hD hS lk_X6_57 dX6_forget_7 (fun H locs hP hD hS => ?_)
  rw [← ez2] at hP hD
  refine lv_aload_n hx hb dX6_forget_10 rfl (lv_at hl 0 rfl) ?_
  refine lv_iconst (v := 0) hx hb dX6_forget_11 (by decide) ?_
  obtain ⟨z3, ez3⟩ : ∃ z9, z9 = sI z2 38 (0 : Int32) := ⟨_, rfl⟩
  have hB := hB z3 ez3
  refine xXp_10_hits S hE hP hD hS lk_X6_60 dX6_forget_12 (fun H locs hP hD hS => ?_)
  rw [← ez3] at hP hD
  refine lv_aload_n hx hb dX6_forget_15 rfl (lv_at hl 0 rfl) ?_
  refine lv_iconst (v := 0) hx hb dX6_forget_16 (by decide) ?_
  obtain ⟨z4, ez4⟩ : ∃ z9, z9 = sI z3 39 (0 : Int32) := ⟨_, rfl⟩
  have hB := hB z4 ez4
  refine xXp_10_hitRow S hE hP hD hS lk_X6_63 dX6_forget_17 (fun H locs hP hD hS => ?_)
  rw [← ez4] at hP hD
  refine lv_aload_n hx hb dX6_forget_20 rfl (lv_at hl 0 rfl) ?_
  refine lv_iconst (v := 0) hx hb dX6_forget_21 (by decide) ?_
  obtain ⟨z5, ez5⟩ : ∃ z9, z9 = sI z4 40 (0 : Int32) := ⟨_, rfl⟩
  have hB := hB z5 ez5
  refine xXp_10_hitParts S hE hP hD hS lk_X6_66 dX6_forget_22 (fun H locs hP hD hS => ?_)
  rw [← ez5] at hP hD
  exact hret _ _ _ _ _ dX6_forget_25 hB hP hD hS
set_option maxHeartbeats 4000000 in
set_option maxRecDepth 100000 in
theorem c_Rows_forget (l : Launch) (G : GX) (z0 : St) (sz : Nat) (post : St → Prop) : MetV l wX yX6_forget cX6_forget 1 none ({ frames := 0, cells := 0, slots := 0, locals := 0 }) [.ref (ad G 10)] G z0 sz (S_Rows_forget post z0) post := by
  refine Met.ofW (cc := cX6_forget) (maxL := 1) (ret := none) (by decide) rfl ?_
  intro p e s m args below meth c s₁ B hml hv
  obtain ⟨rfl, hsz, hP, hD0, hE, hB⟩ := hv
  have S : CallFix p m c cX6_forget 1 s _ GW RX6 := ⟨B.exec, B.bytes, hml, findClass_of_methodNamed B.named, fun w h => atoms_spec (ws := Cond.code yX6_forget cX6_forget 1 none :: GW) B.pre w (List.mem_cons_of_mem _ h)⟩
  have hlocks := B.notSynchronized
  subst hsz
  have hD := hD0.self (sz := s.heap.size)
  generalize hAe : va_A (wX G z0) s.heap.size = A at hD hE ⊢
  have hA : ∀ q : Nat, s.heap.size ≤ q → A q := fun q h => by rw [← hAe]; exact Or.inr h
  have hS : va_S A s.heap s.heap [] := va_S.rf
  have hl := lv_entry ([.ref (ad G 10)]) (n := 1) (Nat.le_of_ble_eq_true rfl)
  rw [lg_entry_eq]
  generalize (lg_sl ([.ref (ad G 10)]) ++ List.replicate (1 - (lg_sl ([.ref (ad G 10)])).length) Slot.unset).toArray = ls at hl ⊢
  have hl : lv_has ls 1 [(0, .ref (ad G 10))] := hl
  refine w_Rows_forget_0 S hE hA (Nat.le_refl _) (Nat.le_refl _) ?_  z0 hB _ _ _ hP hD hS hl
  intro pc ls σ H locs hd hp hP hD hS
  exact W.vret B.exec B.bytes B.returns (fun t ht hW => ⟨⟨σ, rfl, hp, by rw [ht]; exact hP, hD⟩, hS.F ht⟩) hS.2.2 hd
def S_Rows_weigh (post : St → Prop) (x1 : Int32) (x2 : Int32) (z0 : St) : Prop :=
  ((x2 ≤ (gI z0 37) → (post z0)) ∧ (¬ x2 ≤ (gI z0 37) → (∀ z1 : St, z1 = sI z0 37 x2 → (∀ z2 : St, z2 = sI z1 36 x1 → (post z2)))))
set_option maxHeartbeats 4000000 in
set_option maxRecDepth 100000 in
theorem w_Rows_weigh_0 {p : Program} {l : Launch} {e : Env} {R : Room} {s : State} {m : MethodId} {args : Array Value} {below : List Frame} {meth : Method} {c : Code} {Q : State → Prop} {G : GX} {A : Nat → Prop} (S : CallFix p m c cX6_weigh 3 s args GW RX6) (hE : env G A s s.heap) (hA : ∀ q, s.heap.size ≤ q → A q) (hRf : 0 ≤ R.frames) (hRl : 0 ≤ R.locals) {post : St → Prop} (hret : RetV p l e R s m args below meth c Q 0 0 wX G A cX6_weigh post) (x1 : Int32) (x2 : Int32) (z0 : St) (hB : S_Rows_weigh post x1 x2 z0) : Xw p l e R s m args below meth c Q 0 0 wX G A z0 3 [(0, .ref (ad G 10)), (1, .int x1), (2, .int x2)] 0 [] := by
  intro H locs ls hP hD hS hl
  have hx := S.1
  have hb := S.2.1
  refine lv_iload_n hx hb dX6_weigh_0 rfl (lv_at hl 2 rfl) ?_
  refine lv_aload_n hx hb dX6_weigh_1 rfl (lv_at hl 0 rfl) ?_
  refine xXg_10_topJoy S hE hP lk_X6_57 dX6_weigh_2 ?_
  refine lv_icmp_le (tgt := 18) hx hb dX6_weigh_5 (by decide) (fun c1 => ?_) (fun c1 => ?_)
  · have hB := hB.1 c1
    exact hret _ _ _ _ _ dX6_weigh_18 hB hP hD hS
  · have hB := hB.2 c1
    refine lv_aload_n hx hb dX6_weigh_8 rfl (lv_at hl 0 rfl) ?_
    refine lv_iload_n hx hb dX6_weigh_9 rfl (lv_at hl 2 rfl) ?_
    obtain ⟨z1, ez1⟩ : ∃ z9, z9 = sI z0 37 x2 := ⟨_, rfl⟩
    have hB := hB z1 ez1
    refine xXp_10_topJoy S hE hP hD hS lk_X6_57 dX6_weigh_10 (fun H locs hP hD hS => ?_)
    rw [← ez1] at hP hD
    refine lv_aload_n hx hb dX6_weigh_13 rfl (lv_at hl 0 rfl) ?_
    refine lv_iload_n hx hb dX6_weigh_14 rfl (lv_at hl 1 rfl) ?_
    obtain ⟨z2, ez2⟩ : ∃ z9, z9 = sI z1 36 x1 := ⟨_, rfl⟩
    have hB := hB z2 ez2
    refine xXp_10_topRow S hE hP hD hS lk_X6_54 dX6_weigh_15 (fun H locs hP hD hS => ?_)
    rw [← ez2] at hP hD
    exact hret _ _ _ _ _ dX6_weigh_18 hB hP hD hS
set_option maxHeartbeats 4000000 in
set_option maxRecDepth 100000 in
theorem c_Rows_weigh (l : Launch) (G : GX) (z0 : St) (sz : Nat) (x1 : Int32) (x2 : Int32) (post : St → Prop) : MetV l wX yX6_weigh cX6_weigh 3 none ({ frames := 0, cells := 0, slots := 0, locals := 0 }) [.ref (ad G 10), .int x1, .int x2] G z0 sz (S_Rows_weigh post x1 x2 z0) post := by
  refine Met.ofW (cc := cX6_weigh) (maxL := 3) (ret := none) (by decide) rfl ?_
  intro p e s m args below meth c s₁ B hml hv
  obtain ⟨rfl, hsz, hP, hD0, hE, hB⟩ := hv
  have S : CallFix p m c cX6_weigh 3 s _ GW RX6 := ⟨B.exec, B.bytes, hml, findClass_of_methodNamed B.named, fun w h => atoms_spec (ws := Cond.code yX6_weigh cX6_weigh 3 none :: GW) B.pre w (List.mem_cons_of_mem _ h)⟩
  have hlocks := B.notSynchronized
  subst hsz
  have hD := hD0.self (sz := s.heap.size)
  generalize hAe : va_A (wX G z0) s.heap.size = A at hD hE ⊢
  have hA : ∀ q : Nat, s.heap.size ≤ q → A q := fun q h => by rw [← hAe]; exact Or.inr h
  have hS : va_S A s.heap s.heap [] := va_S.rf
  have hl := lv_entry ([.ref (ad G 10), .int x1, .int x2]) (n := 3) (Nat.le_of_ble_eq_true rfl)
  rw [lg_entry_eq]
  generalize (lg_sl ([.ref (ad G 10), .int x1, .int x2]) ++ List.replicate (3 - (lg_sl ([.ref (ad G 10), .int x1, .int x2])).length) Slot.unset).toArray = ls at hl ⊢
  have hl : lv_has ls 3 [(0, .ref (ad G 10)), (1, .int x1), (2, .int x2)] := hl
  refine w_Rows_weigh_0 S hE hA (Nat.le_refl _) (Nat.le_refl _) ?_ x1 x2 z0 hB _ _ _ hP hD hS hl
  intro pc ls σ H locs hd hp hP hD hS
  exact W.vret B.exec B.bytes B.returns (fun t ht hW => ⟨⟨σ, rfl, hp, by rw [ht]; exact hP, hD⟩, hS.F ht⟩) hS.2.2 hd
def S_Table_bottle_9 (post : Int32 → St → Prop) (z0 : St) : Prop :=
  (post (gA z0 24 0) z0)
set_option maxHeartbeats 4000000 in
set_option maxRecDepth 100000 in
theorem w_Table_bottle_9_0 {p : Program} {l : Launch} {e : Env} {R : Room} {s : State} {m : MethodId} {args : Array Value} {below : List Frame} {meth : Method} {c : Code} {Q : State → Prop} {G : GX} {A : Nat → Prop} (S : CallFix p m c cX8_bottle 1 s args GW RX8) (hE : env G A s s.heap) (hA : ∀ q, s.heap.size ≤ q → A q) (hRf : 0 ≤ R.frames) (hRl : 0 ≤ R.locals) {post : Int32 → St → Prop} (hret : RetI p l e R s m args below meth c Q 0 0 wX G A cX8_bottle post) (z0 : St) (hB : S_Table_bottle_9 post z0) : Xw p l e R s m args below meth c Q 0 0 wX G A z0 1 [(0, .ref (ad G 9))] 0 [] := by
  intro H locs ls hP hD hS hl
  have hx := S.1
  have hb := S.2.1
  refine lv_aload_n hx hb dX8_bottle_0 rfl (lv_at hl 0 rfl) ?_
  refine xXg_9_cells S hE hP lk_X8_11 dX8_bottle_1 ?_
  refine lv_iconst (v := 0) hx hb dX8_bottle_4 (by decide) ?_
  refine xXk_24 S hE hP 0 (by decide) (by unfold vp_in; decide) dX8_bottle_5 ?_
  exact hret _ _ _ _ _ _ dX8_bottle_6 hB hP hD hS
set_option maxHeartbeats 4000000 in
set_option maxRecDepth 100000 in
theorem c_Table_bottle_9 (l : Launch) (G : GX) (z0 : St) (sz : Nat) (post : Int32 → St → Prop) : MetI l wX yX8_bottle cX8_bottle 1 (some .int) ({ frames := 0, cells := 0, slots := 0, locals := 0 }) [.ref (ad G 9)] G z0 sz (S_Table_bottle_9 post z0) post := by
  refine Met.ofW (cc := cX8_bottle) (maxL := 1) (ret := (some .int)) (by decide) rfl ?_
  intro p e s m args below meth c s₁ B hml hv
  obtain ⟨rfl, hsz, hP, hD0, hE, hB⟩ := hv
  have S : CallFix p m c cX8_bottle 1 s _ GW RX8 := ⟨B.exec, B.bytes, hml, findClass_of_methodNamed B.named, fun w h => atoms_spec (ws := Cond.code yX8_bottle cX8_bottle 1 (some .int) :: GW) B.pre w (List.mem_cons_of_mem _ h)⟩
  have hlocks := B.notSynchronized
  subst hsz
  have hD := hD0.self (sz := s.heap.size)
  generalize hAe : va_A (wX G z0) s.heap.size = A at hD hE ⊢
  have hA : ∀ q : Nat, s.heap.size ≤ q → A q := fun q h => by rw [← hAe]; exact Or.inr h
  have hS : va_S A s.heap s.heap [] := va_S.rf
  have hl := lv_entry ([.ref (ad G 9)]) (n := 1) (Nat.le_of_ble_eq_true rfl)
  rw [lg_entry_eq]
  generalize (lg_sl ([.ref (ad G 9)]) ++ List.replicate (1 - (lg_sl ([.ref (ad G 9)])).length) Slot.unset).toArray = ls at hl ⊢
  have hl : lv_has ls 1 [(0, .ref (ad G 9))] := hl
  refine w_Table_bottle_9_0 S hE hA (Nat.le_refl _) (Nat.le_refl _) ?_  z0 hB _ _ _ hP hD hS hl
  intro pc ls r σ H locs hd hp hP hD hS
  exact W.iret (v := r) B.exec B.bytes B.returns (fun t ht hW => ⟨⟨r, σ, rfl, hp, by rw [ht]; exact hP, hD⟩, hS.F ht⟩) hS.2.2 hd
def B_Rows_strike_45 (post : St → Prop) (x2 : Int32) (z0 : St) : Prop :=
  (∀ z1 : St, z1 = sI z0 38 ((gI z0 38) + (1 : Int32)) → (∀ z2 : St, z2 = sI z1 40 ((gI z1 40) + x2) → (post z2)))
set_option maxHeartbeats 4000000 in
set_option maxRecDepth 100000 in
theorem w_Rows_strike_45 {p : Program} {l : Launch} {e : Env} {R : Room} {s : State} {m : MethodId} {args : Array Value} {below : List Frame} {meth : Method} {c : Code} {Q : State → Prop} {G : GX} {A : Nat → Prop} (S : CallFix p m c cX6_strike 4 s args GW RX6) (hE : env G A s s.heap) (hA : ∀ q, s.heap.size ≤ q → A q) (hRf : 1 ≤ R.frames) (hRl : 20 ≤ R.locals) {post : St → Prop} (hret : RetV p l e R s m args below meth c Q 0 0 wX G A cX6_strike post) (x2 : Int32) (z0 : St) (hB : B_Rows_strike_45 post x2 z0) : Xw p l e R s m args below meth c Q 0 0 wX G A z0 4 [(0, .ref (ad G 10)), (2, .int x2)] 45 [] := by
  intro H locs ls hP hD hS hl
  have hx := S.1
  have hb := S.2.1
  refine lv_aload_n hx hb dX6_strike_45 rfl (lv_at hl 0 rfl) ?_
  refine lv_dup hx hb dX6_strike_46 rfl ?_
  refine xXg_10_hits S hE hP lk_X6_60 dX6_strike_47 ?_
  refine lv_iconst (v := 1) hx hb dX6_strike_50 (by decide) ?_
  refine lv_iadd hx hb dX6_strike_51 ?_
  obtain ⟨z1, ez1⟩ : ∃ z9, z9 = sI z0 38 ((gI z0 38) + (1 : Int32)) := ⟨_, rfl⟩
  have hB := hB z1 ez1
  refine xXp_10_hits S hE hP hD hS lk_X6_60 dX6_strike_52 (fun H locs hP hD hS => ?_)
  rw [← ez1] at hP hD
  refine lv_aload_n hx hb dX6_strike_55 rfl (lv_at hl 0 rfl) ?_
  refine lv_dup hx hb dX6_strike_56 rfl ?_
  refine xXg_10_hitParts S hE hP lk_X6_66 dX6_strike_57 ?_
  refine lv_iload_n hx hb dX6_strike_60 rfl (lv_at hl 1 rfl) ?_
  refine lv_iadd hx hb dX6_strike_61 ?_
  obtain ⟨z2, ez2⟩ : ∃ z9, z9 = sI z1 40 ((gI z1 40) + x2) := ⟨_, rfl⟩
  have hB := hB z2 ez2
  refine xXp_10_hitParts S hE hP hD hS lk_X6_66 dX6_strike_62 (fun H locs hP hD hS => ?_)
  rw [← ez2] at hP hD
  exact hret _ _ _ _ _ dX6_strike_65 hB hP hD hS
def B_Rows_strike_19 (post : St → Prop) (x1 : Int32) (x2 : Int32) (s0 : Int32) (z0 : St) : Prop :=
  ((s0 = (gI z0 34) → (post z0)) ∧ (¬ s0 = (gI z0 34) → (((gI z0 38) = (gI z0 35) → (∀ z1 : St, z1 = sI z0 39 x1 → (B_Rows_strike_45 post x2 z1))) ∧ (¬ (gI z0 38) = (gI z0 35) → (B_Rows_strike_45 post x2 z0)))))
set_option maxHeartbeats 4000000 in
set_option maxRecDepth 100000 in
theorem w_Rows_strike_19 {p : Program} {l : Launch} {e : Env} {R : Room} {s : State} {m : MethodId} {args : Array Value} {below : List Frame} {meth : Method} {c : Code} {Q : State → Prop} {G : GX} {A : Nat → Prop} (S : CallFix p m c cX6_strike 4 s args GW RX6) (hE : env G A s s.heap) (hA : ∀ q, s.heap.size ≤ q → A q) (hRf : 1 ≤ R.frames) (hRl : 20 ≤ R.locals) {post : St → Prop} (hret : RetV p l e R s m args below meth c Q 0 0 wX G A cX6_strike post) (x1 : Int32) (x2 : Int32) (s0 : Int32) (z0 : St) (hB : B_Rows_strike_19 post x1 x2 s0 z0) : Xw p l e R s m args below meth c Q 0 0 wX G A z0 4 [(0, .ref (ad G 10)), (1, .int x1), (2, .int x2)] 19 [.int s0] := by
  intro H locs ls hP hD hS hl
  have hx := S.1
  have hb := S.2.1
  refine lv_istore_n (lv' := [(3, .int s0), (0, .ref (ad G 10)), (1, .int x1), (2, .int x2)]) hx hb dX6_strike_19 rfl hl (by decide) rfl (fun ls hl => ?_)
  refine lv_iload_n hx hb dX6_strike_20 rfl (lv_at hl 0 rfl) ?_
  refine lv_aload_n hx hb dX6_strike_21 rfl (lv_at hl 1 rfl) ?_
  refine xXg_10_otherThanAim S hE hP lk_X6_29 dX6_strike_22 ?_
  refine lv_icmp_ne (tgt := 29) hx hb dX6_strike_25 (by decide) (fun c1 => ?_) (fun c1 => ?_)
  · have hB := hB.2 c1
    refine lv_aload_n hx hb dX6_strike_29 rfl (lv_at hl 1 rfl) ?_
    refine xXg_10_hits S hE hP lk_X6_60 dX6_strike_30 ?_
    refine lv_aload_n hx hb dX6_strike_33 rfl (lv_at hl 1 rfl) ?_
    refine xXg_10_aimedIndex S hE hP lk_X6_15 dX6_strike_34 ?_
    refine lv_icmp_ne (tgt := 45) hx hb dX6_strike_37 (by decide) (fun c2 => ?_) (fun c2 => ?_)
    · have hB := hB.2 c2
      exact w_Rows_strike_45 S hE hA hRf hRl hret x2 z0 hB _ _ _ hP hD hS (lv_sub hl [1, 3] rfl)
    · have hB := hB.1 c2
      refine lv_aload_n hx hb dX6_strike_40 rfl (lv_at hl 1 rfl) ?_
      refine lv_iload_n hx hb dX6_strike_41 rfl (lv_at hl 2 rfl) ?_
      obtain ⟨z1, ez1⟩ : ∃ z9, z9 = sI z0 39 x1 := ⟨_, rfl⟩
      have hB := hB z1 ez1
      refine xXp_10_hitRow S hE hP hD hS lk_X6_63 dX6_strike_42 (fun H locs hP hD hS => ?_)
      rw [← ez1] at hP hD
      exact w_Rows_strike_45 S hE hA hRf hRl hret x2 z1 hB _ _ _ hP hD hS (lv_sub hl [1, 3] rfl)
  · have hB := hB.1 c1
    exact hret _ _ _ _ _ dX6_strike_28 hB hP hD hS
def S_Rows_strike (post : St → Prop) (x1 : Int32) (x2 : Int32) (z0 : St) : Prop :=
  (S_Table_bottle_9 (fun (r1 : Int32) (z1 : St) => ((r1 = (gI z1 33) → (B_Rows_strike_19 post x1 x2 (1 : Int32) z1)) ∧ (¬ r1 = (gI z1 33) → (B_Rows_strike_19 post x1 x2 (0 : Int32) z1)))) z0)
set_option maxHeartbeats 4000000 in
set_option maxRecDepth 100000 in
theorem w_Rows_strike_0 {p : Program} {l : Launch} {e : Env} {R : Room} {s : State} {m : MethodId} {args : Array Value} {below : List Frame} {meth : Method} {c : Code} {Q : State → Prop} {G : GX} {A : Nat → Prop} (S : CallFix p m c cX6_strike 4 s args GW RX6) (hE : env G A s s.heap) (hA : ∀ q, s.heap.size ≤ q → A q) (hRf : 1 ≤ R.frames) (hRl : 20 ≤ R.locals) {post : St → Prop} (hret : RetV p l e R s m args below meth c Q 0 0 wX G A cX6_strike post) (x1 : Int32) (x2 : Int32) (z0 : St) (hB : S_Rows_strike post x1 x2 z0) : Xw p l e R s m args below meth c Q 0 0 wX G A z0 4 [(0, .ref (ad G 10)), (1, .int x1), (2, .int x2)] 0 [] := by
  intro H locs ls hP hD hS hl
  have hx := S.1
  have hb := S.2.1
  refine lv_aload_n hx hb dX6_strike_0 rfl (lv_at hl 0 rfl) ?_
  refine xXg_10_apart S hE hP lk_X6_26 dX6_strike_1 ?_
  refine xcVi [] S hE hA hP hD hS (c_Table_bottle_9 l G z0 H.size _) hB (gw_c lk_X6_81 (gw_c wi_X8_bottle (gw_c we_X8_X8_bottle_X8_bottle (gw_c wn_X8 (gw_c wc_X8_bottle (fun _ h9 => h9)))))) hd_X8_bottle rfl rfl (Nat.le_trans (Nat.le_of_ble_eq_true rfl) hRf) (Nat.le_trans (Nat.le_of_ble_eq_true rfl) hRl) ⟨Nat.zero_le _, Nat.zero_le _⟩ (va_recv hE.1 hP (ci := 7) (q0 := 9) rfl rfl) rfl hl.1 rfl (Nat.le_of_ble_eq_true rfl) dX6_strike_4 (fun r1 z1 H locs hB hP hD hS => ?_)
  refine lv_aload_n hx hb dX6_strike_7 rfl (lv_at hl 0 rfl) ?_
  refine xXg_10_aimedAt S hE hP lk_X6_9 dX6_strike_8 ?_
  refine lv_icmp_ne (tgt := 18) hx hb dX6_strike_11 (by decide) (fun c2 => ?_) (fun c2 => ?_)
  · have hB := hB.2 c2
    refine lv_iconst (v := 0) hx hb dX6_strike_18 (by decide) ?_
    exact w_Rows_strike_19 S hE hA hRf hRl hret x1 x2 (0 : Int32) z1 hB _ _ _ hP hD hS (lv_sub hl [0, 1, 2] rfl)
  · have hB := hB.1 c2
    refine lv_iconst (v := 1) hx hb dX6_strike_14 (by decide) ?_
    refine lv_goto (tgt := 19) hx hb dX6_strike_15 (by decide) ?_
    exact w_Rows_strike_19 S hE hA hRf hRl hret x1 x2 (1 : Int32) z1 hB _ _ _ hP hD hS (lv_sub hl [0, 1, 2] rfl)
set_option maxHeartbeats 4000000 in
set_option maxRecDepth 100000 in
theorem c_Rows_strike (l : Launch) (G : GX) (z0 : St) (sz : Nat) (x1 : Int32) (x2 : Int32) (post : St → Prop) : MetV l wX yX6_strike cX6_strike 4 none ({ frames := 1, cells := 0, slots := 0, locals := 20 }) [.ref (ad G 10), .int x1, .int x2] G z0 sz (S_Rows_strike post x1 x2 z0) post := by
  refine Met.ofW (cc := cX6_strike) (maxL := 4) (ret := none) (by decide) rfl ?_
  intro p e s m args below meth c s₁ B hml hv
  obtain ⟨rfl, hsz, hP, hD0, hE, hB⟩ := hv
  have S : CallFix p m c cX6_strike 4 s _ GW RX6 := ⟨B.exec, B.bytes, hml, findClass_of_methodNamed B.named, fun w h => atoms_spec (ws := Cond.code yX6_strike cX6_strike 4 none :: GW) B.pre w (List.mem_cons_of_mem _ h)⟩
  have hlocks := B.notSynchronized
  subst hsz
  have hD := hD0.self (sz := s.heap.size)
  generalize hAe : va_A (wX G z0) s.heap.size = A at hD hE ⊢
  have hA : ∀ q : Nat, s.heap.size ≤ q → A q := fun q h => by rw [← hAe]; exact Or.inr h
  have hS : va_S A s.heap s.heap [] := va_S.rf
  have hl := lv_entry ([.ref (ad G 10), .int x1, .int x2]) (n := 4) (Nat.le_of_ble_eq_true rfl)
  rw [lg_entry_eq]
  generalize (lg_sl ([.ref (ad G 10), .int x1, .int x2]) ++ List.replicate (4 - (lg_sl ([.ref (ad G 10), .int x1, .int x2])).length) Slot.unset).toArray = ls at hl ⊢
  have hl : lv_has ls 4 [(0, .ref (ad G 10)), (1, .int x1), (2, .int x2)] := hl
  refine w_Rows_strike_0 S hE hA (Nat.le_refl _) (Nat.le_refl _) ?_ x1 x2 z0 hB _ _ _ hP hD hS hl
  intro pc ls σ H locs hd hp hP hD hS
  exact W.vret B.exec B.bytes B.returns (fun t ht hW => ⟨⟨σ, rfl, hp, by rw [ht]; exact hP, hD⟩, hS.F ht⟩) hS.2.2 hd
def S_Table_moneyOf_9 (post : Int32 → St → Prop) (x1 : Int32) (z0 : St) : Prop :=
  (vp_in ((4 : Int32) + x1) 28 ∧ (post (gA z0 24 ((4 : Int32) + x1).toNatClampNeg) z0))
set_option maxHeartbeats 4000000 in
set_option maxRecDepth 100000 in
theorem w_Table_moneyOf_9_0 {p : Program} {l : Launch} {e : Env} {R : Room} {s : State} {m : MethodId} {args : Array Value} {below : List Frame} {meth : Method} {c : Code} {Q : State → Prop} {G : GX} {A : Nat → Prop} (S : CallFix p m c cX8_moneyOf 2 s args GW RX8) (hE : env G A s s.heap) (hA : ∀ q, s.heap.size ≤ q → A q) (hRf : 0 ≤ R.frames) (hRl : 0 ≤ R.locals) {post : Int32 → St → Prop} (hret : RetI p l e R s m args below meth c Q 0 0 wX G A cX8_moneyOf post) (x1 : Int32) (z0 : St) (hB : S_Table_moneyOf_9 post x1 z0) : Xw p l e R s m args below meth c Q 0 0 wX G A z0 2 [(0, .ref (ad G 9)), (1, .int x1)] 0 [] := by
  intro H locs ls hP hD hS hl
  have hx := S.1
  have hb := S.2.1
  refine lv_aload_n hx hb dX8_moneyOf_0 rfl (lv_at hl 0 rfl) ?_
  refine xXg_9_cells S hE hP lk_X8_11 dX8_moneyOf_1 ?_
  refine lv_iconst (v := 4) hx hb dX8_moneyOf_4 (by decide) ?_
  refine lv_iload_n hx hb dX8_moneyOf_5 rfl (lv_at hl 1 rfl) ?_
  refine lv_iadd hx hb dX8_moneyOf_6 ?_
  obtain ⟨hi, hB⟩ := hB
  refine xXl_24 S hE hP hi dX8_moneyOf_7 ?_
  exact hret _ _ _ _ _ _ dX8_moneyOf_8 hB hP hD hS
set_option maxHeartbeats 4000000 in
set_option maxRecDepth 100000 in
theorem c_Table_moneyOf_9 (l : Launch) (G : GX) (z0 : St) (sz : Nat) (x1 : Int32) (post : Int32 → St → Prop) : MetI l wX yX8_moneyOf cX8_moneyOf 2 (some .int) ({ frames := 0, cells := 0, slots := 0, locals := 0 }) [.ref (ad G 9), .int x1] G z0 sz (S_Table_moneyOf_9 post x1 z0) post := by
  refine Met.ofW (cc := cX8_moneyOf) (maxL := 2) (ret := (some .int)) (by decide) rfl ?_
  intro p e s m args below meth c s₁ B hml hv
  obtain ⟨rfl, hsz, hP, hD0, hE, hB⟩ := hv
  have S : CallFix p m c cX8_moneyOf 2 s _ GW RX8 := ⟨B.exec, B.bytes, hml, findClass_of_methodNamed B.named, fun w h => atoms_spec (ws := Cond.code yX8_moneyOf cX8_moneyOf 2 (some .int) :: GW) B.pre w (List.mem_cons_of_mem _ h)⟩
  have hlocks := B.notSynchronized
  subst hsz
  have hD := hD0.self (sz := s.heap.size)
  generalize hAe : va_A (wX G z0) s.heap.size = A at hD hE ⊢
  have hA : ∀ q : Nat, s.heap.size ≤ q → A q := fun q h => by rw [← hAe]; exact Or.inr h
  have hS : va_S A s.heap s.heap [] := va_S.rf
  have hl := lv_entry ([.ref (ad G 9), .int x1]) (n := 2) (Nat.le_of_ble_eq_true rfl)
  rw [lg_entry_eq]
  generalize (lg_sl ([.ref (ad G 9), .int x1]) ++ List.replicate (2 - (lg_sl ([.ref (ad G 9), .int x1])).length) Slot.unset).toArray = ls at hl ⊢
  have hl : lv_has ls 2 [(0, .ref (ad G 9)), (1, .int x1)] := hl
  refine w_Table_moneyOf_9_0 S hE hA (Nat.le_refl _) (Nat.le_refl _) ?_ x1 z0 hB _ _ _ hP hD hS hl
  intro pc ls r σ H locs hd hp hP hD hS
  exact W.iret (v := r) B.exec B.bytes B.returns (fun t ht hW => ⟨⟨r, σ, rfl, hp, by rw [ht]; exact hP, hD⟩, hS.F ht⟩) hS.2.2 hd
def S_Table_moodOf_9 (post : Int32 → St → Prop) (x1 : Int32) (z0 : St) : Prop :=
  (vp_in ((10 : Int32) + x1) 28 ∧ (post (gA z0 24 ((10 : Int32) + x1).toNatClampNeg) z0))
set_option maxHeartbeats 4000000 in
set_option maxRecDepth 100000 in
theorem w_Table_moodOf_9_0 {p : Program} {l : Launch} {e : Env} {R : Room} {s : State} {m : MethodId} {args : Array Value} {below : List Frame} {meth : Method} {c : Code} {Q : State → Prop} {G : GX} {A : Nat → Prop} (S : CallFix p m c cX8_moodOf 2 s args GW RX8) (hE : env G A s s.heap) (hA : ∀ q, s.heap.size ≤ q → A q) (hRf : 0 ≤ R.frames) (hRl : 0 ≤ R.locals) {post : Int32 → St → Prop} (hret : RetI p l e R s m args below meth c Q 0 0 wX G A cX8_moodOf post) (x1 : Int32) (z0 : St) (hB : S_Table_moodOf_9 post x1 z0) : Xw p l e R s m args below meth c Q 0 0 wX G A z0 2 [(0, .ref (ad G 9)), (1, .int x1)] 0 [] := by
  intro H locs ls hP hD hS hl
  have hx := S.1
  have hb := S.2.1
  refine lv_aload_n hx hb dX8_moodOf_0 rfl (lv_at hl 0 rfl) ?_
  refine xXg_9_cells S hE hP lk_X8_11 dX8_moodOf_1 ?_
  refine lv_bipush (v := 10) hx hb dX8_moodOf_4 (by decide) ?_
  refine lv_iload_n hx hb dX8_moodOf_6 rfl (lv_at hl 1 rfl) ?_
  refine lv_iadd hx hb dX8_moodOf_7 ?_
  obtain ⟨hi, hB⟩ := hB
  refine xXl_24 S hE hP hi dX8_moodOf_8 ?_
  exact hret _ _ _ _ _ _ dX8_moodOf_9 hB hP hD hS
set_option maxHeartbeats 4000000 in
set_option maxRecDepth 100000 in
theorem c_Table_moodOf_9 (l : Launch) (G : GX) (z0 : St) (sz : Nat) (x1 : Int32) (post : Int32 → St → Prop) : MetI l wX yX8_moodOf cX8_moodOf 2 (some .int) ({ frames := 0, cells := 0, slots := 0, locals := 0 }) [.ref (ad G 9), .int x1] G z0 sz (S_Table_moodOf_9 post x1 z0) post := by
  refine Met.ofW (cc := cX8_moodOf) (maxL := 2) (ret := (some .int)) (by decide) rfl ?_
  intro p e s m args below meth c s₁ B hml hv
  obtain ⟨rfl, hsz, hP, hD0, hE, hB⟩ := hv
  have S : CallFix p m c cX8_moodOf 2 s _ GW RX8 := ⟨B.exec, B.bytes, hml, findClass_of_methodNamed B.named, fun w h => atoms_spec (ws := Cond.code yX8_moodOf cX8_moodOf 2 (some .int) :: GW) B.pre w (List.mem_cons_of_mem _ h)⟩
  have hlocks := B.notSynchronized
  subst hsz
  have hD := hD0.self (sz := s.heap.size)
  generalize hAe : va_A (wX G z0) s.heap.size = A at hD hE ⊢
  have hA : ∀ q : Nat, s.heap.size ≤ q → A q := fun q h => by rw [← hAe]; exact Or.inr h
  have hS : va_S A s.heap s.heap [] := va_S.rf
  have hl := lv_entry ([.ref (ad G 9), .int x1]) (n := 2) (Nat.le_of_ble_eq_true rfl)
  rw [lg_entry_eq]
  generalize (lg_sl ([.ref (ad G 9), .int x1]) ++ List.replicate (2 - (lg_sl ([.ref (ad G 9), .int x1])).length) Slot.unset).toArray = ls at hl ⊢
  have hl : lv_has ls 2 [(0, .ref (ad G 9)), (1, .int x1)] := hl
  refine w_Table_moodOf_9_0 S hE hA (Nat.le_refl _) (Nat.le_refl _) ?_ x1 z0 hB _ _ _ hP hD hS hl
  intro pc ls r σ H locs hd hp hP hD hS
  exact W.iret (v := r) B.exec B.bytes B.returns (fun t ht hW => ⟨⟨r, σ, rfl, hp, by rw [ht]; exact hP, hD⟩, hS.F ht⟩) hS.2.2 hd
def S_Table_gladness_9 (post : Int32 → St → Prop) (x1 : Int32) (z0 : St) : Prop :=
  (vp_in x1 6 ∧ (S_House_joyBy (fun (r1 : Int32) (z1 : St) => (post r1 z1)) (gA z0 19 x1.toNatClampNeg) (gA z0 24 0) z0))
set_option maxHeartbeats 4000000 in
set_option maxRecDepth 100000 in
theorem w_Table_gladness_9_0 {p : Program} {l : Launch} {e : Env} {R : Room} {s : State} {m : MethodId} {args : Array Value} {below : List Frame} {meth : Method} {c : Code} {Q : State → Prop} {G : GX} {A : Nat → Prop} (S : CallFix p m c cX8_gladness 2 s args GW RX8) (hE : env G A s s.heap) (hA : ∀ q, s.heap.size ≤ q → A q) (hRf : 1 ≤ R.frames) (hRl : 22 ≤ R.locals) {post : Int32 → St → Prop} (hret : RetI p l e R s m args below meth c Q 0 0 wX G A cX8_gladness post) (x1 : Int32) (z0 : St) (hB : S_Table_gladness_9 post x1 z0) : Xw p l e R s m args below meth c Q 0 0 wX G A z0 2 [(0, .ref (ad G 9)), (1, .int x1)] 0 [] := by
  intro H locs ls hP hD hS hl
  have hx := S.1
  have hb := S.2.1
  refine lv_aload_n hx hb dX8_gladness_0 rfl (lv_at hl 0 rfl) ?_
  refine xXg_9_house S hE hP lk_X8_15 dX8_gladness_1 ?_
  refine lv_aload_n hx hb dX8_gladness_4 rfl (lv_at hl 0 rfl) ?_
  refine xXg_9_house S hE hP lk_X8_15 dX8_gladness_5 ?_
  refine xXg_6_likes S hE hP lk_X8_97 dX8_gladness_8 ?_
  refine lv_iload_n hx hb dX8_gladness_11 rfl (lv_at hl 1 rfl) ?_
  obtain ⟨hi, hB⟩ := hB
  refine xXl_19 S hE hP hi dX8_gladness_12 ?_
  refine lv_aload_n hx hb dX8_gladness_13 rfl (lv_at hl 0 rfl) ?_
  refine xXg_9_cells S hE hP lk_X8_11 dX8_gladness_14 ?_
  refine lv_iconst (v := 0) hx hb dX8_gladness_17 (by decide) ?_
  refine xXk_24 S hE hP 0 (by decide) (by unfold vp_in; decide) dX8_gladness_18 ?_
  refine xcVi [.int (gA z0 19 x1.toNatClampNeg), .int (gA z0 24 0)] S hE hA hP hD hS (c_House_joyBy l G z0 H.size (gA z0 19 x1.toNatClampNeg) (gA z0 24 0) _) hB (gw_c lk_X8_100 (gw_c wi_X0_joyBy (gw_c we_X0_X0_joyBy_X0_joyBy (gw_c wn_X0 (gw_c wc_X0_joyBy (fun _ h9 => h9)))))) hd_X0_joyBy rfl rfl (Nat.le_trans (Nat.le_of_ble_eq_true rfl) hRf) (Nat.le_trans (Nat.le_of_ble_eq_true rfl) hRl) ⟨Nat.zero_le _, Nat.zero_le _⟩ (va_recv hE.1 hP (ci := 0) (q0 := 6) rfl rfl) rfl hl.1 rfl (Nat.le_of_ble_eq_true rfl) dX8_gladness_19 (fun r1 z1 H locs hB hP hD hS => ?_)
  exact hret _ _ _ _ _ _ dX8_gladness_22 hB hP hD hS
set_option maxHeartbeats 4000000 in
set_option maxRecDepth 100000 in
theorem c_Table_gladness_9 (l : Launch) (G : GX) (z0 : St) (sz : Nat) (x1 : Int32) (post : Int32 → St → Prop) : MetI l wX yX8_gladness cX8_gladness 2 (some .int) ({ frames := 1, cells := 0, slots := 0, locals := 22 }) [.ref (ad G 9), .int x1] G z0 sz (S_Table_gladness_9 post x1 z0) post := by
  refine Met.ofW (cc := cX8_gladness) (maxL := 2) (ret := (some .int)) (by decide) rfl ?_
  intro p e s m args below meth c s₁ B hml hv
  obtain ⟨rfl, hsz, hP, hD0, hE, hB⟩ := hv
  have S : CallFix p m c cX8_gladness 2 s _ GW RX8 := ⟨B.exec, B.bytes, hml, findClass_of_methodNamed B.named, fun w h => atoms_spec (ws := Cond.code yX8_gladness cX8_gladness 2 (some .int) :: GW) B.pre w (List.mem_cons_of_mem _ h)⟩
  have hlocks := B.notSynchronized
  subst hsz
  have hD := hD0.self (sz := s.heap.size)
  generalize hAe : va_A (wX G z0) s.heap.size = A at hD hE ⊢
  have hA : ∀ q : Nat, s.heap.size ≤ q → A q := fun q h => by rw [← hAe]; exact Or.inr h
  have hS : va_S A s.heap s.heap [] := va_S.rf
  have hl := lv_entry ([.ref (ad G 9), .int x1]) (n := 2) (Nat.le_of_ble_eq_true rfl)
  rw [lg_entry_eq]
  generalize (lg_sl ([.ref (ad G 9), .int x1]) ++ List.replicate (2 - (lg_sl ([.ref (ad G 9), .int x1])).length) Slot.unset).toArray = ls at hl ⊢
  have hl : lv_has ls 2 [(0, .ref (ad G 9)), (1, .int x1)] := hl
  refine w_Table_gladness_9_0 S hE hA (Nat.le_refl _) (Nat.le_refl _) ?_ x1 z0 hB _ _ _ hP hD hS hl
  intro pc ls r σ H locs hd hp hP hD hS
  exact W.iret (v := r) B.exec B.bytes B.returns (fun t ht hW => ⟨⟨r, σ, rfl, hp, by rw [ht]; exact hP, hD⟩, hS.F ht⟩) hS.2.2 hd
def S_Table_unreceive_9 (post : St → Prop) (x1 : Int32) (x2 : Int32) (x3 : Int32) (x4 : Int32) (z0 : St) : Prop :=
  (∀ z1 : St, z1 = sA z0 24 0 x2 → (vp_in ((4 : Int32) + x1) 28 ∧ (∀ z2 : St, z2 = sA z1 24 ((4 : Int32) + x1).toNatClampNeg x3 → (vp_in ((10 : Int32) + x1) 28 ∧ (∀ z3 : St, z3 = sA z2 24 ((10 : Int32) + x1).toNatClampNeg x4 → (vp_in ((16 : Int32) + x1) 28 ∧ (S_Table_gladness_9 (fun (r1 : Int32) (z4 : St) => (vp_in ((16 : Int32) + x1) 28 ∧ (∀ z5 : St, z5 = sA z4 24 ((16 : Int32) + x1).toNatClampNeg ((gA z3 24 ((16 : Int32) + x1).toNatClampNeg) - r1) → (∀ z6 : St, z6 = sA z5 24 3 ((gA z5 24 3) - (1 : Int32)) → (post z6))))) x1 z3)))))))
set_option maxHeartbeats 4000000 in
set_option maxRecDepth 100000 in
theorem w_Table_unreceive_9_0 {p : Program} {l : Launch} {e : Env} {R : Room} {s : State} {m : MethodId} {args : Array Value} {below : List Frame} {meth : Method} {c : Code} {Q : State → Prop} {G : GX} {A : Nat → Prop} (S : CallFix p m c cX8_unreceive 5 s args GW RX8) (hE : env G A s s.heap) (hA : ∀ q, s.heap.size ≤ q → A q) (hRf : 2 ≤ R.frames) (hRl : 43 ≤ R.locals) {post : St → Prop} (hret : RetV p l e R s m args below meth c Q 0 0 wX G A cX8_unreceive post) (x1 : Int32) (x2 : Int32) (x3 : Int32) (x4 : Int32) (z0 : St) (hB : S_Table_unreceive_9 post x1 x2 x3 x4 z0) : Xw p l e R s m args below meth c Q 0 0 wX G A z0 5 [(0, .ref (ad G 9)), (1, .int x1), (2, .int x2), (3, .int x3), (4, .int x4)] 0 [] := by
  intro H locs ls hP hD hS hl
  have hx := S.1
  have hb := S.2.1
  refine lv_aload_n hx hb dX8_unreceive_0 rfl (lv_at hl 0 rfl) ?_
  refine xXg_9_cells S hE hP lk_X8_11 dX8_unreceive_1 ?_
  refine lv_iconst (v := 0) hx hb dX8_unreceive_4 (by decide) ?_
  refine lv_iload_n hx hb dX8_unreceive_5 rfl (lv_at hl 2 rfl) ?_
  obtain ⟨z1, ez1⟩ : ∃ z9, z9 = sA z0 24 0 x2 := ⟨_, rfl⟩
  have hB := hB z1 ez1
  refine xXs_24 S hE hP hD hS 0 (by decide) (by unfold vp_in; decide) dX8_unreceive_6 (fun H locs hP hD hS => ?_)
  rw [← ez1] at hP hD
  refine lv_aload_n hx hb dX8_unreceive_7 rfl (lv_at hl 0 rfl) ?_
  refine xXg_9_cells S hE hP lk_X8_11 dX8_unreceive_8 ?_
  refine lv_iconst (v := 4) hx hb dX8_unreceive_11 (by decide) ?_
  refine lv_iload_n hx hb dX8_unreceive_12 rfl (lv_at hl 1 rfl) ?_
  refine lv_iadd hx hb dX8_unreceive_13 ?_
  refine lv_iload_n hx hb dX8_unreceive_14 rfl (lv_at hl 3 rfl) ?_
  obtain ⟨hi, hB⟩ := hB
  obtain ⟨z2, ez2⟩ : ∃ z9, z9 = sA z1 24 ((4 : Int32) + x1).toNatClampNeg x3 := ⟨_, rfl⟩
  have hB := hB z2 ez2
  refine xXs_24 S hE hP hD hS _ rfl hi dX8_unreceive_15 (fun H locs hP hD hS => ?_)
  rw [← ez2] at hP hD
  refine lv_aload_n hx hb dX8_unreceive_16 rfl (lv_at hl 0 rfl) ?_
  refine xXg_9_cells S hE hP lk_X8_11 dX8_unreceive_17 ?_
  refine lv_bipush (v := 10) hx hb dX8_unreceive_20 (by decide) ?_
  refine lv_iload_n hx hb dX8_unreceive_22 rfl (lv_at hl 1 rfl) ?_
  refine lv_iadd hx hb dX8_unreceive_23 ?_
  refine lv_iload hx hb dX8_unreceive_24 (lv_at hl 4 rfl) ?_
  obtain ⟨hi, hB⟩ := hB
  obtain ⟨z3, ez3⟩ : ∃ z9, z9 = sA z2 24 ((10 : Int32) + x1).toNatClampNeg x4 := ⟨_, rfl⟩
  have hB := hB z3 ez3
  refine xXs_24 S hE hP hD hS _ rfl hi dX8_unreceive_26 (fun H locs hP hD hS => ?_)
  rw [← ez3] at hP hD
  refine lv_aload_n hx hb dX8_unreceive_27 rfl (lv_at hl 0 rfl) ?_
  refine xXg_9_cells S hE hP lk_X8_11 dX8_unreceive_28 ?_
  refine lv_bipush (v := 16) hx hb dX8_unreceive_31 (by decide) ?_
  refine lv_iload_n hx hb dX8_unreceive_33 rfl (lv_at hl 1 rfl) ?_
  refine lv_iadd hx hb dX8_unreceive_34 ?_
  refine lv_dup2_11 hx hb dX8_unreceive_35 rfl rfl ?_
  obtain ⟨hi, hB⟩ := hB
  refine xXl_24 S hE hP hi dX8_unreceive_36 ?_
  refine lv_aload_n hx hb dX8_unreceive_37 rfl (lv_at hl 0 rfl) ?_
  refine lv_iload_n hx hb dX8_unreceive_38 rfl (lv_at hl 1 rfl) ?_
  refine xcVi [.int x1] S hE hA hP hD hS (c_Table_gladness_9 l G z3 H.size x1 _) hB (gw_c lk_X8_110 (gw_c wi_X8_gladness (gw_c we_X8_X8_gladness_X8_gladness (gw_c wn_X8 (gw_c wc_X8_gladness (fun _ h9 => h9)))))) hd_X8_gladness rfl rfl (Nat.le_trans (Nat.le_of_ble_eq_true rfl) hRf) (Nat.le_trans (Nat.le_of_ble_eq_true rfl) hRl) ⟨Nat.zero_le _, Nat.zero_le _⟩ (va_recv hE.1 hP (ci := 7) (q0 := 9) rfl rfl) rfl hl.1 rfl (Nat.le_of_ble_eq_true rfl) dX8_unreceive_39 (fun r1 z4 H locs hB hP hD hS => ?_)
  refine lv_isub hx hb dX8_unreceive_42 ?_
  obtain ⟨hi, hB⟩ := hB
  obtain ⟨z5, ez5⟩ : ∃ z9, z9 = sA z4 24 ((16 : Int32) + x1).toNatClampNeg ((gA z3 24 ((16 : Int32) + x1).toNatClampNeg) - r1) := ⟨_, rfl⟩
  have hB := hB z5 ez5
  refine xXs_24 S hE hP hD hS _ rfl hi dX8_unreceive_43 (fun H locs hP hD hS => ?_)
  rw [← ez5] at hP hD
  refine lv_aload_n hx hb dX8_unreceive_44 rfl (lv_at hl 0 rfl) ?_
  refine xXg_9_cells S hE hP lk_X8_11 dX8_unreceive_45 ?_
  refine lv_iconst (v := 3) hx hb dX8_unreceive_48 (by decide) ?_
  refine lv_dup2_11 hx hb dX8_unreceive_49 rfl rfl ?_
  refine xXk_24 S hE hP 3 (by decide) (by unfold vp_in; decide) dX8_unreceive_50 ?_
  refine lv_iconst (v := 1) hx hb dX8_unreceive_51 (by decide) ?_
  refine lv_isub hx hb dX8_unreceive_52 ?_
  obtain ⟨z6, ez6⟩ : ∃ z9, z9 = sA z5 24 3 ((gA z5 24 3) - (1 : Int32)) := ⟨_, rfl⟩
  have hB := hB z6 ez6
  refine xXs_24 S hE hP hD hS 3 (by decide) (by unfold vp_in; decide) dX8_unreceive_53 (fun H locs hP hD hS => ?_)
  rw [← ez6] at hP hD
  exact hret _ _ _ _ _ dX8_unreceive_54 hB hP hD hS
set_option maxHeartbeats 4000000 in
set_option maxRecDepth 100000 in
theorem c_Table_unreceive_9 (l : Launch) (G : GX) (z0 : St) (sz : Nat) (x1 : Int32) (x2 : Int32) (x3 : Int32) (x4 : Int32) (post : St → Prop) : MetV l wX yX8_unreceive cX8_unreceive 5 none ({ frames := 2, cells := 0, slots := 0, locals := 43 }) [.ref (ad G 9), .int x1, .int x2, .int x3, .int x4] G z0 sz (S_Table_unreceive_9 post x1 x2 x3 x4 z0) post := by
  refine Met.ofW (cc := cX8_unreceive) (maxL := 5) (ret := none) (by decide) rfl ?_
  intro p e s m args below meth c s₁ B hml hv
  obtain ⟨rfl, hsz, hP, hD0, hE, hB⟩ := hv
  have S : CallFix p m c cX8_unreceive 5 s _ GW RX8 := ⟨B.exec, B.bytes, hml, findClass_of_methodNamed B.named, fun w h => atoms_spec (ws := Cond.code yX8_unreceive cX8_unreceive 5 none :: GW) B.pre w (List.mem_cons_of_mem _ h)⟩
  have hlocks := B.notSynchronized
  subst hsz
  have hD := hD0.self (sz := s.heap.size)
  generalize hAe : va_A (wX G z0) s.heap.size = A at hD hE ⊢
  have hA : ∀ q : Nat, s.heap.size ≤ q → A q := fun q h => by rw [← hAe]; exact Or.inr h
  have hS : va_S A s.heap s.heap [] := va_S.rf
  have hl := lv_entry ([.ref (ad G 9), .int x1, .int x2, .int x3, .int x4]) (n := 5) (Nat.le_of_ble_eq_true rfl)
  rw [lg_entry_eq]
  generalize (lg_sl ([.ref (ad G 9), .int x1, .int x2, .int x3, .int x4]) ++ List.replicate (5 - (lg_sl ([.ref (ad G 9), .int x1, .int x2, .int x3, .int x4])).length) Slot.unset).toArray = ls at hl ⊢
  have hl : lv_has ls 5 [(0, .ref (ad G 9)), (1, .int x1), (2, .int x2), (3, .int x3), (4, .int x4)] := hl
  refine w_Table_unreceive_9_0 S hE hA (Nat.le_refl _) (Nat.le_refl _) ?_ x1 x2 x3 x4 z0 hB _ _ _ hP hD hS hl
  intro pc ls σ H locs hd hp hP hD hS
  exact W.vret B.exec B.bytes B.returns (fun t ht hW => ⟨⟨σ, rfl, hp, by rw [ht]; exact hP, hD⟩, hS.F ht⟩) hS.2.2 hd
def B_Rows_goVisits_16 (rq : (St → Prop) → Int32 → Int32 → Int32 → Int32 → Int32 → St → Prop) (post : St → Prop) (x2 : Int32) (x3 : Int32) (x4 : Int32) (z0 : St) : Prop :=
  (S_Rows_weigh (fun (z1 : St) => (S_Rows_strike (fun (z2 : St) => (post z2)) x2 x4 z1)) x2 x3 z0)
set_option maxHeartbeats 4000000 in
set_option maxRecDepth 100000 in
theorem w_Rows_goVisits_16 {p : Program} {l : Launch} {e : Env} {R : Room} {s : State} {m : MethodId} {args : Array Value} {below : List Frame} {meth : Method} {c : Code} {Q : State → Prop} {G : GX} {A : Nat → Prop} {rq : (St → Prop) → Int32 → Int32 → Int32 → Int32 → Int32 → St → Prop} {frec lrec : Nat} (S : CallFix p m c cX6_goVisits 11 s args GW RX6) (hE : env G A s s.heap) (hA : ∀ q, s.heap.size ≤ q → A q) (hRf : frec + 1 ≤ R.frames) (hRl : lrec + 40 ≤ R.locals) (hq : ∀ (G : GX) (z0 : St) (sz : Nat) (x1 : Int32) (x2 : Int32) (x3 : Int32) (x4 : Int32) (x5 : Int32) (post : St → Prop), MetV l wX yX6_goVisits cX6_goVisits 11 none { frames := frec, cells := 0, slots := 0, locals := lrec } [.ref (ad G 10), .int x1, .int x2, .int x3, .int x4, .int x5] G z0 sz (rq post x1 x2 x3 x4 x5 z0) post) (hfb : 4 ≤ frec ∧ 101 ≤ lrec) {post : St → Prop} (hret : RetV p l e R s m args below meth c Q 0 0 wX G A cX6_goVisits post) (x2 : Int32) (x3 : Int32) (x4 : Int32) (z0 : St) (hB : B_Rows_goVisits_16 rq post x2 x3 x4 z0) : Xw p l e R s m args below meth c Q 0 0 wX G A z0 11 [(0, .ref (ad G 10)), (2, .int x2), (3, .int x3), (4, .int x4)] 16 [] := by
  intro H locs ls hP hD hS hl
  have hx := S.1
  have hb := S.2.1
  refine lv_aload_n hx hb dX6_goVisits_16 rfl (lv_at hl 0 rfl) ?_
  refine lv_iload_n hx hb dX6_goVisits_17 rfl (lv_at hl 1 rfl) ?_
  refine lv_iload_n hx hb dX6_goVisits_18 rfl (lv_at hl 2 rfl) ?_
  refine xcVv [.int x2, .int x3] S hE hA hP hD hS (c_Rows_weigh l G z0 H.size x2 x3 _) hB (gw_c lk_X6_74 (gw_c wi_X6_weigh (gw_c we_X6_X6_weigh_X6_weigh (gw_c wn_X6 (gw_c wc_X6_weigh (fun _ h9 => h9)))))) hd_X6_weigh rfl rfl (Nat.le_trans (show 0 + 1 ≤ frec + 1 by omega) hRf) (Nat.le_trans (show 8 + (3 + 11) + (0) ≤ lrec + 40 by omega) hRl) ⟨Nat.zero_le _, Nat.zero_le _⟩ (va_recv hE.1 hP (ci := 5) (q0 := 10) rfl rfl) rfl hl.1 rfl (Nat.le_of_ble_eq_true rfl) dX6_goVisits_19 (fun z1 H locs hB hP hD hS => ?_)
  refine lv_aload_n hx hb dX6_goVisits_22 rfl (lv_at hl 0 rfl) ?_
  refine lv_iload_n hx hb dX6_goVisits_23 rfl (lv_at hl 1 rfl) ?_
  refine lv_iload hx hb dX6_goVisits_24 (lv_at hl 3 rfl) ?_
  refine xcVv [.int x2, .int x4] S hE hA hP hD hS (c_Rows_strike l G z1 H.size x2 x4 _) hB (gw_c lk_X6_78 (gw_c wi_X6_strike (gw_c we_X6_X6_strike_X6_strike (gw_c wn_X6 (gw_c wc_X6_strike (fun _ h9 => h9)))))) hd_X6_strike rfl rfl (Nat.le_trans (show 1 + 1 ≤ frec + 1 by omega) hRf) (Nat.le_trans (show 8 + (4 + 11) + (20) ≤ lrec + 40 by omega) hRl) ⟨Nat.zero_le _, Nat.zero_le _⟩ (va_recv hE.1 hP (ci := 5) (q0 := 10) rfl rfl) rfl hl.1 rfl (Nat.le_of_ble_eq_true rfl) dX6_goVisits_26 (fun z2 H locs hB hP hD hS => ?_)
  exact hret _ _ _ _ _ dX6_goVisits_29 hB hP hD hS
def B_Rows_goVisits_164 (rq : (St → Prop) → Int32 → Int32 → Int32 → Int32 → Int32 → St → Prop) (post : St → Prop) (ih42 : Int32 → Int32 → Int32 → Int32 → Int32 → Int32 → Int32 → St → Prop) (x1 : Int32) (x2 : Int32) (x3 : Int32) (x4 : Int32) (x5 : Int32) (x6 : Int32) (x7 : Int32) (z0 : St) : Prop :=
  (∀ v1 : Int32, v1 = x7 + (1 : Int32) → (ih42 x1 x2 x3 x4 x5 x6 v1 z0))
set_option maxHeartbeats 4000000 in
set_option maxRecDepth 100000 in
theorem w_Rows_goVisits_164 {p : Program} {l : Launch} {e : Env} {R : Room} {s : State} {m : MethodId} {args : Array Value} {below : List Frame} {meth : Method} {c : Code} {Q : State → Prop} {G : GX} {A : Nat → Prop} {rq : (St → Prop) → Int32 → Int32 → Int32 → Int32 → Int32 → St → Prop} {frec lrec : Nat} (S : CallFix p m c cX6_goVisits 11 s args GW RX6) (hE : env G A s s.heap) (hA : ∀ q, s.heap.size ≤ q → A q) (hRf : frec + 1 ≤ R.frames) (hRl : lrec + 40 ≤ R.locals) (hq : ∀ (G : GX) (z0 : St) (sz : Nat) (x1 : Int32) (x2 : Int32) (x3 : Int32) (x4 : Int32) (x5 : Int32) (post : St → Prop), MetV l wX yX6_goVisits cX6_goVisits 11 none { frames := frec, cells := 0, slots := 0, locals := lrec } [.ref (ad G 10), .int x1, .int x2, .int x3, .int x4, .int x5] G z0 sz (rq post x1 x2 x3 x4 x5 z0) post) (hfb : 4 ≤ frec ∧ 101 ≤ lrec) {post : St → Prop} (hret : RetV p l e R s m args below meth c Q 0 0 wX G A cX6_goVisits post) {ih42 : Int32 → Int32 → Int32 → Int32 → Int32 → Int32 → Int32 → St → Prop} (h42 : ∀ (x1 : Int32) (x2 : Int32) (x3 : Int32) (x4 : Int32) (x5 : Int32) (x6 : Int32) (x7 : Int32) (z0 : St), ih42 x1 x2 x3 x4 x5 x6 x7 z0 → Xw p l e R s m args below meth c Q 0 0 wX G A z0 11 [(0, .ref (ad G 10)), (1, .int x1), (2, .int x2), (3, .int x3), (4, .int x4), (5, .int x5), (6, .int x6), (7, .int x7)] 42 []) (x1 : Int32) (x2 : Int32) (x3 : Int32) (x4 : Int32) (x5 : Int32) (x6 : Int32) (x7 : Int32) (z0 : St) (hB : B_Rows_goVisits_164 rq post ih42 x1 x2 x3 x4 x5 x6 x7 z0) : Xw p l e R s m args below meth c Q 0 0 wX G A z0 11 [(0, .ref (ad G 10)), (1, .int x1), (2, .int x2), (3, .int x3), (4, .int x4), (5, .int x5), (6, .int x6), (7, .int x7)] 164 [] := by
  intro H locs ls hP hD hS hl
  have hx := S.1
  have hb := S.2.1
  obtain ⟨v1, ev1⟩ : ∃ y9, y9 = x7 + (1 : Int32) := ⟨_, rfl⟩
  have hB := hB v1 ev1
  refine lv_iinc (v := v1) (lv' := [(7, .int v1), (0, .ref (ad G 10)), (1, .int x1), (2, .int x2), (3, .int x3), (4, .int x4), (5, .int x5), (6, .int x6)]) hx hb dX6_goVisits_164 hl (k := 7) rfl (by rw [ev1]; rfl) (by decide) rfl (fun ls hl => ?_)
  refine lv_goto (tgt := 42) hx hb dX6_goVisits_167 (by decide) ?_
  exact h42 x1 x2 x3 x4 x5 x6 v1 z0 hB _ _ _ hP hD hS (lv_sub hl [1, 2, 3, 4, 5, 6, 7, 0] rfl)
def B_Rows_goVisits_71 (rq : (St → Prop) → Int32 → Int32 → Int32 → Int32 → Int32 → St → Prop) (post : St → Prop) (ih42 : Int32 → Int32 → Int32 → Int32 → Int32 → Int32 → Int32 → St → Prop) (x1 : Int32) (x2 : Int32) (x3 : Int32) (x4 : Int32) (x5 : Int32) (x6 : Int32) (x7 : Int32) (z0 : St) : Prop :=
  (S_Table_moneyOf_9 (fun (r1 : Int32) (z1 : St) => (S_Table_moodOf_9 (fun (r2 : Int32) (z2 : St) => (S_Table_gladness_9 (fun (r3 : Int32) (z3 : St) => (S_Table_receive_9 (fun (r4 : Int32) (z4 : St) => (¬ (gI z4 27) = 0 ∧ (rq (fun (z5 : St) => (S_Table_unreceive_9 (fun (z6 : St) => (B_Rows_goVisits_164 rq post ih42 x1 x2 x3 x4 x5 x6 x7 z6)) x7 x6 r1 r2 z5)) (x1 - (1 : Int32)) (((10 : Int32) * x2) + x7) (x3 + r3) (x4 / (gI z4 27)) (x5 ||| ((1 : Int32) <<< (x7 &&& 31))) z4))) x7 z3)) x7 z2)) x7 z1)) x7 z0)
set_option maxHeartbeats 4000000 in
set_option maxRecDepth 100000 in
theorem w_Rows_goVisits_71 {p : Program} {l : Launch} {e : Env} {R : Room} {s : State} {m : MethodId} {args : Array Value} {below : List Frame} {meth : Method} {c : Code} {Q : State → Prop} {G : GX} {A : Nat → Prop} {rq : (St → Prop) → Int32 → Int32 → Int32 → Int32 → Int32 → St → Prop} {frec lrec : Nat} (S : CallFix p m c cX6_goVisits 11 s args GW RX6) (hE : env G A s s.heap) (hA : ∀ q, s.heap.size ≤ q → A q) (hRf : frec + 1 ≤ R.frames) (hRl : lrec + 40 ≤ R.locals) (hq : ∀ (G : GX) (z0 : St) (sz : Nat) (x1 : Int32) (x2 : Int32) (x3 : Int32) (x4 : Int32) (x5 : Int32) (post : St → Prop), MetV l wX yX6_goVisits cX6_goVisits 11 none { frames := frec, cells := 0, slots := 0, locals := lrec } [.ref (ad G 10), .int x1, .int x2, .int x3, .int x4, .int x5] G z0 sz (rq post x1 x2 x3 x4 x5 z0) post) (hfb : 4 ≤ frec ∧ 101 ≤ lrec) {post : St → Prop} (hret : RetV p l e R s m args below meth c Q 0 0 wX G A cX6_goVisits post) {ih42 : Int32 → Int32 → Int32 → Int32 → Int32 → Int32 → Int32 → St → Prop} (h42 : ∀ (x1 : Int32) (x2 : Int32) (x3 : Int32) (x4 : Int32) (x5 : Int32) (x6 : Int32) (x7 : Int32) (z0 : St), ih42 x1 x2 x3 x4 x5 x6 x7 z0 → Xw p l e R s m args below meth c Q 0 0 wX G A z0 11 [(0, .ref (ad G 10)), (1, .int x1), (2, .int x2), (3, .int x3), (4, .int x4), (5, .int x5), (6, .int x6), (7, .int x7)] 42 []) (x1 : Int32) (x2 : Int32) (x3 : Int32) (x4 : Int32) (x5 : Int32) (x6 : Int32) (x7 : Int32) (z0 : St) (hB : B_Rows_goVisits_71 rq post ih42 x1 x2 x3 x4 x5 x6 x7 z0) : Xw p l e R s m args below meth c Q 0 0 wX G A z0 11 [(0, .ref (ad G 10)), (1, .int x1), (2, .int x2), (3, .int x3), (4, .int x4), (5, .int x5), (6, .int x6), (7, .int x7)] 71 [] := by
  intro H locs ls hP hD hS hl
  have hx := S.1
  have hb := S.2.1
  refine lv_aload_n hx hb dX6_goVisits_71 rfl (lv_at hl 0 rfl) ?_
  refine xXg_10_apart S hE hP lk_X6_26 dX6_goVisits_72 ?_
  refine lv_iload hx hb dX6_goVisits_75 (lv_at hl 7 rfl) ?_
  refine xcVi [.int x7] S hE hA hP hD hS (c_Table_moneyOf_9 l G z0 H.size x7 _) hB (gw_c lk_X6_85 (gw_c wi_X8_moneyOf (gw_c we_X8_X8_moneyOf_X8_moneyOf (gw_c wn_X8 (gw_c wc_X8_moneyOf (fun _ h9 => h9)))))) hd_X8_moneyOf rfl rfl (Nat.le_trans (show 0 + 1 ≤ frec + 1 by omega) hRf) (Nat.le_trans (show 8 + (2 + 11) + (0) ≤ lrec + 40 by omega) hRl) ⟨Nat.zero_le _, Nat.zero_le _⟩ (va_recv hE.1 hP (ci := 7) (q0 := 9) rfl rfl) rfl hl.1 rfl (Nat.le_of_ble_eq_true rfl) dX6_goVisits_77 (fun r1 z1 H locs hB hP hD hS => ?_)
  refine lv_istore (lv' := [(8, .int r1), (0, .ref (ad G 10)), (1, .int x1), (2, .int x2), (3, .int x3), (4, .int x4), (5, .int x5), (6, .int x6), (7, .int x7)]) hx hb dX6_goVisits_80 hl (by decide) rfl (fun ls hl => ?_)
  refine lv_aload_n hx hb dX6_goVisits_82 rfl (lv_at hl 1 rfl) ?_
  refine xXg_10_apart S hE hP lk_X6_26 dX6_goVisits_83 ?_
  refine lv_iload hx hb dX6_goVisits_86 (lv_at hl 8 rfl) ?_
  refine xcVi [.int x7] S hE hA hP hD hS (c_Table_moodOf_9 l G z1 H.size x7 _) hB (gw_c lk_X6_89 (gw_c wi_X8_moodOf (gw_c we_X8_X8_moodOf_X8_moodOf (gw_c wn_X8 (gw_c wc_X8_moodOf (fun _ h9 => h9)))))) hd_X8_moodOf rfl rfl (Nat.le_trans (show 0 + 1 ≤ frec + 1 by omega) hRf) (Nat.le_trans (show 8 + (2 + 11) + (0) ≤ lrec + 40 by omega) hRl) ⟨Nat.zero_le _, Nat.zero_le _⟩ (va_recv hE.1 hP (ci := 7) (q0 := 9) rfl rfl) rfl hl.1 rfl (Nat.le_of_ble_eq_true rfl) dX6_goVisits_88 (fun r2 z2 H locs hB hP hD hS => ?_)
  refine lv_istore (lv' := [(9, .int r2), (8, .int r1), (0, .ref (ad G 10)), (1, .int x1), (2, .int x2), (3, .int x3), (4, .int x4), (5, .int x5), (6, .int x6), (7, .int x7)]) hx hb dX6_goVisits_91 hl (by decide) rfl (fun ls hl => ?_)
  refine lv_aload_n hx hb dX6_goVisits_93 rfl (lv_at hl 2 rfl) ?_
  refine xXg_10_apart S hE hP lk_X6_26 dX6_goVisits_94 ?_
  refine lv_iload hx hb dX6_goVisits_97 (lv_at hl 9 rfl) ?_
  refine xcVi [.int x7] S hE hA hP hD hS (c_Table_gladness_9 l G z2 H.size x7 _) hB (gw_c lk_X6_92 (gw_c wi_X8_gladness (gw_c we_X8_X8_gladness_X8_gladness (gw_c wn_X8 (gw_c wc_X8_gladness (fun _ h9 => h9)))))) hd_X8_gladness rfl rfl (Nat.le_trans (show 1 + 1 ≤ frec + 1 by omega) hRf) (Nat.le_trans (show 8 + (2 + 11) + (22) ≤ lrec + 40 by omega) hRl) ⟨Nat.zero_le _, Nat.zero_le _⟩ (va_recv hE.1 hP (ci := 7) (q0 := 9) rfl rfl) rfl hl.1 rfl (Nat.le_of_ble_eq_true rfl) dX6_goVisits_99 (fun r3 z3 H locs hB hP hD hS => ?_)
  refine lv_istore (lv' := [(10, .int r3), (9, .int r2), (8, .int r1), (0, .ref (ad G 10)), (1, .int x1), (2, .int x2), (3, .int x3), (4, .int x4), (5, .int x5), (6, .int x6), (7, .int x7)]) hx hb dX6_goVisits_102 hl (by decide) rfl (fun ls hl => ?_)
  refine lv_aload_n hx hb dX6_goVisits_104 rfl (lv_at hl 3 rfl) ?_
  refine xXg_10_apart S hE hP lk_X6_26 dX6_goVisits_105 ?_
  refine lv_iload hx hb dX6_goVisits_108 (lv_at hl 10 rfl) ?_
  refine xcVi [.int x7] S hE hA hP hD hS (c_Table_receive_9 l G z3 H.size x7 _) hB (gw_c lk_X6_95 (gw_c wi_X8_receive (gw_c we_X8_X8_receive_X8_receive (gw_c wn_X8 (gw_c wc_X8_receive (fun _ h9 => h9)))))) hd_X8_receive rfl rfl (Nat.le_trans (show 3 + 1 ≤ frec + 1 by omega) hRf) (Nat.le_trans (show 8 + (6 + 11) + (76) ≤ lrec + 40 by omega) hRl) ⟨Nat.zero_le _, Nat.zero_le _⟩ (va_recv hE.1 hP (ci := 7) (q0 := 9) rfl rfl) rfl hl.1 rfl (Nat.le_of_ble_eq_true rfl) dX6_goVisits_110 (fun r4 z4 H locs hB hP hD hS => ?_)
  refine lv_pop hx hb dX6_goVisits_113 rfl ?_
  refine lv_aload_n hx hb dX6_goVisits_114 rfl (lv_at hl 3 rfl) ?_
  refine lv_iload_n hx hb dX6_goVisits_115 rfl (lv_at hl 4 rfl) ?_
  refine lv_iconst (v := 1) hx hb dX6_goVisits_116 (by decide) ?_
  refine lv_isub hx hb dX6_goVisits_117 ?_
  refine lv_bipush (v := 10) hx hb dX6_goVisits_118 (by decide) ?_
  refine lv_iload_n hx hb dX6_goVisits_120 rfl (lv_at hl 5 rfl) ?_
  refine lv_imul hx hb dX6_goVisits_121 ?_
  refine lv_iload hx hb dX6_goVisits_122 (lv_at hl 10 rfl) ?_
  refine lv_iadd hx hb dX6_goVisits_124 ?_
  refine lv_iload_n hx hb dX6_goVisits_125 rfl (lv_at hl 6 rfl) ?_
  refine lv_iload hx hb dX6_goVisits_126 (lv_at hl 0 rfl) ?_
  refine lv_iadd hx hb dX6_goVisits_128 ?_
  refine lv_iload hx hb dX6_goVisits_129 (lv_at hl 7 rfl) ?_
  refine lv_aload_n hx hb dX6_goVisits_131 rfl (lv_at hl 3 rfl) ?_
  refine xXg_10_house S hE hP lk_X6_18 dX6_goVisits_132 ?_
  refine xXg_6_guests S hE hP lk_X6_69 dX6_goVisits_135 ?_
  obtain ⟨hne, hB⟩ := hB
  refine lv_idiv hx hb dX6_goVisits_138 hne ?_
  refine lv_iload hx hb dX6_goVisits_139 (lv_at hl 8 rfl) ?_
  refine lv_iconst (v := 1) hx hb dX6_goVisits_141 (by decide) ?_
  refine lv_iload hx hb dX6_goVisits_142 (lv_at hl 10 rfl) ?_
  refine lv_ishl hx hb dX6_goVisits_144 ?_
  refine lv_ior hx hb dX6_goVisits_145 ?_
  refine xcVv [.int (x1 - (1 : Int32)), .int (((10 : Int32) * x2) + x7), .int (x3 + r3), .int (x4 / (gI z4 27)), .int (x5 ||| ((1 : Int32) <<< (x7 &&& 31)))] S hE hA hP hD hS (hq G z4 H.size (x1 - (1 : Int32)) (((10 : Int32) * x2) + x7) (x3 + r3) (x4 / (gI z4 27)) (x5 ||| ((1 : Int32) <<< (x7 &&& 31))) _) hB (gw_c lk_X6_46 (gw_c wi_X6_goVisits (gw_c we_X6_X6_goVisits_X6_goVisits (gw_c wn_X6 (gw_c wc_X6_goVisits (fun _ h9 => h9)))))) hd_X6_goVisits rfl rfl (Nat.le_trans (show frec + 1 ≤ frec + 1 by omega) hRf) (Nat.le_trans (show 8 + (11 + 11) + (lrec) ≤ lrec + 40 by omega) hRl) ⟨Nat.zero_le _, Nat.zero_le _⟩ (va_recv hE.1 hP (ci := 5) (q0 := 10) rfl rfl) rfl hl.1 rfl (Nat.le_of_ble_eq_true rfl) dX6_goVisits_146 (fun z5 H locs hB hP hD hS => ?_)
  refine lv_aload_n hx hb dX6_goVisits_149 rfl (lv_at hl 3 rfl) ?_
  refine xXg_10_apart S hE hP lk_X6_26 dX6_goVisits_150 ?_
  refine lv_iload hx hb dX6_goVisits_153 (lv_at hl 10 rfl) ?_
  refine lv_iload hx hb dX6_goVisits_155 (lv_at hl 9 rfl) ?_
  refine lv_iload hx hb dX6_goVisits_157 (lv_at hl 2 rfl) ?_
  refine lv_iload hx hb dX6_goVisits_159 (lv_at hl 1 rfl) ?_
  refine xcVv [.int x7, .int x6, .int r1, .int r2] S hE hA hP hD hS (c_Table_unreceive_9 l G z5 H.size x7 x6 r1 r2 _) hB (gw_c lk_X6_98 (gw_c wi_X8_unreceive (gw_c we_X8_X8_unreceive_X8_unreceive (gw_c wn_X8 (gw_c wc_X8_unreceive (fun _ h9 => h9)))))) hd_X8_unreceive rfl rfl (Nat.le_trans (show 2 + 1 ≤ frec + 1 by omega) hRf) (Nat.le_trans (show 8 + (5 + 11) + (43) ≤ lrec + 40 by omega) hRl) ⟨Nat.zero_le _, Nat.zero_le _⟩ (va_recv hE.1 hP (ci := 7) (q0 := 9) rfl rfl) rfl hl.1 rfl (Nat.le_of_ble_eq_true rfl) dX6_goVisits_161 (fun z6 H locs hB hP hD hS => ?_)
  exact w_Rows_goVisits_164 S hE hA hRf hRl hq hfb hret h42 x1 x2 x3 x4 x5 x6 x7 z6 hB _ _ _ hP hD hS (lv_sub hl [3, 4, 5, 6, 7, 8, 9, 10] rfl)
def B_Rows_goVisits_42 (rq : (St → Prop) → Int32 → Int32 → Int32 → Int32 → Int32 → St → Prop) (post : St → Prop) (ih42 : Int32 → Int32 → Int32 → Int32 → Int32 → Int32 → Int32 → St → Prop) (x1 : Int32) (x2 : Int32) (x3 : Int32) (x4 : Int32) (x5 : Int32) (x6 : Int32) (x7 : Int32) (z0 : St) : Prop :=
  (((gI z0 27) ≤ x7 → (post z0)) ∧ (¬ (gI z0 27) ≤ x7 → (((gI z0 32) = 0 → (B_Rows_goVisits_71 rq post ih42 x1 x2 x3 x4 x5 x6 x7 z0)) ∧ (¬ (gI z0 32) = 0 → ((((x5 >>> (x7 &&& 31)) &&& (1 : Int32)) = 0 → (B_Rows_goVisits_71 rq post ih42 x1 x2 x3 x4 x5 x6 x7 z0)) ∧ (¬ ((x5 >>> (x7 &&& 31)) &&& (1 : Int32)) = 0 → (B_Rows_goVisits_164 rq post ih42 x1 x2 x3 x4 x5 x6 x7 z0)))))))
set_option maxHeartbeats 4000000 in
set_option maxRecDepth 100000 in
theorem w_Rows_goVisits_42 {p : Program} {l : Launch} {e : Env} {R : Room} {s : State} {m : MethodId} {args : Array Value} {below : List Frame} {meth : Method} {c : Code} {Q : State → Prop} {G : GX} {A : Nat → Prop} {rq : (St → Prop) → Int32 → Int32 → Int32 → Int32 → Int32 → St → Prop} {frec lrec : Nat} (S : CallFix p m c cX6_goVisits 11 s args GW RX6) (hE : env G A s s.heap) (hA : ∀ q, s.heap.size ≤ q → A q) (hRf : frec + 1 ≤ R.frames) (hRl : lrec + 40 ≤ R.locals) (hq : ∀ (G : GX) (z0 : St) (sz : Nat) (x1 : Int32) (x2 : Int32) (x3 : Int32) (x4 : Int32) (x5 : Int32) (post : St → Prop), MetV l wX yX6_goVisits cX6_goVisits 11 none { frames := frec, cells := 0, slots := 0, locals := lrec } [.ref (ad G 10), .int x1, .int x2, .int x3, .int x4, .int x5] G z0 sz (rq post x1 x2 x3 x4 x5 z0) post) (hfb : 4 ≤ frec ∧ 101 ≤ lrec) {post : St → Prop} (hret : RetV p l e R s m args below meth c Q 0 0 wX G A cX6_goVisits post) {ih42 : Int32 → Int32 → Int32 → Int32 → Int32 → Int32 → Int32 → St → Prop} (h42 : ∀ (x1 : Int32) (x2 : Int32) (x3 : Int32) (x4 : Int32) (x5 : Int32) (x6 : Int32) (x7 : Int32) (z0 : St), ih42 x1 x2 x3 x4 x5 x6 x7 z0 → Xw p l e R s m args below meth c Q 0 0 wX G A z0 11 [(0, .ref (ad G 10)), (1, .int x1), (2, .int x2), (3, .int x3), (4, .int x4), (5, .int x5), (6, .int x6), (7, .int x7)] 42 []) (x1 : Int32) (x2 : Int32) (x3 : Int32) (x4 : Int32) (x5 : Int32) (x6 : Int32) (x7 : Int32) (z0 : St) (hB : B_Rows_goVisits_42 rq post ih42 x1 x2 x3 x4 x5 x6 x7 z0) : Xw p l e R s m args below meth c Q 0 0 wX G A z0 11 [(0, .ref (ad G 10)), (1, .int x1), (2, .int x2), (3, .int x3), (4, .int x4), (5, .int x5), (6, .int x6), (7, .int x7)] 42 [] := by
  intro H locs ls hP hD hS hl
  have hx := S.1
  have hb := S.2.1
  refine lv_iload hx hb dX6_goVisits_42 (lv_at hl 7 rfl) ?_
  refine lv_aload_n hx hb dX6_goVisits_44 rfl (lv_at hl 0 rfl) ?_
  refine xXg_10_house S hE hP lk_X6_18 dX6_goVisits_45 ?_
  refine xXg_6_guests S hE hP lk_X6_69 dX6_goVisits_48 ?_
  refine lv_icmp_ge (tgt := 170) hx hb dX6_goVisits_51 (by decide) (fun c1 => ?_) (fun c1 => ?_)
  · have hB := hB.1 c1
    exact hret _ _ _ _ _ dX6_goVisits_170 hB hP hD hS
  · have hB := hB.2 c1
    refine lv_aload_n hx hb dX6_goVisits_54 rfl (lv_at hl 0 rfl) ?_
    refine xXg_10_unlike S hE hP lk_X6_36 dX6_goVisits_55 ?_
    refine lv_if_eq (tgt := 71) hx hb dX6_goVisits_58 (by decide) (fun c2 => ?_) (fun c2 => ?_)
    · have hB := hB.1 c2
      exact w_Rows_goVisits_71 S hE hA hRf hRl hq hfb hret h42 x1 x2 x3 x4 x5 x6 x7 z0 hB _ _ _ hP hD hS (lv_sub hl [0, 1, 2, 3, 4, 5, 6, 7] rfl)
    · have hB := hB.2 c2
      refine lv_iload hx hb dX6_goVisits_61 (lv_at hl 5 rfl) ?_
      refine lv_iload hx hb dX6_goVisits_63 (lv_at hl 7 rfl) ?_
      refine lv_ishr hx hb dX6_goVisits_65 ?_
      refine lv_iconst (v := 1) hx hb dX6_goVisits_66 (by decide) ?_
      refine lv_iand hx hb dX6_goVisits_67 ?_
      refine lv_if_ne (tgt := 164) hx hb dX6_goVisits_68 (by decide) (fun c3 => ?_) (fun c3 => ?_)
      · have hB := hB.2 c3
        exact w_Rows_goVisits_164 S hE hA hRf hRl hq hfb hret h42 x1 x2 x3 x4 x5 x6 x7 z0 hB _ _ _ hP hD hS (lv_sub hl [0, 1, 2, 3, 4, 5, 6, 7] rfl)
      · have hB := hB.1 c3
        exact w_Rows_goVisits_71 S hE hA hRf hRl hq hfb hret h42 x1 x2 x3 x4 x5 x6 x7 z0 hB _ _ _ hP hD hS (lv_sub hl [0, 1, 2, 3, 4, 5, 6, 7] rfl)
def L_Rows_goVisits_42 (rq : (St → Prop) → Int32 → Int32 → Int32 → Int32 → Int32 → St → Prop) (post : St → Prop) : Nat → Int32 → Int32 → Int32 → Int32 → Int32 → Int32 → Int32 → St → Prop
  | 0 => fun _ _ _ _ _ _ _ _ => False
  | n + 1 => B_Rows_goVisits_42 rq post (L_Rows_goVisits_42 rq post n)
theorem wl_Rows_goVisits_42 {p : Program} {l : Launch} {e : Env} {R : Room} {s : State} {m : MethodId} {args : Array Value} {below : List Frame} {meth : Method} {c : Code} {Q : State → Prop} {G : GX} {A : Nat → Prop} {rq : (St → Prop) → Int32 → Int32 → Int32 → Int32 → Int32 → St → Prop} {frec lrec : Nat} (S : CallFix p m c cX6_goVisits 11 s args GW RX6) (hE : env G A s s.heap) (hA : ∀ q, s.heap.size ≤ q → A q) (hRf : frec + 1 ≤ R.frames) (hRl : lrec + 40 ≤ R.locals) (hq : ∀ (G : GX) (z0 : St) (sz : Nat) (x1 : Int32) (x2 : Int32) (x3 : Int32) (x4 : Int32) (x5 : Int32) (post : St → Prop), MetV l wX yX6_goVisits cX6_goVisits 11 none { frames := frec, cells := 0, slots := 0, locals := lrec } [.ref (ad G 10), .int x1, .int x2, .int x3, .int x4, .int x5] G z0 sz (rq post x1 x2 x3 x4 x5 z0) post) (hfb : 4 ≤ frec ∧ 101 ≤ lrec) {post : St → Prop} (hret : RetV p l e R s m args below meth c Q 0 0 wX G A cX6_goVisits post) : ∀ (n : Nat) (x1 : Int32) (x2 : Int32) (x3 : Int32) (x4 : Int32) (x5 : Int32) (x6 : Int32) (x7 : Int32) (z0 : St), L_Rows_goVisits_42 rq post n x1 x2 x3 x4 x5 x6 x7 z0 → Xw p l e R s m args below meth c Q 0 0 wX G A z0 11 [(0, .ref (ad G 10)), (1, .int x1), (2, .int x2), (3, .int x3), (4, .int x4), (5, .int x5), (6, .int x6), (7, .int x7)] 42 [] := by
  intro n
  induction n with
  | zero => intro x1 x2 x3 x4 x5 x6 x7 z0 hB; exact absurd hB id
  | succ n ih => exact fun x1 x2 x3 x4 x5 x6 x7 z0 hB => w_Rows_goVisits_42 S hE hA hRf hRl hq hfb hret ih x1 x2 x3 x4 x5 x6 x7 z0 hB
def S_Rows_goVisits (rq : (St → Prop) → Int32 → Int32 → Int32 → Int32 → Int32 → St → Prop) (post : St → Prop) (x1 : Int32) (x2 : Int32) (x3 : Int32) (x4 : Int32) (x5 : Int32) (z0 : St) : Prop :=
  ((x1 < (1 : Int32) → (B_Rows_goVisits_16 rq post x2 x3 x4 z0)) ∧ (¬ x1 < (1 : Int32) → (((1 : Int32) ≤ (gI z0 27) → (S_Table_bottle_9 (fun (r3 : Int32) (z1 : St) => (∃ n4, L_Rows_goVisits_42 rq post n4 x1 x2 x3 x4 x5 r3 (0 : Int32) z1)) z0)) ∧ (¬ (1 : Int32) ≤ (gI z0 27) → (B_Rows_goVisits_16 rq post x2 x3 x4 z0)))))
set_option maxHeartbeats 4000000 in
set_option maxRecDepth 100000 in
theorem w_Rows_goVisits_0 {p : Program} {l : Launch} {e : Env} {R : Room} {s : State} {m : MethodId} {args : Array Value} {below : List Frame} {meth : Method} {c : Code} {Q : State → Prop} {G : GX} {A : Nat → Prop} {rq : (St → Prop) → Int32 → Int32 → Int32 → Int32 → Int32 → St → Prop} {frec lrec : Nat} (S : CallFix p m c cX6_goVisits 11 s args GW RX6) (hE : env G A s s.heap) (hA : ∀ q, s.heap.size ≤ q → A q) (hRf : frec + 1 ≤ R.frames) (hRl : lrec + 40 ≤ R.locals) (hq : ∀ (G : GX) (z0 : St) (sz : Nat) (x1 : Int32) (x2 : Int32) (x3 : Int32) (x4 : Int32) (x5 : Int32) (post : St → Prop), MetV l wX yX6_goVisits cX6_goVisits 11 none { frames := frec, cells := 0, slots := 0, locals := lrec } [.ref (ad G 10), .int x1, .int x2, .int x3, .int x4, .int x5] G z0 sz (rq post x1 x2 x3 x4 x5 z0) post) (hfb : 4 ≤ frec ∧ 101 ≤ lrec) {post : St → Prop} (hret : RetV p l e R s m args below meth c Q 0 0 wX G A cX6_goVisits post) (x1 : Int32) (x2 : Int32) (x3 : Int32) (x4 : Int32) (x5 : Int32) (z0 : St) (hB : S_Rows_goVisits rq post x1 x2 x3 x4 x5 z0) : Xw p l e R s m args below meth c Q 0 0 wX G A z0 11 [(0, .ref (ad G 10)), (1, .int x1), (2, .int x2), (3, .int x3), (4, .int x4), (5, .int x5)] 0 [] := by
  intro H locs ls hP hD hS hl
  have hx := S.1
  have hb := S.2.1
  refine lv_iload_n hx hb dX6_goVisits_0 rfl (lv_at hl 1 rfl) ?_
  refine lv_iconst (v := 1) hx hb dX6_goVisits_1 (by decide) ?_
  refine lv_icmp_lt (tgt := 16) hx hb dX6_goVisits_2 (by decide) (fun c1 => ?_) (fun c1 => ?_)
  · have hB := hB.1 c1
    exact w_Rows_goVisits_16 S hE hA hRf hRl hq hfb hret x2 x3 x4 z0 hB _ _ _ hP hD hS (lv_sub hl [0, 2, 3, 4] rfl)
  · have hB := hB.2 c1
    refine lv_aload_n hx hb dX6_goVisits_5 rfl (lv_at hl 0 rfl) ?_
    refine xXg_10_house S hE hP lk_X6_18 dX6_goVisits_6 ?_
    refine xXg_6_guests S hE hP lk_X6_69 dX6_goVisits_9 ?_
    refine lv_iconst (v := 1) hx hb dX6_goVisits_12 (by decide) ?_
    refine lv_icmp_ge (tgt := 30) hx hb dX6_goVisits_13 (by decide) (fun c2 => ?_) (fun c2 => ?_)
    · have hB := hB.1 c2
      refine lv_aload_n hx hb dX6_goVisits_30 rfl (lv_at hl 0 rfl) ?_
      refine xXg_10_apart S hE hP lk_X6_26 dX6_goVisits_31 ?_
      refine xcVi [] S hE hA hP hD hS (c_Table_bottle_9 l G z0 H.size _) hB (gw_c lk_X6_81 (gw_c wi_X8_bottle (gw_c we_X8_X8_bottle_X8_bottle (gw_c wn_X8 (gw_c wc_X8_bottle (fun _ h9 => h9)))))) hd_X8_bottle rfl rfl (Nat.le_trans (show 0 + 1 ≤ frec + 1 by omega) hRf) (Nat.le_trans (show 8 + (1 + 11) + (0) ≤ lrec + 40 by omega) hRl) ⟨Nat.zero_le _, Nat.zero_le _⟩ (va_recv hE.1 hP (ci := 7) (q0 := 9) rfl rfl) rfl hl.1 rfl (Nat.le_of_ble_eq_true rfl) dX6_goVisits_34 (fun r3 z1 H locs hB hP hD hS => ?_)
      refine lv_istore (lv' := [(6, .int r3), (0, .ref (ad G 10)), (1, .int x1), (2, .int x2), (3, .int x3), (4, .int x4), (5, .int x5)]) hx hb dX6_goVisits_37 hl (by decide) rfl (fun ls hl => ?_)
      refine lv_iconst (v := 0) hx hb dX6_goVisits_39 (by decide) ?_
      refine lv_istore (lv' := [(7, .int (0 : Int32)), (6, .int r3), (0, .ref (ad G 10)), (1, .int x1), (2, .int x2), (3, .int x3), (4, .int x4), (5, .int x5)]) hx hb dX6_goVisits_40 hl (by decide) rfl (fun ls hl => ?_)
      obtain ⟨n4, hB⟩ := hB
      exact wl_Rows_goVisits_42 S hE hA hRf hRl hq hfb hret n4 x1 x2 x3 x4 x5 r3 (0 : Int32) z1 hB _ _ _ hP hD hS (lv_sub hl [2, 3, 4, 5, 6, 7, 1, 0] rfl)
    · have hB := hB.2 c2
      exact w_Rows_goVisits_16 S hE hA hRf hRl hq hfb hret x2 x3 x4 z0 hB _ _ _ hP hD hS (lv_sub hl [0, 2, 3, 4] rfl)
set_option maxHeartbeats 4000000 in
set_option maxRecDepth 100000 in
theorem c_Rows_goVisits (l : Launch) {rq : (St → Prop) → Int32 → Int32 → Int32 → Int32 → Int32 → St → Prop} {frec lrec : Nat} (hq : ∀ (G : GX) (z0 : St) (sz : Nat) (x1 : Int32) (x2 : Int32) (x3 : Int32) (x4 : Int32) (x5 : Int32) (post : St → Prop), MetV l wX yX6_goVisits cX6_goVisits 11 none { frames := frec, cells := 0, slots := 0, locals := lrec } [.ref (ad G 10), .int x1, .int x2, .int x3, .int x4, .int x5] G z0 sz (rq post x1 x2 x3 x4 x5 z0) post) (hfb : 4 ≤ frec ∧ 101 ≤ lrec) (G : GX) (z0 : St) (sz : Nat) (x1 : Int32) (x2 : Int32) (x3 : Int32) (x4 : Int32) (x5 : Int32) (post : St → Prop) : MetV l wX yX6_goVisits cX6_goVisits 11 none ({ frames := frec + 1, cells := 0, slots := 0, locals := lrec + 40 }) [.ref (ad G 10), .int x1, .int x2, .int x3, .int x4, .int x5] G z0 sz (S_Rows_goVisits rq post x1 x2 x3 x4 x5 z0) post := by
  refine Met.ofW (cc := cX6_goVisits) (maxL := 11) (ret := none) (by decide) rfl ?_
  intro p e s m args below meth c s₁ B hml hv
  obtain ⟨rfl, hsz, hP, hD0, hE, hB⟩ := hv
  have S : CallFix p m c cX6_goVisits 11 s _ GW RX6 := ⟨B.exec, B.bytes, hml, findClass_of_methodNamed B.named, fun w h => atoms_spec (ws := Cond.code yX6_goVisits cX6_goVisits 11 none :: GW) B.pre w (List.mem_cons_of_mem _ h)⟩
  have hlocks := B.notSynchronized
  subst hsz
  have hD := hD0.self (sz := s.heap.size)
  generalize hAe : va_A (wX G z0) s.heap.size = A at hD hE ⊢
  have hA : ∀ q : Nat, s.heap.size ≤ q → A q := fun q h => by rw [← hAe]; exact Or.inr h
  have hS : va_S A s.heap s.heap [] := va_S.rf
  have hl := lv_entry ([.ref (ad G 10), .int x1, .int x2, .int x3, .int x4, .int x5]) (n := 11) (Nat.le_of_ble_eq_true rfl)
  rw [lg_entry_eq]
  generalize (lg_sl ([.ref (ad G 10), .int x1, .int x2, .int x3, .int x4, .int x5]) ++ List.replicate (11 - (lg_sl ([.ref (ad G 10), .int x1, .int x2, .int x3, .int x4, .int x5])).length) Slot.unset).toArray = ls at hl ⊢
  have hl : lv_has ls 11 [(0, .ref (ad G 10)), (1, .int x1), (2, .int x2), (3, .int x3), (4, .int x4), (5, .int x5)] := hl
  refine w_Rows_goVisits_0 S hE hA (Nat.le_refl _) (Nat.le_refl _) hq hfb ?_ x1 x2 x3 x4 x5 z0 hB _ _ _ hP hD hS hl
  intro pc ls σ H locs hd hp hP hD hS
  exact W.vret B.exec B.bytes B.returns (fun t ht hW => ⟨⟨σ, rfl, hp, by rw [ht]; exact hP, hD⟩, hS.F ht⟩) hS.2.2 hd
def D_Rows_goVisits : Nat → (St → Prop) → Int32 → Int32 → Int32 → Int32 → Int32 → St → Prop
  | 0 => fun _ _ _ _ _ _ _ => False
  | d + 1 => S_Rows_goVisits (D_Rows_goVisits d)
theorem cd_Rows_goVisits (l : Launch) : ∀ (d : Nat) (G : GX) (z0 : St) (sz : Nat) (x1 : Int32) (x2 : Int32) (x3 : Int32) (x4 : Int32) (x5 : Int32) (post : St → Prop), MetV l wX yX6_goVisits cX6_goVisits 11 none { frames := 4 + 1 * d, cells := 0, slots := 0, locals := 101 + 40 * d } [.ref (ad G 10), .int x1, .int x2, .int x3, .int x4, .int x5] G z0 sz (D_Rows_goVisits d post x1 x2 x3 x4 x5 z0) post := by
  intro d
  induction d with
  | zero => exact fun G z0 sz x1 x2 x3 x4 x5 post => Met.never (by decide) rfl (fun _ _ h => h.2.2.2.2.2)
  | succ d ih =>
    intro G z0 sz x1 x2 x3 x4 x5 post
    have h9 := c_Rows_goVisits l ih ⟨by omega, by omega⟩ G z0 sz x1 x2 x3 x4 x5 post
    rw [show 4 + 1 * d + 1 = 4 + 1 * (d + 1) by omega, show 101 + 40 * d + 40 = 101 + 40 * (d + 1) by omega] at h9
    exact h9
def S_Rows_search (post : St → Prop) (x1 : Int32) (x2 : Int32) (z0 : St) : Prop :=
  (S_Rows_forget (fun (z1 : St) => ((x2 = 0 ∨ x2 = 1) ∧ (∀ z2 : St, z2 = sI z1 32 x2 → (S_Table_copy_9_r8 (fun (z3 : St) => (D_Rows_goVisits 8 (fun (z4 : St) => (post z4)) x1 (0 : Int32) (0 : Int32) (1000000 : Int32) (0 : Int32) z3)) z2)))) z0)
set_option maxHeartbeats 4000000 in
set_option maxRecDepth 100000 in
theorem w_Rows_search_0 {p : Program} {l : Launch} {e : Env} {R : Room} {s : State} {m : MethodId} {args : Array Value} {below : List Frame} {meth : Method} {c : Code} {Q : State → Prop} {G : GX} {A : Nat → Prop} (S : CallFix p m c cX6_search 3 s args GW RX6) (hE : env G A s s.heap) (hA : ∀ q, s.heap.size ≤ q → A q) (hRf : 13 ≤ R.frames) (hRl : 451 ≤ R.locals) {post : St → Prop} (hret : RetV p l e R s m args below meth c Q 0 0 wX G A cX6_search post) (x1 : Int32) (x2 : Int32) (z0 : St) (hB : S_Rows_search post x1 x2 z0) : Xw p l e R s m args below meth c Q 0 0 wX G A z0 3 [(0, .ref (ad G 10)), (1, .int x1), (2, .int x2)] 0 [] := by
  intro H locs ls hP hD hS hl
  have hx := S.1
  have hb := S.2.1
  refine lv_aload_n hx hb dX6_search_0 rfl (lv_at hl 0 rfl) ?_
  refine xcVv [] S hE hA hP hD hS (c_Rows_forget l G z0 H.size _) hB (gw_c lk_X6_33 (gw_c wi_X6_forget (gw_c we_X6_X6_forget_X6_forget (gw_c wn_X6 (gw_c wc_X6_forget (fun _ h9 => h9)))))) hd_X6_forget rfl rfl (Nat.le_trans (Nat.le_of_ble_eq_true rfl) hRf) (Nat.le_trans (Nat.le_of_ble_eq_true rfl) hRl) ⟨Nat.zero_le _, Nat.zero_le _⟩ (va_recv hE.1 hP (ci := 5) (q0 := 10) rfl rfl) rfl hl.1 rfl (Nat.le_of_ble_eq_true rfl) dX6_search_1 (fun z1 H locs hB hP hD hS => ?_)
  refine lv_aload_n hx hb dX6_search_4 rfl (lv_at hl 0 rfl) ?_
  refine lv_iload_n hx hb dX6_search_5 rfl (lv_at hl 2 rfl) ?_
  obtain ⟨hv9, hB⟩ := hB
  obtain ⟨z2, ez2⟩ : ∃ z9, z9 = sI z1 32 x2 := ⟨_, rfl⟩
  have hB := hB z2 ez2
  refine xXp_10_unlike S hE hP hD hS lk_X6_36 hv9 dX6_search_6 (fun H locs hP hD hS => ?_)
  rw [← ez2] at hP hD
  refine lv_aload_n hx hb dX6_search_9 rfl (lv_at hl 0 rfl) ?_
  refine xXg_10_apart S hE hP lk_X6_26 dX6_search_10 ?_
  refine lv_aload_n hx hb dX6_search_13 rfl (lv_at hl 0 rfl) ?_
  refine xXg_10_now S hE hP lk_X6_22 dX6_search_14 ?_
  refine xcVv [.ref (ad G 8)] S hE hA hP hD hS (c_Table_copy_9_r8 l G z2 H.size _) hB (gw_c lk_X6_39 (gw_c wi_X8_copy (gw_c we_X8_X8_copy_X8_copy (gw_c wn_X8 (gw_c wc_X8_copy (fun _ h9 => h9)))))) hd_X8_copy rfl rfl (Nat.le_trans (Nat.le_of_ble_eq_true rfl) hRf) (Nat.le_trans (Nat.le_of_ble_eq_true rfl) hRl) ⟨Nat.zero_le _, Nat.zero_le _⟩ (va_recv hE.1 hP (ci := 7) (q0 := 9) rfl rfl) rfl hl.1 rfl (Nat.le_of_ble_eq_true rfl) dX6_search_17 (fun z3 H locs hB hP hD hS => ?_)
  refine lv_aload_n hx hb dX6_search_20 rfl (lv_at hl 0 rfl) ?_
  refine lv_iload_n hx hb dX6_search_21 rfl (lv_at hl 1 rfl) ?_
  refine lv_iconst (v := 0) hx hb dX6_search_22 (by decide) ?_
  refine lv_iconst (v := 0) hx hb dX6_search_23 (by decide) ?_
  refine lv_ldc hx hb S.2.2.2.1 (S.2.2.2.2 _ lk_X6_45) dX6_search_24 ?_
  refine lv_iconst (v := 0) hx hb dX6_search_26 (by decide) ?_
  refine xcVv [.int x1, .int (0 : Int32), .int (0 : Int32), .int (1000000 : Int32), .int (0 : Int32)] S hE hA hP hD hS (cd_Rows_goVisits l 8 G z3 H.size x1 (0 : Int32) (0 : Int32) (1000000 : Int32) (0 : Int32) _) hB (gw_c lk_X6_46 (gw_c wi_X6_goVisits (gw_c we_X6_X6_goVisits_X6_goVisits (gw_c wn_X6 (gw_c wc_X6_goVisits (fun _ h9 => h9)))))) hd_X6_goVisits rfl rfl (Nat.le_trans (Nat.le_of_ble_eq_true rfl) hRf) (Nat.le_trans (Nat.le_of_ble_eq_true rfl) hRl) ⟨Nat.zero_le _, Nat.zero_le _⟩ (va_recv hE.1 hP (ci := 5) (q0 := 10) rfl rfl) rfl hl.1 rfl (Nat.le_of_ble_eq_true rfl) dX6_search_27 (fun z4 H locs hB hP hD hS => ?_)
  exact hret _ _ _ _ _ dX6_search_30 hB hP hD hS
set_option maxHeartbeats 4000000 in
set_option maxRecDepth 100000 in
theorem c_Rows_search (l : Launch) (G : GX) (z0 : St) (sz : Nat) (x1 : Int32) (x2 : Int32) (post : St → Prop) : MetV l wX yX6_search cX6_search 3 none ({ frames := 13, cells := 0, slots := 0, locals := 451 }) [.ref (ad G 10), .int x1, .int x2] G z0 sz (S_Rows_search post x1 x2 z0) post := by
  refine Met.ofW (cc := cX6_search) (maxL := 3) (ret := none) (by decide) rfl ?_
  intro p e s m args below meth c s₁ B hml hv
  obtain ⟨rfl, hsz, hP, hD0, hE, hB⟩ := hv
  have S : CallFix p m c cX6_search 3 s _ GW RX6 := ⟨B.exec, B.bytes, hml, findClass_of_methodNamed B.named, fun w h => atoms_spec (ws := Cond.code yX6_search cX6_search 3 none :: GW) B.pre w (List.mem_cons_of_mem _ h)⟩
  have hlocks := B.notSynchronized
  subst hsz
  have hD := hD0.self (sz := s.heap.size)
  generalize hAe : va_A (wX G z0) s.heap.size = A at hD hE ⊢
  have hA : ∀ q : Nat, s.heap.size ≤ q → A q := fun q h => by rw [← hAe]; exact Or.inr h
  have hS : va_S A s.heap s.heap [] := va_S.rf
  have hl := lv_entry ([.ref (ad G 10), .int x1, .int x2]) (n := 3) (Nat.le_of_ble_eq_true rfl)
  rw [lg_entry_eq]
  generalize (lg_sl ([.ref (ad G 10), .int x1, .int x2]) ++ List.replicate (3 - (lg_sl ([.ref (ad G 10), .int x1, .int x2])).length) Slot.unset).toArray = ls at hl ⊢
  have hl : lv_has ls 3 [(0, .ref (ad G 10)), (1, .int x1), (2, .int x2)] := hl
  refine w_Rows_search_0 S hE hA (Nat.le_refl _) (Nat.le_refl _) ?_ x1 x2 z0 hB _ _ _ hP hD hS hl
  intro pc ls σ H locs hd hp hP hD hS
  exact W.vret B.exec B.bytes B.returns (fun t ht hW => ⟨⟨σ, rfl, hp, by rw [ht]; exact hP, hD⟩, hS.F ht⟩) hS.2.2 hd
def S_B_best (post : Int32 → St → Prop) (x1 : Int32) (z0 : St) : Prop :=
  (S_House_isTold (fun (r1 : Int32) (z1 : St) => ((r1 = 0 → (post (-1 : Int32) z1)) ∧ (¬ r1 = 0 → ((x1 < 0 → (post (-1 : Int32) z1)) ∧ (¬ x1 < 0 → ((x1 ≤ (1 : Int32) → (S_Rows_search (fun (z2 : St) => ((x1 = 0 → (post (gI z2 36) z2)) ∧ (¬ x1 = 0 → (post (gI z2 37) z2)))) (gI z1 27) (1 : Int32) z1)) ∧ (¬ x1 ≤ (1 : Int32) → (post (-1 : Int32) z1)))))))) z0)
set_option maxHeartbeats 4000000 in
set_option maxRecDepth 100000 in
theorem w_B_best_0 {p : Program} {l : Launch} {e : Env} {R : Room} {s : State} {m : MethodId} {args : Array Value} {below : List Frame} {meth : Method} {c : Code} {Q : State → Prop} {G : GX} {A : Nat → Prop} (S : CallFix p m c cX11_best 2 s args GW RX11) (hE : env G A s s.heap) (hA : ∀ q, s.heap.size ≤ q → A q) (hRf : 14 ≤ R.frames) (hRl : 473 ≤ R.locals) {post : Int32 → St → Prop} (hret : RetI p l e R s m args below meth c Q 0 0 wX G A cX11_best post) (x1 : Int32) (z0 : St) (hB : S_B_best post x1 z0) : Xw p l e R s m args below meth c Q 0 0 wX G A z0 2 [(0, .ref (ad G 0)), (1, .int x1)] 0 [] := by
  intro H locs ls hP hD hS hl
  have hx := S.1
  have hb := S.2.1
  refine lv_aload_n hx hb dX11_best_0 rfl (lv_at hl 0 rfl) ?_
  refine xXg_0_house S hE hP lk_X11_64 dX11_best_1 ?_
  refine xcVi [] S hE hA hP hD hS (c_House_isTold l G z0 H.size _) hB (gw_c lk_X11_147 (gw_c wi_X0_isTold (gw_c we_X0_X0_isTold_X0_isTold (gw_c wn_X0 (gw_c wc_X0_isTold (fun _ h9 => h9)))))) hd_X0_isTold rfl rfl (Nat.le_trans (Nat.le_of_ble_eq_true rfl) hRf) (Nat.le_trans (Nat.le_of_ble_eq_true rfl) hRl) ⟨Nat.zero_le _, Nat.zero_le _⟩ (va_recv hE.1 hP (ci := 0) (q0 := 6) rfl rfl) rfl hl.1 rfl (Nat.le_of_ble_eq_true rfl) dX11_best_4 (fun r1 z1 H locs hB hP hD hS => ?_)
  refine lv_if_eq (tgt := 19) hx hb dX11_best_7 (by decide) (fun c2 => ?_) (fun c2 => ?_)
  · have hB := hB.1 c2
    refine lv_iconst (v := -1) hx hb dX11_best_19 (by decide) ?_
    exact hret _ _ _ _ _ _ dX11_best_20 hB hP hD hS
  · have hB := hB.2 c2
    refine lv_iload_n hx hb dX11_best_10 rfl (lv_at hl 1 rfl) ?_
    refine lv_if_lt (tgt := 19) hx hb dX11_best_11 (by decide) (fun c3 => ?_) (fun c3 => ?_)
    · have hB := hB.1 c3
      refine lv_iconst (v := -1) hx hb dX11_best_19 (by decide) ?_
      exact hret _ _ _ _ _ _ dX11_best_20 hB hP hD hS
    · have hB := hB.2 c3
      refine lv_iload_n hx hb dX11_best_14 rfl (lv_at hl 1 rfl) ?_
      refine lv_iconst (v := 1) hx hb dX11_best_15 (by decide) ?_
      refine lv_icmp_le (tgt := 21) hx hb dX11_best_16 (by decide) (fun c4 => ?_) (fun c4 => ?_)
      · have hB := hB.1 c4
        refine lv_aload_n hx hb dX11_best_21 rfl (lv_at hl 0 rfl) ?_
        refine xXg_0_rows S hE hP lk_X11_84 dX11_best_22 ?_
        refine lv_aload_n hx hb dX11_best_25 rfl (lv_at hl 0 rfl) ?_
        refine xXg_0_house S hE hP lk_X11_64 dX11_best_26 ?_
        refine xXg_6_guests S hE hP lk_X11_137 dX11_best_29 ?_
        refine lv_iconst (v := 1) hx hb dX11_best_32 (by decide) ?_
        refine xcVv [.int (gI z1 27), .int (1 : Int32)] S hE hA hP hD hS (c_Rows_search l G z1 H.size (gI z1 27) (1 : Int32) _) hB (gw_c lk_X11_283 (gw_c wi_X6_search (gw_c we_X6_X6_search_X6_search (gw_c wn_X6 (gw_c wc_X6_search (fun _ h9 => h9)))))) hd_X6_search rfl rfl (Nat.le_trans (Nat.le_of_ble_eq_true rfl) hRf) (Nat.le_trans (Nat.le_of_ble_eq_true rfl) hRl) ⟨Nat.zero_le _, Nat.zero_le _⟩ (va_recv hE.1 hP (ci := 5) (q0 := 10) rfl rfl) rfl hl.1 rfl (Nat.le_of_ble_eq_true rfl) dX11_best_33 (fun z2 H locs hB hP hD hS => ?_)
        refine lv_iload_n hx hb dX11_best_36 rfl (lv_at hl 1 rfl) ?_
        refine lv_if_ne (tgt := 50) hx hb dX11_best_37 (by decide) (fun c5 => ?_) (fun c5 => ?_)
        · have hB := hB.2 c5
          refine lv_aload_n hx hb dX11_best_50 rfl (lv_at hl 0 rfl) ?_
          refine xXg_0_rows S hE hP lk_X11_84 dX11_best_51 ?_
          refine xXg_10_topJoy S hE hP lk_X11_290 dX11_best_54 ?_
          exact hret _ _ _ _ _ _ dX11_best_57 hB hP hD hS
        · have hB := hB.1 c5
          refine lv_aload_n hx hb dX11_best_40 rfl (lv_at hl 0 rfl) ?_
          refine xXg_0_rows S hE hP lk_X11_84 dX11_best_41 ?_
          refine xXg_10_topRow S hE hP lk_X11_287 dX11_best_44 ?_
          refine lv_goto (tgt := 57) hx hb dX11_best_47 (by decide) ?_
          exact hret _ _ _ _ _ _ dX11_best_57 hB hP hD hS
      · have hB := hB.2 c4
        refine lv_iconst (v := -1) hx hb dX11_best_19 (by decide) ?_
        exact hret _ _ _ _ _ _ dX11_best_20 hB hP hD hS
set_option maxHeartbeats 4000000 in
set_option maxRecDepth 100000 in
theorem c_B_best (l : Launch) (G : GX) (z0 : St) (sz : Nat) (x1 : Int32) (post : Int32 → St → Prop) : MetI l wX yX11_best cX11_best 2 (some .int) ({ frames := 14, cells := 0, slots := 0, locals := 473 }) [.ref (ad G 0), .int x1] G z0 sz (S_B_best post x1 z0) post := by
  refine Met.ofW (cc := cX11_best) (maxL := 2) (ret := (some .int)) (by decide) rfl ?_
  intro p e s m args below meth c s₁ B hml hv
  obtain ⟨rfl, hsz, hP, hD0, hE, hB⟩ := hv
  have S : CallFix p m c cX11_best 2 s _ GW RX11 := ⟨B.exec, B.bytes, hml, findClass_of_methodNamed B.named, fun w h => atoms_spec (ws := Cond.code yX11_best cX11_best 2 (some .int) :: GW) B.pre w (List.mem_cons_of_mem _ h)⟩
  have hlocks := B.notSynchronized
  subst hsz
  have hD := hD0.self (sz := s.heap.size)
  generalize hAe : va_A (wX G z0) s.heap.size = A at hD hE ⊢
  have hA : ∀ q : Nat, s.heap.size ≤ q → A q := fun q h => by rw [← hAe]; exact Or.inr h
  have hS : va_S A s.heap s.heap [] := va_S.rf
  have hl := lv_entry ([.ref (ad G 0), .int x1]) (n := 2) (Nat.le_of_ble_eq_true rfl)
  rw [lg_entry_eq]
  generalize (lg_sl ([.ref (ad G 0), .int x1]) ++ List.replicate (2 - (lg_sl ([.ref (ad G 0), .int x1])).length) Slot.unset).toArray = ls at hl ⊢
  have hl : lv_has ls 2 [(0, .ref (ad G 0)), (1, .int x1)] := hl
  refine w_B_best_0 S hE hA (Nat.le_refl _) (Nat.le_refl _) ?_ x1 z0 hB _ _ _ hP hD hS hl
  intro pc ls r σ H locs hd hp hP hD hS
  exact W.iret (v := r) B.exec B.bytes B.returns (fun t ht hW => ⟨⟨r, σ, rfl, hp, by rw [ht]; exact hP, hD⟩, hS.F ht⟩) hS.2.2 hd
def S_B_comes (post : Int32 → St → Prop) (x1 : Int32) (x2 : Int32) (z0 : St) : Prop :=
  (S_House_isTold (fun (r1 : Int32) (z1 : St) => ((r1 = 0 → (post (-1 : Int32) z1)) ∧ (¬ r1 = 0 → ((x1 < (1 : Int32) → (post (-1 : Int32) z1)) ∧ (¬ x1 < (1 : Int32) → (((4 : Int32) < x1 → (post (-1 : Int32) z1)) ∧ (¬ (4 : Int32) < x1 → ((x2 < 0 → (post (-1 : Int32) z1)) ∧ (¬ x2 < 0 → ((x2 ≤ (1 : Int32) → (S_Rows_search (fun (z2 : St) => ((x2 = 0 → (post (gI z2 36) z2)) ∧ (¬ x2 = 0 → (post (gI z2 37) z2)))) x1 (0 : Int32) z1)) ∧ (¬ x2 ≤ (1 : Int32) → (post (-1 : Int32) z1)))))))))))) z0)
set_option maxHeartbeats 4000000 in
set_option maxRecDepth 100000 in
theorem w_B_comes_0 {p : Program} {l : Launch} {e : Env} {R : Room} {s : State} {m : MethodId} {args : Array Value} {below : List Frame} {meth : Method} {c : Code} {Q : State → Prop} {G : GX} {A : Nat → Prop} (S : CallFix p m c cX11_comes 3 s args GW RX11) (hE : env G A s s.heap) (hA : ∀ q, s.heap.size ≤ q → A q) (hRf : 14 ≤ R.frames) (hRl : 473 ≤ R.locals) {post : Int32 → St → Prop} (hret : RetI p l e R s m args below meth c Q 0 0 wX G A cX11_comes post) (x1 : Int32) (x2 : Int32) (z0 : St) (hB : S_B_comes post x1 x2 z0) : Xw p l e R s m args below meth c Q 0 0 wX G A z0 3 [(0, .ref (ad G 0)), (1, .int x1), (2, .int x2)] 0 [] := by
  intro H locs ls hP hD hS hl
  have hx := S.1
  have hb := S.2.1
  refine lv_aload_n hx hb dX11_comes_0 rfl (lv_at hl 0 rfl) ?_
  refine xXg_0_house S hE hP lk_X11_64 dX11_comes_1 ?_
  refine xcVi [] S hE hA hP hD hS (c_House_isTold l G z0 H.size _) hB (gw_c lk_X11_147 (gw_c wi_X0_isTold (gw_c we_X0_X0_isTold_X0_isTold (gw_c wn_X0 (gw_c wc_X0_isTold (fun _ h9 => h9)))))) hd_X0_isTold rfl rfl (Nat.le_trans (Nat.le_of_ble_eq_true rfl) hRf) (Nat.le_trans (Nat.le_of_ble_eq_true rfl) hRl) ⟨Nat.zero_le _, Nat.zero_le _⟩ (va_recv hE.1 hP (ci := 0) (q0 := 6) rfl rfl) rfl hl.1 rfl (Nat.le_of_ble_eq_true rfl) dX11_comes_4 (fun r1 z1 H locs hB hP hD hS => ?_)
  refine lv_if_eq (tgt := 29) hx hb dX11_comes_7 (by decide) (fun c2 => ?_) (fun c2 => ?_)
  · have hB := hB.1 c2
    refine lv_iconst (v := -1) hx hb dX11_comes_29 (by decide) ?_
    exact hret _ _ _ _ _ _ dX11_comes_30 hB hP hD hS
  · have hB := hB.2 c2
    refine lv_iload_n hx hb dX11_comes_10 rfl (lv_at hl 1 rfl) ?_
    refine lv_iconst (v := 1) hx hb dX11_comes_11 (by decide) ?_
    refine lv_icmp_lt (tgt := 29) hx hb dX11_comes_12 (by decide) (fun c3 => ?_) (fun c3 => ?_)
    · have hB := hB.1 c3
      refine lv_iconst (v := -1) hx hb dX11_comes_29 (by decide) ?_
      exact hret _ _ _ _ _ _ dX11_comes_30 hB hP hD hS
    · have hB := hB.2 c3
      refine lv_iload_n hx hb dX11_comes_15 rfl (lv_at hl 1 rfl) ?_
      refine lv_iconst (v := 4) hx hb dX11_comes_16 (by decide) ?_
      refine lv_icmp_gt (tgt := 29) hx hb dX11_comes_17 (by decide) (fun c4 => ?_) (fun c4 => ?_)
      · have hB := hB.1 c4
        refine lv_iconst (v := -1) hx hb dX11_comes_29 (by decide) ?_
        exact hret _ _ _ _ _ _ dX11_comes_30 hB hP hD hS
      · have hB := hB.2 c4
        refine lv_iload_n hx hb dX11_comes_20 rfl (lv_at hl 2 rfl) ?_
        refine lv_if_lt (tgt := 29) hx hb dX11_comes_21 (by decide) (fun c5 => ?_) (fun c5 => ?_)
        · have hB := hB.1 c5
          refine lv_iconst (v := -1) hx hb dX11_comes_29 (by decide) ?_
          exact hret _ _ _ _ _ _ dX11_comes_30 hB hP hD hS
        · have hB := hB.2 c5
          refine lv_iload_n hx hb dX11_comes_24 rfl (lv_at hl 2 rfl) ?_
          refine lv_iconst (v := 1) hx hb dX11_comes_25 (by decide) ?_
          refine lv_icmp_le (tgt := 31) hx hb dX11_comes_26 (by decide) (fun c6 => ?_) (fun c6 => ?_)
          · have hB := hB.1 c6
            refine lv_aload_n hx hb dX11_comes_31 rfl (lv_at hl 0 rfl) ?_
            refine xXg_0_rows S hE hP lk_X11_84 dX11_comes_32 ?_
            refine lv_iload_n hx hb dX11_comes_35 rfl (lv_at hl 1 rfl) ?_
            refine lv_iconst (v := 0) hx hb dX11_comes_36 (by decide) ?_
            refine xcVv [.int x1, .int (0 : Int32)] S hE hA hP hD hS (c_Rows_search l G z1 H.size x1 (0 : Int32) _) hB (gw_c lk_X11_283 (gw_c wi_X6_search (gw_c we_X6_X6_search_X6_search (gw_c wn_X6 (gw_c wc_X6_search (fun _ h9 => h9)))))) hd_X6_search rfl rfl (Nat.le_trans (Nat.le_of_ble_eq_true rfl) hRf) (Nat.le_trans (Nat.le_of_ble_eq_true rfl) hRl) ⟨Nat.zero_le _, Nat.zero_le _⟩ (va_recv hE.1 hP (ci := 5) (q0 := 10) rfl rfl) rfl hl.1 rfl (Nat.le_of_ble_eq_true rfl) dX11_comes_37 (fun z2 H locs hB hP hD hS => ?_)
            refine lv_iload_n hx hb dX11_comes_40 rfl (lv_at hl 2 rfl) ?_
            refine lv_if_ne (tgt := 54) hx hb dX11_comes_41 (by decide) (fun c7 => ?_) (fun c7 => ?_)
            · have hB := hB.2 c7
              refine lv_aload_n hx hb dX11_comes_54 rfl (lv_at hl 0 rfl) ?_
              refine xXg_0_rows S hE hP lk_X11_84 dX11_comes_55 ?_
              refine xXg_10_topJoy S hE hP lk_X11_290 dX11_comes_58 ?_
              exact hret _ _ _ _ _ _ dX11_comes_61 hB hP hD hS
            · have hB := hB.1 c7
              refine lv_aload_n hx hb dX11_comes_44 rfl (lv_at hl 0 rfl) ?_
              refine xXg_0_rows S hE hP lk_X11_84 dX11_comes_45 ?_
              refine xXg_10_topRow S hE hP lk_X11_287 dX11_comes_48 ?_
              refine lv_goto (tgt := 61) hx hb dX11_comes_51 (by decide) ?_
              exact hret _ _ _ _ _ _ dX11_comes_61 hB hP hD hS
          · have hB := hB.2 c6
            refine lv_iconst (v := -1) hx hb dX11_comes_29 (by decide) ?_
            exact hret _ _ _ _ _ _ dX11_comes_30 hB hP hD hS
set_option maxHeartbeats 4000000 in
set_option maxRecDepth 100000 in
theorem c_B_comes (l : Launch) (G : GX) (z0 : St) (sz : Nat) (x1 : Int32) (x2 : Int32) (post : Int32 → St → Prop) : MetI l wX yX11_comes cX11_comes 3 (some .int) ({ frames := 14, cells := 0, slots := 0, locals := 473 }) [.ref (ad G 0), .int x1, .int x2] G z0 sz (S_B_comes post x1 x2 z0) post := by
  refine Met.ofW (cc := cX11_comes) (maxL := 3) (ret := (some .int)) (by decide) rfl ?_
  intro p e s m args below meth c s₁ B hml hv
  obtain ⟨rfl, hsz, hP, hD0, hE, hB⟩ := hv
  have S : CallFix p m c cX11_comes 3 s _ GW RX11 := ⟨B.exec, B.bytes, hml, findClass_of_methodNamed B.named, fun w h => atoms_spec (ws := Cond.code yX11_comes cX11_comes 3 (some .int) :: GW) B.pre w (List.mem_cons_of_mem _ h)⟩
  have hlocks := B.notSynchronized
  subst hsz
  have hD := hD0.self (sz := s.heap.size)
  generalize hAe : va_A (wX G z0) s.heap.size = A at hD hE ⊢
  have hA : ∀ q : Nat, s.heap.size ≤ q → A q := fun q h => by rw [← hAe]; exact Or.inr h
  have hS : va_S A s.heap s.heap [] := va_S.rf
  have hl := lv_entry ([.ref (ad G 0), .int x1, .int x2]) (n := 3) (Nat.le_of_ble_eq_true rfl)
  rw [lg_entry_eq]
  generalize (lg_sl ([.ref (ad G 0), .int x1, .int x2]) ++ List.replicate (3 - (lg_sl ([.ref (ad G 0), .int x1, .int x2])).length) Slot.unset).toArray = ls at hl ⊢
  have hl : lv_has ls 3 [(0, .ref (ad G 0)), (1, .int x1), (2, .int x2)] := hl
  refine w_B_comes_0 S hE hA (Nat.le_refl _) (Nat.le_refl _) ?_ x1 x2 z0 hB _ _ _ hP hD hS hl
  intro pc ls r σ H locs hd hp hP hD hS
  exact W.iret (v := r) B.exec B.bytes B.returns (fun t ht hW => ⟨⟨r, σ, rfl, hp, by rw [ht]; exact hP, hD⟩, hS.F ht⟩) hS.2.2 hd
def S_Rows_aim (post : St → Prop) (x1 : Int32) (x2 : Int32) (x3 : Int32) (z0 : St) : Prop :=
  (∀ z1 : St, z1 = sI z0 33 x1 → ((x2 = 0 ∨ x2 = 1) ∧ (∀ z2 : St, z2 = sI z1 34 x2 → (∀ z3 : St, z3 = sI z2 35 x3 → (post z3)))))
set_option maxHeartbeats 4000000 in
set_option maxRecDepth 100000 in
theorem w_Rows_aim_0 {p : Program} {l : Launch} {e : Env} {R : Room} {s : State} {m : MethodId} {args : Array Value} {below : List Frame} {meth : Method} {c : Code} {Q : State → Prop} {G : GX} {A : Nat → Prop} (S : CallFix p m c cX6_aim 4 s args GW RX6) (hE : env G A s s.heap) (hA : ∀ q, s.heap.size ≤ q → A q) (hRf : 0 ≤ R.frames) (hRl : 0 ≤ R.locals) {post : St → Prop} (hret : RetV p l e R s m args below meth c Q 0 0 wX G A cX6_aim post) (x1 : Int32) (x2 : Int32) (x3 : Int32) (z0 : St) (hB : S_Rows_aim post x1 x2 x3 z0) : Xw p l e R s m args below meth c Q 0 0 wX G A z0 4 [(0, .ref (ad G 10)), (1, .int x1), (2, .int x2), (3, .int x3)] 0 [] := by
  intro H locs ls hP hD hS hl
  have hx := S.1
  have hb := S.2.1
  refine lv_aload_n hx hb dX6_aim_0 rfl (lv_at hl 0 rfl) ?_
  refine lv_iload_n hx hb dX6_aim_1 rfl (lv_at hl 1 rfl) ?_
  obtain ⟨z1, ez1⟩ : ∃ z9, z9 = sI z0 33 x1 := ⟨_, rfl⟩
  have hB := hB z1 ez1
  refine xXp_10_aimedAt S hE hP hD hS lk_X6_9 dX6_aim_2 (fun H locs hP hD hS => ?_)
  rw [← ez1] at hP hD
  refine lv_aload_n hx hb dX6_aim_5 rfl (lv_at hl 0 rfl) ?_
  refine lv_iload_n hx hb dX6_aim_6 rfl (lv_at hl 2 rfl) ?_
  obtain ⟨hv9, hB⟩ := hB
  obtain ⟨z2, ez2⟩ : ∃ z9, z9 = sI z1 34 x2 := ⟨_, rfl⟩
  have hB := hB z2 ez2
  refine xXp_10_otherThanAim S hE hP hD hS lk_X6_29 hv9 dX6_aim_7 (fun H locs hP hD hS => ?_)
  rw [← ez2] at hP hD
  refine lv_aload_n hx hb dX6_aim_10 rfl (lv_at hl 0 rfl) ?_
  refine lv_iload_n hx hb dX6_aim_11 rfl (lv_at hl 3 rfl) ?_
  obtain ⟨z3, ez3⟩ : ∃ z9, z9 = sI z2 35 x3 := ⟨_, rfl⟩
  have hB := hB z3 ez3
  refine xXp_10_aimedIndex S hE hP hD hS lk_X6_15 dX6_aim_12 (fun H locs hP hD hS => ?_)
  rw [← ez3] at hP hD
  exact hret _ _ _ _ _ dX6_aim_15 hB hP hD hS
set_option maxHeartbeats 4000000 in
set_option maxRecDepth 100000 in
theorem c_Rows_aim (l : Launch) (G : GX) (z0 : St) (sz : Nat) (x1 : Int32) (x2 : Int32) (x3 : Int32) (post : St → Prop) : MetV l wX yX6_aim cX6_aim 4 none ({ frames := 0, cells := 0, slots := 0, locals := 0 }) [.ref (ad G 10), .int x1, .int x2, .int x3] G z0 sz (S_Rows_aim post x1 x2 x3 z0) post := by
  refine Met.ofW (cc := cX6_aim) (maxL := 4) (ret := none) (by decide) rfl ?_
  intro p e s m args below meth c s₁ B hml hv
  obtain ⟨rfl, hsz, hP, hD0, hE, hB⟩ := hv
  have S : CallFix p m c cX6_aim 4 s _ GW RX6 := ⟨B.exec, B.bytes, hml, findClass_of_methodNamed B.named, fun w h => atoms_spec (ws := Cond.code yX6_aim cX6_aim 4 none :: GW) B.pre w (List.mem_cons_of_mem _ h)⟩
  have hlocks := B.notSynchronized
  subst hsz
  have hD := hD0.self (sz := s.heap.size)
  generalize hAe : va_A (wX G z0) s.heap.size = A at hD hE ⊢
  have hA : ∀ q : Nat, s.heap.size ≤ q → A q := fun q h => by rw [← hAe]; exact Or.inr h
  have hS : va_S A s.heap s.heap [] := va_S.rf
  have hl := lv_entry ([.ref (ad G 10), .int x1, .int x2, .int x3]) (n := 4) (Nat.le_of_ble_eq_true rfl)
  rw [lg_entry_eq]
  generalize (lg_sl ([.ref (ad G 10), .int x1, .int x2, .int x3]) ++ List.replicate (4 - (lg_sl ([.ref (ad G 10), .int x1, .int x2, .int x3])).length) Slot.unset).toArray = ls at hl ⊢
  have hl : lv_has ls 4 [(0, .ref (ad G 10)), (1, .int x1), (2, .int x2), (3, .int x3)] := hl
  refine w_Rows_aim_0 S hE hA (Nat.le_refl _) (Nat.le_refl _) ?_ x1 x2 x3 z0 hB _ _ _ hP hD hS hl
  intro pc ls σ H locs hd hp hP hD hS
  exact W.vret B.exec B.bytes B.returns (fun t ht hW => ⟨⟨σ, rfl, hp, by rw [ht]; exact hP, hD⟩, hS.F ht⟩) hS.2.2 hd
def B_B_fewest_2 (post : Int32 → St → Prop) (ih2 : Int32 → Int32 → St → Prop) (x1 : Int32) (x2 : Int32) (z0 : St) : Prop :=
  (((4 : Int32) < x2 → (post (-1 : Int32) z0)) ∧ (¬ (4 : Int32) < x2 → (S_Rows_search (fun (z1 : St) => (((gI z1 38) ≤ 0 → (∀ v3 : Int32, v3 = x2 + (1 : Int32) → (ih2 x1 v3 z1))) ∧ (¬ (gI z1 38) ≤ 0 → ((x1 = 0 → (post x2 z1)) ∧ (¬ x1 = 0 → (post (gI z1 39) z1)))))) x2 (0 : Int32) z0)))
set_option maxHeartbeats 4000000 in
set_option maxRecDepth 100000 in
theorem w_B_fewest_2 {p : Program} {l : Launch} {e : Env} {R : Room} {s : State} {m : MethodId} {args : Array Value} {below : List Frame} {meth : Method} {c : Code} {Q : State → Prop} {G : GX} {A : Nat → Prop} (S : CallFix p m c cX11_fewest 3 s args GW RX11) (hE : env G A s s.heap) (hA : ∀ q, s.heap.size ≤ q → A q) (hRf : 14 ≤ R.frames) (hRl : 473 ≤ R.locals) {post : Int32 → St → Prop} (hret : RetI p l e R s m args below meth c Q 0 0 wX G A cX11_fewest post) {ih2 : Int32 → Int32 → St → Prop} (h2 : ∀ (x1 : Int32) (x2 : Int32) (z0 : St), ih2 x1 x2 z0 → Xw p l e R s m args below meth c Q 0 0 wX G A z0 3 [(0, .ref (ad G 0)), (1, .int x1), (2, .int x2)] 2 []) (x1 : Int32) (x2 : Int32) (z0 : St) (hB : B_B_fewest_2 post ih2 x1 x2 z0) : Xw p l e R s m args below meth c Q 0 0 wX G A z0 3 [(0, .ref (ad G 0)), (1, .int x1), (2, .int x2)] 2 [] := by
  intro H locs ls hP hD hS hl
  have hx := S.1
  have hb := S.2.1
  refine lv_iload_n hx hb dX11_fewest_2 rfl (lv_at hl 2 rfl) ?_
  refine lv_iconst (v := 4) hx hb dX11_fewest_3 (by decide) ?_
  refine lv_icmp_gt (tgt := 48) hx hb dX11_fewest_4 (by decide) (fun c1 => ?_) (fun c1 => ?_)
  · have hB := hB.1 c1
    refine lv_iconst (v := -1) hx hb dX11_fewest_48 (by decide) ?_
    exact hret _ _ _ _ _ _ dX11_fewest_49 hB hP hD hS
  · have hB := hB.2 c1
    refine lv_aload_n hx hb dX11_fewest_7 rfl (lv_at hl 0 rfl) ?_
    refine xXg_0_rows S hE hP lk_X11_84 dX11_fewest_8 ?_
    refine lv_iload_n hx hb dX11_fewest_11 rfl (lv_at hl 2 rfl) ?_
    refine lv_iconst (v := 0) hx hb dX11_fewest_12 (by decide) ?_
    refine xcVv [.int x2, .int (0 : Int32)] S hE hA hP hD hS (c_Rows_search l G z0 H.size x2 (0 : Int32) _) hB (gw_c lk_X11_283 (gw_c wi_X6_search (gw_c we_X6_X6_search_X6_search (gw_c wn_X6 (gw_c wc_X6_search (fun _ h9 => h9)))))) hd_X6_search rfl rfl (Nat.le_trans (Nat.le_of_ble_eq_true rfl) hRf) (Nat.le_trans (Nat.le_of_ble_eq_true rfl) hRl) ⟨Nat.zero_le _, Nat.zero_le _⟩ (va_recv hE.1 hP (ci := 5) (q0 := 10) rfl rfl) rfl hl.1 rfl (Nat.le_of_ble_eq_true rfl) dX11_fewest_13 (fun z1 H locs hB hP hD hS => ?_)
    refine lv_aload_n hx hb dX11_fewest_16 rfl (lv_at hl 0 rfl) ?_
    refine xXg_0_rows S hE hP lk_X11_84 dX11_fewest_17 ?_
    refine xXg_10_hits S hE hP lk_X11_300 dX11_fewest_20 ?_
    refine lv_if_le (tgt := 42) hx hb dX11_fewest_23 (by decide) (fun c2 => ?_) (fun c2 => ?_)
    · have hB := hB.1 c2
      obtain ⟨v3, ev3⟩ : ∃ y9, y9 = x2 + (1 : Int32) := ⟨_, rfl⟩
      have hB := hB v3 ev3
      refine lv_iinc (v := v3) (lv' := [(2, .int v3), (0, .ref (ad G 0)), (1, .int x1)]) hx hb dX11_fewest_42 hl (k := 2) rfl (by rw [ev3]; rfl) (by decide) rfl (fun ls hl => ?_)
      refine lv_goto (tgt := 2) hx hb dX11_fewest_45 (by decide) ?_
      exact h2 x1 v3 z1 hB _ _ _ hP hD hS (lv_sub hl [1, 2, 0] rfl)
    · have hB := hB.2 c2
      refine lv_iload_n hx hb dX11_fewest_26 rfl (lv_at hl 1 rfl) ?_
      refine lv_if_ne (tgt := 34) hx hb dX11_fewest_27 (by decide) (fun c4 => ?_) (fun c4 => ?_)
      · have hB := hB.2 c4
        refine lv_aload_n hx hb dX11_fewest_34 rfl (lv_at hl 0 rfl) ?_
        refine xXg_0_rows S hE hP lk_X11_84 dX11_fewest_35 ?_
        refine xXg_10_hitRow S hE hP lk_X11_303 dX11_fewest_38 ?_
        exact hret _ _ _ _ _ _ dX11_fewest_41 hB hP hD hS
      · have hB := hB.1 c4
        refine lv_iload_n hx hb dX11_fewest_30 rfl (lv_at hl 2 rfl) ?_
        refine lv_goto (tgt := 41) hx hb dX11_fewest_31 (by decide) ?_
        exact hret _ _ _ _ _ _ dX11_fewest_41 hB hP hD hS
def L_B_fewest_2 (post : Int32 → St → Prop) : Nat → Int32 → Int32 → St → Prop
  | 0 => fun _ _ _ => False
  | n + 1 => B_B_fewest_2 post (L_B_fewest_2 post n)
theorem wl_B_fewest_2 {p : Program} {l : Launch} {e : Env} {R : Room} {s : State} {m : MethodId} {args : Array Value} {below : List Frame} {meth : Method} {c : Code} {Q : State → Prop} {G : GX} {A : Nat → Prop} (S : CallFix p m c cX11_fewest 3 s args GW RX11) (hE : env G A s s.heap) (hA : ∀ q, s.heap.size ≤ q → A q) (hRf : 14 ≤ R.frames) (hRl : 473 ≤ R.locals) {post : Int32 → St → Prop} (hret : RetI p l e R s m args below meth c Q 0 0 wX G A cX11_fewest post) : ∀ (n : Nat) (x1 : Int32) (x2 : Int32) (z0 : St), L_B_fewest_2 post n x1 x2 z0 → Xw p l e R s m args below meth c Q 0 0 wX G A z0 3 [(0, .ref (ad G 0)), (1, .int x1), (2, .int x2)] 2 [] := by
  intro n
  induction n with
  | zero => intro x1 x2 z0 hB; exact absurd hB id
  | succ n ih => exact fun x1 x2 z0 hB => w_B_fewest_2 S hE hA hRf hRl hret ih x1 x2 z0 hB
def S_B_fewest (post : Int32 → St → Prop) (x1 : Int32) (z0 : St) : Prop :=
  (∃ n1, L_B_fewest_2 post n1 x1 (0 : Int32) z0)
set_option maxHeartbeats 4000000 in
set_option maxRecDepth 100000 in
theorem w_B_fewest_0 {p : Program} {l : Launch} {e : Env} {R : Room} {s : State} {m : MethodId} {args : Array Value} {below : List Frame} {meth : Method} {c : Code} {Q : State → Prop} {G : GX} {A : Nat → Prop} (S : CallFix p m c cX11_fewest 3 s args GW RX11) (hE : env G A s s.heap) (hA : ∀ q, s.heap.size ≤ q → A q) (hRf : 14 ≤ R.frames) (hRl : 473 ≤ R.locals) {post : Int32 → St → Prop} (hret : RetI p l e R s m args below meth c Q 0 0 wX G A cX11_fewest post) (x1 : Int32) (z0 : St) (hB : S_B_fewest post x1 z0) : Xw p l e R s m args below meth c Q 0 0 wX G A z0 3 [(0, .ref (ad G 0)), (1, .int x1)] 0 [] := by
  intro H locs ls hP hD hS hl
  have hx := S.1
  have hb := S.2.1
  refine lv_iconst (v := 0) hx hb dX11_fewest_0 (by decide) ?_
  refine lv_istore_n (lv' := [(2, .int (0 : Int32)), (0, .ref (ad G 0)), (1, .int x1)]) hx hb dX11_fewest_1 rfl hl (by decide) rfl (fun ls hl => ?_)
  obtain ⟨n1, hB⟩ := hB
  exact wl_B_fewest_2 S hE hA hRf hRl hret n1 x1 (0 : Int32) z0 hB _ _ _ hP hD hS (lv_sub hl [1, 2, 0] rfl)
set_option maxHeartbeats 4000000 in
set_option maxRecDepth 100000 in
theorem c_B_fewest (l : Launch) (G : GX) (z0 : St) (sz : Nat) (x1 : Int32) (post : Int32 → St → Prop) : MetI l wX yX11_fewest cX11_fewest 3 (some .int) ({ frames := 14, cells := 0, slots := 0, locals := 473 }) [.ref (ad G 0), .int x1] G z0 sz (S_B_fewest post x1 z0) post := by
  refine Met.ofW (cc := cX11_fewest) (maxL := 3) (ret := (some .int)) (by decide) rfl ?_
  intro p e s m args below meth c s₁ B hml hv
  obtain ⟨rfl, hsz, hP, hD0, hE, hB⟩ := hv
  have S : CallFix p m c cX11_fewest 3 s _ GW RX11 := ⟨B.exec, B.bytes, hml, findClass_of_methodNamed B.named, fun w h => atoms_spec (ws := Cond.code yX11_fewest cX11_fewest 3 (some .int) :: GW) B.pre w (List.mem_cons_of_mem _ h)⟩
  have hlocks := B.notSynchronized
  subst hsz
  have hD := hD0.self (sz := s.heap.size)
  generalize hAe : va_A (wX G z0) s.heap.size = A at hD hE ⊢
  have hA : ∀ q : Nat, s.heap.size ≤ q → A q := fun q h => by rw [← hAe]; exact Or.inr h
  have hS : va_S A s.heap s.heap [] := va_S.rf
  have hl := lv_entry ([.ref (ad G 0), .int x1]) (n := 3) (Nat.le_of_ble_eq_true rfl)
  rw [lg_entry_eq]
  generalize (lg_sl ([.ref (ad G 0), .int x1]) ++ List.replicate (3 - (lg_sl ([.ref (ad G 0), .int x1])).length) Slot.unset).toArray = ls at hl ⊢
  have hl : lv_has ls 3 [(0, .ref (ad G 0)), (1, .int x1)] := hl
  refine w_B_fewest_0 S hE hA (Nat.le_refl _) (Nat.le_refl _) ?_ x1 z0 hB _ _ _ hP hD hS hl
  intro pc ls r σ H locs hd hp hP hD hS
  exact W.iret (v := r) B.exec B.bytes B.returns (fun t ht hW => ⟨⟨r, σ, rfl, hp, by rw [ht]; exact hP, hD⟩, hS.F ht⟩) hS.2.2 hd
def S_B_soonest (post : Int32 → St → Prop) (x1 : Int32) (x2 : Int32) (z0 : St) : Prop :=
  (S_House_hasDrink (fun (r1 : Int32) (z1 : St) => ((r1 = 0 → (post (-1 : Int32) z1)) ∧ (¬ r1 = 0 → ((x2 < 0 → (post (-1 : Int32) z1)) ∧ (¬ x2 < 0 → ((x2 ≤ (1 : Int32) → (S_Rows_aim (fun (z2 : St) => (S_B_fewest (fun (r5 : Int32) (z3 : St) => (post r5 z3)) x2 z2)) x1 (0 : Int32) (0 : Int32) z1)) ∧ (¬ x2 ≤ (1 : Int32) → (post (-1 : Int32) z1)))))))) x1 z0)
set_option maxHeartbeats 4000000 in
set_option maxRecDepth 100000 in
theorem w_B_soonest_0 {p : Program} {l : Launch} {e : Env} {R : Room} {s : State} {m : MethodId} {args : Array Value} {below : List Frame} {meth : Method} {c : Code} {Q : State → Prop} {G : GX} {A : Nat → Prop} (S : CallFix p m c cX11_soonest 3 s args GW RX11) (hE : env G A s s.heap) (hA : ∀ q, s.heap.size ≤ q → A q) (hRf : 15 ≤ R.frames) (hRl : 495 ≤ R.locals) {post : Int32 → St → Prop} (hret : RetI p l e R s m args below meth c Q 0 0 wX G A cX11_soonest post) (x1 : Int32) (x2 : Int32) (z0 : St) (hB : S_B_soonest post x1 x2 z0) : Xw p l e R s m args below meth c Q 0 0 wX G A z0 3 [(0, .ref (ad G 0)), (1, .int x1), (2, .int x2)] 0 [] := by
  intro H locs ls hP hD hS hl
  have hx := S.1
  have hb := S.2.1
  refine lv_aload_n hx hb dX11_soonest_0 rfl (lv_at hl 0 rfl) ?_
  refine xXg_0_house S hE hP lk_X11_64 dX11_soonest_1 ?_
  refine lv_iload_n hx hb dX11_soonest_4 rfl (lv_at hl 1 rfl) ?_
  refine xcVi [.int x1] S hE hA hP hD hS (c_House_hasDrink l G z0 H.size x1 _) hB (gw_c lk_X11_160 (gw_c wi_X0_hasDrink (gw_c we_X0_X0_hasDrink_X0_hasDrink (gw_c wn_X0 (gw_c wc_X0_hasDrink (fun _ h9 => h9)))))) hd_X0_hasDrink rfl rfl (Nat.le_trans (Nat.le_of_ble_eq_true rfl) hRf) (Nat.le_trans (Nat.le_of_ble_eq_true rfl) hRl) ⟨Nat.zero_le _, Nat.zero_le _⟩ (va_recv hE.1 hP (ci := 0) (q0 := 6) rfl rfl) rfl hl.1 rfl (Nat.le_of_ble_eq_true rfl) dX11_soonest_5 (fun r1 z1 H locs hB hP hD hS => ?_)
  refine lv_if_eq (tgt := 20) hx hb dX11_soonest_8 (by decide) (fun c2 => ?_) (fun c2 => ?_)
  · have hB := hB.1 c2
    refine lv_iconst (v := -1) hx hb dX11_soonest_20 (by decide) ?_
    exact hret _ _ _ _ _ _ dX11_soonest_21 hB hP hD hS
  · have hB := hB.2 c2
    refine lv_iload_n hx hb dX11_soonest_11 rfl (lv_at hl 2 rfl) ?_
    refine lv_if_lt (tgt := 20) hx hb dX11_soonest_12 (by decide) (fun c3 => ?_) (fun c3 => ?_)
    · have hB := hB.1 c3
      refine lv_iconst (v := -1) hx hb dX11_soonest_20 (by decide) ?_
      exact hret _ _ _ _ _ _ dX11_soonest_21 hB hP hD hS
    · have hB := hB.2 c3
      refine lv_iload_n hx hb dX11_soonest_15 rfl (lv_at hl 2 rfl) ?_
      refine lv_iconst (v := 1) hx hb dX11_soonest_16 (by decide) ?_
      refine lv_icmp_le (tgt := 22) hx hb dX11_soonest_17 (by decide) (fun c4 => ?_) (fun c4 => ?_)
      · have hB := hB.1 c4
        refine lv_aload_n hx hb dX11_soonest_22 rfl (lv_at hl 0 rfl) ?_
        refine xXg_0_rows S hE hP lk_X11_84 dX11_soonest_23 ?_
        refine lv_iload_n hx hb dX11_soonest_26 rfl (lv_at hl 1 rfl) ?_
        refine lv_iconst (v := 0) hx hb dX11_soonest_27 (by decide) ?_
        refine lv_iconst (v := 0) hx hb dX11_soonest_28 (by decide) ?_
        refine xcVv [.int x1, .int (0 : Int32), .int (0 : Int32)] S hE hA hP hD hS (c_Rows_aim l G z1 H.size x1 (0 : Int32) (0 : Int32) _) hB (gw_c lk_X11_293 (gw_c wi_X6_aim (gw_c we_X6_X6_aim_X6_aim (gw_c wn_X6 (gw_c wc_X6_aim (fun _ h9 => h9)))))) hd_X6_aim rfl rfl (Nat.le_trans (Nat.le_of_ble_eq_true rfl) hRf) (Nat.le_trans (Nat.le_of_ble_eq_true rfl) hRl) ⟨Nat.zero_le _, Nat.zero_le _⟩ (va_recv hE.1 hP (ci := 5) (q0 := 10) rfl rfl) rfl hl.1 rfl (Nat.le_of_ble_eq_true rfl) dX11_soonest_29 (fun z2 H locs hB hP hD hS => ?_)
        refine lv_aload_n hx hb dX11_soonest_32 rfl (lv_at hl 0 rfl) ?_
        refine lv_iload_n hx hb dX11_soonest_33 rfl (lv_at hl 2 rfl) ?_
        refine xcVi [.int x2] S hE hA hP hD hS (c_B_fewest l G z2 H.size x2 _) hB (gw_c lk_X11_297 (gw_c wi_X11_fewest (gw_c we_X11_X11_fewest_X11_fewest (gw_c wn_X11 (gw_c wc_X11_fewest (fun _ h9 => h9)))))) hd_X11_fewest rfl rfl (Nat.le_trans (Nat.le_of_ble_eq_true rfl) hRf) (Nat.le_trans (Nat.le_of_ble_eq_true rfl) hRl) ⟨Nat.zero_le _, Nat.zero_le _⟩ (va_recv hE.1 hP (ci := 10) (q0 := 0) rfl rfl) rfl hl.1 rfl (Nat.le_of_ble_eq_true rfl) dX11_soonest_34 (fun r5 z3 H locs hB hP hD hS => ?_)
        exact hret _ _ _ _ _ _ dX11_soonest_37 hB hP hD hS
      · have hB := hB.2 c4
        refine lv_iconst (v := -1) hx hb dX11_soonest_20 (by decide) ?_
        exact hret _ _ _ _ _ _ dX11_soonest_21 hB hP hD hS
set_option maxHeartbeats 4000000 in
set_option maxRecDepth 100000 in
theorem c_B_soonest (l : Launch) (G : GX) (z0 : St) (sz : Nat) (x1 : Int32) (x2 : Int32) (post : Int32 → St → Prop) : MetI l wX yX11_soonest cX11_soonest 3 (some .int) ({ frames := 15, cells := 0, slots := 0, locals := 495 }) [.ref (ad G 0), .int x1, .int x2] G z0 sz (S_B_soonest post x1 x2 z0) post := by
  refine Met.ofW (cc := cX11_soonest) (maxL := 3) (ret := (some .int)) (by decide) rfl ?_
  intro p e s m args below meth c s₁ B hml hv
  obtain ⟨rfl, hsz, hP, hD0, hE, hB⟩ := hv
  have S : CallFix p m c cX11_soonest 3 s _ GW RX11 := ⟨B.exec, B.bytes, hml, findClass_of_methodNamed B.named, fun w h => atoms_spec (ws := Cond.code yX11_soonest cX11_soonest 3 (some .int) :: GW) B.pre w (List.mem_cons_of_mem _ h)⟩
  have hlocks := B.notSynchronized
  subst hsz
  have hD := hD0.self (sz := s.heap.size)
  generalize hAe : va_A (wX G z0) s.heap.size = A at hD hE ⊢
  have hA : ∀ q : Nat, s.heap.size ≤ q → A q := fun q h => by rw [← hAe]; exact Or.inr h
  have hS : va_S A s.heap s.heap [] := va_S.rf
  have hl := lv_entry ([.ref (ad G 0), .int x1, .int x2]) (n := 3) (Nat.le_of_ble_eq_true rfl)
  rw [lg_entry_eq]
  generalize (lg_sl ([.ref (ad G 0), .int x1, .int x2]) ++ List.replicate (3 - (lg_sl ([.ref (ad G 0), .int x1, .int x2])).length) Slot.unset).toArray = ls at hl ⊢
  have hl : lv_has ls 3 [(0, .ref (ad G 0)), (1, .int x1), (2, .int x2)] := hl
  refine w_B_soonest_0 S hE hA (Nat.le_refl _) (Nat.le_refl _) ?_ x1 x2 z0 hB _ _ _ hP hD hS hl
  intro pc ls r σ H locs hd hp hP hD hS
  exact W.iret (v := r) B.exec B.bytes B.returns (fun t ht hW => ⟨⟨r, σ, rfl, hp, by rw [ht]; exact hP, hD⟩, hS.F ht⟩) hS.2.2 hd
def S_B_ends (post : Int32 → St → Prop) (x1 : Int32) (z0 : St) : Prop :=
  (S_House_isTold (fun (r1 : Int32) (z1 : St) => ((r1 = 0 → (post (-1 : Int32) z1)) ∧ (¬ r1 = 0 → ((x1 < 0 → (post (-1 : Int32) z1)) ∧ (¬ x1 < 0 → ((x1 ≤ (1 : Int32) → (S_Table_bottle_8 (fun (r5 : Int32) (z2 : St) => (S_Rows_aim (fun (z3 : St) => (S_B_fewest (fun (r6 : Int32) (z4 : St) => (post r6 z4)) x1 z3)) r5 (1 : Int32) (0 : Int32) z2)) z1)) ∧ (¬ x1 ≤ (1 : Int32) → (post (-1 : Int32) z1)))))))) z0)
set_option maxHeartbeats 4000000 in
set_option maxRecDepth 100000 in
theorem w_B_ends_0 {p : Program} {l : Launch} {e : Env} {R : Room} {s : State} {m : MethodId} {args : Array Value} {below : List Frame} {meth : Method} {c : Code} {Q : State → Prop} {G : GX} {A : Nat → Prop} (S : CallFix p m c cX11_ends 2 s args GW RX11) (hE : env G A s s.heap) (hA : ∀ q, s.heap.size ≤ q → A q) (hRf : 15 ≤ R.frames) (hRl : 495 ≤ R.locals) {post : Int32 → St → Prop} (hret : RetI p l e R s m args below meth c Q 0 0 wX G A cX11_ends post) (x1 : Int32) (z0 : St) (hB : S_B_ends post x1 z0) : Xw p l e R s m args below meth c Q 0 0 wX G A z0 2 [(0, .ref (ad G 0)), (1, .int x1)] 0 [] := by
  intro H locs ls hP hD hS hl
  have hx := S.1
  have hb := S.2.1
  refine lv_aload_n hx hb dX11_ends_0 rfl (lv_at hl 0 rfl) ?_
  refine xXg_0_house S hE hP lk_X11_64 dX11_ends_1 ?_
  refine xcVi [] S hE hA hP hD hS (c_House_isTold l G z0 H.size _) hB (gw_c lk_X11_147 (gw_c wi_X0_isTold (gw_c we_X0_X0_isTold_X0_isTold (gw_c wn_X0 (gw_c wc_X0_isTold (fun _ h9 => h9)))))) hd_X0_isTold rfl rfl (Nat.le_trans (Nat.le_of_ble_eq_true rfl) hRf) (Nat.le_trans (Nat.le_of_ble_eq_true rfl) hRl) ⟨Nat.zero_le _, Nat.zero_le _⟩ (va_recv hE.1 hP (ci := 0) (q0 := 6) rfl rfl) rfl hl.1 rfl (Nat.le_of_ble_eq_true rfl) dX11_ends_4 (fun r1 z1 H locs hB hP hD hS => ?_)
  refine lv_if_eq (tgt := 19) hx hb dX11_ends_7 (by decide) (fun c2 => ?_) (fun c2 => ?_)
  · have hB := hB.1 c2
    refine lv_iconst (v := -1) hx hb dX11_ends_19 (by decide) ?_
    exact hret _ _ _ _ _ _ dX11_ends_20 hB hP hD hS
  · have hB := hB.2 c2
    refine lv_iload_n hx hb dX11_ends_10 rfl (lv_at hl 1 rfl) ?_
    refine lv_if_lt (tgt := 19) hx hb dX11_ends_11 (by decide) (fun c3 => ?_) (fun c3 => ?_)
    · have hB := hB.1 c3
      refine lv_iconst (v := -1) hx hb dX11_ends_19 (by decide) ?_
      exact hret _ _ _ _ _ _ dX11_ends_20 hB hP hD hS
    · have hB := hB.2 c3
      refine lv_iload_n hx hb dX11_ends_14 rfl (lv_at hl 1 rfl) ?_
      refine lv_iconst (v := 1) hx hb dX11_ends_15 (by decide) ?_
      refine lv_icmp_le (tgt := 21) hx hb dX11_ends_16 (by decide) (fun c4 => ?_) (fun c4 => ?_)
      · have hB := hB.1 c4
        refine lv_aload_n hx hb dX11_ends_21 rfl (lv_at hl 0 rfl) ?_
        refine xXg_0_rows S hE hP lk_X11_84 dX11_ends_22 ?_
        refine lv_aload_n hx hb dX11_ends_25 rfl (lv_at hl 0 rfl) ?_
        refine xXg_0_table S hE hP lk_X11_72 dX11_ends_26 ?_
        refine xcVi [] S hE hA hP hD hS (c_Table_bottle_8 l G z1 H.size _) hB (gw_c lk_X11_151 (gw_c wi_X8_bottle (gw_c we_X8_X8_bottle_X8_bottle (gw_c wn_X8 (gw_c wc_X8_bottle (fun _ h9 => h9)))))) hd_X8_bottle rfl rfl (Nat.le_trans (Nat.le_of_ble_eq_true rfl) hRf) (Nat.le_trans (Nat.le_of_ble_eq_true rfl) hRl) ⟨Nat.zero_le _, Nat.zero_le _⟩ (va_recv hE.1 hP (ci := 7) (q0 := 8) rfl rfl) rfl hl.1 rfl (Nat.le_of_ble_eq_true rfl) dX11_ends_29 (fun r5 z2 H locs hB hP hD hS => ?_)
        refine lv_iconst (v := 1) hx hb dX11_ends_32 (by decide) ?_
        refine lv_iconst (v := 0) hx hb dX11_ends_33 (by decide) ?_
        refine xcVv [.int r5, .int (1 : Int32), .int (0 : Int32)] S hE hA hP hD hS (c_Rows_aim l G z2 H.size r5 (1 : Int32) (0 : Int32) _) hB (gw_c lk_X11_293 (gw_c wi_X6_aim (gw_c we_X6_X6_aim_X6_aim (gw_c wn_X6 (gw_c wc_X6_aim (fun _ h9 => h9)))))) hd_X6_aim rfl rfl (Nat.le_trans (Nat.le_of_ble_eq_true rfl) hRf) (Nat.le_trans (Nat.le_of_ble_eq_true rfl) hRl) ⟨Nat.zero_le _, Nat.zero_le _⟩ (va_recv hE.1 hP (ci := 5) (q0 := 10) rfl rfl) rfl hl.1 rfl (Nat.le_of_ble_eq_true rfl) dX11_ends_34 (fun z3 H locs hB hP hD hS => ?_)
        refine lv_aload_n hx hb dX11_ends_37 rfl (lv_at hl 0 rfl) ?_
        refine lv_iload_n hx hb dX11_ends_38 rfl (lv_at hl 1 rfl) ?_
        refine xcVi [.int x1] S hE hA hP hD hS (c_B_fewest l G z3 H.size x1 _) hB (gw_c lk_X11_297 (gw_c wi_X11_fewest (gw_c we_X11_X11_fewest_X11_fewest (gw_c wn_X11 (gw_c wc_X11_fewest (fun _ h9 => h9)))))) hd_X11_fewest rfl rfl (Nat.le_trans (Nat.le_of_ble_eq_true rfl) hRf) (Nat.le_trans (Nat.le_of_ble_eq_true rfl) hRl) ⟨Nat.zero_le _, Nat.zero_le _⟩ (va_recv hE.1 hP (ci := 10) (q0 := 0) rfl rfl) rfl hl.1 rfl (Nat.le_of_ble_eq_true rfl) dX11_ends_39 (fun r6 z4 H locs hB hP hD hS => ?_)
        exact hret _ _ _ _ _ _ dX11_ends_42 hB hP hD hS
      · have hB := hB.2 c4
        refine lv_iconst (v := -1) hx hb dX11_ends_19 (by decide) ?_
        exact hret _ _ _ _ _ _ dX11_ends_20 hB hP hD hS
set_option maxHeartbeats 4000000 in
set_option maxRecDepth 100000 in
theorem c_B_ends (l : Launch) (G : GX) (z0 : St) (sz : Nat) (x1 : Int32) (post : Int32 → St → Prop) : MetI l wX yX11_ends cX11_ends 2 (some .int) ({ frames := 15, cells := 0, slots := 0, locals := 495 }) [.ref (ad G 0), .int x1] G z0 sz (S_B_ends post x1 z0) post := by
  refine Met.ofW (cc := cX11_ends) (maxL := 2) (ret := (some .int)) (by decide) rfl ?_
  intro p e s m args below meth c s₁ B hml hv
  obtain ⟨rfl, hsz, hP, hD0, hE, hB⟩ := hv
  have S : CallFix p m c cX11_ends 2 s _ GW RX11 := ⟨B.exec, B.bytes, hml, findClass_of_methodNamed B.named, fun w h => atoms_spec (ws := Cond.code yX11_ends cX11_ends 2 (some .int) :: GW) B.pre w (List.mem_cons_of_mem _ h)⟩
  have hlocks := B.notSynchronized
  subst hsz
  have hD := hD0.self (sz := s.heap.size)
  generalize hAe : va_A (wX G z0) s.heap.size = A at hD hE ⊢
  have hA : ∀ q : Nat, s.heap.size ≤ q → A q := fun q h => by rw [← hAe]; exact Or.inr h
  have hS : va_S A s.heap s.heap [] := va_S.rf
  have hl := lv_entry ([.ref (ad G 0), .int x1]) (n := 2) (Nat.le_of_ble_eq_true rfl)
  rw [lg_entry_eq]
  generalize (lg_sl ([.ref (ad G 0), .int x1]) ++ List.replicate (2 - (lg_sl ([.ref (ad G 0), .int x1])).length) Slot.unset).toArray = ls at hl ⊢
  have hl : lv_has ls 2 [(0, .ref (ad G 0)), (1, .int x1)] := hl
  refine w_B_ends_0 S hE hA (Nat.le_refl _) (Nat.le_refl _) ?_ x1 z0 hB _ _ _ hP hD hS hl
  intro pc ls r σ H locs hd hp hP hD hS
  exact W.iret (v := r) B.exec B.bytes B.returns (fun t ht hW => ⟨⟨r, σ, rfl, hp, by rw [ht]; exact hP, hD⟩, hS.F ht⟩) hS.2.2 hd
def B_B_round_33 (post : Int32 → St → Prop) (ih33 : Int32 → Int32 → St → Prop) (x1 : Int32) (x2 : Int32) (z0 : St) : Prop :=
  (((30 : Int32) < x2 → (post (-1 : Int32) z0)) ∧ (¬ (30 : Int32) < x2 → (vp_in x1 4 ∧ ∀ a2 : Nat, a2 = gZ z0 (0 + x1.toNatClampNeg) → (S_Table_goThrough_9_dyn17 (fun (r3 : Int32) (z1 : St) => (vp_in x1 4 ∧ ∀ a4 : Nat, a4 = gZ z1 (0 + x1.toNatClampNeg) → (vp_in x1 4 ∧ a4 = gZ z1 (0 + x1.toNatClampNeg) ∧ (((Int32.ofNat (gZ z1 (8 + (0 + x1.toNatClampNeg)))) ≤ r3 → (S_Table_bottle_9 (fun (r6 : Int32) (z2 : St) => (S_Table_bottle_8 (fun (r7 : Int32) (z3 : St) => ((r6 = r7 → (post x2 z3)) ∧ (¬ r6 = r7 → (∀ v9 : Int32, v9 = x2 + (1 : Int32) → (ih33 x1 v9 z3))))) z2)) z1)) ∧ (¬ (Int32.ofNat (gZ z1 (8 + (0 + x1.toNatClampNeg)))) ≤ r3 → (post (-1 : Int32) z1)))))) a2 x1 z0))))
set_option maxHeartbeats 4000000 in
set_option maxRecDepth 100000 in
theorem w_B_round_33 {p : Program} {l : Launch} {e : Env} {R : Room} {s : State} {m : MethodId} {args : Array Value} {below : List Frame} {meth : Method} {c : Code} {Q : State → Prop} {G : GX} {A : Nat → Prop} (S : CallFix p m c cX11_round 3 s args GW RX11) (hE : env G A s s.heap) (hA : ∀ q, s.heap.size ≤ q → A q) (hRf : 6 ≤ R.frames) (hRl : 147 ≤ R.locals) {post : Int32 → St → Prop} (hret : RetI p l e R s m args below meth c Q 0 0 wX G A cX11_round post) {ih33 : Int32 → Int32 → St → Prop} (h33 : ∀ (x1 : Int32) (x2 : Int32) (z0 : St), ih33 x1 x2 z0 → Xw p l e R s m args below meth c Q 0 0 wX G A z0 3 [(0, .ref (ad G 0)), (1, .int x1), (2, .int x2)] 33 []) (x1 : Int32) (x2 : Int32) (z0 : St) (hB : B_B_round_33 post ih33 x1 x2 z0) : Xw p l e R s m args below meth c Q 0 0 wX G A z0 3 [(0, .ref (ad G 0)), (1, .int x1), (2, .int x2)] 33 [] := by
  intro H locs ls hP hD hS hl
  have hx := S.1
  have hb := S.2.1
  refine lv_iload_n hx hb dX11_round_33 rfl (lv_at hl 2 rfl) ?_
  refine lv_bipush (v := 30) hx hb dX11_round_34 (by decide) ?_
  refine lv_icmp_gt (tgt := 89) hx hb dX11_round_36 (by decide) (fun c1 => ?_) (fun c1 => ?_)
  · have hB := hB.1 c1
    refine lv_iconst (v := -1) hx hb dX11_round_89 (by decide) ?_
    exact hret _ _ _ _ _ _ dX11_round_90 hB hP hD hS
  · have hB := hB.2 c1
    refine lv_aload_n hx hb dX11_round_39 rfl (lv_at hl 0 rfl) ?_
    refine xXg_0_apart S hE hP lk_X11_76 dX11_round_40 ?_
    refine lv_aload_n hx hb dX11_round_43 rfl (lv_at hl 0 rfl) ?_
    refine xXg_0_winters S hE hP lk_X11_39 dX11_round_44 ?_
    refine lv_iload_n hx hb dX11_round_47 rfl (lv_at hl 1 rfl) ?_
    obtain ⟨hi, hB⟩ := hB
    refine xXo_17 S hE hP hi dX11_round_48 ?_
    obtain ⟨a2, ea2⟩ : ∃ y9, y9 = gZ z0 (0 + x1.toNatClampNeg) := ⟨_, rfl⟩
    have hB := hB a2 ea2
    rw [← ea2]
    refine xcVi [.ref a2] S hE hA hP hD hS (c_Table_goThrough_9_dyn17 l G z0 H.size a2 x1 _) hB (gw_c lk_X11_276 (gw_c wi_X8_goThrough (gw_c we_X8_X8_goThrough_X8_goThrough (gw_c wn_X8 (gw_c wc_X8_goThrough (fun _ h9 => h9)))))) hd_X8_goThrough rfl rfl (Nat.le_trans (Nat.le_of_ble_eq_true rfl) hRf) (Nat.le_trans (Nat.le_of_ble_eq_true rfl) hRl) ⟨Nat.zero_le _, Nat.zero_le _⟩ (va_recv hE.1 hP (ci := 7) (q0 := 9) rfl rfl) rfl hl.1 rfl (Nat.le_of_ble_eq_true rfl) dX11_round_49 (fun r3 z1 H locs hB hP hD hS => ?_)
    refine lv_aload_n hx hb dX11_round_52 rfl (lv_at hl 0 rfl) ?_
    refine xXg_0_winters S hE hP lk_X11_39 dX11_round_53 ?_
    refine lv_iload_n hx hb dX11_round_56 rfl (lv_at hl 1 rfl) ?_
    obtain ⟨hi, hB⟩ := hB
    refine xXo_17 S hE hP hi dX11_round_57 ?_
    obtain ⟨a4, ea4⟩ : ∃ y9, y9 = gZ z1 (0 + x1.toNatClampNeg) := ⟨_, rfl⟩
    have hB := hB a4 ea4
    rw [← ea4]
    obtain ⟨hj, ha9, hB⟩ := hB
    refine xXdn S hE hP (show 0 + x1.toNatClampNeg < 8 by have := vin_lt hj; omega) ha9 dX11_round_58 ?_
    refine lv_icmp_ge (tgt := 64) hx hb dX11_round_59 (by decide) (fun c5 => ?_) (fun c5 => ?_)
    · have hB := hB.1 c5
      refine lv_aload_n hx hb dX11_round_64 rfl (lv_at hl 0 rfl) ?_
      refine xXg_0_apart S hE hP lk_X11_76 dX11_round_65 ?_
      refine xcVi [] S hE hA hP hD hS (c_Table_bottle_9 l G z1 H.size _) hB (gw_c lk_X11_151 (gw_c wi_X8_bottle (gw_c we_X8_X8_bottle_X8_bottle (gw_c wn_X8 (gw_c wc_X8_bottle (fun _ h9 => h9)))))) hd_X8_bottle rfl rfl (Nat.le_trans (Nat.le_of_ble_eq_true rfl) hRf) (Nat.le_trans (Nat.le_of_ble_eq_true rfl) hRl) ⟨Nat.zero_le _, Nat.zero_le _⟩ (va_recv hE.1 hP (ci := 7) (q0 := 9) rfl rfl) rfl hl.1 rfl (Nat.le_of_ble_eq_true rfl) dX11_round_68 (fun r6 z2 H locs hB hP hD hS => ?_)
      refine lv_aload_n hx hb dX11_round_71 rfl (lv_at hl 0 rfl) ?_
      refine xXg_0_table S hE hP lk_X11_72 dX11_round_72 ?_
      refine xcVi [] S hE hA hP hD hS (c_Table_bottle_8 l G z2 H.size _) hB (gw_c lk_X11_151 (gw_c wi_X8_bottle (gw_c we_X8_X8_bottle_X8_bottle (gw_c wn_X8 (gw_c wc_X8_bottle (fun _ h9 => h9)))))) hd_X8_bottle rfl rfl (Nat.le_trans (Nat.le_of_ble_eq_true rfl) hRf) (Nat.le_trans (Nat.le_of_ble_eq_true rfl) hRl) ⟨Nat.zero_le _, Nat.zero_le _⟩ (va_recv hE.1 hP (ci := 7) (q0 := 8) rfl rfl) rfl hl.1 rfl (Nat.le_of_ble_eq_true rfl) dX11_round_75 (fun r7 z3 H locs hB hP hD hS => ?_)
      refine lv_icmp_ne (tgt := 83) hx hb dX11_round_78 (by decide) (fun c8 => ?_) (fun c8 => ?_)
      · have hB := hB.2 c8
        obtain ⟨v9, ev9⟩ : ∃ y9, y9 = x2 + (1 : Int32) := ⟨_, rfl⟩
        have hB := hB v9 ev9
        refine lv_iinc (v := v9) (lv' := [(2, .int v9), (0, .ref (ad G 0)), (1, .int x1)]) hx hb dX11_round_83 hl (k := 2) rfl (by rw [ev9]; rfl) (by decide) rfl (fun ls hl => ?_)
        refine lv_goto (tgt := 33) hx hb dX11_round_86 (by decide) ?_
        exact h33 x1 v9 z3 hB _ _ _ hP hD hS (lv_sub hl [1, 2, 0] rfl)
      · have hB := hB.1 c8
        refine lv_iload_n hx hb dX11_round_81 rfl (lv_at hl 2 rfl) ?_
        exact hret _ _ _ _ _ _ dX11_round_82 hB hP hD hS
    · have hB := hB.2 c5
      refine lv_iconst (v := -1) hx hb dX11_round_62 (by decide) ?_
      exact hret _ _ _ _ _ _ dX11_round_63 hB hP hD hS
def L_B_round_33 (post : Int32 → St → Prop) : Nat → Int32 → Int32 → St → Prop
  | 0 => fun _ _ _ => False
  | n + 1 => B_B_round_33 post (L_B_round_33 post n)
theorem wl_B_round_33 {p : Program} {l : Launch} {e : Env} {R : Room} {s : State} {m : MethodId} {args : Array Value} {below : List Frame} {meth : Method} {c : Code} {Q : State → Prop} {G : GX} {A : Nat → Prop} (S : CallFix p m c cX11_round 3 s args GW RX11) (hE : env G A s s.heap) (hA : ∀ q, s.heap.size ≤ q → A q) (hRf : 6 ≤ R.frames) (hRl : 147 ≤ R.locals) {post : Int32 → St → Prop} (hret : RetI p l e R s m args below meth c Q 0 0 wX G A cX11_round post) : ∀ (n : Nat) (x1 : Int32) (x2 : Int32) (z0 : St), L_B_round_33 post n x1 x2 z0 → Xw p l e R s m args below meth c Q 0 0 wX G A z0 3 [(0, .ref (ad G 0)), (1, .int x1), (2, .int x2)] 33 [] := by
  intro n
  induction n with
  | zero => intro x1 x2 z0 hB; exact absurd hB id
  | succ n ih => exact fun x1 x2 z0 hB => w_B_round_33 S hE hA hRf hRl hret ih x1 x2 z0 hB
def S_B_round (post : Int32 → St → Prop) (x1 : Int32) (z0 : St) : Prop :=
  (S_House_isTold (fun (r1 : Int32) (z1 : St) => ((r1 = 0 → (post (-1 : Int32) z1)) ∧ (¬ r1 = 0 → (S_B_hasWinter (fun (r3 : Int32) (z2 : St) => ((r3 = 0 → (post (-1 : Int32) z2)) ∧ (¬ r3 = 0 → (S_Table_copy_9_r8 (fun (z3 : St) => (∃ n5, L_B_round_33 post n5 x1 (1 : Int32) z3)) z2)))) x1 z1)))) z0)
set_option maxHeartbeats 4000000 in
set_option maxRecDepth 100000 in
theorem w_B_round_0 {p : Program} {l : Launch} {e : Env} {R : Room} {s : State} {m : MethodId} {args : Array Value} {below : List Frame} {meth : Method} {c : Code} {Q : State → Prop} {G : GX} {A : Nat → Prop} (S : CallFix p m c cX11_round 3 s args GW RX11) (hE : env G A s s.heap) (hA : ∀ q, s.heap.size ≤ q → A q) (hRf : 6 ≤ R.frames) (hRl : 147 ≤ R.locals) {post : Int32 → St → Prop} (hret : RetI p l e R s m args below meth c Q 0 0 wX G A cX11_round post) (x1 : Int32) (z0 : St) (hB : S_B_round post x1 z0) : Xw p l e R s m args below meth c Q 0 0 wX G A z0 3 [(0, .ref (ad G 0)), (1, .int x1)] 0 [] := by
  intro H locs ls hP hD hS hl
  have hx := S.1
  have hb := S.2.1
  refine lv_aload_n hx hb dX11_round_0 rfl (lv_at hl 0 rfl) ?_
  refine xXg_0_house S hE hP lk_X11_64 dX11_round_1 ?_
  refine xcVi [] S hE hA hP hD hS (c_House_isTold l G z0 H.size _) hB (gw_c lk_X11_147 (gw_c wi_X0_isTold (gw_c we_X0_X0_isTold_X0_isTold (gw_c wn_X0 (gw_c wc_X0_isTold (fun _ h9 => h9)))))) hd_X0_isTold rfl rfl (Nat.le_trans (Nat.le_of_ble_eq_true rfl) hRf) (Nat.le_trans (Nat.le_of_ble_eq_true rfl) hRl) ⟨Nat.zero_le _, Nat.zero_le _⟩ (va_recv hE.1 hP (ci := 0) (q0 := 6) rfl rfl) rfl hl.1 rfl (Nat.le_of_ble_eq_true rfl) dX11_round_4 (fun r1 z1 H locs hB hP hD hS => ?_)
  refine lv_if_eq (tgt := 18) hx hb dX11_round_7 (by decide) (fun c2 => ?_) (fun c2 => ?_)
  · have hB := hB.1 c2
    refine lv_iconst (v := -1) hx hb dX11_round_18 (by decide) ?_
    exact hret _ _ _ _ _ _ dX11_round_19 hB hP hD hS
  · have hB := hB.2 c2
    refine lv_aload_n hx hb dX11_round_10 rfl (lv_at hl 0 rfl) ?_
    refine lv_iload_n hx hb dX11_round_11 rfl (lv_at hl 1 rfl) ?_
    refine xcVi [.int x1] S hE hA hP hD hS (c_B_hasWinter l G z1 H.size x1 _) hB (gw_c lk_X11_269 (gw_c wi_X11_hasWinter (gw_c we_X11_X11_hasWinter_X11_hasWinter (gw_c wn_X11 (gw_c wc_X11_hasWinter (fun _ h9 => h9)))))) hd_X11_hasWinter rfl rfl (Nat.le_trans (Nat.le_of_ble_eq_true rfl) hRf) (Nat.le_trans (Nat.le_of_ble_eq_true rfl) hRl) ⟨Nat.zero_le _, Nat.zero_le _⟩ (va_recv hE.1 hP (ci := 10) (q0 := 0) rfl rfl) rfl hl.1 rfl (Nat.le_of_ble_eq_true rfl) dX11_round_12 (fun r3 z2 H locs hB hP hD hS => ?_)
    refine lv_if_ne (tgt := 20) hx hb dX11_round_15 (by decide) (fun c4 => ?_) (fun c4 => ?_)
    · have hB := hB.2 c4
      refine lv_aload_n hx hb dX11_round_20 rfl (lv_at hl 0 rfl) ?_
      refine xXg_0_apart S hE hP lk_X11_76 dX11_round_21 ?_
      refine lv_aload_n hx hb dX11_round_24 rfl (lv_at hl 0 rfl) ?_
      refine xXg_0_table S hE hP lk_X11_72 dX11_round_25 ?_
      refine xcVv [.ref (ad G 8)] S hE hA hP hD hS (c_Table_copy_9_r8 l G z2 H.size _) hB (gw_c lk_X11_272 (gw_c wi_X8_copy (gw_c we_X8_X8_copy_X8_copy (gw_c wn_X8 (gw_c wc_X8_copy (fun _ h9 => h9)))))) hd_X8_copy rfl rfl (Nat.le_trans (Nat.le_of_ble_eq_true rfl) hRf) (Nat.le_trans (Nat.le_of_ble_eq_true rfl) hRl) ⟨Nat.zero_le _, Nat.zero_le _⟩ (va_recv hE.1 hP (ci := 7) (q0 := 9) rfl rfl) rfl hl.1 rfl (Nat.le_of_ble_eq_true rfl) dX11_round_28 (fun z3 H locs hB hP hD hS => ?_)
      refine lv_iconst (v := 1) hx hb dX11_round_31 (by decide) ?_
      refine lv_istore_n (lv' := [(2, .int (1 : Int32)), (0, .ref (ad G 0)), (1, .int x1)]) hx hb dX11_round_32 rfl hl (by decide) rfl (fun ls hl => ?_)
      obtain ⟨n5, hB⟩ := hB
      exact wl_B_round_33 S hE hA hRf hRl hret n5 x1 (1 : Int32) z3 hB _ _ _ hP hD hS (lv_sub hl [1, 2, 0] rfl)
    · have hB := hB.1 c4
      refine lv_iconst (v := -1) hx hb dX11_round_18 (by decide) ?_
      exact hret _ _ _ _ _ _ dX11_round_19 hB hP hD hS
set_option maxHeartbeats 4000000 in
set_option maxRecDepth 100000 in
theorem c_B_round (l : Launch) (G : GX) (z0 : St) (sz : Nat) (x1 : Int32) (post : Int32 → St → Prop) : MetI l wX yX11_round cX11_round 3 (some .int) ({ frames := 6, cells := 0, slots := 0, locals := 147 }) [.ref (ad G 0), .int x1] G z0 sz (S_B_round post x1 z0) post := by
  refine Met.ofW (cc := cX11_round) (maxL := 3) (ret := (some .int)) (by decide) rfl ?_
  intro p e s m args below meth c s₁ B hml hv
  obtain ⟨rfl, hsz, hP, hD0, hE, hB⟩ := hv
  have S : CallFix p m c cX11_round 3 s _ GW RX11 := ⟨B.exec, B.bytes, hml, findClass_of_methodNamed B.named, fun w h => atoms_spec (ws := Cond.code yX11_round cX11_round 3 (some .int) :: GW) B.pre w (List.mem_cons_of_mem _ h)⟩
  have hlocks := B.notSynchronized
  subst hsz
  have hD := hD0.self (sz := s.heap.size)
  generalize hAe : va_A (wX G z0) s.heap.size = A at hD hE ⊢
  have hA : ∀ q : Nat, s.heap.size ≤ q → A q := fun q h => by rw [← hAe]; exact Or.inr h
  have hS : va_S A s.heap s.heap [] := va_S.rf
  have hl := lv_entry ([.ref (ad G 0), .int x1]) (n := 3) (Nat.le_of_ble_eq_true rfl)
  rw [lg_entry_eq]
  generalize (lg_sl ([.ref (ad G 0), .int x1]) ++ List.replicate (3 - (lg_sl ([.ref (ad G 0), .int x1])).length) Slot.unset).toArray = ls at hl ⊢
  have hl : lv_has ls 3 [(0, .ref (ad G 0)), (1, .int x1)] := hl
  refine w_B_round_0 S hE hA (Nat.le_refl _) (Nat.le_refl _) ?_ x1 z0 hB _ _ _ hP hD hS hl
  intro pc ls r σ H locs hd hp hP hD hS
  exact W.iret (v := r) B.exec B.bytes B.returns (fun t ht hW => ⟨⟨r, σ, rfl, hp, by rw [ht]; exact hP, hD⟩, hS.F ht⟩) hS.2.2 hd
def S_Sightings_add (post : St → Prop) (x1 : Int32) (x2 : Int32) (x3 : Int32) (x4 : Int32) (z0 : St) : Prop :=
  (((10 : Int32) ≤ (gI z0 41) → (post z0)) ∧ (¬ (10 : Int32) ≤ (gI z0 41) → (∀ v2 : Int32, v2 = ((gI z0 41) * (4 : Int32)) → (vp_in v2 40 ∧ (∀ z1 : St, z1 = sA z0 30 v2.toNatClampNeg x1 → (vp_in (v2 + (1 : Int32)) 40 ∧ (∀ z2 : St, z2 = sA z1 30 (v2 + (1 : Int32)).toNatClampNeg x2 → (vp_in (v2 + (2 : Int32)) 40 ∧ (∀ z3 : St, z3 = sA z2 30 (v2 + (2 : Int32)).toNatClampNeg x3 → (vp_in (v2 + (3 : Int32)) 40 ∧ (∀ z4 : St, z4 = sA z3 30 (v2 + (3 : Int32)).toNatClampNeg x4 → (∀ z5 : St, z5 = sI z4 41 ((gI z4 41) + (1 : Int32)) → (post z5)))))))))))))
set_option maxHeartbeats 4000000 in
set_option maxRecDepth 100000 in
theorem w_Sightings_add_0 {p : Program} {l : Launch} {e : Env} {R : Room} {s : State} {m : MethodId} {args : Array Value} {below : List Frame} {meth : Method} {c : Code} {Q : State → Prop} {G : GX} {A : Nat → Prop} (S : CallFix p m c cX7_add 6 s args GW RX7) (hE : env G A s s.heap) (hA : ∀ q, s.heap.size ≤ q → A q) (hRf : 0 ≤ R.frames) (hRl : 0 ≤ R.locals) {post : St → Prop} (hret : RetV p l e R s m args below meth c Q 0 0 wX G A cX7_add post) (x1 : Int32) (x2 : Int32) (x3 : Int32) (x4 : Int32) (z0 : St) (hB : S_Sightings_add post x1 x2 x3 x4 z0) : Xw p l e R s m args below meth c Q 0 0 wX G A z0 6 [(0, .ref (ad G 11)), (1, .int x1), (2, .int x2), (3, .int x3), (4, .int x4)] 0 [] := by
  intro H locs ls hP hD hS hl
  have hx := S.1
  have hb := S.2.1
  refine lv_aload_n hx hb dX7_add_0 rfl (lv_at hl 0 rfl) ?_
  refine xXg_11_length S hE hP lk_X7_29 dX7_add_1 ?_
  refine lv_bipush (v := 10) hx hb dX7_add_4 (by decide) ?_
  refine lv_icmp_ge (tgt := 66) hx hb dX7_add_6 (by decide) (fun c1 => ?_) (fun c1 => ?_)
  · have hB := hB.1 c1
    exact hret _ _ _ _ _ dX7_add_66 hB hP hD hS
  · have hB := hB.2 c1
    refine lv_aload_n hx hb dX7_add_9 rfl (lv_at hl 0 rfl) ?_
    refine xXg_11_length S hE hP lk_X7_29 dX7_add_10 ?_
    refine lv_iconst (v := 4) hx hb dX7_add_13 (by decide) ?_
    refine lv_imul hx hb dX7_add_14 ?_
    refine lv_topi (fun v2 ev2 => ?_)
    have hB := hB v2 ev2
    refine lv_istore (lv' := [(5, .int v2), (0, .ref (ad G 11)), (1, .int x1), (2, .int x2), (3, .int x3), (4, .int x4)]) hx hb dX7_add_15 hl (by decide) rfl (fun ls hl => ?_)
    refine lv_aload_n hx hb dX7_add_17 rfl (lv_at hl 1 rfl) ?_
    refine xXg_11_rows S hE hP lk_X7_15 dX7_add_18 ?_
    refine lv_iload hx hb dX7_add_21 (lv_at hl 0 rfl) ?_
    refine lv_iload_n hx hb dX7_add_23 rfl (lv_at hl 2 rfl) ?_
    obtain ⟨hi, hB⟩ := hB
    obtain ⟨z1, ez1⟩ : ∃ z9, z9 = sA z0 30 v2.toNatClampNeg x1 := ⟨_, rfl⟩
    have hB := hB z1 ez1
    refine xXs_30 S hE hP hD hS _ rfl hi dX7_add_24 (fun H locs hP hD hS => ?_)
    rw [← ez1] at hP hD
    refine lv_aload_n hx hb dX7_add_25 rfl (lv_at hl 1 rfl) ?_
    refine xXg_11_rows S hE hP lk_X7_15 dX7_add_26 ?_
    refine lv_iload hx hb dX7_add_29 (lv_at hl 0 rfl) ?_
    refine lv_iconst (v := 1) hx hb dX7_add_31 (by decide) ?_
    refine lv_iadd hx hb dX7_add_32 ?_
    refine lv_iload_n hx hb dX7_add_33 rfl (lv_at hl 3 rfl) ?_
    obtain ⟨hi, hB⟩ := hB
    obtain ⟨z2, ez2⟩ : ∃ z9, z9 = sA z1 30 (v2 + (1 : Int32)).toNatClampNeg x2 := ⟨_, rfl⟩
    have hB := hB z2 ez2
    refine xXs_30 S hE hP hD hS _ rfl hi dX7_add_34 (fun H locs hP hD hS => ?_)
    rw [← ez2] at hP hD
    refine lv_aload_n hx hb dX7_add_35 rfl (lv_at hl 1 rfl) ?_
    refine xXg_11_rows S hE hP lk_X7_15 dX7_add_36 ?_
    refine lv_iload hx hb dX7_add_39 (lv_at hl 0 rfl) ?_
    refine lv_iconst (v := 2) hx hb dX7_add_41 (by decide) ?_
    refine lv_iadd hx hb dX7_add_42 ?_
    refine lv_iload_n hx hb dX7_add_43 rfl (lv_at hl 4 rfl) ?_
    obtain ⟨hi, hB⟩ := hB
    obtain ⟨z3, ez3⟩ : ∃ z9, z9 = sA z2 30 (v2 + (2 : Int32)).toNatClampNeg x3 := ⟨_, rfl⟩
    have hB := hB z3 ez3
    refine xXs_30 S hE hP hD hS _ rfl hi dX7_add_44 (fun H locs hP hD hS => ?_)
    rw [← ez3] at hP hD
    refine lv_aload_n hx hb dX7_add_45 rfl (lv_at hl 1 rfl) ?_
    refine xXg_11_rows S hE hP lk_X7_15 dX7_add_46 ?_
    refine lv_iload hx hb dX7_add_49 (lv_at hl 0 rfl) ?_
    refine lv_iconst (v := 3) hx hb dX7_add_51 (by decide) ?_
    refine lv_iadd hx hb dX7_add_52 ?_
    refine lv_iload hx hb dX7_add_53 (lv_at hl 5 rfl) ?_
    obtain ⟨hi, hB⟩ := hB
    obtain ⟨z4, ez4⟩ : ∃ z9, z9 = sA z3 30 (v2 + (3 : Int32)).toNatClampNeg x4 := ⟨_, rfl⟩
    have hB := hB z4 ez4
    refine xXs_30 S hE hP hD hS _ rfl hi dX7_add_55 (fun H locs hP hD hS => ?_)
    rw [← ez4] at hP hD
    refine lv_aload_n hx hb dX7_add_56 rfl (lv_at hl 1 rfl) ?_
    refine lv_dup hx hb dX7_add_57 rfl ?_
    refine xXg_11_length S hE hP lk_X7_29 dX7_add_58 ?_
    refine lv_iconst (v := 1) hx hb dX7_add_61 (by decide) ?_
    refine lv_iadd hx hb dX7_add_62 ?_
    obtain ⟨z5, ez5⟩ : ∃ z9, z9 = sI z4 41 ((gI z4 41) + (1 : Int32)) := ⟨_, rfl⟩
    have hB := hB z5 ez5
    refine xXp_11_length S hE hP hD hS lk_X7_29 dX7_add_63 (fun H locs hP hD hS => ?_)
    rw [← ez5] at hP hD
    exact hret _ _ _ _ _ dX7_add_66 hB hP hD hS
set_option maxHeartbeats 4000000 in
set_option maxRecDepth 100000 in
theorem c_Sightings_add (l : Launch) (G : GX) (z0 : St) (sz : Nat) (x1 : Int32) (x2 : Int32) (x3 : Int32) (x4 : Int32) (post : St → Prop) : MetV l wX yX7_add cX7_add 6 none ({ frames := 0, cells := 0, slots := 0, locals := 0 }) [.ref (ad G 11), .int x1, .int x2, .int x3, .int x4] G z0 sz (S_Sightings_add post x1 x2 x3 x4 z0) post := by
  refine Met.ofW (cc := cX7_add) (maxL := 6) (ret := none) (by decide) rfl ?_
  intro p e s m args below meth c s₁ B hml hv
  obtain ⟨rfl, hsz, hP, hD0, hE, hB⟩ := hv
  have S : CallFix p m c cX7_add 6 s _ GW RX7 := ⟨B.exec, B.bytes, hml, findClass_of_methodNamed B.named, fun w h => atoms_spec (ws := Cond.code yX7_add cX7_add 6 none :: GW) B.pre w (List.mem_cons_of_mem _ h)⟩
  have hlocks := B.notSynchronized
  subst hsz
  have hD := hD0.self (sz := s.heap.size)
  generalize hAe : va_A (wX G z0) s.heap.size = A at hD hE ⊢
  have hA : ∀ q : Nat, s.heap.size ≤ q → A q := fun q h => by rw [← hAe]; exact Or.inr h
  have hS : va_S A s.heap s.heap [] := va_S.rf
  have hl := lv_entry ([.ref (ad G 11), .int x1, .int x2, .int x3, .int x4]) (n := 6) (Nat.le_of_ble_eq_true rfl)
  rw [lg_entry_eq]
  generalize (lg_sl ([.ref (ad G 11), .int x1, .int x2, .int x3, .int x4]) ++ List.replicate (6 - (lg_sl ([.ref (ad G 11), .int x1, .int x2, .int x3, .int x4])).length) Slot.unset).toArray = ls at hl ⊢
  have hl : lv_has ls 6 [(0, .ref (ad G 11)), (1, .int x1), (2, .int x2), (3, .int x3), (4, .int x4)] := hl
  refine w_Sightings_add_0 S hE hA (Nat.le_refl _) (Nat.le_refl _) ?_ x1 x2 x3 x4 z0 hB _ _ _ hP hD hS hl
  intro pc ls σ H locs hd hp hP hD hS
  exact W.vret B.exec B.bytes B.returns (fun t ht hW => ⟨⟨σ, rfl, hp, by rw [ht]; exact hP, hD⟩, hS.F ht⟩) hS.2.2 hd
def B_B_seen_45 (post : Int32 → St → Prop) (x1 : Int32) (x2 : Int32) (x3 : Int32) (x4 : Int32) (s0 : Int32) (z0 : St) : Prop :=
  ((s0 = 0 → (post (-1 : Int32) z0)) ∧ (¬ s0 = 0 → ((x3 < 0 → (post (-1 : Int32) z0)) ∧ (¬ x3 < 0 → (((99 : Int32) < x3 → (post (-1 : Int32) z0)) ∧ (¬ (99 : Int32) < x3 → (((gI z0 41) < (10 : Int32) → (S_Sightings_add (fun (z1 : St) => (post (gI z1 41) z1)) x1 x2 x3 x4 z0)) ∧ (¬ (gI z0 41) < (10 : Int32) → (post (-1 : Int32) z0)))))))))
set_option maxHeartbeats 4000000 in
set_option maxRecDepth 100000 in
theorem w_B_seen_45 {p : Program} {l : Launch} {e : Env} {R : Room} {s : State} {m : MethodId} {args : Array Value} {below : List Frame} {meth : Method} {c : Code} {Q : State → Prop} {G : GX} {A : Nat → Prop} (S : CallFix p m c cX11_seen 6 s args GW RX11) (hE : env G A s s.heap) (hA : ∀ q, s.heap.size ≤ q → A q) (hRf : 1 ≤ R.frames) (hRl : 25 ≤ R.locals) {post : Int32 → St → Prop} (hret : RetI p l e R s m args below meth c Q 0 0 wX G A cX11_seen post) (x1 : Int32) (x2 : Int32) (x3 : Int32) (x4 : Int32) (s0 : Int32) (z0 : St) (hB : B_B_seen_45 post x1 x2 x3 x4 s0 z0) : Xw p l e R s m args below meth c Q 0 0 wX G A z0 6 [(0, .ref (ad G 0)), (1, .int x1), (2, .int x2), (3, .int x3), (4, .int x4)] 45 [.int s0] := by
  intro H locs ls hP hD hS hl
  have hx := S.1
  have hb := S.2.1
  refine lv_istore (lv' := [(5, .int s0), (0, .ref (ad G 0)), (1, .int x1), (2, .int x2), (3, .int x3), (4, .int x4)]) hx hb dX11_seen_45 hl (by decide) rfl (fun ls hl => ?_)
  refine lv_iload hx hb dX11_seen_47 (lv_at hl 0 rfl) ?_
  refine lv_if_eq (tgt := 74) hx hb dX11_seen_49 (by decide) (fun c1 => ?_) (fun c1 => ?_)
  · have hB := hB.1 c1
    refine lv_iconst (v := -1) hx hb dX11_seen_74 (by decide) ?_
    exact hret _ _ _ _ _ _ dX11_seen_75 hB hP hD hS
  · have hB := hB.2 c1
    refine lv_iload_n hx hb dX11_seen_52 rfl (lv_at hl 4 rfl) ?_
    refine lv_if_lt (tgt := 74) hx hb dX11_seen_53 (by decide) (fun c2 => ?_) (fun c2 => ?_)
    · have hB := hB.1 c2
      refine lv_iconst (v := -1) hx hb dX11_seen_74 (by decide) ?_
      exact hret _ _ _ _ _ _ dX11_seen_75 hB hP hD hS
    · have hB := hB.2 c2
      refine lv_iload_n hx hb dX11_seen_56 rfl (lv_at hl 4 rfl) ?_
      refine lv_bipush (v := 99) hx hb dX11_seen_57 (by decide) ?_
      refine lv_icmp_gt (tgt := 74) hx hb dX11_seen_59 (by decide) (fun c3 => ?_) (fun c3 => ?_)
      · have hB := hB.1 c3
        refine lv_iconst (v := -1) hx hb dX11_seen_74 (by decide) ?_
        exact hret _ _ _ _ _ _ dX11_seen_75 hB hP hD hS
      · have hB := hB.2 c3
        refine lv_aload_n hx hb dX11_seen_62 rfl (lv_at hl 1 rfl) ?_
        refine xXg_0_sightings S hE hP lk_X11_93 dX11_seen_63 ?_
        refine xXg_11_length S hE hP lk_X11_136 dX11_seen_66 ?_
        refine lv_bipush (v := 10) hx hb dX11_seen_69 (by decide) ?_
        refine lv_icmp_lt (tgt := 76) hx hb dX11_seen_71 (by decide) (fun c4 => ?_) (fun c4 => ?_)
        · have hB := hB.1 c4
          refine lv_aload_n hx hb dX11_seen_76 rfl (lv_at hl 1 rfl) ?_
          refine xXg_0_sightings S hE hP lk_X11_93 dX11_seen_77 ?_
          refine lv_iload_n hx hb dX11_seen_80 rfl (lv_at hl 2 rfl) ?_
          refine lv_iload_n hx hb dX11_seen_81 rfl (lv_at hl 3 rfl) ?_
          refine lv_iload_n hx hb dX11_seen_82 rfl (lv_at hl 4 rfl) ?_
          refine lv_iload hx hb dX11_seen_83 (lv_at hl 5 rfl) ?_
          refine xcVv [.int x1, .int x2, .int x3, .int x4] S hE hA hP hD hS (c_Sightings_add l G z0 H.size x1 x2 x3 x4 _) hB (gw_c lk_X11_309 (gw_c wi_X7_add (gw_c we_X7_X7_add_X7_add (gw_c wn_X7 (gw_c wc_X7_add (fun _ h9 => h9)))))) hd_X7_add rfl rfl (Nat.le_trans (Nat.le_of_ble_eq_true rfl) hRf) (Nat.le_trans (Nat.le_of_ble_eq_true rfl) hRl) ⟨Nat.zero_le _, Nat.zero_le _⟩ (va_recv hE.1 hP (ci := 6) (q0 := 11) rfl rfl) rfl hl.1 rfl (Nat.le_of_ble_eq_true rfl) dX11_seen_85 (fun z1 H locs hB hP hD hS => ?_)
          refine lv_aload_n hx hb dX11_seen_88 rfl (lv_at hl 1 rfl) ?_
          refine xXg_0_sightings S hE hP lk_X11_93 dX11_seen_89 ?_
          refine xXg_11_length S hE hP lk_X11_136 dX11_seen_92 ?_
          exact hret _ _ _ _ _ _ dX11_seen_95 hB hP hD hS
        · have hB := hB.2 c4
          refine lv_iconst (v := -1) hx hb dX11_seen_74 (by decide) ?_
          exact hret _ _ _ _ _ _ dX11_seen_75 hB hP hD hS
def B_B_seen_44 (post : Int32 → St → Prop) (x1 : Int32) (x2 : Int32) (x3 : Int32) (x4 : Int32) (z0 : St) : Prop :=
  (B_B_seen_45 post x1 x2 x3 x4 (0 : Int32) z0)
set_option maxHeartbeats 4000000 in
set_option maxRecDepth 100000 in
theorem w_B_seen_44 {p : Program} {l : Launch} {e : Env} {R : Room} {s : State} {m : MethodId} {args : Array Value} {below : List Frame} {meth : Method} {c : Code} {Q : State → Prop} {G : GX} {A : Nat → Prop} (S : CallFix p m c cX11_seen 6 s args GW RX11) (hE : env G A s s.heap) (hA : ∀ q, s.heap.size ≤ q → A q) (hRf : 1 ≤ R.frames) (hRl : 25 ≤ R.locals) {post : Int32 → St → Prop} (hret : RetI p l e R s m args below meth c Q 0 0 wX G A cX11_seen post) (x1 : Int32) (x2 : Int32) (x3 : Int32) (x4 : Int32) (z0 : St) (hB : B_B_seen_44 post x1 x2 x3 x4 z0) : Xw p l e R s m args below meth c Q 0 0 wX G A z0 6 [(0, .ref (ad G 0)), (1, .int x1), (2, .int x2), (3, .int x3), (4, .int x4)] 44 [] := by
  intro H locs ls hP hD hS hl
  have hx := S.1
  have hb := S.2.1
  refine lv_iconst (v := 0) hx hb dX11_seen_44 (by decide) ?_
  exact w_B_seen_45 S hE hA hRf hRl hret x1 x2 x3 x4 (0 : Int32) z0 hB _ _ _ hP hD hS (lv_sub hl [0, 1, 2, 3, 4] rfl)
def B_B_seen_40 (post : Int32 → St → Prop) (x1 : Int32) (x2 : Int32) (x3 : Int32) (x4 : Int32) (z0 : St) : Prop :=
  (B_B_seen_45 post x1 x2 x3 x4 (1 : Int32) z0)
set_option maxHeartbeats 4000000 in
set_option maxRecDepth 100000 in
theorem w_B_seen_40 {p : Program} {l : Launch} {e : Env} {R : Room} {s : State} {m : MethodId} {args : Array Value} {below : List Frame} {meth : Method} {c : Code} {Q : State → Prop} {G : GX} {A : Nat → Prop} (S : CallFix p m c cX11_seen 6 s args GW RX11) (hE : env G A s s.heap) (hA : ∀ q, s.heap.size ≤ q → A q) (hRf : 1 ≤ R.frames) (hRl : 25 ≤ R.locals) {post : Int32 → St → Prop} (hret : RetI p l e R s m args below meth c Q 0 0 wX G A cX11_seen post) (x1 : Int32) (x2 : Int32) (x3 : Int32) (x4 : Int32) (z0 : St) (hB : B_B_seen_40 post x1 x2 x3 x4 z0) : Xw p l e R s m args below meth c Q 0 0 wX G A z0 6 [(0, .ref (ad G 0)), (1, .int x1), (2, .int x2), (3, .int x3), (4, .int x4)] 40 [] := by
  intro H locs ls hP hD hS hl
  have hx := S.1
  have hb := S.2.1
  refine lv_iconst (v := 1) hx hb dX11_seen_40 (by decide) ?_
  refine lv_goto (tgt := 45) hx hb dX11_seen_41 (by decide) ?_
  exact w_B_seen_45 S hE hA hRf hRl hret x1 x2 x3 x4 (1 : Int32) z0 hB _ _ _ hP hD hS (lv_sub hl [0, 1, 2, 3, 4] rfl)
def S_B_seen (post : Int32 → St → Prop) (x1 : Int32) (x2 : Int32) (x3 : Int32) (x4 : Int32) (z0 : St) : Prop :=
  (S_House_hasGuest (fun (r1 : Int32) (z1 : St) => ((r1 = 0 → (B_B_seen_44 post x1 x2 x3 x4 z1)) ∧ (¬ r1 = 0 → (S_House_hasDrink (fun (r3 : Int32) (z2 : St) => ((r3 = 0 → (B_B_seen_44 post x1 x2 x3 x4 z2)) ∧ (¬ r3 = 0 → ((x4 = (-1 : Int32) → (B_B_seen_40 post x1 x2 x3 x4 z2)) ∧ (¬ x4 = (-1 : Int32) → (S_House_hasDrink (fun (r6 : Int32) (z3 : St) => ((r6 = 0 → (B_B_seen_44 post x1 x2 x3 x4 z3)) ∧ (¬ r6 = 0 → (B_B_seen_40 post x1 x2 x3 x4 z3)))) x4 z2)))))) x2 z1)))) x1 z0)
set_option maxHeartbeats 4000000 in
set_option maxRecDepth 100000 in
theorem w_B_seen_0 {p : Program} {l : Launch} {e : Env} {R : Room} {s : State} {m : MethodId} {args : Array Value} {below : List Frame} {meth : Method} {c : Code} {Q : State → Prop} {G : GX} {A : Nat → Prop} (S : CallFix p m c cX11_seen 6 s args GW RX11) (hE : env G A s s.heap) (hA : ∀ q, s.heap.size ≤ q → A q) (hRf : 1 ≤ R.frames) (hRl : 25 ≤ R.locals) {post : Int32 → St → Prop} (hret : RetI p l e R s m args below meth c Q 0 0 wX G A cX11_seen post) (x1 : Int32) (x2 : Int32) (x3 : Int32) (x4 : Int32) (z0 : St) (hB : S_B_seen post x1 x2 x3 x4 z0) : Xw p l e R s m args below meth c Q 0 0 wX G A z0 6 [(0, .ref (ad G 0)), (1, .int x1), (2, .int x2), (3, .int x3), (4, .int x4)] 0 [] := by
  intro H locs ls hP hD hS hl
  have hx := S.1
  have hb := S.2.1
  refine lv_aload_n hx hb dX11_seen_0 rfl (lv_at hl 0 rfl) ?_
  refine xXg_0_house S hE hP lk_X11_64 dX11_seen_1 ?_
  refine lv_iload_n hx hb dX11_seen_4 rfl (lv_at hl 1 rfl) ?_
  refine xcVi [.int x1] S hE hA hP hD hS (c_House_hasGuest l G z0 H.size x1 _) hB (gw_c lk_X11_171 (gw_c wi_X0_hasGuest (gw_c we_X0_X0_hasGuest_X0_hasGuest (gw_c wn_X0 (gw_c wc_X0_hasGuest (fun _ h9 => h9)))))) hd_X0_hasGuest rfl rfl (Nat.le_trans (Nat.le_of_ble_eq_true rfl) hRf) (Nat.le_trans (Nat.le_of_ble_eq_true rfl) hRl) ⟨Nat.zero_le _, Nat.zero_le _⟩ (va_recv hE.1 hP (ci := 0) (q0 := 6) rfl rfl) rfl hl.1 rfl (Nat.le_of_ble_eq_true rfl) dX11_seen_5 (fun r1 z1 H locs hB hP hD hS => ?_)
  refine lv_if_eq (tgt := 44) hx hb dX11_seen_8 (by decide) (fun c2 => ?_) (fun c2 => ?_)
  · have hB := hB.1 c2
    exact w_B_seen_44 S hE hA hRf hRl hret x1 x2 x3 x4 z1 hB _ _ _ hP hD hS (lv_sub hl [0, 1, 2, 3, 4] rfl)
  · have hB := hB.2 c2
    refine lv_aload_n hx hb dX11_seen_11 rfl (lv_at hl 0 rfl) ?_
    refine xXg_0_house S hE hP lk_X11_64 dX11_seen_12 ?_
    refine lv_iload_n hx hb dX11_seen_15 rfl (lv_at hl 2 rfl) ?_
    refine xcVi [.int x2] S hE hA hP hD hS (c_House_hasDrink l G z1 H.size x2 _) hB (gw_c lk_X11_160 (gw_c wi_X0_hasDrink (gw_c we_X0_X0_hasDrink_X0_hasDrink (gw_c wn_X0 (gw_c wc_X0_hasDrink (fun _ h9 => h9)))))) hd_X0_hasDrink rfl rfl (Nat.le_trans (Nat.le_of_ble_eq_true rfl) hRf) (Nat.le_trans (Nat.le_of_ble_eq_true rfl) hRl) ⟨Nat.zero_le _, Nat.zero_le _⟩ (va_recv hE.1 hP (ci := 0) (q0 := 6) rfl rfl) rfl hl.1 rfl (Nat.le_of_ble_eq_true rfl) dX11_seen_16 (fun r3 z2 H locs hB hP hD hS => ?_)
    refine lv_if_eq (tgt := 44) hx hb dX11_seen_19 (by decide) (fun c4 => ?_) (fun c4 => ?_)
    · have hB := hB.1 c4
      exact w_B_seen_44 S hE hA hRf hRl hret x1 x2 x3 x4 z2 hB _ _ _ hP hD hS (lv_sub hl [0, 1, 2, 3, 4] rfl)
    · have hB := hB.2 c4
      refine lv_iload hx hb dX11_seen_22 (lv_at hl 4 rfl) ?_
      refine lv_iconst (v := -1) hx hb dX11_seen_24 (by decide) ?_
      refine lv_icmp_eq (tgt := 40) hx hb dX11_seen_25 (by decide) (fun c5 => ?_) (fun c5 => ?_)
      · have hB := hB.1 c5
        exact w_B_seen_40 S hE hA hRf hRl hret x1 x2 x3 x4 z2 hB _ _ _ hP hD hS (lv_sub hl [0, 1, 2, 3, 4] rfl)
      · have hB := hB.2 c5
        refine lv_aload_n hx hb dX11_seen_28 rfl (lv_at hl 0 rfl) ?_
        refine xXg_0_house S hE hP lk_X11_64 dX11_seen_29 ?_
        refine lv_iload hx hb dX11_seen_32 (lv_at hl 4 rfl) ?_
        refine xcVi [.int x4] S hE hA hP hD hS (c_House_hasDrink l G z2 H.size x4 _) hB (gw_c lk_X11_160 (gw_c wi_X0_hasDrink (gw_c we_X0_X0_hasDrink_X0_hasDrink (gw_c wn_X0 (gw_c wc_X0_hasDrink (fun _ h9 => h9)))))) hd_X0_hasDrink rfl rfl (Nat.le_trans (Nat.le_of_ble_eq_true rfl) hRf) (Nat.le_trans (Nat.le_of_ble_eq_true rfl) hRl) ⟨Nat.zero_le _, Nat.zero_le _⟩ (va_recv hE.1 hP (ci := 0) (q0 := 6) rfl rfl) rfl hl.1 rfl (Nat.le_of_ble_eq_true rfl) dX11_seen_34 (fun r6 z3 H locs hB hP hD hS => ?_)
        refine lv_if_eq (tgt := 44) hx hb dX11_seen_37 (by decide) (fun c7 => ?_) (fun c7 => ?_)
        · have hB := hB.1 c7
          exact w_B_seen_44 S hE hA hRf hRl hret x1 x2 x3 x4 z3 hB _ _ _ hP hD hS (lv_sub hl [0, 1, 2, 3, 4] rfl)
        · have hB := hB.2 c7
          exact w_B_seen_40 S hE hA hRf hRl hret x1 x2 x3 x4 z3 hB _ _ _ hP hD hS (lv_sub hl [0, 1, 2, 3, 4] rfl)
set_option maxHeartbeats 4000000 in
set_option maxRecDepth 100000 in
theorem c_B_seen (l : Launch) (G : GX) (z0 : St) (sz : Nat) (x1 : Int32) (x2 : Int32) (x3 : Int32) (x4 : Int32) (post : Int32 → St → Prop) : MetI l wX yX11_seen cX11_seen 6 (some .int) ({ frames := 1, cells := 0, slots := 0, locals := 25 }) [.ref (ad G 0), .int x1, .int x2, .int x3, .int x4] G z0 sz (S_B_seen post x1 x2 x3 x4 z0) post := by
  refine Met.ofW (cc := cX11_seen) (maxL := 6) (ret := (some .int)) (by decide) rfl ?_
  intro p e s m args below meth c s₁ B hml hv
  obtain ⟨rfl, hsz, hP, hD0, hE, hB⟩ := hv
  have S : CallFix p m c cX11_seen 6 s _ GW RX11 := ⟨B.exec, B.bytes, hml, findClass_of_methodNamed B.named, fun w h => atoms_spec (ws := Cond.code yX11_seen cX11_seen 6 (some .int) :: GW) B.pre w (List.mem_cons_of_mem _ h)⟩
  have hlocks := B.notSynchronized
  subst hsz
  have hD := hD0.self (sz := s.heap.size)
  generalize hAe : va_A (wX G z0) s.heap.size = A at hD hE ⊢
  have hA : ∀ q : Nat, s.heap.size ≤ q → A q := fun q h => by rw [← hAe]; exact Or.inr h
  have hS : va_S A s.heap s.heap [] := va_S.rf
  have hl := lv_entry ([.ref (ad G 0), .int x1, .int x2, .int x3, .int x4]) (n := 6) (Nat.le_of_ble_eq_true rfl)
  rw [lg_entry_eq]
  generalize (lg_sl ([.ref (ad G 0), .int x1, .int x2, .int x3, .int x4]) ++ List.replicate (6 - (lg_sl ([.ref (ad G 0), .int x1, .int x2, .int x3, .int x4])).length) Slot.unset).toArray = ls at hl ⊢
  have hl : lv_has ls 6 [(0, .ref (ad G 0)), (1, .int x1), (2, .int x2), (3, .int x3), (4, .int x4)] := hl
  refine w_B_seen_0 S hE hA (Nat.le_refl _) (Nat.le_refl _) ?_ x1 x2 x3 x4 z0 hB _ _ _ hP hD hS hl
  intro pc ls r σ H locs hd hp hP hD hS
  exact W.iret (v := r) B.exec B.bytes B.returns (fun t ht hW => ⟨⟨r, σ, rfl, hp, by rw [ht]; exact hP, hD⟩, hS.F ht⟩) hS.2.2 hd
def B_Sightings_isSo_71 (post : Int32 → St → Prop) (ih3 : Int32 → Int32 → Int32 → Int32 → St → Prop) (x1 : Int32) (x2 : Int32) (x3 : Int32) (x4 : Int32) (z0 : St) : Prop :=
  (∀ v1 : Int32, v1 = x4 + (1 : Int32) → (ih3 x1 x2 x3 v1 z0))
set_option maxHeartbeats 4000000 in
set_option maxRecDepth 100000 in
theorem w_Sightings_isSo_71 {p : Program} {l : Launch} {e : Env} {R : Room} {s : State} {m : MethodId} {args : Array Value} {below : List Frame} {meth : Method} {c : Code} {Q : State → Prop} {G : GX} {A : Nat → Prop} (S : CallFix p m c cX7_isSo 6 s args GW RX7) (hE : env G A s s.heap) (hA : ∀ q, s.heap.size ≤ q → A q) (hRf : 3 ≤ R.frames) (hRl : 76 ≤ R.locals) {post : Int32 → St → Prop} (hret : RetZ p l e R s m args below meth c Q 0 0 wX G A cX7_isSo post) {ih3 : Int32 → Int32 → Int32 → Int32 → St → Prop} (h3 : ∀ (x1 : Int32) (x2 : Int32) (x3 : Int32) (x4 : Int32) (z0 : St), ih3 x1 x2 x3 x4 z0 → Xw p l e R s m args below meth c Q 0 0 wX G A z0 6 [(0, .ref (ad G 11)), (1, .int x1), (2, .int x2), (3, .int x3), (4, .int x4)] 3 []) (x1 : Int32) (x2 : Int32) (x3 : Int32) (x4 : Int32) (z0 : St) (hB : B_Sightings_isSo_71 post ih3 x1 x2 x3 x4 z0) : Xw p l e R s m args below meth c Q 0 0 wX G A z0 6 [(0, .ref (ad G 11)), (1, .int x1), (2, .int x2), (3, .int x3), (4, .int x4)] 71 [] := by
  intro H locs ls hP hD hS hl
  have hx := S.1
  have hb := S.2.1
  obtain ⟨v1, ev1⟩ : ∃ y9, y9 = x4 + (1 : Int32) := ⟨_, rfl⟩
  have hB := hB v1 ev1
  refine lv_iinc (v := v1) (lv' := [(4, .int v1), (0, .ref (ad G 11)), (1, .int x1), (2, .int x2), (3, .int x3)]) hx hb dX7_isSo_71 hl (k := 4) rfl (by rw [ev1]; rfl) (by decide) rfl (fun ls hl => ?_)
  refine lv_goto (tgt := 3) hx hb dX7_isSo_74 (by decide) ?_
  exact h3 x1 x2 x3 v1 z0 hB _ _ _ hP hD hS (lv_sub hl [1, 2, 3, 4, 0] rfl)
def B_Sightings_isSo_3 (post : Int32 → St → Prop) (ih3 : Int32 → Int32 → Int32 → Int32 → St → Prop) (x1 : Int32) (x2 : Int32) (x3 : Int32) (x4 : Int32) (z0 : St) : Prop :=
  (((gI z0 41) ≤ x4 → (post (1 : Int32) z0)) ∧ (¬ (gI z0 41) ≤ x4 → (∀ v2 : Int32, v2 = (x4 * (4 : Int32)) → (vp_in v2 40 ∧ (((gA z0 30 v2.toNatClampNeg) = x1 → (vp_in (v2 + (2 : Int32)) 40 ∧ (vp_in (v2 + (1 : Int32)) 40 ∧ (S_Table_brings_8 (fun (r4 : Int32) (z1 : St) => (vp_in (v2 + (3 : Int32)) 40 ∧ ((r4 = (gA z1 30 (v2 + (3 : Int32)).toNatClampNeg) → (B_Sightings_isSo_71 post ih3 x1 x2 x3 x4 z1)) ∧ (¬ r4 = (gA z1 30 (v2 + (3 : Int32)).toNatClampNeg) → (post (0 : Int32) z1))))) x2 x3 (gA z0 30 (v2 + (2 : Int32)).toNatClampNeg) (0 : Int32) (gA z0 30 (v2 + (1 : Int32)).toNatClampNeg) z0)))) ∧ (¬ (gA z0 30 v2.toNatClampNeg) = x1 → (B_Sightings_isSo_71 post ih3 x1 x2 x3 x4 z0)))))))
set_option maxHeartbeats 4000000 in
set_option maxRecDepth 100000 in
theorem w_Sightings_isSo_3 {p : Program} {l : Launch} {e : Env} {R : Room} {s : State} {m : MethodId} {args : Array Value} {below : List Frame} {meth : Method} {c : Code} {Q : State → Prop} {G : GX} {A : Nat → Prop} (S : CallFix p m c cX7_isSo 6 s args GW RX7) (hE : env G A s s.heap) (hA : ∀ q, s.heap.size ≤ q → A q) (hRf : 3 ≤ R.frames) (hRl : 76 ≤ R.locals) {post : Int32 → St → Prop} (hret : RetZ p l e R s m args below meth c Q 0 0 wX G A cX7_isSo post) {ih3 : Int32 → Int32 → Int32 → Int32 → St → Prop} (h3 : ∀ (x1 : Int32) (x2 : Int32) (x3 : Int32) (x4 : Int32) (z0 : St), ih3 x1 x2 x3 x4 z0 → Xw p l e R s m args below meth c Q 0 0 wX G A z0 6 [(0, .ref (ad G 11)), (1, .int x1), (2, .int x2), (3, .int x3), (4, .int x4)] 3 []) (x1 : Int32) (x2 : Int32) (x3 : Int32) (x4 : Int32) (z0 : St) (hB : B_Sightings_isSo_3 post ih3 x1 x2 x3 x4 z0) : Xw p l e R s m args below meth c Q 0 0 wX G A z0 6 [(0, .ref (ad G 11)), (1, .int x1), (2, .int x2), (3, .int x3), (4, .int x4)] 3 [] := by
  intro H locs ls hP hD hS hl
  have hx := S.1
  have hb := S.2.1
  refine lv_iload hx hb dX7_isSo_3 (lv_at hl 4 rfl) ?_
  refine lv_aload_n hx hb dX7_isSo_5 rfl (lv_at hl 0 rfl) ?_
  refine xXg_11_length S hE hP lk_X7_29 dX7_isSo_6 ?_
  refine lv_icmp_ge (tgt := 77) hx hb dX7_isSo_9 (by decide) (fun c1 => ?_) (fun c1 => ?_)
  · have hB := hB.1 c1
    refine lv_iconst (v := 1) hx hb dX7_isSo_77 (by decide) ?_
    exact hret _ _ _ _ _ _ dX7_isSo_78 ⟨by decide, hB⟩ hP hD hS
  · have hB := hB.2 c1
    refine lv_iload hx hb dX7_isSo_12 (lv_at hl 4 rfl) ?_
    refine lv_iconst (v := 4) hx hb dX7_isSo_14 (by decide) ?_
    refine lv_imul hx hb dX7_isSo_15 ?_
    refine lv_topi (fun v2 ev2 => ?_)
    have hB := hB v2 ev2
    refine lv_istore (lv' := [(5, .int v2), (0, .ref (ad G 11)), (1, .int x1), (2, .int x2), (3, .int x3), (4, .int x4)]) hx hb dX7_isSo_16 hl (by decide) rfl (fun ls hl => ?_)
    refine lv_aload_n hx hb dX7_isSo_18 rfl (lv_at hl 1 rfl) ?_
    refine xXg_11_rows S hE hP lk_X7_15 dX7_isSo_19 ?_
    refine lv_iload hx hb dX7_isSo_22 (lv_at hl 0 rfl) ?_
    obtain ⟨hi, hB⟩ := hB
    refine xXl_30 S hE hP hi dX7_isSo_24 ?_
    refine lv_iload_n hx hb dX7_isSo_25 rfl (lv_at hl 2 rfl) ?_
    refine lv_icmp_ne (tgt := 71) hx hb dX7_isSo_26 (by decide) (fun c3 => ?_) (fun c3 => ?_)
    · have hB := hB.2 c3
      exact w_Sightings_isSo_71 S hE hA hRf hRl hret h3 x1 x2 x3 x4 z0 hB _ _ _ hP hD hS (lv_sub hl [1, 2, 3, 4, 5] rfl)
    · have hB := hB.1 c3
      refine lv_aload_n hx hb dX7_isSo_29 rfl (lv_at hl 1 rfl) ?_
      refine xXg_11_table S hE hP lk_X7_25 dX7_isSo_30 ?_
      refine lv_iload_n hx hb dX7_isSo_33 rfl (lv_at hl 3 rfl) ?_
      refine lv_iload_n hx hb dX7_isSo_34 rfl (lv_at hl 4 rfl) ?_
      refine lv_aload_n hx hb dX7_isSo_35 rfl (lv_at hl 1 rfl) ?_
      refine xXg_11_rows S hE hP lk_X7_15 dX7_isSo_36 ?_
      refine lv_iload hx hb dX7_isSo_39 (lv_at hl 0 rfl) ?_
      refine lv_iconst (v := 2) hx hb dX7_isSo_41 (by decide) ?_
      refine lv_iadd hx hb dX7_isSo_42 ?_
      obtain ⟨hi, hB⟩ := hB
      refine xXl_30 S hE hP hi dX7_isSo_43 ?_
      refine lv_iconst (v := 0) hx hb dX7_isSo_44 (by decide) ?_
      refine lv_aload_n hx hb dX7_isSo_45 rfl (lv_at hl 1 rfl) ?_
      refine xXg_11_rows S hE hP lk_X7_15 dX7_isSo_46 ?_
      refine lv_iload hx hb dX7_isSo_49 (lv_at hl 0 rfl) ?_
      refine lv_iconst (v := 1) hx hb dX7_isSo_51 (by decide) ?_
      refine lv_iadd hx hb dX7_isSo_52 ?_
      obtain ⟨hi, hB⟩ := hB
      refine xXl_30 S hE hP hi dX7_isSo_53 ?_
      refine xcVi [.int x2, .int x3, .int (gA z0 30 (v2 + (2 : Int32)).toNatClampNeg), .int (0 : Int32), .int (gA z0 30 (v2 + (1 : Int32)).toNatClampNeg)] S hE hA hP hD hS (c_Table_brings_8 l G z0 H.size x2 x3 (gA z0 30 (v2 + (2 : Int32)).toNatClampNeg) (0 : Int32) (gA z0 30 (v2 + (1 : Int32)).toNatClampNeg) _) hB (gw_c lk_X7_42 (gw_c wi_X8_brings (gw_c we_X8_X8_brings_X8_brings (gw_c wn_X8 (gw_c wc_X8_brings (fun _ h9 => h9)))))) hd_X8_brings rfl rfl (Nat.le_trans (Nat.le_of_ble_eq_true rfl) hRf) (Nat.le_trans (Nat.le_of_ble_eq_true rfl) hRl) ⟨Nat.zero_le _, Nat.zero_le _⟩ (va_recv hE.1 hP (ci := 7) (q0 := 8) rfl rfl) rfl hl.1 rfl (Nat.le_of_ble_eq_true rfl) dX7_isSo_54 (fun r4 z1 H locs hB hP hD hS => ?_)
      refine lv_aload_n hx hb dX7_isSo_57 rfl (lv_at hl 1 rfl) ?_
      refine xXg_11_rows S hE hP lk_X7_15 dX7_isSo_58 ?_
      refine lv_iload hx hb dX7_isSo_61 (lv_at hl 0 rfl) ?_
      refine lv_iconst (v := 3) hx hb dX7_isSo_63 (by decide) ?_
      refine lv_iadd hx hb dX7_isSo_64 ?_
      obtain ⟨hi, hB⟩ := hB
      refine xXl_30 S hE hP hi dX7_isSo_65 ?_
      refine lv_icmp_eq (tgt := 71) hx hb dX7_isSo_66 (by decide) (fun c5 => ?_) (fun c5 => ?_)
      · have hB := hB.1 c5
        exact w_Sightings_isSo_71 S hE hA hRf hRl hret h3 x1 x2 x3 x4 z1 hB _ _ _ hP hD hS (lv_sub hl [1, 2, 3, 4, 5] rfl)
      · have hB := hB.2 c5
        refine lv_iconst (v := 0) hx hb dX7_isSo_69 (by decide) ?_
        exact hret _ _ _ _ _ _ dX7_isSo_70 ⟨by decide, hB⟩ hP hD hS
def L_Sightings_isSo_3 (post : Int32 → St → Prop) : Nat → Int32 → Int32 → Int32 → Int32 → St → Prop
  | 0 => fun _ _ _ _ _ => False
  | n + 1 => B_Sightings_isSo_3 post (L_Sightings_isSo_3 post n)
theorem wl_Sightings_isSo_3 {p : Program} {l : Launch} {e : Env} {R : Room} {s : State} {m : MethodId} {args : Array Value} {below : List Frame} {meth : Method} {c : Code} {Q : State → Prop} {G : GX} {A : Nat → Prop} (S : CallFix p m c cX7_isSo 6 s args GW RX7) (hE : env G A s s.heap) (hA : ∀ q, s.heap.size ≤ q → A q) (hRf : 3 ≤ R.frames) (hRl : 76 ≤ R.locals) {post : Int32 → St → Prop} (hret : RetZ p l e R s m args below meth c Q 0 0 wX G A cX7_isSo post) : ∀ (n : Nat) (x1 : Int32) (x2 : Int32) (x3 : Int32) (x4 : Int32) (z0 : St), L_Sightings_isSo_3 post n x1 x2 x3 x4 z0 → Xw p l e R s m args below meth c Q 0 0 wX G A z0 6 [(0, .ref (ad G 11)), (1, .int x1), (2, .int x2), (3, .int x3), (4, .int x4)] 3 [] := by
  intro n
  induction n with
  | zero => intro x1 x2 x3 x4 z0 hB; exact absurd hB id
  | succ n ih => exact fun x1 x2 x3 x4 z0 hB => w_Sightings_isSo_3 S hE hA hRf hRl hret ih x1 x2 x3 x4 z0 hB
def S_Sightings_isSo (post : Int32 → St → Prop) (x1 : Int32) (x2 : Int32) (x3 : Int32) (z0 : St) : Prop :=
  (∃ n1, L_Sightings_isSo_3 post n1 x1 x2 x3 (0 : Int32) z0)
set_option maxHeartbeats 4000000 in
set_option maxRecDepth 100000 in
theorem w_Sightings_isSo_0 {p : Program} {l : Launch} {e : Env} {R : Room} {s : State} {m : MethodId} {args : Array Value} {below : List Frame} {meth : Method} {c : Code} {Q : State → Prop} {G : GX} {A : Nat → Prop} (S : CallFix p m c cX7_isSo 6 s args GW RX7) (hE : env G A s s.heap) (hA : ∀ q, s.heap.size ≤ q → A q) (hRf : 3 ≤ R.frames) (hRl : 76 ≤ R.locals) {post : Int32 → St → Prop} (hret : RetZ p l e R s m args below meth c Q 0 0 wX G A cX7_isSo post) (x1 : Int32) (x2 : Int32) (x3 : Int32) (z0 : St) (hB : S_Sightings_isSo post x1 x2 x3 z0) : Xw p l e R s m args below meth c Q 0 0 wX G A z0 6 [(0, .ref (ad G 11)), (1, .int x1), (2, .int x2), (3, .int x3)] 0 [] := by
  intro H locs ls hP hD hS hl
  have hx := S.1
  have hb := S.2.1
  refine lv_iconst (v := 0) hx hb dX7_isSo_0 (by decide) ?_
  refine lv_istore (lv' := [(4, .int (0 : Int32)), (0, .ref (ad G 11)), (1, .int x1), (2, .int x2), (3, .int x3)]) hx hb dX7_isSo_1 hl (by decide) rfl (fun ls hl => ?_)
  obtain ⟨n1, hB⟩ := hB
  exact wl_Sightings_isSo_3 S hE hA hRf hRl hret n1 x1 x2 x3 (0 : Int32) z0 hB _ _ _ hP hD hS (lv_sub hl [1, 2, 3, 4, 0] rfl)
set_option maxHeartbeats 4000000 in
set_option maxRecDepth 100000 in
theorem c_Sightings_isSo (l : Launch) (G : GX) (z0 : St) (sz : Nat) (x1 : Int32) (x2 : Int32) (x3 : Int32) (post : Int32 → St → Prop) : MetI l wX yX7_isSo cX7_isSo 6 (some .boolean) ({ frames := 3, cells := 0, slots := 0, locals := 76 }) [.ref (ad G 11), .int x1, .int x2, .int x3] G z0 sz (S_Sightings_isSo post x1 x2 x3 z0) post := by
  refine Met.ofW (cc := cX7_isSo) (maxL := 6) (ret := (some .boolean)) (by decide) rfl ?_
  intro p e s m args below meth c s₁ B hml hv
  obtain ⟨rfl, hsz, hP, hD0, hE, hB⟩ := hv
  have S : CallFix p m c cX7_isSo 6 s _ GW RX7 := ⟨B.exec, B.bytes, hml, findClass_of_methodNamed B.named, fun w h => atoms_spec (ws := Cond.code yX7_isSo cX7_isSo 6 (some .boolean) :: GW) B.pre w (List.mem_cons_of_mem _ h)⟩
  have hlocks := B.notSynchronized
  subst hsz
  have hD := hD0.self (sz := s.heap.size)
  generalize hAe : va_A (wX G z0) s.heap.size = A at hD hE ⊢
  have hA : ∀ q : Nat, s.heap.size ≤ q → A q := fun q h => by rw [← hAe]; exact Or.inr h
  have hS : va_S A s.heap s.heap [] := va_S.rf
  have hl := lv_entry ([.ref (ad G 11), .int x1, .int x2, .int x3]) (n := 6) (Nat.le_of_ble_eq_true rfl)
  rw [lg_entry_eq]
  generalize (lg_sl ([.ref (ad G 11), .int x1, .int x2, .int x3]) ++ List.replicate (6 - (lg_sl ([.ref (ad G 11), .int x1, .int x2, .int x3])).length) Slot.unset).toArray = ls at hl ⊢
  have hl : lv_has ls 6 [(0, .ref (ad G 11)), (1, .int x1), (2, .int x2), (3, .int x3)] := hl
  refine w_Sightings_isSo_0 S hE hA (Nat.le_refl _) (Nat.le_refl _) ?_ x1 x2 x3 z0 hB _ _ _ hP hD hS hl
  intro pc ls r σ H locs hd hp hP hD hS
  exact W.zret (v := r) B.exec B.bytes B.returns (xboolc r hp.1) (fun t ht hW => ⟨⟨r, σ, rfl, hp.2, by rw [ht]; exact hP, hD⟩, hS.F ht⟩) hS.2.2 hd
def B_Sightings_gather_52 (post : Int32 → St → Prop) (ih4 : Int32 → Int32 → Int32 → St → Prop) (ih18 : Int32 → Int32 → Int32 → Int32 → St → Prop) (x1 : Int32) (x2 : Int32) (x3 : Int32) (x4 : Int32) (z0 : St) : Prop :=
  (∀ v1 : Int32, v1 = x4 + (1 : Int32) → (ih18 x1 x2 x3 v1 z0))
set_option maxHeartbeats 4000000 in
set_option maxRecDepth 100000 in
theorem w_Sightings_gather_52 {p : Program} {l : Launch} {e : Env} {R : Room} {s : State} {m : MethodId} {args : Array Value} {below : List Frame} {meth : Method} {c : Code} {Q : State → Prop} {G : GX} {A : Nat → Prop} (S : CallFix p m c cX7_gather 5 s args GW RX7) (hE : env G A s s.heap) (hA : ∀ q, s.heap.size ≤ q → A q) (hRf : 4 ≤ R.frames) (hRl : 101 ≤ R.locals) {post : Int32 → St → Prop} (hret : RetI p l e R s m args below meth c Q 0 0 wX G A cX7_gather post) {ih4 : Int32 → Int32 → Int32 → St → Prop} (h4 : ∀ (x1 : Int32) (x2 : Int32) (x3 : Int32) (z0 : St), ih4 x1 x2 x3 z0 → Xw p l e R s m args below meth c Q 0 0 wX G A z0 5 [(0, .ref (ad G 11)), (1, .int x1), (2, .int x2), (3, .int x3)] 4 []) {ih18 : Int32 → Int32 → Int32 → Int32 → St → Prop} (h18 : ∀ (x1 : Int32) (x2 : Int32) (x3 : Int32) (x4 : Int32) (z0 : St), ih18 x1 x2 x3 x4 z0 → Xw p l e R s m args below meth c Q 0 0 wX G A z0 5 [(0, .ref (ad G 11)), (1, .int x1), (2, .int x2), (3, .int x3), (4, .int x4)] 18 []) (x1 : Int32) (x2 : Int32) (x3 : Int32) (x4 : Int32) (z0 : St) (hB : B_Sightings_gather_52 post ih4 ih18 x1 x2 x3 x4 z0) : Xw p l e R s m args below meth c Q 0 0 wX G A z0 5 [(0, .ref (ad G 11)), (1, .int x1), (2, .int x2), (3, .int x3), (4, .int x4)] 52 [] := by
  intro H locs ls hP hD hS hl
  have hx := S.1
  have hb := S.2.1
  obtain ⟨v1, ev1⟩ : ∃ y9, y9 = x4 + (1 : Int32) := ⟨_, rfl⟩
  have hB := hB v1 ev1
  refine lv_iinc (v := v1) (lv' := [(4, .int v1), (0, .ref (ad G 11)), (1, .int x1), (2, .int x2), (3, .int x3)]) hx hb dX7_gather_52 hl (k := 4) rfl (by rw [ev1]; rfl) (by decide) rfl (fun ls hl => ?_)
  refine lv_goto (tgt := 18) hx hb dX7_gather_55 (by decide) ?_
  exact h18 x1 x2 x3 v1 z0 hB _ _ _ hP hD hS (lv_sub hl [1, 2, 3, 4, 0] rfl)
def B_Sightings_gather_18 (post : Int32 → St → Prop) (ih4 : Int32 → Int32 → Int32 → St → Prop) (ih18 : Int32 → Int32 → Int32 → Int32 → St → Prop) (x1 : Int32) (x2 : Int32) (x3 : Int32) (x4 : Int32) (z0 : St) : Prop :=
  (((10 : Int32) ≤ x4 → (∀ v2 : Int32, v2 = x3 + (1 : Int32) → (ih4 x1 x2 v2 z0))) ∧ (¬ (10 : Int32) ≤ x4 → (S_Sightings_isSo (fun (r3 : Int32) (z1 : St) => ((r3 = 0 → (B_Sightings_gather_52 post ih4 ih18 x1 x2 x3 x4 z1)) ∧ (¬ r3 = 0 → (vp_in x2 60 ∧ (∀ z2 : St, z2 = sA z1 29 x2.toNatClampNeg (((10 : Int32) * x3) + x4) → (∀ v5 : Int32, v5 = x2 + (1 : Int32) → (B_Sightings_gather_52 post ih4 ih18 x1 v5 x3 x4 z2))))))) x1 x3 x4 z0)))
set_option maxHeartbeats 4000000 in
set_option maxRecDepth 100000 in
theorem w_Sightings_gather_18 {p : Program} {l : Launch} {e : Env} {R : Room} {s : State} {m : MethodId} {args : Array Value} {below : List Frame} {meth : Method} {c : Code} {Q : State → Prop} {G : GX} {A : Nat → Prop} (S : CallFix p m c cX7_gather 5 s args GW RX7) (hE : env G A s s.heap) (hA : ∀ q, s.heap.size ≤ q → A q) (hRf : 4 ≤ R.frames) (hRl : 101 ≤ R.locals) {post : Int32 → St → Prop} (hret : RetI p l e R s m args below meth c Q 0 0 wX G A cX7_gather post) {ih4 : Int32 → Int32 → Int32 → St → Prop} (h4 : ∀ (x1 : Int32) (x2 : Int32) (x3 : Int32) (z0 : St), ih4 x1 x2 x3 z0 → Xw p l e R s m args below meth c Q 0 0 wX G A z0 5 [(0, .ref (ad G 11)), (1, .int x1), (2, .int x2), (3, .int x3)] 4 []) {ih18 : Int32 → Int32 → Int32 → Int32 → St → Prop} (h18 : ∀ (x1 : Int32) (x2 : Int32) (x3 : Int32) (x4 : Int32) (z0 : St), ih18 x1 x2 x3 x4 z0 → Xw p l e R s m args below meth c Q 0 0 wX G A z0 5 [(0, .ref (ad G 11)), (1, .int x1), (2, .int x2), (3, .int x3), (4, .int x4)] 18 []) (x1 : Int32) (x2 : Int32) (x3 : Int32) (x4 : Int32) (z0 : St) (hB : B_Sightings_gather_18 post ih4 ih18 x1 x2 x3 x4 z0) : Xw p l e R s m args below meth c Q 0 0 wX G A z0 5 [(0, .ref (ad G 11)), (1, .int x1), (2, .int x2), (3, .int x3), (4, .int x4)] 18 [] := by
  intro H locs ls hP hD hS hl
  have hx := S.1
  have hb := S.2.1
  refine lv_iload hx hb dX7_gather_18 (lv_at hl 4 rfl) ?_
  refine lv_bipush (v := 10) hx hb dX7_gather_20 (by decide) ?_
  refine lv_icmp_ge (tgt := 58) hx hb dX7_gather_22 (by decide) (fun c1 => ?_) (fun c1 => ?_)
  · have hB := hB.1 c1
    obtain ⟨v2, ev2⟩ : ∃ y9, y9 = x3 + (1 : Int32) := ⟨_, rfl⟩
    have hB := hB v2 ev2
    refine lv_iinc (v := v2) (lv' := [(3, .int v2), (0, .ref (ad G 11)), (1, .int x1), (2, .int x2), (4, .int x4)]) hx hb dX7_gather_58 hl (k := 3) rfl (by rw [ev2]; rfl) (by decide) rfl (fun ls hl => ?_)
    refine lv_goto (tgt := 4) hx hb dX7_gather_61 (by decide) ?_
    exact h4 x1 x2 v2 z0 hB _ _ _ hP hD hS (lv_sub hl [1, 2, 3, 0] rfl)
  · have hB := hB.2 c1
    refine lv_aload_n hx hb dX7_gather_25 rfl (lv_at hl 0 rfl) ?_
    refine lv_iload_n hx hb dX7_gather_26 rfl (lv_at hl 1 rfl) ?_
    refine lv_iload_n hx hb dX7_gather_27 rfl (lv_at hl 3 rfl) ?_
    refine lv_iload hx hb dX7_gather_28 (lv_at hl 4 rfl) ?_
    refine xcVi [.int x1, .int x3, .int x4] S hE hA hP hD hS (c_Sightings_isSo l G z0 H.size x1 x3 x4 _) hB (gw_c lk_X7_38 (gw_c wi_X7_isSo (gw_c we_X7_X7_isSo_X7_isSo (gw_c wn_X7 (gw_c wc_X7_isSo (fun _ h9 => h9)))))) hd_X7_isSo rfl rfl (Nat.le_trans (Nat.le_of_ble_eq_true rfl) hRf) (Nat.le_trans (Nat.le_of_ble_eq_true rfl) hRl) ⟨Nat.zero_le _, Nat.zero_le _⟩ (va_recv hE.1 hP (ci := 6) (q0 := 11) rfl rfl) rfl hl.1 rfl (Nat.le_of_ble_eq_true rfl) dX7_gather_30 (fun r3 z1 H locs hB hP hD hS => ?_)
    refine lv_if_eq (tgt := 52) hx hb dX7_gather_33 (by decide) (fun c4 => ?_) (fun c4 => ?_)
    · have hB := hB.1 c4
      exact w_Sightings_gather_52 S hE hA hRf hRl hret h4 h18 x1 x2 x3 x4 z1 hB _ _ _ hP hD hS (lv_sub hl [0, 1, 2, 3, 4] rfl)
    · have hB := hB.2 c4
      refine lv_aload_n hx hb dX7_gather_36 rfl (lv_at hl 0 rfl) ?_
      refine xXg_11_fitting S hE hP lk_X7_11 dX7_gather_37 ?_
      refine lv_iload_n hx hb dX7_gather_40 rfl (lv_at hl 2 rfl) ?_
      refine lv_bipush (v := 10) hx hb dX7_gather_41 (by decide) ?_
      refine lv_iload_n hx hb dX7_gather_43 rfl (lv_at hl 3 rfl) ?_
      refine lv_imul hx hb dX7_gather_44 ?_
      refine lv_iload hx hb dX7_gather_45 (lv_at hl 4 rfl) ?_
      refine lv_iadd hx hb dX7_gather_47 ?_
      obtain ⟨hi, hB⟩ := hB
      obtain ⟨z2, ez2⟩ : ∃ z9, z9 = sA z1 29 x2.toNatClampNeg (((10 : Int32) * x3) + x4) := ⟨_, rfl⟩
      have hB := hB z2 ez2
      refine xXs_29 S hE hP hD hS _ rfl hi dX7_gather_48 (fun H locs hP hD hS => ?_)
      rw [← ez2] at hP hD
      obtain ⟨v5, ev5⟩ : ∃ y9, y9 = x2 + (1 : Int32) := ⟨_, rfl⟩
      have hB := hB v5 ev5
      refine lv_iinc (v := v5) (lv' := [(2, .int v5), (0, .ref (ad G 11)), (1, .int x1), (3, .int x3), (4, .int x4)]) hx hb dX7_gather_49 hl (k := 2) rfl (by rw [ev5]; rfl) (by decide) rfl (fun ls hl => ?_)
      exact w_Sightings_gather_52 S hE hA hRf hRl hret h4 h18 x1 v5 x3 x4 z2 hB _ _ _ hP hD hS (lv_sub hl [1, 2, 0, 3, 4] rfl)
def L_Sightings_gather_18 (post : Int32 → St → Prop) (ih4 : Int32 → Int32 → Int32 → St → Prop) : Nat → Int32 → Int32 → Int32 → Int32 → St → Prop
  | 0 => fun _ _ _ _ _ => False
  | n + 1 => B_Sightings_gather_18 post ih4 (L_Sightings_gather_18 post ih4 n)
theorem wl_Sightings_gather_18 {p : Program} {l : Launch} {e : Env} {R : Room} {s : State} {m : MethodId} {args : Array Value} {below : List Frame} {meth : Method} {c : Code} {Q : State → Prop} {G : GX} {A : Nat → Prop} (S : CallFix p m c cX7_gather 5 s args GW RX7) (hE : env G A s s.heap) (hA : ∀ q, s.heap.size ≤ q → A q) (hRf : 4 ≤ R.frames) (hRl : 101 ≤ R.locals) {post : Int32 → St → Prop} (hret : RetI p l e R s m args below meth c Q 0 0 wX G A cX7_gather post) {ih4 : Int32 → Int32 → Int32 → St → Prop} (h4 : ∀ (x1 : Int32) (x2 : Int32) (x3 : Int32) (z0 : St), ih4 x1 x2 x3 z0 → Xw p l e R s m args below meth c Q 0 0 wX G A z0 5 [(0, .ref (ad G 11)), (1, .int x1), (2, .int x2), (3, .int x3)] 4 []) : ∀ (n : Nat) (x1 : Int32) (x2 : Int32) (x3 : Int32) (x4 : Int32) (z0 : St), L_Sightings_gather_18 post ih4 n x1 x2 x3 x4 z0 → Xw p l e R s m args below meth c Q 0 0 wX G A z0 5 [(0, .ref (ad G 11)), (1, .int x1), (2, .int x2), (3, .int x3), (4, .int x4)] 18 [] := by
  intro n
  induction n with
  | zero => intro x1 x2 x3 x4 z0 hB; exact absurd hB id
  | succ n ih => exact fun x1 x2 x3 x4 z0 hB => w_Sightings_gather_18 S hE hA hRf hRl hret h4 ih x1 x2 x3 x4 z0 hB
def B_Sightings_gather_4 (post : Int32 → St → Prop) (ih4 : Int32 → Int32 → Int32 → St → Prop) (x1 : Int32) (x2 : Int32) (x3 : Int32) (z0 : St) : Prop :=
  (((gI z0 26) ≤ x3 → (post x2 z0)) ∧ (¬ (gI z0 26) ≤ x3 → (∃ n2, L_Sightings_gather_18 post ih4 n2 x1 x2 x3 (0 : Int32) z0)))
set_option maxHeartbeats 4000000 in
set_option maxRecDepth 100000 in
theorem w_Sightings_gather_4 {p : Program} {l : Launch} {e : Env} {R : Room} {s : State} {m : MethodId} {args : Array Value} {below : List Frame} {meth : Method} {c : Code} {Q : State → Prop} {G : GX} {A : Nat → Prop} (S : CallFix p m c cX7_gather 5 s args GW RX7) (hE : env G A s s.heap) (hA : ∀ q, s.heap.size ≤ q → A q) (hRf : 4 ≤ R.frames) (hRl : 101 ≤ R.locals) {post : Int32 → St → Prop} (hret : RetI p l e R s m args below meth c Q 0 0 wX G A cX7_gather post) {ih4 : Int32 → Int32 → Int32 → St → Prop} (h4 : ∀ (x1 : Int32) (x2 : Int32) (x3 : Int32) (z0 : St), ih4 x1 x2 x3 z0 → Xw p l e R s m args below meth c Q 0 0 wX G A z0 5 [(0, .ref (ad G 11)), (1, .int x1), (2, .int x2), (3, .int x3)] 4 []) (x1 : Int32) (x2 : Int32) (x3 : Int32) (z0 : St) (hB : B_Sightings_gather_4 post ih4 x1 x2 x3 z0) : Xw p l e R s m args below meth c Q 0 0 wX G A z0 5 [(0, .ref (ad G 11)), (1, .int x1), (2, .int x2), (3, .int x3)] 4 [] := by
  intro H locs ls hP hD hS hl
  have hx := S.1
  have hb := S.2.1
  refine lv_iload_n hx hb dX7_gather_4 rfl (lv_at hl 3 rfl) ?_
  refine lv_aload_n hx hb dX7_gather_5 rfl (lv_at hl 0 rfl) ?_
  refine xXg_11_house S hE hP lk_X7_21 dX7_gather_6 ?_
  refine xXg_6_drinks S hE hP lk_X7_33 dX7_gather_9 ?_
  refine lv_icmp_ge (tgt := 64) hx hb dX7_gather_12 (by decide) (fun c1 => ?_) (fun c1 => ?_)
  · have hB := hB.1 c1
    refine lv_iload_n hx hb dX7_gather_64 rfl (lv_at hl 2 rfl) ?_
    exact hret _ _ _ _ _ _ dX7_gather_65 hB hP hD hS
  · have hB := hB.2 c1
    refine lv_iconst (v := 0) hx hb dX7_gather_15 (by decide) ?_
    refine lv_istore (lv' := [(4, .int (0 : Int32)), (0, .ref (ad G 11)), (1, .int x1), (2, .int x2), (3, .int x3)]) hx hb dX7_gather_16 hl (by decide) rfl (fun ls hl => ?_)
    obtain ⟨n2, hB⟩ := hB
    exact wl_Sightings_gather_18 S hE hA hRf hRl hret h4 n2 x1 x2 x3 (0 : Int32) z0 hB _ _ _ hP hD hS (lv_sub hl [1, 2, 3, 4, 0] rfl)
def L_Sightings_gather_4 (post : Int32 → St → Prop) : Nat → Int32 → Int32 → Int32 → St → Prop
  | 0 => fun _ _ _ _ => False
  | n + 1 => B_Sightings_gather_4 post (L_Sightings_gather_4 post n)
theorem wl_Sightings_gather_4 {p : Program} {l : Launch} {e : Env} {R : Room} {s : State} {m : MethodId} {args : Array Value} {below : List Frame} {meth : Method} {c : Code} {Q : State → Prop} {G : GX} {A : Nat → Prop} (S : CallFix p m c cX7_gather 5 s args GW RX7) (hE : env G A s s.heap) (hA : ∀ q, s.heap.size ≤ q → A q) (hRf : 4 ≤ R.frames) (hRl : 101 ≤ R.locals) {post : Int32 → St → Prop} (hret : RetI p l e R s m args below meth c Q 0 0 wX G A cX7_gather post) : ∀ (n : Nat) (x1 : Int32) (x2 : Int32) (x3 : Int32) (z0 : St), L_Sightings_gather_4 post n x1 x2 x3 z0 → Xw p l e R s m args below meth c Q 0 0 wX G A z0 5 [(0, .ref (ad G 11)), (1, .int x1), (2, .int x2), (3, .int x3)] 4 [] := by
  intro n
  induction n with
  | zero => intro x1 x2 x3 z0 hB; exact absurd hB id
  | succ n ih => exact fun x1 x2 x3 z0 hB => w_Sightings_gather_4 S hE hA hRf hRl hret ih x1 x2 x3 z0 hB
def S_Sightings_gather (post : Int32 → St → Prop) (x1 : Int32) (z0 : St) : Prop :=
  (∃ n1, L_Sightings_gather_4 post n1 x1 (0 : Int32) (0 : Int32) z0)
set_option maxHeartbeats 4000000 in
set_option maxRecDepth 100000 in
theorem w_Sightings_gather_0 {p : Program} {l : Launch} {e : Env} {R : Room} {s : State} {m : MethodId} {args : Array Value} {below : List Frame} {meth : Method} {c : Code} {Q : State → Prop} {G : GX} {A : Nat → Prop} (S : CallFix p m c cX7_gather 5 s args GW RX7) (hE : env G A s s.heap) (hA : ∀ q, s.heap.size ≤ q → A q) (hRf : 4 ≤ R.frames) (hRl : 101 ≤ R.locals) {post : Int32 → St → Prop} (hret : RetI p l e R s m args below meth c Q 0 0 wX G A cX7_gather post) (x1 : Int32) (z0 : St) (hB : S_Sightings_gather post x1 z0) : Xw p l e R s m args below meth c Q 0 0 wX G A z0 5 [(0, .ref (ad G 11)), (1, .int x1)] 0 [] := by
  intro H locs ls hP hD hS hl
  have hx := S.1
  have hb := S.2.1
  refine lv_iconst (v := 0) hx hb dX7_gather_0 (by decide) ?_
  refine lv_istore_n (lv' := [(2, .int (0 : Int32)), (0, .ref (ad G 11)), (1, .int x1)]) hx hb dX7_gather_1 rfl hl (by decide) rfl (fun ls hl => ?_)
  refine lv_iconst (v := 0) hx hb dX7_gather_2 (by decide) ?_
  refine lv_istore_n (lv' := [(3, .int (0 : Int32)), (2, .int (0 : Int32)), (0, .ref (ad G 11)), (1, .int x1)]) hx hb dX7_gather_3 rfl hl (by decide) rfl (fun ls hl => ?_)
  obtain ⟨n1, hB⟩ := hB
  exact wl_Sightings_gather_4 S hE hA hRf hRl hret n1 x1 (0 : Int32) (0 : Int32) z0 hB _ _ _ hP hD hS (lv_sub hl [2, 3, 1, 0] rfl)
set_option maxHeartbeats 4000000 in
set_option maxRecDepth 100000 in
theorem c_Sightings_gather (l : Launch) (G : GX) (z0 : St) (sz : Nat) (x1 : Int32) (post : Int32 → St → Prop) : MetI l wX yX7_gather cX7_gather 5 (some .int) ({ frames := 4, cells := 0, slots := 0, locals := 101 }) [.ref (ad G 11), .int x1] G z0 sz (S_Sightings_gather post x1 z0) post := by
  refine Met.ofW (cc := cX7_gather) (maxL := 5) (ret := (some .int)) (by decide) rfl ?_
  intro p e s m args below meth c s₁ B hml hv
  obtain ⟨rfl, hsz, hP, hD0, hE, hB⟩ := hv
  have S : CallFix p m c cX7_gather 5 s _ GW RX7 := ⟨B.exec, B.bytes, hml, findClass_of_methodNamed B.named, fun w h => atoms_spec (ws := Cond.code yX7_gather cX7_gather 5 (some .int) :: GW) B.pre w (List.mem_cons_of_mem _ h)⟩
  have hlocks := B.notSynchronized
  subst hsz
  have hD := hD0.self (sz := s.heap.size)
  generalize hAe : va_A (wX G z0) s.heap.size = A at hD hE ⊢
  have hA : ∀ q : Nat, s.heap.size ≤ q → A q := fun q h => by rw [← hAe]; exact Or.inr h
  have hS : va_S A s.heap s.heap [] := va_S.rf
  have hl := lv_entry ([.ref (ad G 11), .int x1]) (n := 5) (Nat.le_of_ble_eq_true rfl)
  rw [lg_entry_eq]
  generalize (lg_sl ([.ref (ad G 11), .int x1]) ++ List.replicate (5 - (lg_sl ([.ref (ad G 11), .int x1])).length) Slot.unset).toArray = ls at hl ⊢
  have hl : lv_has ls 5 [(0, .ref (ad G 11)), (1, .int x1)] := hl
  refine w_Sightings_gather_0 S hE hA (Nat.le_refl _) (Nat.le_refl _) ?_ x1 z0 hB _ _ _ hP hD hS hl
  intro pc ls r σ H locs hd hp hP hD hS
  exact W.iret (v := r) B.exec B.bytes B.returns (fun t ht hW => ⟨⟨r, σ, rfl, hp, by rw [ht]; exact hP, hD⟩, hS.F ht⟩) hS.2.2 hd
def S_B_fits (post : Int32 → St → Prop) (x1 : Int32) (x2 : Int32) (z0 : St) : Prop :=
  (S_House_hasGuest (fun (r1 : Int32) (z1 : St) => ((r1 = 0 → (post (-1 : Int32) z1)) ∧ (¬ r1 = 0 → (S_Sightings_gather (fun (r3 : Int32) (z2 : St) => ((x2 = (-1 : Int32) → (post r3 z2)) ∧ (¬ x2 = (-1 : Int32) → ((x2 < 0 → (post (-1 : Int32) z2)) ∧ (¬ x2 < 0 → ((r3 ≤ x2 → (post (-1 : Int32) z2)) ∧ (¬ r3 ≤ x2 → (vp_in x2 60 ∧ (post (gA z2 29 x2.toNatClampNeg) z2))))))))) x1 z1)))) x1 z0)
set_option maxHeartbeats 4000000 in
set_option maxRecDepth 100000 in
theorem w_B_fits_0 {p : Program} {l : Launch} {e : Env} {R : Room} {s : State} {m : MethodId} {args : Array Value} {below : List Frame} {meth : Method} {c : Code} {Q : State → Prop} {G : GX} {A : Nat → Prop} (S : CallFix p m c cX11_fits 4 s args GW RX11) (hE : env G A s s.heap) (hA : ∀ q, s.heap.size ≤ q → A q) (hRf : 5 ≤ R.frames) (hRl : 125 ≤ R.locals) {post : Int32 → St → Prop} (hret : RetI p l e R s m args below meth c Q 0 0 wX G A cX11_fits post) (x1 : Int32) (x2 : Int32) (z0 : St) (hB : S_B_fits post x1 x2 z0) : Xw p l e R s m args below meth c Q 0 0 wX G A z0 4 [(0, .ref (ad G 0)), (1, .int x1), (2, .int x2)] 0 [] := by
  intro H locs ls hP hD hS hl
  have hx := S.1
  have hb := S.2.1
  refine lv_aload_n hx hb dX11_fits_0 rfl (lv_at hl 0 rfl) ?_
  refine xXg_0_house S hE hP lk_X11_64 dX11_fits_1 ?_
  refine lv_iload_n hx hb dX11_fits_4 rfl (lv_at hl 1 rfl) ?_
  refine xcVi [.int x1] S hE hA hP hD hS (c_House_hasGuest l G z0 H.size x1 _) hB (gw_c lk_X11_171 (gw_c wi_X0_hasGuest (gw_c we_X0_X0_hasGuest_X0_hasGuest (gw_c wn_X0 (gw_c wc_X0_hasGuest (fun _ h9 => h9)))))) hd_X0_hasGuest rfl rfl (Nat.le_trans (Nat.le_of_ble_eq_true rfl) hRf) (Nat.le_trans (Nat.le_of_ble_eq_true rfl) hRl) ⟨Nat.zero_le _, Nat.zero_le _⟩ (va_recv hE.1 hP (ci := 0) (q0 := 6) rfl rfl) rfl hl.1 rfl (Nat.le_of_ble_eq_true rfl) dX11_fits_5 (fun r1 z1 H locs hB hP hD hS => ?_)
  refine lv_if_ne (tgt := 13) hx hb dX11_fits_8 (by decide) (fun c2 => ?_) (fun c2 => ?_)
  · have hB := hB.2 c2
    refine lv_aload_n hx hb dX11_fits_13 rfl (lv_at hl 0 rfl) ?_
    refine xXg_0_sightings S hE hP lk_X11_93 dX11_fits_14 ?_
    refine lv_iload_n hx hb dX11_fits_17 rfl (lv_at hl 1 rfl) ?_
    refine xcVi [.int x1] S hE hA hP hD hS (c_Sightings_gather l G z1 H.size x1 _) hB (gw_c lk_X11_312 (gw_c wi_X7_gather (gw_c we_X7_X7_gather_X7_gather (gw_c wn_X7 (gw_c wc_X7_gather (fun _ h9 => h9)))))) hd_X7_gather rfl rfl (Nat.le_trans (Nat.le_of_ble_eq_true rfl) hRf) (Nat.le_trans (Nat.le_of_ble_eq_true rfl) hRl) ⟨Nat.zero_le _, Nat.zero_le _⟩ (va_recv hE.1 hP (ci := 6) (q0 := 11) rfl rfl) rfl hl.1 rfl (Nat.le_of_ble_eq_true rfl) dX11_fits_18 (fun r3 z2 H locs hB hP hD hS => ?_)
    refine lv_istore_n (lv' := [(3, .int r3), (0, .ref (ad G 0)), (1, .int x1), (2, .int x2)]) hx hb dX11_fits_21 rfl hl (by decide) rfl (fun ls hl => ?_)
    refine lv_iload_n hx hb dX11_fits_22 rfl (lv_at hl 3 rfl) ?_
    refine lv_iconst (v := -1) hx hb dX11_fits_23 (by decide) ?_
    refine lv_icmp_ne (tgt := 29) hx hb dX11_fits_24 (by decide) (fun c4 => ?_) (fun c4 => ?_)
    · have hB := hB.2 c4
      refine lv_iload_n hx hb dX11_fits_29 rfl (lv_at hl 3 rfl) ?_
      refine lv_if_lt (tgt := 50) hx hb dX11_fits_30 (by decide) (fun c5 => ?_) (fun c5 => ?_)
      · have hB := hB.1 c5
        refine lv_iconst (v := -1) hx hb dX11_fits_50 (by decide) ?_
        exact hret _ _ _ _ _ _ dX11_fits_51 hB hP hD hS
      · have hB := hB.2 c5
        refine lv_iload_n hx hb dX11_fits_33 rfl (lv_at hl 3 rfl) ?_
        refine lv_iload_n hx hb dX11_fits_34 rfl (lv_at hl 0 rfl) ?_
        refine lv_icmp_ge (tgt := 50) hx hb dX11_fits_35 (by decide) (fun c6 => ?_) (fun c6 => ?_)
        · have hB := hB.1 c6
          refine lv_iconst (v := -1) hx hb dX11_fits_50 (by decide) ?_
          exact hret _ _ _ _ _ _ dX11_fits_51 hB hP hD hS
        · have hB := hB.2 c6
          refine lv_aload_n hx hb dX11_fits_38 rfl (lv_at hl 1 rfl) ?_
          refine xXg_0_sightings S hE hP lk_X11_93 dX11_fits_39 ?_
          refine xXg_11_fitting S hE hP lk_X11_315 dX11_fits_42 ?_
          refine lv_iload_n hx hb dX11_fits_45 rfl (lv_at hl 3 rfl) ?_
          obtain ⟨hi, hB⟩ := hB
          refine xXl_29 S hE hP hi dX11_fits_46 ?_
          refine lv_goto (tgt := 51) hx hb dX11_fits_47 (by decide) ?_
          exact hret _ _ _ _ _ _ dX11_fits_51 hB hP hD hS
    · have hB := hB.1 c4
      refine lv_iload_n hx hb dX11_fits_27 rfl (lv_at hl 0 rfl) ?_
      exact hret _ _ _ _ _ _ dX11_fits_28 hB hP hD hS
  · have hB := hB.1 c2
    refine lv_iconst (v := -1) hx hb dX11_fits_11 (by decide) ?_
    exact hret _ _ _ _ _ _ dX11_fits_12 hB hP hD hS
set_option maxHeartbeats 4000000 in
set_option maxRecDepth 100000 in
theorem c_B_fits (l : Launch) (G : GX) (z0 : St) (sz : Nat) (x1 : Int32) (x2 : Int32) (post : Int32 → St → Prop) : MetI l wX yX11_fits cX11_fits 4 (some .int) ({ frames := 5, cells := 0, slots := 0, locals := 125 }) [.ref (ad G 0), .int x1, .int x2] G z0 sz (S_B_fits post x1 x2 z0) post := by
  refine Met.ofW (cc := cX11_fits) (maxL := 4) (ret := (some .int)) (by decide) rfl ?_
  intro p e s m args below meth c s₁ B hml hv
  obtain ⟨rfl, hsz, hP, hD0, hE, hB⟩ := hv
  have S : CallFix p m c cX11_fits 4 s _ GW RX11 := ⟨B.exec, B.bytes, hml, findClass_of_methodNamed B.named, fun w h => atoms_spec (ws := Cond.code yX11_fits cX11_fits 4 (some .int) :: GW) B.pre w (List.mem_cons_of_mem _ h)⟩
  have hlocks := B.notSynchronized
  subst hsz
  have hD := hD0.self (sz := s.heap.size)
  generalize hAe : va_A (wX G z0) s.heap.size = A at hD hE ⊢
  have hA : ∀ q : Nat, s.heap.size ≤ q → A q := fun q h => by rw [← hAe]; exact Or.inr h
  have hS : va_S A s.heap s.heap [] := va_S.rf
  have hl := lv_entry ([.ref (ad G 0), .int x1, .int x2]) (n := 4) (Nat.le_of_ble_eq_true rfl)
  rw [lg_entry_eq]
  generalize (lg_sl ([.ref (ad G 0), .int x1, .int x2]) ++ List.replicate (4 - (lg_sl ([.ref (ad G 0), .int x1, .int x2])).length) Slot.unset).toArray = ls at hl ⊢
  have hl : lv_has ls 4 [(0, .ref (ad G 0)), (1, .int x1), (2, .int x2)] := hl
  refine w_B_fits_0 S hE hA (Nat.le_refl _) (Nat.le_refl _) ?_ x1 x2 z0 hB _ _ _ hP hD hS hl
  intro pc ls r σ H locs hd hp hP hD hS
  exact W.iret (v := r) B.exec B.bytes B.returns (fun t ht hW => ⟨⟨r, σ, rfl, hp, by rw [ht]; exact hP, hD⟩, hS.F ht⟩) hS.2.2 hd
def B_Arrays_fill_53178_X_r31_5 (post : St → Prop) (ih5 : Int32 → Int32 → Int32 → St → Prop) (x1 : Int32) (x2 : Int32) (x3 : Int32) (z0 : St) : Prop :=
  ((x3 ≤ x2 → (post z0)) ∧ (¬ x3 ≤ x2 → (vp_in x2 7 ∧ (∀ z1 : St, z1 = sA z0 31 x2.toNatClampNeg x1 → (∀ v2 : Int32, v2 = x2 + (1 : Int32) → (ih5 x1 v2 x3 z1))))))
set_option maxHeartbeats 4000000 in
set_option maxRecDepth 100000 in
theorem w_Arrays_fill_53178_X_r31_5 {p : Program} {l : Launch} {e : Env} {R : Room} {s : State} {m : MethodId} {args : Array Value} {below : List Frame} {meth : Method} {c : Code} {Q : State → Prop} {G : GX} {A : Nat → Prop} (S : CallFix p m c cJ7_fill_53178 4 s args GW RJ7) (hE : env G A s s.heap) (hA : ∀ q, s.heap.size ≤ q → A q) (hRf : 0 ≤ R.frames) (hRl : 0 ≤ R.locals) {post : St → Prop} (hret : RetV p l e R s m args below meth c Q 0 0 wX G A cJ7_fill_53178 post) {ih5 : Int32 → Int32 → Int32 → St → Prop} (h5 : ∀ (x1 : Int32) (x2 : Int32) (x3 : Int32) (z0 : St), ih5 x1 x2 x3 z0 → Xw p l e R s m args below meth c Q 0 0 wX G A z0 4 [(0, .ref (ad G 31)), (1, .int x1), (2, .int x2), (3, .int x3)] 5 []) (x1 : Int32) (x2 : Int32) (x3 : Int32) (z0 : St) (hB : B_Arrays_fill_53178_X_r31_5 post ih5 x1 x2 x3 z0) : Xw p l e R s m args below meth c Q 0 0 wX G A z0 4 [(0, .ref (ad G 31)), (1, .int x1), (2, .int x2), (3, .int x3)] 5 [] := by
  intro H locs ls hP hD hS hl
  have hx := S.1
  have hb := S.2.1
  refine lv_iload_n hx hb dJ7_fill_53178_5 rfl (lv_at hl 2 rfl) ?_
  refine lv_iload_n hx hb dJ7_fill_53178_6 rfl (lv_at hl 3 rfl) ?_
  refine lv_icmp_ge (tgt := 20) hx hb dJ7_fill_53178_7 (by decide) (fun c1 => ?_) (fun c1 => ?_)
  · have hB := hB.1 c1
    exact hret _ _ _ _ _ dJ7_fill_53178_20 hB hP hD hS
  · have hB := hB.2 c1
    refine lv_aload_n hx hb dJ7_fill_53178_10 rfl (lv_at hl 0 rfl) ?_
    refine lv_iload_n hx hb dJ7_fill_53178_11 rfl (lv_at hl 2 rfl) ?_
    refine lv_iload_n hx hb dJ7_fill_53178_12 rfl (lv_at hl 1 rfl) ?_
    obtain ⟨hi, hB⟩ := hB
    obtain ⟨z1, ez1⟩ : ∃ z9, z9 = sA z0 31 x2.toNatClampNeg x1 := ⟨_, rfl⟩
    have hB := hB z1 ez1
    refine xXs_31 S hE hP hD hS _ rfl hi dJ7_fill_53178_13 (fun H locs hP hD hS => ?_)
    rw [← ez1] at hP hD
    obtain ⟨v2, ev2⟩ : ∃ y9, y9 = x2 + (1 : Int32) := ⟨_, rfl⟩
    have hB := hB v2 ev2
    refine lv_iinc (v := v2) (lv' := [(2, .int v2), (0, .ref (ad G 31)), (1, .int x1), (3, .int x3)]) hx hb dJ7_fill_53178_14 hl (k := 2) rfl (by rw [ev2]; rfl) (by decide) rfl (fun ls hl => ?_)
    refine lv_goto (tgt := 5) hx hb dJ7_fill_53178_17 (by decide) ?_
    exact h5 x1 v2 x3 z1 hB _ _ _ hP hD hS (lv_sub hl [1, 2, 0, 3] rfl)
def L_Arrays_fill_53178_X_r31_5 (post : St → Prop) : Nat → Int32 → Int32 → Int32 → St → Prop
  | 0 => fun _ _ _ _ => False
  | n + 1 => B_Arrays_fill_53178_X_r31_5 post (L_Arrays_fill_53178_X_r31_5 post n)
theorem wl_Arrays_fill_53178_X_r31_5 {p : Program} {l : Launch} {e : Env} {R : Room} {s : State} {m : MethodId} {args : Array Value} {below : List Frame} {meth : Method} {c : Code} {Q : State → Prop} {G : GX} {A : Nat → Prop} (S : CallFix p m c cJ7_fill_53178 4 s args GW RJ7) (hE : env G A s s.heap) (hA : ∀ q, s.heap.size ≤ q → A q) (hRf : 0 ≤ R.frames) (hRl : 0 ≤ R.locals) {post : St → Prop} (hret : RetV p l e R s m args below meth c Q 0 0 wX G A cJ7_fill_53178 post) : ∀ (n : Nat) (x1 : Int32) (x2 : Int32) (x3 : Int32) (z0 : St), L_Arrays_fill_53178_X_r31_5 post n x1 x2 x3 z0 → Xw p l e R s m args below meth c Q 0 0 wX G A z0 4 [(0, .ref (ad G 31)), (1, .int x1), (2, .int x2), (3, .int x3)] 5 [] := by
  intro n
  induction n with
  | zero => intro x1 x2 x3 z0 hB; exact absurd hB id
  | succ n ih => exact fun x1 x2 x3 z0 hB => w_Arrays_fill_53178_X_r31_5 S hE hA hRf hRl hret ih x1 x2 x3 z0 hB
def S_Arrays_fill_53178_X_r31 (post : St → Prop) (x1 : Int32) (z0 : St) : Prop :=
  (∃ n1, L_Arrays_fill_53178_X_r31_5 post n1 x1 (0 : Int32) (7 : Int32) z0)
set_option maxHeartbeats 4000000 in
set_option maxRecDepth 100000 in
theorem w_Arrays_fill_53178_X_r31_0 {p : Program} {l : Launch} {e : Env} {R : Room} {s : State} {m : MethodId} {args : Array Value} {below : List Frame} {meth : Method} {c : Code} {Q : State → Prop} {G : GX} {A : Nat → Prop} (S : CallFix p m c cJ7_fill_53178 4 s args GW RJ7) (hE : env G A s s.heap) (hA : ∀ q, s.heap.size ≤ q → A q) (hRf : 0 ≤ R.frames) (hRl : 0 ≤ R.locals) {post : St → Prop} (hret : RetV p l e R s m args below meth c Q 0 0 wX G A cJ7_fill_53178 post) (x1 : Int32) (z0 : St) (hB : S_Arrays_fill_53178_X_r31 post x1 z0) : Xw p l e R s m args below meth c Q 0 0 wX G A z0 4 [(0, .ref (ad G 31)), (1, .int x1)] 0 [] := by
  intro H locs ls hP hD hS hl
  have hx := S.1
  have hb := S.2.1
  refine lv_iconst (v := 0) hx hb dJ7_fill_53178_0 (by decide) ?_
  refine lv_istore_n (lv' := [(2, .int (0 : Int32)), (0, .ref (ad G 31)), (1, .int x1)]) hx hb dJ7_fill_53178_1 rfl hl (by decide) rfl (fun ls hl => ?_)
  refine lv_aload_n hx hb dJ7_fill_53178_2 rfl (lv_at hl 1 rfl) ?_
  refine xXn_31 S hE hP dJ7_fill_53178_3 ?_
  refine lv_istore_n (lv' := [(3, .int (7 : Int32)), (2, .int (0 : Int32)), (0, .ref (ad G 31)), (1, .int x1)]) hx hb dJ7_fill_53178_4 rfl hl (by decide) rfl (fun ls hl => ?_)
  obtain ⟨n1, hB⟩ := hB
  exact wl_Arrays_fill_53178_X_r31_5 S hE hA hRf hRl hret n1 x1 (0 : Int32) (7 : Int32) z0 hB _ _ _ hP hD hS (lv_sub hl [2, 3, 1, 0] rfl)
set_option maxHeartbeats 4000000 in
set_option maxRecDepth 100000 in
theorem c_Arrays_fill_53178_X_r31 (l : Launch) (G : GX) (z0 : St) (sz : Nat) (x1 : Int32) (post : St → Prop) : MetV l wX yJ7_fill_53178 cJ7_fill_53178 4 none ({ frames := 0, cells := 0, slots := 0, locals := 0 }) [.ref (ad G 31), .int x1] G z0 sz (S_Arrays_fill_53178_X_r31 post x1 z0) post := by
  refine Met.ofW (cc := cJ7_fill_53178) (maxL := 4) (ret := none) (by decide) rfl ?_
  intro p e s m args below meth c s₁ B hml hv
  obtain ⟨rfl, hsz, hP, hD0, hE, hB⟩ := hv
  have S : CallFix p m c cJ7_fill_53178 4 s _ GW RJ7 := ⟨B.exec, B.bytes, hml, findClass_of_methodNamed B.named, fun w h => atoms_spec (ws := Cond.code yJ7_fill_53178 cJ7_fill_53178 4 none :: GW) B.pre w (List.mem_cons_of_mem _ h)⟩
  have hlocks := B.notSynchronized
  subst hsz
  have hD := hD0.self (sz := s.heap.size)
  generalize hAe : va_A (wX G z0) s.heap.size = A at hD hE ⊢
  have hA : ∀ q : Nat, s.heap.size ≤ q → A q := fun q h => by rw [← hAe]; exact Or.inr h
  have hS : va_S A s.heap s.heap [] := va_S.rf
  have hl := lv_entry ([.ref (ad G 31), .int x1]) (n := 4) (Nat.le_of_ble_eq_true rfl)
  rw [lg_entry_eq]
  generalize (lg_sl ([.ref (ad G 31), .int x1]) ++ List.replicate (4 - (lg_sl ([.ref (ad G 31), .int x1])).length) Slot.unset).toArray = ls at hl ⊢
  have hl : lv_has ls 4 [(0, .ref (ad G 31)), (1, .int x1)] := hl
  refine w_Arrays_fill_53178_X_r31_0 S hE hA (Nat.le_refl _) (Nat.le_refl _) ?_ x1 z0 hB _ _ _ hP hD hS hl
  intro pc ls σ H locs hd hp hP hD hS
  exact W.vret B.exec B.bytes B.returns (fun t ht hW => ⟨⟨σ, rfl, hp, by rw [ht]; exact hP, hD⟩, hS.F ht⟩) hS.2.2 hd
def B_Sightings_largestPart_14 (post : Int32 → St → Prop) (ih14 : Int32 → Int32 → Int32 → Int32 → Int32 → St → Prop) (x1 : Int32) (x2 : Int32) (x3 : Int32) (x4 : Int32) (x5 : Int32) (z0 : St) : Prop :=
  ((x1 ≤ x5 → (post x4 z0)) ∧ (¬ x1 ≤ x5 → (((60 : Int32) ≤ x5 → (post x4 z0)) ∧ (¬ (60 : Int32) ≤ x5 → (vp_in x5 60 ∧ (vp_in x5 60 ∧ (S_Table_brings_8 (fun (r3 : Int32) (z1 : St) => (vp_in (r3 + (1 : Int32)) 7 ∧ (vp_in (r3 + (1 : Int32)) 7 ∧ (∀ z2 : St, z2 = sA z1 31 (r3 + (1 : Int32)).toNatClampNeg ((gA z1 31 (r3 + (1 : Int32)).toNatClampNeg) + (1 : Int32)) → (vp_in (r3 + (1 : Int32)) 7 ∧ (S_Math_max_7cf53_X (fun (r4 : Int32) (z3 : St) => (∀ v5 : Int32, v5 = x5 + (1 : Int32) → (ih14 x1 x2 x3 r4 v5 z3))) x4 (gA z2 31 (r3 + (1 : Int32)).toNatClampNeg) z2)))))) ((gA z0 29 x5.toNatClampNeg) / (10 : Int32)) ((gA z0 29 x5.toNatClampNeg) - (gA z0 29 x5.toNatClampNeg) / (10 : Int32) * (10 : Int32)) x2 (0 : Int32) x3 z0)))))))
set_option maxHeartbeats 4000000 in
set_option maxRecDepth 100000 in
theorem w_Sightings_largestPart_14 {p : Program} {l : Launch} {e : Env} {R : Room} {s : State} {m : MethodId} {args : Array Value} {below : List Frame} {meth : Method} {c : Code} {Q : State → Prop} {G : GX} {A : Nat → Prop} (S : CallFix p m c cX7_largestPart 7 s args GW RX7) (hE : env G A s s.heap) (hA : ∀ q, s.heap.size ≤ q → A q) (hRf : 3 ≤ R.frames) (hRl : 76 ≤ R.locals) {post : Int32 → St → Prop} (hret : RetI p l e R s m args below meth c Q 0 0 wX G A cX7_largestPart post) {ih14 : Int32 → Int32 → Int32 → Int32 → Int32 → St → Prop} (h14 : ∀ (x1 : Int32) (x2 : Int32) (x3 : Int32) (x4 : Int32) (x5 : Int32) (z0 : St), ih14 x1 x2 x3 x4 x5 z0 → Xw p l e R s m args below meth c Q 0 0 wX G A z0 7 [(0, .ref (ad G 11)), (1, .int x1), (2, .int x2), (3, .int x3), (4, .int x4), (5, .int x5)] 14 []) (x1 : Int32) (x2 : Int32) (x3 : Int32) (x4 : Int32) (x5 : Int32) (z0 : St) (hB : B_Sightings_largestPart_14 post ih14 x1 x2 x3 x4 x5 z0) : Xw p l e R s m args below meth c Q 0 0 wX G A z0 7 [(0, .ref (ad G 11)), (1, .int x1), (2, .int x2), (3, .int x3), (4, .int x4), (5, .int x5)] 14 [] := by
  intro H locs ls hP hD hS hl
  have hx := S.1
  have hb := S.2.1
  refine lv_iload hx hb dX7_largestPart_14 (lv_at hl 5 rfl) ?_
  refine lv_iload_n hx hb dX7_largestPart_16 rfl (lv_at hl 1 rfl) ?_
  refine lv_icmp_ge (tgt := 97) hx hb dX7_largestPart_17 (by decide) (fun c1 => ?_) (fun c1 => ?_)
  · have hB := hB.1 c1
    refine lv_iload hx hb dX7_largestPart_97 (lv_at hl 4 rfl) ?_
    exact hret _ _ _ _ _ _ dX7_largestPart_99 hB hP hD hS
  · have hB := hB.2 c1
    refine lv_iload hx hb dX7_largestPart_20 (lv_at hl 5 rfl) ?_
    refine lv_aload_n hx hb dX7_largestPart_22 rfl (lv_at hl 0 rfl) ?_
    refine xXg_11_fitting S hE hP lk_X7_11 dX7_largestPart_23 ?_
    refine xXn_29 S hE hP dX7_largestPart_26 ?_
    refine lv_icmp_ge (tgt := 97) hx hb dX7_largestPart_27 (by decide) (fun c2 => ?_) (fun c2 => ?_)
    · have hB := hB.1 c2
      refine lv_iload hx hb dX7_largestPart_97 (lv_at hl 4 rfl) ?_
      exact hret _ _ _ _ _ _ dX7_largestPart_99 hB hP hD hS
    · have hB := hB.2 c2
      refine lv_aload_n hx hb dX7_largestPart_30 rfl (lv_at hl 0 rfl) ?_
      refine xXg_11_table S hE hP lk_X7_25 dX7_largestPart_31 ?_
      refine lv_aload_n hx hb dX7_largestPart_34 rfl (lv_at hl 0 rfl) ?_
      refine xXg_11_fitting S hE hP lk_X7_11 dX7_largestPart_35 ?_
      refine lv_iload hx hb dX7_largestPart_38 (lv_at hl 5 rfl) ?_
      obtain ⟨hi, hB⟩ := hB
      refine xXl_29 S hE hP hi dX7_largestPart_40 ?_
      refine lv_bipush (v := 10) hx hb dX7_largestPart_41 (by decide) ?_
      refine lv_idiv hx hb dX7_largestPart_43 (by decide) ?_
      refine lv_aload_n hx hb dX7_largestPart_44 rfl (lv_at hl 0 rfl) ?_
      refine xXg_11_fitting S hE hP lk_X7_11 dX7_largestPart_45 ?_
      refine lv_iload hx hb dX7_largestPart_48 (lv_at hl 5 rfl) ?_
      obtain ⟨hi, hB⟩ := hB
      refine xXl_29 S hE hP hi dX7_largestPart_50 ?_
      refine lv_bipush (v := 10) hx hb dX7_largestPart_51 (by decide) ?_
      refine lv_irem hx hb dX7_largestPart_53 (by decide) ?_
      refine lv_iload_n hx hb dX7_largestPart_54 rfl (lv_at hl 2 rfl) ?_
      refine lv_iconst (v := 0) hx hb dX7_largestPart_55 (by decide) ?_
      refine lv_iload_n hx hb dX7_largestPart_56 rfl (lv_at hl 3 rfl) ?_
      refine xcVi [.int ((gA z0 29 x5.toNatClampNeg) / (10 : Int32)), .int ((gA z0 29 x5.toNatClampNeg) - (gA z0 29 x5.toNatClampNeg) / (10 : Int32) * (10 : Int32)), .int x2, .int (0 : Int32), .int x3] S hE hA hP hD hS (c_Table_brings_8 l G z0 H.size ((gA z0 29 x5.toNatClampNeg) / (10 : Int32)) ((gA z0 29 x5.toNatClampNeg) - (gA z0 29 x5.toNatClampNeg) / (10 : Int32) * (10 : Int32)) x2 (0 : Int32) x3 _) hB (gw_c lk_X7_42 (gw_c wi_X8_brings (gw_c we_X8_X8_brings_X8_brings (gw_c wn_X8 (gw_c wc_X8_brings (fun _ h9 => h9)))))) hd_X8_brings rfl rfl (Nat.le_trans (Nat.le_of_ble_eq_true rfl) hRf) (Nat.le_trans (Nat.le_of_ble_eq_true rfl) hRl) ⟨Nat.zero_le _, Nat.zero_le _⟩ (va_recv hE.1 hP (ci := 7) (q0 := 8) rfl rfl) rfl hl.1 rfl (Nat.le_of_ble_eq_true rfl) dX7_largestPart_57 (fun r3 z1 H locs hB hP hD hS => ?_)
      refine lv_istore (lv' := [(6, .int r3), (0, .ref (ad G 11)), (1, .int x1), (2, .int x2), (3, .int x3), (4, .int x4), (5, .int x5)]) hx hb dX7_largestPart_60 hl (by decide) rfl (fun ls hl => ?_)
      refine lv_aload_n hx hb dX7_largestPart_62 rfl (lv_at hl 1 rfl) ?_
      refine xXg_11_tally S hE hP lk_X7_18 dX7_largestPart_63 ?_
      refine lv_iload hx hb dX7_largestPart_66 (lv_at hl 0 rfl) ?_
      refine lv_iconst (v := 1) hx hb dX7_largestPart_68 (by decide) ?_
      refine lv_iadd hx hb dX7_largestPart_69 ?_
      refine lv_dup2_11 hx hb dX7_largestPart_70 rfl rfl ?_
      obtain ⟨hi, hB⟩ := hB
      refine xXl_31 S hE hP hi dX7_largestPart_71 ?_
      refine lv_iconst (v := 1) hx hb dX7_largestPart_72 (by decide) ?_
      refine lv_iadd hx hb dX7_largestPart_73 ?_
      obtain ⟨hi, hB⟩ := hB
      obtain ⟨z2, ez2⟩ : ∃ z9, z9 = sA z1 31 (r3 + (1 : Int32)).toNatClampNeg ((gA z1 31 (r3 + (1 : Int32)).toNatClampNeg) + (1 : Int32)) := ⟨_, rfl⟩
      have hB := hB z2 ez2
      refine xXs_31 S hE hP hD hS _ rfl hi dX7_largestPart_74 (fun H locs hP hD hS => ?_)
      rw [← ez2] at hP hD
      refine lv_iload hx hb dX7_largestPart_75 (lv_at hl 5 rfl) ?_
      refine lv_aload_n hx hb dX7_largestPart_77 rfl (lv_at hl 1 rfl) ?_
      refine xXg_11_tally S hE hP lk_X7_18 dX7_largestPart_78 ?_
      refine lv_iload hx hb dX7_largestPart_81 (lv_at hl 0 rfl) ?_
      refine lv_iconst (v := 1) hx hb dX7_largestPart_83 (by decide) ?_
      refine lv_iadd hx hb dX7_largestPart_84 ?_
      obtain ⟨hi, hB⟩ := hB
      refine xXl_31 S hE hP hi dX7_largestPart_85 ?_
      refine xcSi [.int x4, .int (gA z2 31 (r3 + (1 : Int32)).toNatClampNeg)] S hE hA hP hD hS (c_Math_max_7cf53_X l G z2 H.size x4 (gA z2 31 (r3 + (1 : Int32)).toNatClampNeg) _) hB (gw_c lk_X7_58 (gw_c wt_J9_max_7cf53 (gw_c wn_J9 (gw_c wc_J9_max_7cf53 (fun _ h9 => h9))))) hs_J9_max_7cf53 rfl rfl (Nat.le_trans (Nat.le_of_ble_eq_true rfl) hRf) (Nat.le_trans (Nat.le_of_ble_eq_true rfl) hRl) ⟨Nat.zero_le _, Nat.zero_le _⟩ rfl hl.1 rfl (Nat.le_of_ble_eq_true rfl) dX7_largestPart_86 (fun r4 z3 H locs hB hP hD hS => ?_)
      refine lv_istore (lv' := [(4, .int r4), (6, .int r3), (0, .ref (ad G 11)), (1, .int x1), (2, .int x2), (3, .int x3), (5, .int x5)]) hx hb dX7_largestPart_89 hl (by decide) rfl (fun ls hl => ?_)
      obtain ⟨v5, ev5⟩ : ∃ y9, y9 = x5 + (1 : Int32) := ⟨_, rfl⟩
      have hB := hB v5 ev5
      refine lv_iinc (v := v5) (lv' := [(5, .int v5), (4, .int r4), (6, .int r3), (0, .ref (ad G 11)), (1, .int x1), (2, .int x2), (3, .int x3)]) hx hb dX7_largestPart_91 hl (k := 6) rfl (by rw [ev5]; rfl) (by decide) rfl (fun ls hl => ?_)
      refine lv_goto (tgt := 14) hx hb dX7_largestPart_94 (by decide) ?_
      exact h14 x1 x2 x3 r4 v5 z3 hB _ _ _ hP hD hS (lv_sub hl [3, 4, 5, 6, 1, 0] rfl)
def L_Sightings_largestPart_14 (post : Int32 → St → Prop) : Nat → Int32 → Int32 → Int32 → Int32 → Int32 → St → Prop
  | 0 => fun _ _ _ _ _ _ => False
  | n + 1 => B_Sightings_largestPart_14 post (L_Sightings_largestPart_14 post n)
theorem wl_Sightings_largestPart_14 {p : Program} {l : Launch} {e : Env} {R : Room} {s : State} {m : MethodId} {args : Array Value} {below : List Frame} {meth : Method} {c : Code} {Q : State → Prop} {G : GX} {A : Nat → Prop} (S : CallFix p m c cX7_largestPart 7 s args GW RX7) (hE : env G A s s.heap) (hA : ∀ q, s.heap.size ≤ q → A q) (hRf : 3 ≤ R.frames) (hRl : 76 ≤ R.locals) {post : Int32 → St → Prop} (hret : RetI p l e R s m args below meth c Q 0 0 wX G A cX7_largestPart post) : ∀ (n : Nat) (x1 : Int32) (x2 : Int32) (x3 : Int32) (x4 : Int32) (x5 : Int32) (z0 : St), L_Sightings_largestPart_14 post n x1 x2 x3 x4 x5 z0 → Xw p l e R s m args below meth c Q 0 0 wX G A z0 7 [(0, .ref (ad G 11)), (1, .int x1), (2, .int x2), (3, .int x3), (4, .int x4), (5, .int x5)] 14 [] := by
  intro n
  induction n with
  | zero => intro x1 x2 x3 x4 x5 z0 hB; exact absurd hB id
  | succ n ih => exact fun x1 x2 x3 x4 x5 z0 hB => w_Sightings_largestPart_14 S hE hA hRf hRl hret ih x1 x2 x3 x4 x5 z0 hB
def S_Sightings_largestPart (post : Int32 → St → Prop) (x1 : Int32) (x2 : Int32) (x3 : Int32) (z0 : St) : Prop :=
  (S_Arrays_fill_53178_X_r31 (fun (z1 : St) => (∃ n1, L_Sightings_largestPart_14 post n1 x1 x2 x3 (0 : Int32) (0 : Int32) z1)) (0 : Int32) z0)
set_option maxHeartbeats 4000000 in
set_option maxRecDepth 100000 in
theorem w_Sightings_largestPart_0 {p : Program} {l : Launch} {e : Env} {R : Room} {s : State} {m : MethodId} {args : Array Value} {below : List Frame} {meth : Method} {c : Code} {Q : State → Prop} {G : GX} {A : Nat → Prop} (S : CallFix p m c cX7_largestPart 7 s args GW RX7) (hE : env G A s s.heap) (hA : ∀ q, s.heap.size ≤ q → A q) (hRf : 3 ≤ R.frames) (hRl : 76 ≤ R.locals) {post : Int32 → St → Prop} (hret : RetI p l e R s m args below meth c Q 0 0 wX G A cX7_largestPart post) (x1 : Int32) (x2 : Int32) (x3 : Int32) (z0 : St) (hB : S_Sightings_largestPart post x1 x2 x3 z0) : Xw p l e R s m args below meth c Q 0 0 wX G A z0 7 [(0, .ref (ad G 11)), (1, .int x1), (2, .int x2), (3, .int x3)] 0 [] := by
  intro H locs ls hP hD hS hl
  have hx := S.1
  have hb := S.2.1
  refine lv_aload_n hx hb dX7_largestPart_0 rfl (lv_at hl 0 rfl) ?_
  refine xXg_11_tally S hE hP lk_X7_18 dX7_largestPart_1 ?_
  refine lv_iconst (v := 0) hx hb dX7_largestPart_4 (by decide) ?_
  refine xcSv [.ref (ad G 31), .int (0 : Int32)] S hE hA hP hD hS (c_Arrays_fill_53178_X_r31 l G z0 H.size (0 : Int32) _) hB (gw_c lk_X7_52 (gw_c wt_J7_fill_53178 (gw_c wn_J7 (gw_c wc_J7_fill_53178 (fun _ h9 => h9))))) hs_J7_fill_53178 rfl rfl (Nat.le_trans (Nat.le_of_ble_eq_true rfl) hRf) (Nat.le_trans (Nat.le_of_ble_eq_true rfl) hRl) ⟨Nat.zero_le _, Nat.zero_le _⟩ rfl hl.1 rfl (Nat.le_of_ble_eq_true rfl) dX7_largestPart_5 (fun z1 H locs hB hP hD hS => ?_)
  refine lv_iconst (v := 0) hx hb dX7_largestPart_8 (by decide) ?_
  refine lv_istore (lv' := [(4, .int (0 : Int32)), (0, .ref (ad G 11)), (1, .int x1), (2, .int x2), (3, .int x3)]) hx hb dX7_largestPart_9 hl (by decide) rfl (fun ls hl => ?_)
  refine lv_iconst (v := 0) hx hb dX7_largestPart_11 (by decide) ?_
  refine lv_istore (lv' := [(5, .int (0 : Int32)), (4, .int (0 : Int32)), (0, .ref (ad G 11)), (1, .int x1), (2, .int x2), (3, .int x3)]) hx hb dX7_largestPart_12 hl (by decide) rfl (fun ls hl => ?_)
  obtain ⟨n1, hB⟩ := hB
  exact wl_Sightings_largestPart_14 S hE hA hRf hRl hret n1 x1 x2 x3 (0 : Int32) (0 : Int32) z1 hB _ _ _ hP hD hS (lv_sub hl [2, 3, 4, 5, 1, 0] rfl)
set_option maxHeartbeats 4000000 in
set_option maxRecDepth 100000 in
theorem c_Sightings_largestPart (l : Launch) (G : GX) (z0 : St) (sz : Nat) (x1 : Int32) (x2 : Int32) (x3 : Int32) (post : Int32 → St → Prop) : MetI l wX yX7_largestPart cX7_largestPart 7 (some .int) ({ frames := 3, cells := 0, slots := 0, locals := 76 }) [.ref (ad G 11), .int x1, .int x2, .int x3] G z0 sz (S_Sightings_largestPart post x1 x2 x3 z0) post := by
  refine Met.ofW (cc := cX7_largestPart) (maxL := 7) (ret := (some .int)) (by decide) rfl ?_
  intro p e s m args below meth c s₁ B hml hv
  obtain ⟨rfl, hsz, hP, hD0, hE, hB⟩ := hv
  have S : CallFix p m c cX7_largestPart 7 s _ GW RX7 := ⟨B.exec, B.bytes, hml, findClass_of_methodNamed B.named, fun w h => atoms_spec (ws := Cond.code yX7_largestPart cX7_largestPart 7 (some .int) :: GW) B.pre w (List.mem_cons_of_mem _ h)⟩
  have hlocks := B.notSynchronized
  subst hsz
  have hD := hD0.self (sz := s.heap.size)
  generalize hAe : va_A (wX G z0) s.heap.size = A at hD hE ⊢
  have hA : ∀ q : Nat, s.heap.size ≤ q → A q := fun q h => by rw [← hAe]; exact Or.inr h
  have hS : va_S A s.heap s.heap [] := va_S.rf
  have hl := lv_entry ([.ref (ad G 11), .int x1, .int x2, .int x3]) (n := 7) (Nat.le_of_ble_eq_true rfl)
  rw [lg_entry_eq]
  generalize (lg_sl ([.ref (ad G 11), .int x1, .int x2, .int x3]) ++ List.replicate (7 - (lg_sl ([.ref (ad G 11), .int x1, .int x2, .int x3])).length) Slot.unset).toArray = ls at hl ⊢
  have hl : lv_has ls 7 [(0, .ref (ad G 11)), (1, .int x1), (2, .int x2), (3, .int x3)] := hl
  refine w_Sightings_largestPart_0 S hE hA (Nat.le_refl _) (Nat.le_refl _) ?_ x1 x2 x3 z0 hB _ _ _ hP hD hS hl
  intro pc ls r σ H locs hd hp hP hD hS
  exact W.iret (v := r) B.exec B.bytes B.returns (fun t ht hW => ⟨⟨r, σ, rfl, hp, by rw [ht]; exact hP, hD⟩, hS.F ht⟩) hS.2.2 hd
def B_Sightings_telling_53 (post : Int32 → St → Prop) (ih8 : Int32 → Int32 → Int32 → Int32 → Int32 → St → Prop) (x1 : Int32) (x2 : Int32) (x3 : Int32) (x4 : Int32) (x5 : Int32) (z0 : St) : Prop :=
  (∀ v1 : Int32, v1 = x5 + (1 : Int32) → (ih8 x1 x2 x3 x4 v1 z0))
set_option maxHeartbeats 4000000 in
set_option maxRecDepth 100000 in
theorem w_Sightings_telling_53 {p : Program} {l : Launch} {e : Env} {R : Room} {s : State} {m : MethodId} {args : Array Value} {below : List Frame} {meth : Method} {c : Code} {Q : State → Prop} {G : GX} {A : Nat → Prop} (S : CallFix p m c cX7_telling 7 s args GW RX7) (hE : env G A s s.heap) (hA : ∀ q, s.heap.size ≤ q → A q) (hRf : 4 ≤ R.frames) (hRl : 102 ≤ R.locals) {post : Int32 → St → Prop} (hret : RetI p l e R s m args below meth c Q 0 0 wX G A cX7_telling post) {ih8 : Int32 → Int32 → Int32 → Int32 → Int32 → St → Prop} (h8 : ∀ (x1 : Int32) (x2 : Int32) (x3 : Int32) (x4 : Int32) (x5 : Int32) (z0 : St), ih8 x1 x2 x3 x4 x5 z0 → Xw p l e R s m args below meth c Q 0 0 wX G A z0 7 [(0, .ref (ad G 11)), (1, .int x1), (2, .int x2), (3, .int x3), (4, .int x4), (5, .int x5)] 8 []) (x1 : Int32) (x2 : Int32) (x3 : Int32) (x4 : Int32) (x5 : Int32) (z0 : St) (hB : B_Sightings_telling_53 post ih8 x1 x2 x3 x4 x5 z0) : Xw p l e R s m args below meth c Q 0 0 wX G A z0 7 [(0, .ref (ad G 11)), (1, .int x1), (2, .int x2), (3, .int x3), (4, .int x4), (5, .int x5)] 53 [] := by
  intro H locs ls hP hD hS hl
  have hx := S.1
  have hb := S.2.1
  obtain ⟨v1, ev1⟩ : ∃ y9, y9 = x5 + (1 : Int32) := ⟨_, rfl⟩
  have hB := hB v1 ev1
  refine lv_iinc (v := v1) (lv' := [(5, .int v1), (0, .ref (ad G 11)), (1, .int x1), (2, .int x2), (3, .int x3), (4, .int x4)]) hx hb dX7_telling_53 hl (k := 5) rfl (by rw [ev1]; rfl) (by decide) rfl (fun ls hl => ?_)
  refine lv_goto (tgt := 8) hx hb dX7_telling_56 (by decide) ?_
  exact h8 x1 x2 x3 x4 v1 z0 hB _ _ _ hP hD hS (lv_sub hl [1, 2, 3, 4, 5, 0] rfl)
def B_Sightings_telling_46 (post : Int32 → St → Prop) (ih8 : Int32 → Int32 → Int32 → Int32 → Int32 → St → Prop) (x1 : Int32) (x2 : Int32) (x5 : Int32) (x6 : Int32) (z0 : St) : Prop :=
  (B_Sightings_telling_53 post ih8 x1 x2 x5 x6 x5 z0)
set_option maxHeartbeats 4000000 in
set_option maxRecDepth 100000 in
theorem w_Sightings_telling_46 {p : Program} {l : Launch} {e : Env} {R : Room} {s : State} {m : MethodId} {args : Array Value} {below : List Frame} {meth : Method} {c : Code} {Q : State → Prop} {G : GX} {A : Nat → Prop} (S : CallFix p m c cX7_telling 7 s args GW RX7) (hE : env G A s s.heap) (hA : ∀ q, s.heap.size ≤ q → A q) (hRf : 4 ≤ R.frames) (hRl : 102 ≤ R.locals) {post : Int32 → St → Prop} (hret : RetI p l e R s m args below meth c Q 0 0 wX G A cX7_telling post) {ih8 : Int32 → Int32 → Int32 → Int32 → Int32 → St → Prop} (h8 : ∀ (x1 : Int32) (x2 : Int32) (x3 : Int32) (x4 : Int32) (x5 : Int32) (z0 : St), ih8 x1 x2 x3 x4 x5 z0 → Xw p l e R s m args below meth c Q 0 0 wX G A z0 7 [(0, .ref (ad G 11)), (1, .int x1), (2, .int x2), (3, .int x3), (4, .int x4), (5, .int x5)] 8 []) (x1 : Int32) (x2 : Int32) (x5 : Int32) (x6 : Int32) (z0 : St) (hB : B_Sightings_telling_46 post ih8 x1 x2 x5 x6 z0) : Xw p l e R s m args below meth c Q 0 0 wX G A z0 7 [(0, .ref (ad G 11)), (1, .int x1), (2, .int x2), (5, .int x5), (6, .int x6)] 46 [] := by
  intro H locs ls hP hD hS hl
  have hx := S.1
  have hb := S.2.1
  refine lv_iload hx hb dX7_telling_46 (lv_at hl 3 rfl) ?_
  refine lv_istore_n (lv' := [(3, .int x5), (0, .ref (ad G 11)), (1, .int x1), (2, .int x2), (5, .int x5), (6, .int x6)]) hx hb dX7_telling_48 rfl hl (by decide) rfl (fun ls hl => ?_)
  refine lv_iload hx hb dX7_telling_49 (lv_at hl 5 rfl) ?_
  refine lv_istore (lv' := [(4, .int x6), (3, .int x5), (0, .ref (ad G 11)), (1, .int x1), (2, .int x2), (5, .int x5), (6, .int x6)]) hx hb dX7_telling_51 hl (by decide) rfl (fun ls hl => ?_)
  exact w_Sightings_telling_53 S hE hA hRf hRl hret h8 x1 x2 x5 x6 x5 z0 hB _ _ _ hP hD hS (lv_sub hl [2, 3, 4, 1, 0, 5] rfl)
def B_Sightings_telling_8 (post : Int32 → St → Prop) (ih8 : Int32 → Int32 → Int32 → Int32 → Int32 → St → Prop) (x1 : Int32) (x2 : Int32) (x3 : Int32) (x4 : Int32) (x5 : Int32) (z0 : St) : Prop :=
  (((gI z0 26) ≤ x5 → (post x3 z0)) ∧ (¬ (gI z0 26) ≤ x5 → ((x1 ≤ 0 → (post x3 z0)) ∧ (¬ x1 ≤ 0 → (S_Sightings_largestPart (fun (r3 : Int32) (z1 : St) => ((x3 = (-1 : Int32) → (B_Sightings_telling_46 post ih8 x1 x2 x5 r3 z1)) ∧ (¬ x3 = (-1 : Int32) → ((x4 ≤ r3 → (B_Sightings_telling_53 post ih8 x1 x2 x3 x4 x5 z1)) ∧ (¬ x4 ≤ r3 → (B_Sightings_telling_46 post ih8 x1 x2 x5 r3 z1)))))) x1 x2 x5 z0)))))
set_option maxHeartbeats 4000000 in
set_option maxRecDepth 100000 in
theorem w_Sightings_telling_8 {p : Program} {l : Launch} {e : Env} {R : Room} {s : State} {m : MethodId} {args : Array Value} {below : List Frame} {meth : Method} {c : Code} {Q : State → Prop} {G : GX} {A : Nat → Prop} (S : CallFix p m c cX7_telling 7 s args GW RX7) (hE : env G A s s.heap) (hA : ∀ q, s.heap.size ≤ q → A q) (hRf : 4 ≤ R.frames) (hRl : 102 ≤ R.locals) {post : Int32 → St → Prop} (hret : RetI p l e R s m args below meth c Q 0 0 wX G A cX7_telling post) {ih8 : Int32 → Int32 → Int32 → Int32 → Int32 → St → Prop} (h8 : ∀ (x1 : Int32) (x2 : Int32) (x3 : Int32) (x4 : Int32) (x5 : Int32) (z0 : St), ih8 x1 x2 x3 x4 x5 z0 → Xw p l e R s m args below meth c Q 0 0 wX G A z0 7 [(0, .ref (ad G 11)), (1, .int x1), (2, .int x2), (3, .int x3), (4, .int x4), (5, .int x5)] 8 []) (x1 : Int32) (x2 : Int32) (x3 : Int32) (x4 : Int32) (x5 : Int32) (z0 : St) (hB : B_Sightings_telling_8 post ih8 x1 x2 x3 x4 x5 z0) : Xw p l e R s m args below meth c Q 0 0 wX G A z0 7 [(0, .ref (ad G 11)), (1, .int x1), (2, .int x2), (3, .int x3), (4, .int x4), (5, .int x5)] 8 [] := by
  intro H locs ls hP hD hS hl
  have hx := S.1
  have hb := S.2.1
  refine lv_iload hx hb dX7_telling_8 (lv_at hl 5 rfl) ?_
  refine lv_aload_n hx hb dX7_telling_10 rfl (lv_at hl 0 rfl) ?_
  refine xXg_11_house S hE hP lk_X7_21 dX7_telling_11 ?_
  refine xXg_6_drinks S hE hP lk_X7_33 dX7_telling_14 ?_
  refine lv_icmp_ge (tgt := 59) hx hb dX7_telling_17 (by decide) (fun c1 => ?_) (fun c1 => ?_)
  · have hB := hB.1 c1
    refine lv_iload_n hx hb dX7_telling_59 rfl (lv_at hl 3 rfl) ?_
    exact hret _ _ _ _ _ _ dX7_telling_60 hB hP hD hS
  · have hB := hB.2 c1
    refine lv_iload_n hx hb dX7_telling_20 rfl (lv_at hl 1 rfl) ?_
    refine lv_if_le (tgt := 59) hx hb dX7_telling_21 (by decide) (fun c2 => ?_) (fun c2 => ?_)
    · have hB := hB.1 c2
      refine lv_iload_n hx hb dX7_telling_59 rfl (lv_at hl 3 rfl) ?_
      exact hret _ _ _ _ _ _ dX7_telling_60 hB hP hD hS
    · have hB := hB.2 c2
      refine lv_aload_n hx hb dX7_telling_24 rfl (lv_at hl 0 rfl) ?_
      refine lv_iload_n hx hb dX7_telling_25 rfl (lv_at hl 1 rfl) ?_
      refine lv_iload_n hx hb dX7_telling_26 rfl (lv_at hl 2 rfl) ?_
      refine lv_iload hx hb dX7_telling_27 (lv_at hl 5 rfl) ?_
      refine xcVi [.int x1, .int x2, .int x5] S hE hA hP hD hS (c_Sightings_largestPart l G z0 H.size x1 x2 x5 _) hB (gw_c lk_X7_48 (gw_c wi_X7_largestPart (gw_c we_X7_X7_largestPart_X7_largestPart (gw_c wn_X7 (gw_c wc_X7_largestPart (fun _ h9 => h9)))))) hd_X7_largestPart rfl rfl (Nat.le_trans (Nat.le_of_ble_eq_true rfl) hRf) (Nat.le_trans (Nat.le_of_ble_eq_true rfl) hRl) ⟨Nat.zero_le _, Nat.zero_le _⟩ (va_recv hE.1 hP (ci := 6) (q0 := 11) rfl rfl) rfl hl.1 rfl (Nat.le_of_ble_eq_true rfl) dX7_telling_29 (fun r3 z1 H locs hB hP hD hS => ?_)
      refine lv_istore (lv' := [(6, .int r3), (0, .ref (ad G 11)), (1, .int x1), (2, .int x2), (3, .int x3), (4, .int x4), (5, .int x5)]) hx hb dX7_telling_32 hl (by decide) rfl (fun ls hl => ?_)
      refine lv_iload_n hx hb dX7_telling_34 rfl (lv_at hl 4 rfl) ?_
      refine lv_iconst (v := -1) hx hb dX7_telling_35 (by decide) ?_
      refine lv_icmp_eq (tgt := 46) hx hb dX7_telling_36 (by decide) (fun c4 => ?_) (fun c4 => ?_)
      · have hB := hB.1 c4
        exact w_Sightings_telling_46 S hE hA hRf hRl hret h8 x1 x2 x5 r3 z1 hB _ _ _ hP hD hS (lv_sub hl [1, 2, 3, 6, 0] rfl)
      · have hB := hB.2 c4
        refine lv_iload hx hb dX7_telling_39 (lv_at hl 0 rfl) ?_
        refine lv_iload hx hb dX7_telling_41 (lv_at hl 5 rfl) ?_
        refine lv_icmp_ge (tgt := 53) hx hb dX7_telling_43 (by decide) (fun c5 => ?_) (fun c5 => ?_)
        · have hB := hB.1 c5
          exact w_Sightings_telling_53 S hE hA hRf hRl hret h8 x1 x2 x3 x4 x5 z1 hB _ _ _ hP hD hS (lv_sub hl [1, 2, 3, 4, 5, 6] rfl)
        · have hB := hB.2 c5
          exact w_Sightings_telling_46 S hE hA hRf hRl hret h8 x1 x2 x5 r3 z1 hB _ _ _ hP hD hS (lv_sub hl [1, 2, 3, 6, 0] rfl)
def L_Sightings_telling_8 (post : Int32 → St → Prop) : Nat → Int32 → Int32 → Int32 → Int32 → Int32 → St → Prop
  | 0 => fun _ _ _ _ _ _ => False
  | n + 1 => B_Sightings_telling_8 post (L_Sightings_telling_8 post n)
theorem wl_Sightings_telling_8 {p : Program} {l : Launch} {e : Env} {R : Room} {s : State} {m : MethodId} {args : Array Value} {below : List Frame} {meth : Method} {c : Code} {Q : State → Prop} {G : GX} {A : Nat → Prop} (S : CallFix p m c cX7_telling 7 s args GW RX7) (hE : env G A s s.heap) (hA : ∀ q, s.heap.size ≤ q → A q) (hRf : 4 ≤ R.frames) (hRl : 102 ≤ R.locals) {post : Int32 → St → Prop} (hret : RetI p l e R s m args below meth c Q 0 0 wX G A cX7_telling post) : ∀ (n : Nat) (x1 : Int32) (x2 : Int32) (x3 : Int32) (x4 : Int32) (x5 : Int32) (z0 : St), L_Sightings_telling_8 post n x1 x2 x3 x4 x5 z0 → Xw p l e R s m args below meth c Q 0 0 wX G A z0 7 [(0, .ref (ad G 11)), (1, .int x1), (2, .int x2), (3, .int x3), (4, .int x4), (5, .int x5)] 8 [] := by
  intro n
  induction n with
  | zero => intro x1 x2 x3 x4 x5 z0 hB; exact absurd hB id
  | succ n ih => exact fun x1 x2 x3 x4 x5 z0 hB => w_Sightings_telling_8 S hE hA hRf hRl hret ih x1 x2 x3 x4 x5 z0 hB
def S_Sightings_telling (post : Int32 → St → Prop) (x1 : Int32) (x2 : Int32) (z0 : St) : Prop :=
  (∃ n1, L_Sightings_telling_8 post n1 x1 x2 (-1 : Int32) (0 : Int32) (0 : Int32) z0)
set_option maxHeartbeats 4000000 in
set_option maxRecDepth 100000 in
theorem w_Sightings_telling_0 {p : Program} {l : Launch} {e : Env} {R : Room} {s : State} {m : MethodId} {args : Array Value} {below : List Frame} {meth : Method} {c : Code} {Q : State → Prop} {G : GX} {A : Nat → Prop} (S : CallFix p m c cX7_telling 7 s args GW RX7) (hE : env G A s s.heap) (hA : ∀ q, s.heap.size ≤ q → A q) (hRf : 4 ≤ R.frames) (hRl : 102 ≤ R.locals) {post : Int32 → St → Prop} (hret : RetI p l e R s m args below meth c Q 0 0 wX G A cX7_telling post) (x1 : Int32) (x2 : Int32) (z0 : St) (hB : S_Sightings_telling post x1 x2 z0) : Xw p l e R s m args below meth c Q 0 0 wX G A z0 7 [(0, .ref (ad G 11)), (1, .int x1), (2, .int x2)] 0 [] := by
  intro H locs ls hP hD hS hl
  have hx := S.1
  have hb := S.2.1
  refine lv_iconst (v := -1) hx hb dX7_telling_0 (by decide) ?_
  refine lv_istore_n (lv' := [(3, .int (-1 : Int32)), (0, .ref (ad G 11)), (1, .int x1), (2, .int x2)]) hx hb dX7_telling_1 rfl hl (by decide) rfl (fun ls hl => ?_)
  refine lv_iconst (v := 0) hx hb dX7_telling_2 (by decide) ?_
  refine lv_istore (lv' := [(4, .int (0 : Int32)), (3, .int (-1 : Int32)), (0, .ref (ad G 11)), (1, .int x1), (2, .int x2)]) hx hb dX7_telling_3 hl (by decide) rfl (fun ls hl => ?_)
  refine lv_iconst (v := 0) hx hb dX7_telling_5 (by decide) ?_
  refine lv_istore (lv' := [(5, .int (0 : Int32)), (4, .int (0 : Int32)), (3, .int (-1 : Int32)), (0, .ref (ad G 11)), (1, .int x1), (2, .int x2)]) hx hb dX7_telling_6 hl (by decide) rfl (fun ls hl => ?_)
  obtain ⟨n1, hB⟩ := hB
  exact wl_Sightings_telling_8 S hE hA hRf hRl hret n1 x1 x2 (-1 : Int32) (0 : Int32) (0 : Int32) z0 hB _ _ _ hP hD hS (lv_sub hl [3, 4, 5, 2, 1, 0] rfl)
set_option maxHeartbeats 4000000 in
set_option maxRecDepth 100000 in
theorem c_Sightings_telling (l : Launch) (G : GX) (z0 : St) (sz : Nat) (x1 : Int32) (x2 : Int32) (post : Int32 → St → Prop) : MetI l wX yX7_telling cX7_telling 7 (some .int) ({ frames := 4, cells := 0, slots := 0, locals := 102 }) [.ref (ad G 11), .int x1, .int x2] G z0 sz (S_Sightings_telling post x1 x2 z0) post := by
  refine Met.ofW (cc := cX7_telling) (maxL := 7) (ret := (some .int)) (by decide) rfl ?_
  intro p e s m args below meth c s₁ B hml hv
  obtain ⟨rfl, hsz, hP, hD0, hE, hB⟩ := hv
  have S : CallFix p m c cX7_telling 7 s _ GW RX7 := ⟨B.exec, B.bytes, hml, findClass_of_methodNamed B.named, fun w h => atoms_spec (ws := Cond.code yX7_telling cX7_telling 7 (some .int) :: GW) B.pre w (List.mem_cons_of_mem _ h)⟩
  have hlocks := B.notSynchronized
  subst hsz
  have hD := hD0.self (sz := s.heap.size)
  generalize hAe : va_A (wX G z0) s.heap.size = A at hD hE ⊢
  have hA : ∀ q : Nat, s.heap.size ≤ q → A q := fun q h => by rw [← hAe]; exact Or.inr h
  have hS : va_S A s.heap s.heap [] := va_S.rf
  have hl := lv_entry ([.ref (ad G 11), .int x1, .int x2]) (n := 7) (Nat.le_of_ble_eq_true rfl)
  rw [lg_entry_eq]
  generalize (lg_sl ([.ref (ad G 11), .int x1, .int x2]) ++ List.replicate (7 - (lg_sl ([.ref (ad G 11), .int x1, .int x2])).length) Slot.unset).toArray = ls at hl ⊢
  have hl : lv_has ls 7 [(0, .ref (ad G 11)), (1, .int x1), (2, .int x2)] := hl
  refine w_Sightings_telling_0 S hE hA (Nat.le_refl _) (Nat.le_refl _) ?_ x1 x2 z0 hB _ _ _ hP hD hS hl
  intro pc ls r σ H locs hd hp hP hD hS
  exact W.iret (v := r) B.exec B.bytes B.returns (fun t ht hW => ⟨⟨r, σ, rfl, hp, by rw [ht]; exact hP, hD⟩, hS.F ht⟩) hS.2.2 hd
def S_B_serve (post : Int32 → St → Prop) (x1 : Int32) (x2 : Int32) (z0 : St) : Prop :=
  (S_House_hasGuest (fun (r1 : Int32) (z1 : St) => ((r1 = 0 → (post (-1 : Int32) z1)) ∧ (¬ r1 = 0 → ((x2 < 0 → (post (-1 : Int32) z1)) ∧ (¬ x2 < 0 → ((x2 ≤ (99 : Int32) → (S_Sightings_gather (fun (r5 : Int32) (z2 : St) => (S_Sightings_telling (fun (r6 : Int32) (z3 : St) => (post r6 z3)) r5 x2 z2)) x1 z1)) ∧ (¬ x2 ≤ (99 : Int32) → (post (-1 : Int32) z1)))))))) x1 z0)
set_option maxHeartbeats 4000000 in
set_option maxRecDepth 100000 in
theorem w_B_serve_0 {p : Program} {l : Launch} {e : Env} {R : Room} {s : State} {m : MethodId} {args : Array Value} {below : List Frame} {meth : Method} {c : Code} {Q : State → Prop} {G : GX} {A : Nat → Prop} (S : CallFix p m c cX11_serve 3 s args GW RX11) (hE : env G A s s.heap) (hA : ∀ q, s.heap.size ≤ q → A q) (hRf : 5 ≤ R.frames) (hRl : 128 ≤ R.locals) {post : Int32 → St → Prop} (hret : RetI p l e R s m args below meth c Q 0 0 wX G A cX11_serve post) (x1 : Int32) (x2 : Int32) (z0 : St) (hB : S_B_serve post x1 x2 z0) : Xw p l e R s m args below meth c Q 0 0 wX G A z0 3 [(0, .ref (ad G 0)), (1, .int x1), (2, .int x2)] 0 [] := by
  intro H locs ls hP hD hS hl
  have hx := S.1
  have hb := S.2.1
  refine lv_aload_n hx hb dX11_serve_0 rfl (lv_at hl 0 rfl) ?_
  refine xXg_0_house S hE hP lk_X11_64 dX11_serve_1 ?_
  refine lv_iload_n hx hb dX11_serve_4 rfl (lv_at hl 1 rfl) ?_
  refine xcVi [.int x1] S hE hA hP hD hS (c_House_hasGuest l G z0 H.size x1 _) hB (gw_c lk_X11_171 (gw_c wi_X0_hasGuest (gw_c we_X0_X0_hasGuest_X0_hasGuest (gw_c wn_X0 (gw_c wc_X0_hasGuest (fun _ h9 => h9)))))) hd_X0_hasGuest rfl rfl (Nat.le_trans (Nat.le_of_ble_eq_true rfl) hRf) (Nat.le_trans (Nat.le_of_ble_eq_true rfl) hRl) ⟨Nat.zero_le _, Nat.zero_le _⟩ (va_recv hE.1 hP (ci := 0) (q0 := 6) rfl rfl) rfl hl.1 rfl (Nat.le_of_ble_eq_true rfl) dX11_serve_5 (fun r1 z1 H locs hB hP hD hS => ?_)
  refine lv_if_eq (tgt := 21) hx hb dX11_serve_8 (by decide) (fun c2 => ?_) (fun c2 => ?_)
  · have hB := hB.1 c2
    refine lv_iconst (v := -1) hx hb dX11_serve_21 (by decide) ?_
    exact hret _ _ _ _ _ _ dX11_serve_22 hB hP hD hS
  · have hB := hB.2 c2
    refine lv_iload_n hx hb dX11_serve_11 rfl (lv_at hl 2 rfl) ?_
    refine lv_if_lt (tgt := 21) hx hb dX11_serve_12 (by decide) (fun c3 => ?_) (fun c3 => ?_)
    · have hB := hB.1 c3
      refine lv_iconst (v := -1) hx hb dX11_serve_21 (by decide) ?_
      exact hret _ _ _ _ _ _ dX11_serve_22 hB hP hD hS
    · have hB := hB.2 c3
      refine lv_iload_n hx hb dX11_serve_15 rfl (lv_at hl 2 rfl) ?_
      refine lv_bipush (v := 99) hx hb dX11_serve_16 (by decide) ?_
      refine lv_icmp_le (tgt := 23) hx hb dX11_serve_18 (by decide) (fun c4 => ?_) (fun c4 => ?_)
      · have hB := hB.1 c4
        refine lv_aload_n hx hb dX11_serve_23 rfl (lv_at hl 0 rfl) ?_
        refine xXg_0_sightings S hE hP lk_X11_93 dX11_serve_24 ?_
        refine lv_aload_n hx hb dX11_serve_27 rfl (lv_at hl 0 rfl) ?_
        refine xXg_0_sightings S hE hP lk_X11_93 dX11_serve_28 ?_
        refine lv_iload_n hx hb dX11_serve_31 rfl (lv_at hl 1 rfl) ?_
        refine xcVi [.int x1] S hE hA hP hD hS (c_Sightings_gather l G z1 H.size x1 _) hB (gw_c lk_X11_312 (gw_c wi_X7_gather (gw_c we_X7_X7_gather_X7_gather (gw_c wn_X7 (gw_c wc_X7_gather (fun _ h9 => h9)))))) hd_X7_gather rfl rfl (Nat.le_trans (Nat.le_of_ble_eq_true rfl) hRf) (Nat.le_trans (Nat.le_of_ble_eq_true rfl) hRl) ⟨Nat.zero_le _, Nat.zero_le _⟩ (va_recv hE.1 hP (ci := 6) (q0 := 11) rfl rfl) rfl hl.1 rfl (Nat.le_of_ble_eq_true rfl) dX11_serve_32 (fun r5 z2 H locs hB hP hD hS => ?_)
        refine lv_iload_n hx hb dX11_serve_35 rfl (lv_at hl 2 rfl) ?_
        refine xcVi [.int r5, .int x2] S hE hA hP hD hS (c_Sightings_telling l G z2 H.size r5 x2 _) hB (gw_c lk_X11_318 (gw_c wi_X7_telling (gw_c we_X7_X7_telling_X7_telling (gw_c wn_X7 (gw_c wc_X7_telling (fun _ h9 => h9)))))) hd_X7_telling rfl rfl (Nat.le_trans (Nat.le_of_ble_eq_true rfl) hRf) (Nat.le_trans (Nat.le_of_ble_eq_true rfl) hRl) ⟨Nat.zero_le _, Nat.zero_le _⟩ (va_recv hE.1 hP (ci := 6) (q0 := 11) rfl rfl) rfl hl.1 rfl (Nat.le_of_ble_eq_true rfl) dX11_serve_36 (fun r6 z3 H locs hB hP hD hS => ?_)
        exact hret _ _ _ _ _ _ dX11_serve_39 hB hP hD hS
      · have hB := hB.2 c4
        refine lv_iconst (v := -1) hx hb dX11_serve_21 (by decide) ?_
        exact hret _ _ _ _ _ _ dX11_serve_22 hB hP hD hS
set_option maxHeartbeats 4000000 in
set_option maxRecDepth 100000 in
theorem c_B_serve (l : Launch) (G : GX) (z0 : St) (sz : Nat) (x1 : Int32) (x2 : Int32) (post : Int32 → St → Prop) : MetI l wX yX11_serve cX11_serve 3 (some .int) ({ frames := 5, cells := 0, slots := 0, locals := 128 }) [.ref (ad G 0), .int x1, .int x2] G z0 sz (S_B_serve post x1 x2 z0) post := by
  refine Met.ofW (cc := cX11_serve) (maxL := 3) (ret := (some .int)) (by decide) rfl ?_
  intro p e s m args below meth c s₁ B hml hv
  obtain ⟨rfl, hsz, hP, hD0, hE, hB⟩ := hv
  have S : CallFix p m c cX11_serve 3 s _ GW RX11 := ⟨B.exec, B.bytes, hml, findClass_of_methodNamed B.named, fun w h => atoms_spec (ws := Cond.code yX11_serve cX11_serve 3 (some .int) :: GW) B.pre w (List.mem_cons_of_mem _ h)⟩
  have hlocks := B.notSynchronized
  subst hsz
  have hD := hD0.self (sz := s.heap.size)
  generalize hAe : va_A (wX G z0) s.heap.size = A at hD hE ⊢
  have hA : ∀ q : Nat, s.heap.size ≤ q → A q := fun q h => by rw [← hAe]; exact Or.inr h
  have hS : va_S A s.heap s.heap [] := va_S.rf
  have hl := lv_entry ([.ref (ad G 0), .int x1, .int x2]) (n := 3) (Nat.le_of_ble_eq_true rfl)
  rw [lg_entry_eq]
  generalize (lg_sl ([.ref (ad G 0), .int x1, .int x2]) ++ List.replicate (3 - (lg_sl ([.ref (ad G 0), .int x1, .int x2])).length) Slot.unset).toArray = ls at hl ⊢
  have hl : lv_has ls 3 [(0, .ref (ad G 0)), (1, .int x1), (2, .int x2)] := hl
  refine w_B_serve_0 S hE hA (Nat.le_refl _) (Nat.le_refl _) ?_ x1 x2 z0 hB _ _ _ hP hD hS hl
  intro pc ls r σ H locs hd hp hP hD hS
  exact W.iret (v := r) B.exec B.bytes B.returns (fun t ht hW => ⟨⟨r, σ, rfl, hp, by rw [ht]; exact hP, hD⟩, hS.F ht⟩) hS.2.2 hd
def S_B_who (post : Int32 → St → Prop) (x1 : Int32) (x2 : Int32) (x3 : Int32) (z0 : St) : Prop :=
  (S_House_hasDrink (fun (r1 : Int32) (z1 : St) => ((r1 = 0 → (post (-1 : Int32) z1)) ∧ (¬ r1 = 0 → ((x2 < (1 : Int32) → (post (-1 : Int32) z1)) ∧ (¬ x2 < (1 : Int32) → ((x2 ≤ (3 : Int32) → (S_Rows_aim (fun (z2 : St) => (S_Rows_search (fun (z3 : St) => ((x3 = (-1 : Int32) → (post (gI z3 38) z3)) ∧ (¬ x3 = (-1 : Int32) → ((x3 < 0 → (post (-1 : Int32) z3)) ∧ (¬ x3 < 0 → (((gI z3 38) ≤ x3 → (post (-1 : Int32) z3)) ∧ (¬ (gI z3 38) ≤ x3 → (post (gI z3 39) z3)))))))) x2 (1 : Int32) z2)) x1 (0 : Int32) x3 z1)) ∧ (¬ x2 ≤ (3 : Int32) → (post (-1 : Int32) z1)))))))) x1 z0)
set_option maxHeartbeats 4000000 in
set_option maxRecDepth 100000 in
theorem w_B_who_0 {p : Program} {l : Launch} {e : Env} {R : Room} {s : State} {m : MethodId} {args : Array Value} {below : List Frame} {meth : Method} {c : Code} {Q : State → Prop} {G : GX} {A : Nat → Prop} (S : CallFix p m c cX11_who 4 s args GW RX11) (hE : env G A s s.heap) (hA : ∀ q, s.heap.size ≤ q → A q) (hRf : 14 ≤ R.frames) (hRl : 473 ≤ R.locals) {post : Int32 → St → Prop} (hret : RetI p l e R s m args below meth c Q 0 0 wX G A cX11_who post) (x1 : Int32) (x2 : Int32) (x3 : Int32) (z0 : St) (hB : S_B_who post x1 x2 x3 z0) : Xw p l e R s m args below meth c Q 0 0 wX G A z0 4 [(0, .ref (ad G 0)), (1, .int x1), (2, .int x2), (3, .int x3)] 0 [] := by
  intro H locs ls hP hD hS hl
  have hx := S.1
  have hb := S.2.1
  refine lv_aload_n hx hb dX11_who_0 rfl (lv_at hl 0 rfl) ?_
  refine xXg_0_house S hE hP lk_X11_64 dX11_who_1 ?_
  refine lv_iload_n hx hb dX11_who_4 rfl (lv_at hl 1 rfl) ?_
  refine xcVi [.int x1] S hE hA hP hD hS (c_House_hasDrink l G z0 H.size x1 _) hB (gw_c lk_X11_160 (gw_c wi_X0_hasDrink (gw_c we_X0_X0_hasDrink_X0_hasDrink (gw_c wn_X0 (gw_c wc_X0_hasDrink (fun _ h9 => h9)))))) hd_X0_hasDrink rfl rfl (Nat.le_trans (Nat.le_of_ble_eq_true rfl) hRf) (Nat.le_trans (Nat.le_of_ble_eq_true rfl) hRl) ⟨Nat.zero_le _, Nat.zero_le _⟩ (va_recv hE.1 hP (ci := 0) (q0 := 6) rfl rfl) rfl hl.1 rfl (Nat.le_of_ble_eq_true rfl) dX11_who_5 (fun r1 z1 H locs hB hP hD hS => ?_)
  refine lv_if_eq (tgt := 21) hx hb dX11_who_8 (by decide) (fun c2 => ?_) (fun c2 => ?_)
  · have hB := hB.1 c2
    refine lv_iconst (v := -1) hx hb dX11_who_21 (by decide) ?_
    exact hret _ _ _ _ _ _ dX11_who_22 hB hP hD hS
  · have hB := hB.2 c2
    refine lv_iload_n hx hb dX11_who_11 rfl (lv_at hl 2 rfl) ?_
    refine lv_iconst (v := 1) hx hb dX11_who_12 (by decide) ?_
    refine lv_icmp_lt (tgt := 21) hx hb dX11_who_13 (by decide) (fun c3 => ?_) (fun c3 => ?_)
    · have hB := hB.1 c3
      refine lv_iconst (v := -1) hx hb dX11_who_21 (by decide) ?_
      exact hret _ _ _ _ _ _ dX11_who_22 hB hP hD hS
    · have hB := hB.2 c3
      refine lv_iload_n hx hb dX11_who_16 rfl (lv_at hl 2 rfl) ?_
      refine lv_iconst (v := 3) hx hb dX11_who_17 (by decide) ?_
      refine lv_icmp_le (tgt := 23) hx hb dX11_who_18 (by decide) (fun c4 => ?_) (fun c4 => ?_)
      · have hB := hB.1 c4
        refine lv_aload_n hx hb dX11_who_23 rfl (lv_at hl 0 rfl) ?_
        refine xXg_0_rows S hE hP lk_X11_84 dX11_who_24 ?_
        refine lv_iload_n hx hb dX11_who_27 rfl (lv_at hl 1 rfl) ?_
        refine lv_iconst (v := 0) hx hb dX11_who_28 (by decide) ?_
        refine lv_iload_n hx hb dX11_who_29 rfl (lv_at hl 3 rfl) ?_
        refine xcVv [.int x1, .int (0 : Int32), .int x3] S hE hA hP hD hS (c_Rows_aim l G z1 H.size x1 (0 : Int32) x3 _) hB (gw_c lk_X11_293 (gw_c wi_X6_aim (gw_c we_X6_X6_aim_X6_aim (gw_c wn_X6 (gw_c wc_X6_aim (fun _ h9 => h9)))))) hd_X6_aim rfl rfl (Nat.le_trans (Nat.le_of_ble_eq_true rfl) hRf) (Nat.le_trans (Nat.le_of_ble_eq_true rfl) hRl) ⟨Nat.zero_le _, Nat.zero_le _⟩ (va_recv hE.1 hP (ci := 5) (q0 := 10) rfl rfl) rfl hl.1 rfl (Nat.le_of_ble_eq_true rfl) dX11_who_30 (fun z2 H locs hB hP hD hS => ?_)
        refine lv_aload_n hx hb dX11_who_33 rfl (lv_at hl 0 rfl) ?_
        refine xXg_0_rows S hE hP lk_X11_84 dX11_who_34 ?_
        refine lv_iload_n hx hb dX11_who_37 rfl (lv_at hl 2 rfl) ?_
        refine lv_iconst (v := 1) hx hb dX11_who_38 (by decide) ?_
        refine xcVv [.int x2, .int (1 : Int32)] S hE hA hP hD hS (c_Rows_search l G z2 H.size x2 (1 : Int32) _) hB (gw_c lk_X11_283 (gw_c wi_X6_search (gw_c we_X6_X6_search_X6_search (gw_c wn_X6 (gw_c wc_X6_search (fun _ h9 => h9)))))) hd_X6_search rfl rfl (Nat.le_trans (Nat.le_of_ble_eq_true rfl) hRf) (Nat.le_trans (Nat.le_of_ble_eq_true rfl) hRl) ⟨Nat.zero_le _, Nat.zero_le _⟩ (va_recv hE.1 hP (ci := 5) (q0 := 10) rfl rfl) rfl hl.1 rfl (Nat.le_of_ble_eq_true rfl) dX11_who_39 (fun z3 H locs hB hP hD hS => ?_)
        refine lv_iload_n hx hb dX11_who_42 rfl (lv_at hl 3 rfl) ?_
        refine lv_iconst (v := -1) hx hb dX11_who_43 (by decide) ?_
        refine lv_icmp_ne (tgt := 55) hx hb dX11_who_44 (by decide) (fun c5 => ?_) (fun c5 => ?_)
        · have hB := hB.2 c5
          refine lv_iload_n hx hb dX11_who_55 rfl (lv_at hl 3 rfl) ?_
          refine lv_if_lt (tgt := 80) hx hb dX11_who_56 (by decide) (fun c6 => ?_) (fun c6 => ?_)
          · have hB := hB.1 c6
            refine lv_iconst (v := -1) hx hb dX11_who_80 (by decide) ?_
            exact hret _ _ _ _ _ _ dX11_who_81 hB hP hD hS
          · have hB := hB.2 c6
            refine lv_iload_n hx hb dX11_who_59 rfl (lv_at hl 3 rfl) ?_
            refine lv_aload_n hx hb dX11_who_60 rfl (lv_at hl 0 rfl) ?_
            refine xXg_0_rows S hE hP lk_X11_84 dX11_who_61 ?_
            refine xXg_10_hits S hE hP lk_X11_300 dX11_who_64 ?_
            refine lv_icmp_ge (tgt := 80) hx hb dX11_who_67 (by decide) (fun c7 => ?_) (fun c7 => ?_)
            · have hB := hB.1 c7
              refine lv_iconst (v := -1) hx hb dX11_who_80 (by decide) ?_
              exact hret _ _ _ _ _ _ dX11_who_81 hB hP hD hS
            · have hB := hB.2 c7
              refine lv_aload_n hx hb dX11_who_70 rfl (lv_at hl 0 rfl) ?_
              refine xXg_0_rows S hE hP lk_X11_84 dX11_who_71 ?_
              refine xXg_10_hitRow S hE hP lk_X11_303 dX11_who_74 ?_
              refine lv_goto (tgt := 81) hx hb dX11_who_77 (by decide) ?_
              exact hret _ _ _ _ _ _ dX11_who_81 hB hP hD hS
        · have hB := hB.1 c5
          refine lv_aload_n hx hb dX11_who_47 rfl (lv_at hl 0 rfl) ?_
          refine xXg_0_rows S hE hP lk_X11_84 dX11_who_48 ?_
          refine xXg_10_hits S hE hP lk_X11_300 dX11_who_51 ?_
          exact hret _ _ _ _ _ _ dX11_who_54 hB hP hD hS
      · have hB := hB.2 c4
        refine lv_iconst (v := -1) hx hb dX11_who_21 (by decide) ?_
        exact hret _ _ _ _ _ _ dX11_who_22 hB hP hD hS
set_option maxHeartbeats 4000000 in
set_option maxRecDepth 100000 in
theorem c_B_who (l : Launch) (G : GX) (z0 : St) (sz : Nat) (x1 : Int32) (x2 : Int32) (x3 : Int32) (post : Int32 → St → Prop) : MetI l wX yX11_who cX11_who 4 (some .int) ({ frames := 14, cells := 0, slots := 0, locals := 473 }) [.ref (ad G 0), .int x1, .int x2, .int x3] G z0 sz (S_B_who post x1 x2 x3 z0) post := by
  refine Met.ofW (cc := cX11_who) (maxL := 4) (ret := (some .int)) (by decide) rfl ?_
  intro p e s m args below meth c s₁ B hml hv
  obtain ⟨rfl, hsz, hP, hD0, hE, hB⟩ := hv
  have S : CallFix p m c cX11_who 4 s _ GW RX11 := ⟨B.exec, B.bytes, hml, findClass_of_methodNamed B.named, fun w h => atoms_spec (ws := Cond.code yX11_who cX11_who 4 (some .int) :: GW) B.pre w (List.mem_cons_of_mem _ h)⟩
  have hlocks := B.notSynchronized
  subst hsz
  have hD := hD0.self (sz := s.heap.size)
  generalize hAe : va_A (wX G z0) s.heap.size = A at hD hE ⊢
  have hA : ∀ q : Nat, s.heap.size ≤ q → A q := fun q h => by rw [← hAe]; exact Or.inr h
  have hS : va_S A s.heap s.heap [] := va_S.rf
  have hl := lv_entry ([.ref (ad G 0), .int x1, .int x2, .int x3]) (n := 4) (Nat.le_of_ble_eq_true rfl)
  rw [lg_entry_eq]
  generalize (lg_sl ([.ref (ad G 0), .int x1, .int x2, .int x3]) ++ List.replicate (4 - (lg_sl ([.ref (ad G 0), .int x1, .int x2, .int x3])).length) Slot.unset).toArray = ls at hl ⊢
  have hl : lv_has ls 4 [(0, .ref (ad G 0)), (1, .int x1), (2, .int x2), (3, .int x3)] := hl
  refine w_B_who_0 S hE hA (Nat.le_refl _) (Nat.le_refl _) ?_ x1 x2 x3 z0 hB _ _ _ hP hD hS hl
  intro pc ls r σ H locs hd hp hP hD hS
  exact W.iret (v := r) B.exec B.bytes B.returns (fun t ht hW => ⟨⟨r, σ, rfl, hp, by rw [ht]; exact hP, hD⟩, hS.F ht⟩) hS.2.2 hd
def S_Table_share_8 (post : Int32 → St → Prop) (x1 : Int32) (x2 : Int32) (x3 : Int32) (z0 : St) : Prop :=
  (vp_in x1 6 ∧ (S_House_joyBy (fun (r1 : Int32) (z1 : St) => (vp_in ((22 : Int32) + x3) 28 ∧ (post (r1 - ((gA z1 23 ((22 : Int32) + x3).toNatClampNeg) / (3 : Int32))) z1))) (gA z0 19 x1.toNatClampNeg) x2 z0))
set_option maxHeartbeats 4000000 in
set_option maxRecDepth 100000 in
theorem w_Table_share_8_0 {p : Program} {l : Launch} {e : Env} {R : Room} {s : State} {m : MethodId} {args : Array Value} {below : List Frame} {meth : Method} {c : Code} {Q : State → Prop} {G : GX} {A : Nat → Prop} (S : CallFix p m c cX8_share 4 s args GW RX8) (hE : env G A s s.heap) (hA : ∀ q, s.heap.size ≤ q → A q) (hRf : 1 ≤ R.frames) (hRl : 22 ≤ R.locals) {post : Int32 → St → Prop} (hret : RetI p l e R s m args below meth c Q 0 0 wX G A cX8_share post) (x1 : Int32) (x2 : Int32) (x3 : Int32) (z0 : St) (hB : S_Table_share_8 post x1 x2 x3 z0) : Xw p l e R s m args below meth c Q 0 0 wX G A z0 4 [(0, .ref (ad G 8)), (1, .int x1), (2, .int x2), (3, .int x3)] 0 [] := by
  intro H locs ls hP hD hS hl
  have hx := S.1
  have hb := S.2.1
  refine lv_aload_n hx hb dX8_share_0 rfl (lv_at hl 0 rfl) ?_
  refine xXg_8_house S hE hP lk_X8_15 dX8_share_1 ?_
  refine lv_aload_n hx hb dX8_share_4 rfl (lv_at hl 0 rfl) ?_
  refine xXg_8_house S hE hP lk_X8_15 dX8_share_5 ?_
  refine xXg_6_likes S hE hP lk_X8_97 dX8_share_8 ?_
  refine lv_iload_n hx hb dX8_share_11 rfl (lv_at hl 1 rfl) ?_
  obtain ⟨hi, hB⟩ := hB
  refine xXl_19 S hE hP hi dX8_share_12 ?_
  refine lv_iload_n hx hb dX8_share_13 rfl (lv_at hl 2 rfl) ?_
  refine xcVi [.int (gA z0 19 x1.toNatClampNeg), .int x2] S hE hA hP hD hS (c_House_joyBy l G z0 H.size (gA z0 19 x1.toNatClampNeg) x2 _) hB (gw_c lk_X8_100 (gw_c wi_X0_joyBy (gw_c we_X0_X0_joyBy_X0_joyBy (gw_c wn_X0 (gw_c wc_X0_joyBy (fun _ h9 => h9)))))) hd_X0_joyBy rfl rfl (Nat.le_trans (Nat.le_of_ble_eq_true rfl) hRf) (Nat.le_trans (Nat.le_of_ble_eq_true rfl) hRl) ⟨Nat.zero_le _, Nat.zero_le _⟩ (va_recv hE.1 hP (ci := 0) (q0 := 6) rfl rfl) rfl hl.1 rfl (Nat.le_of_ble_eq_true rfl) dX8_share_14 (fun r1 z1 H locs hB hP hD hS => ?_)
  refine lv_aload_n hx hb dX8_share_17 rfl (lv_at hl 0 rfl) ?_
  refine xXg_8_cells S hE hP lk_X8_11 dX8_share_18 ?_
  refine lv_bipush (v := 22) hx hb dX8_share_21 (by decide) ?_
  refine lv_iload_n hx hb dX8_share_23 rfl (lv_at hl 3 rfl) ?_
  refine lv_iadd hx hb dX8_share_24 ?_
  obtain ⟨hi, hB⟩ := hB
  refine xXl_23 S hE hP hi dX8_share_25 ?_
  refine lv_iconst (v := 3) hx hb dX8_share_26 (by decide) ?_
  refine lv_idiv hx hb dX8_share_27 (by decide) ?_
  refine lv_isub hx hb dX8_share_28 ?_
  exact hret _ _ _ _ _ _ dX8_share_29 hB hP hD hS
set_option maxHeartbeats 4000000 in
set_option maxRecDepth 100000 in
theorem c_Table_share_8 (l : Launch) (G : GX) (z0 : St) (sz : Nat) (x1 : Int32) (x2 : Int32) (x3 : Int32) (post : Int32 → St → Prop) : MetI l wX yX8_share cX8_share 4 (some .int) ({ frames := 1, cells := 0, slots := 0, locals := 22 }) [.ref (ad G 8), .int x1, .int x2, .int x3] G z0 sz (S_Table_share_8 post x1 x2 x3 z0) post := by
  refine Met.ofW (cc := cX8_share) (maxL := 4) (ret := (some .int)) (by decide) rfl ?_
  intro p e s m args below meth c s₁ B hml hv
  obtain ⟨rfl, hsz, hP, hD0, hE, hB⟩ := hv
  have S : CallFix p m c cX8_share 4 s _ GW RX8 := ⟨B.exec, B.bytes, hml, findClass_of_methodNamed B.named, fun w h => atoms_spec (ws := Cond.code yX8_share cX8_share 4 (some .int) :: GW) B.pre w (List.mem_cons_of_mem _ h)⟩
  have hlocks := B.notSynchronized
  subst hsz
  have hD := hD0.self (sz := s.heap.size)
  generalize hAe : va_A (wX G z0) s.heap.size = A at hD hE ⊢
  have hA : ∀ q : Nat, s.heap.size ≤ q → A q := fun q h => by rw [← hAe]; exact Or.inr h
  have hS : va_S A s.heap s.heap [] := va_S.rf
  have hl := lv_entry ([.ref (ad G 8), .int x1, .int x2, .int x3]) (n := 4) (Nat.le_of_ble_eq_true rfl)
  rw [lg_entry_eq]
  generalize (lg_sl ([.ref (ad G 8), .int x1, .int x2, .int x3]) ++ List.replicate (4 - (lg_sl ([.ref (ad G 8), .int x1, .int x2, .int x3])).length) Slot.unset).toArray = ls at hl ⊢
  have hl : lv_has ls 4 [(0, .ref (ad G 8)), (1, .int x1), (2, .int x2), (3, .int x3)] := hl
  refine w_Table_share_8_0 S hE hA (Nat.le_refl _) (Nat.le_refl _) ?_ x1 x2 x3 z0 hB _ _ _ hP hD hS hl
  intro pc ls r σ H locs hd hp hP hD hS
  exact W.iret (v := r) B.exec B.bytes B.returns (fun t ht hW => ⟨⟨r, σ, rfl, hp, by rw [ht]; exact hP, hD⟩, hS.F ht⟩) hS.2.2 hd
def B_B_game_32 (post : Int32 → St → Prop) (x1 : Int32) (x2 : Int32) (x3 : Int32) (x4 : Int32) (x5 : Int32) (s0 : Int32) (z0 : St) : Prop :=
  ((s0 = 0 → (post (-1000000 : Int32) z0)) ∧ (¬ s0 = 0 → (S_House_hasDrink (fun (r2 : Int32) (z1 : St) => ((r2 = 0 → (post (-1000000 : Int32) z1)) ∧ (¬ r2 = 0 → (S_House_hasDrink (fun (r4 : Int32) (z2 : St) => ((r4 = 0 → (post (-1000000 : Int32) z2)) ∧ (¬ r4 = 0 → ((x5 < 0 → (post (-1000000 : Int32) z2)) ∧ (¬ x5 < 0 → ((x5 ≤ (1 : Int32) → ((x5 = 0 → (S_Table_share_8 (fun (r10 : Int32) (z4 : St) => (post r10 z4)) x1 x4 x3 z2)) ∧ (¬ x5 = 0 → (S_Table_share_8 (fun (r9 : Int32) (z3 : St) => (post r9 z3)) x2 x3 x4 z2)))) ∧ (¬ x5 ≤ (1 : Int32) → (post (-1000000 : Int32) z2)))))))) x4 z1)))) x3 z0)))
set_option maxHeartbeats 4000000 in
set_option maxRecDepth 100000 in
theorem w_B_game_32 {p : Program} {l : Launch} {e : Env} {R : Room} {s : State} {m : MethodId} {args : Array Value} {below : List Frame} {meth : Method} {c : Code} {Q : State → Prop} {G : GX} {A : Nat → Prop} (S : CallFix p m c cX11_game 7 s args GW RX11) (hE : env G A s s.heap) (hA : ∀ q, s.heap.size ≤ q → A q) (hRf : 2 ≤ R.frames) (hRl : 45 ≤ R.locals) {post : Int32 → St → Prop} (hret : RetI p l e R s m args below meth c Q 0 0 wX G A cX11_game post) (x1 : Int32) (x2 : Int32) (x3 : Int32) (x4 : Int32) (x5 : Int32) (s0 : Int32) (z0 : St) (hB : B_B_game_32 post x1 x2 x3 x4 x5 s0 z0) : Xw p l e R s m args below meth c Q 0 0 wX G A z0 7 [(0, .ref (ad G 0)), (1, .int x1), (2, .int x2), (3, .int x3), (4, .int x4), (5, .int x5)] 32 [.int s0] := by
  intro H locs ls hP hD hS hl
  have hx := S.1
  have hb := S.2.1
  refine lv_istore (lv' := [(6, .int s0), (0, .ref (ad G 0)), (1, .int x1), (2, .int x2), (3, .int x3), (4, .int x4), (5, .int x5)]) hx hb dX11_game_32 hl (by decide) rfl (fun ls hl => ?_)
  refine lv_iload hx hb dX11_game_34 (lv_at hl 0 rfl) ?_
  refine lv_if_eq (tgt := 73) hx hb dX11_game_36 (by decide) (fun c1 => ?_) (fun c1 => ?_)
  · have hB := hB.1 c1
    refine lv_ldcw hx hb S.2.2.2.1 (S.2.2.2.2 _ lk_X11_264) dX11_game_73 ?_
    exact hret _ _ _ _ _ _ dX11_game_76 hB hP hD hS
  · have hB := hB.2 c1
    refine lv_aload_n hx hb dX11_game_39 rfl (lv_at hl 1 rfl) ?_
    refine xXg_0_house S hE hP lk_X11_64 dX11_game_40 ?_
    refine lv_iload_n hx hb dX11_game_43 rfl (lv_at hl 4 rfl) ?_
    refine xcVi [.int x3] S hE hA hP hD hS (c_House_hasDrink l G z0 H.size x3 _) hB (gw_c lk_X11_160 (gw_c wi_X0_hasDrink (gw_c we_X0_X0_hasDrink_X0_hasDrink (gw_c wn_X0 (gw_c wc_X0_hasDrink (fun _ h9 => h9)))))) hd_X0_hasDrink rfl rfl (Nat.le_trans (Nat.le_of_ble_eq_true rfl) hRf) (Nat.le_trans (Nat.le_of_ble_eq_true rfl) hRl) ⟨Nat.zero_le _, Nat.zero_le _⟩ (va_recv hE.1 hP (ci := 0) (q0 := 6) rfl rfl) rfl hl.1 rfl (Nat.le_of_ble_eq_true rfl) dX11_game_44 (fun r2 z1 H locs hB hP hD hS => ?_)
    refine lv_if_eq (tgt := 73) hx hb dX11_game_47 (by decide) (fun c3 => ?_) (fun c3 => ?_)
    · have hB := hB.1 c3
      refine lv_ldcw hx hb S.2.2.2.1 (S.2.2.2.2 _ lk_X11_264) dX11_game_73 ?_
      exact hret _ _ _ _ _ _ dX11_game_76 hB hP hD hS
    · have hB := hB.2 c3
      refine lv_aload_n hx hb dX11_game_50 rfl (lv_at hl 1 rfl) ?_
      refine xXg_0_house S hE hP lk_X11_64 dX11_game_51 ?_
      refine lv_iload hx hb dX11_game_54 (lv_at hl 5 rfl) ?_
      refine xcVi [.int x4] S hE hA hP hD hS (c_House_hasDrink l G z1 H.size x4 _) hB (gw_c lk_X11_160 (gw_c wi_X0_hasDrink (gw_c we_X0_X0_hasDrink_X0_hasDrink (gw_c wn_X0 (gw_c wc_X0_hasDrink (fun _ h9 => h9)))))) hd_X0_hasDrink rfl rfl (Nat.le_trans (Nat.le_of_ble_eq_true rfl) hRf) (Nat.le_trans (Nat.le_of_ble_eq_true rfl) hRl) ⟨Nat.zero_le _, Nat.zero_le _⟩ (va_recv hE.1 hP (ci := 0) (q0 := 6) rfl rfl) rfl hl.1 rfl (Nat.le_of_ble_eq_true rfl) dX11_game_56 (fun r4 z2 H locs hB hP hD hS => ?_)
      refine lv_if_eq (tgt := 73) hx hb dX11_game_59 (by decide) (fun c5 => ?_) (fun c5 => ?_)
      · have hB := hB.1 c5
        refine lv_ldcw hx hb S.2.2.2.1 (S.2.2.2.2 _ lk_X11_264) dX11_game_73 ?_
        exact hret _ _ _ _ _ _ dX11_game_76 hB hP hD hS
      · have hB := hB.2 c5
        refine lv_iload hx hb dX11_game_62 (lv_at hl 6 rfl) ?_
        refine lv_if_lt (tgt := 73) hx hb dX11_game_64 (by decide) (fun c6 => ?_) (fun c6 => ?_)
        · have hB := hB.1 c6
          refine lv_ldcw hx hb S.2.2.2.1 (S.2.2.2.2 _ lk_X11_264) dX11_game_73 ?_
          exact hret _ _ _ _ _ _ dX11_game_76 hB hP hD hS
        · have hB := hB.2 c6
          refine lv_iload hx hb dX11_game_67 (lv_at hl 6 rfl) ?_
          refine lv_iconst (v := 1) hx hb dX11_game_69 (by decide) ?_
          refine lv_icmp_le (tgt := 77) hx hb dX11_game_70 (by decide) (fun c7 => ?_) (fun c7 => ?_)
          · have hB := hB.1 c7
            refine lv_iload hx hb dX11_game_77 (lv_at hl 6 rfl) ?_
            refine lv_if_ne (tgt := 96) hx hb dX11_game_79 (by decide) (fun c8 => ?_) (fun c8 => ?_)
            · have hB := hB.2 c8
              refine lv_aload_n hx hb dX11_game_96 rfl (lv_at hl 1 rfl) ?_
              refine xXg_0_table S hE hP lk_X11_72 dX11_game_97 ?_
              refine lv_iload_n hx hb dX11_game_100 rfl (lv_at hl 3 rfl) ?_
              refine lv_iload_n hx hb dX11_game_101 rfl (lv_at hl 4 rfl) ?_
              refine lv_iload hx hb dX11_game_102 (lv_at hl 5 rfl) ?_
              refine xcVi [.int x2, .int x3, .int x4] S hE hA hP hD hS (c_Table_share_8 l G z2 H.size x2 x3 x4 _) hB (gw_c lk_X11_321 (gw_c wi_X8_share (gw_c we_X8_X8_share_X8_share (gw_c wn_X8 (gw_c wc_X8_share (fun _ h9 => h9)))))) hd_X8_share rfl rfl (Nat.le_trans (Nat.le_of_ble_eq_true rfl) hRf) (Nat.le_trans (Nat.le_of_ble_eq_true rfl) hRl) ⟨Nat.zero_le _, Nat.zero_le _⟩ (va_recv hE.1 hP (ci := 7) (q0 := 8) rfl rfl) rfl hl.1 rfl (Nat.le_of_ble_eq_true rfl) dX11_game_104 (fun r9 z3 H locs hB hP hD hS => ?_)
              exact hret _ _ _ _ _ _ dX11_game_107 hB hP hD hS
            · have hB := hB.1 c8
              refine lv_aload_n hx hb dX11_game_82 rfl (lv_at hl 1 rfl) ?_
              refine xXg_0_table S hE hP lk_X11_72 dX11_game_83 ?_
              refine lv_iload_n hx hb dX11_game_86 rfl (lv_at hl 2 rfl) ?_
              refine lv_iload hx hb dX11_game_87 (lv_at hl 5 rfl) ?_
              refine lv_iload_n hx hb dX11_game_89 rfl (lv_at hl 4 rfl) ?_
              refine xcVi [.int x1, .int x4, .int x3] S hE hA hP hD hS (c_Table_share_8 l G z2 H.size x1 x4 x3 _) hB (gw_c lk_X11_321 (gw_c wi_X8_share (gw_c we_X8_X8_share_X8_share (gw_c wn_X8 (gw_c wc_X8_share (fun _ h9 => h9)))))) hd_X8_share rfl rfl (Nat.le_trans (Nat.le_of_ble_eq_true rfl) hRf) (Nat.le_trans (Nat.le_of_ble_eq_true rfl) hRl) ⟨Nat.zero_le _, Nat.zero_le _⟩ (va_recv hE.1 hP (ci := 7) (q0 := 8) rfl rfl) rfl hl.1 rfl (Nat.le_of_ble_eq_true rfl) dX11_game_90 (fun r10 z4 H locs hB hP hD hS => ?_)
              refine lv_goto (tgt := 107) hx hb dX11_game_93 (by decide) ?_
              exact hret _ _ _ _ _ _ dX11_game_107 hB hP hD hS
          · have hB := hB.2 c7
            refine lv_ldcw hx hb S.2.2.2.1 (S.2.2.2.2 _ lk_X11_264) dX11_game_73 ?_
            exact hret _ _ _ _ _ _ dX11_game_76 hB hP hD hS
def B_B_game_31 (post : Int32 → St → Prop) (x1 : Int32) (x2 : Int32) (x3 : Int32) (x4 : Int32) (x5 : Int32) (z0 : St) : Prop :=
  (B_B_game_32 post x1 x2 x3 x4 x5 (0 : Int32) z0)
set_option maxHeartbeats 4000000 in
set_option maxRecDepth 100000 in
theorem w_B_game_31 {p : Program} {l : Launch} {e : Env} {R : Room} {s : State} {m : MethodId} {args : Array Value} {below : List Frame} {meth : Method} {c : Code} {Q : State → Prop} {G : GX} {A : Nat → Prop} (S : CallFix p m c cX11_game 7 s args GW RX11) (hE : env G A s s.heap) (hA : ∀ q, s.heap.size ≤ q → A q) (hRf : 2 ≤ R.frames) (hRl : 45 ≤ R.locals) {post : Int32 → St → Prop} (hret : RetI p l e R s m args below meth c Q 0 0 wX G A cX11_game post) (x1 : Int32) (x2 : Int32) (x3 : Int32) (x4 : Int32) (x5 : Int32) (z0 : St) (hB : B_B_game_31 post x1 x2 x3 x4 x5 z0) : Xw p l e R s m args below meth c Q 0 0 wX G A z0 7 [(0, .ref (ad G 0)), (1, .int x1), (2, .int x2), (3, .int x3), (4, .int x4), (5, .int x5)] 31 [] := by
  intro H locs ls hP hD hS hl
  have hx := S.1
  have hb := S.2.1
  refine lv_iconst (v := 0) hx hb dX11_game_31 (by decide) ?_
  exact w_B_game_32 S hE hA hRf hRl hret x1 x2 x3 x4 x5 (0 : Int32) z0 hB _ _ _ hP hD hS (lv_sub hl [0, 1, 2, 3, 4, 5] rfl)
def S_B_game (post : Int32 → St → Prop) (x1 : Int32) (x2 : Int32) (x3 : Int32) (x4 : Int32) (x5 : Int32) (z0 : St) : Prop :=
  (S_House_hasGuest (fun (r1 : Int32) (z1 : St) => ((r1 = 0 → (B_B_game_31 post x1 x2 x3 x4 x5 z1)) ∧ (¬ r1 = 0 → (S_House_hasGuest (fun (r3 : Int32) (z2 : St) => ((r3 = 0 → (B_B_game_31 post x1 x2 x3 x4 x5 z2)) ∧ (¬ r3 = 0 → ((x1 = x2 → (B_B_game_31 post x1 x2 x3 x4 x5 z2)) ∧ (¬ x1 = x2 → (B_B_game_32 post x1 x2 x3 x4 x5 (1 : Int32) z2)))))) x2 z1)))) x1 z0)
set_option maxHeartbeats 4000000 in
set_option maxRecDepth 100000 in
theorem w_B_game_0 {p : Program} {l : Launch} {e : Env} {R : Room} {s : State} {m : MethodId} {args : Array Value} {below : List Frame} {meth : Method} {c : Code} {Q : State → Prop} {G : GX} {A : Nat → Prop} (S : CallFix p m c cX11_game 7 s args GW RX11) (hE : env G A s s.heap) (hA : ∀ q, s.heap.size ≤ q → A q) (hRf : 2 ≤ R.frames) (hRl : 45 ≤ R.locals) {post : Int32 → St → Prop} (hret : RetI p l e R s m args below meth c Q 0 0 wX G A cX11_game post) (x1 : Int32) (x2 : Int32) (x3 : Int32) (x4 : Int32) (x5 : Int32) (z0 : St) (hB : S_B_game post x1 x2 x3 x4 x5 z0) : Xw p l e R s m args below meth c Q 0 0 wX G A z0 7 [(0, .ref (ad G 0)), (1, .int x1), (2, .int x2), (3, .int x3), (4, .int x4), (5, .int x5)] 0 [] := by
  intro H locs ls hP hD hS hl
  have hx := S.1
  have hb := S.2.1
  refine lv_aload_n hx hb dX11_game_0 rfl (lv_at hl 0 rfl) ?_
  refine xXg_0_house S hE hP lk_X11_64 dX11_game_1 ?_
  refine lv_iload_n hx hb dX11_game_4 rfl (lv_at hl 1 rfl) ?_
  refine xcVi [.int x1] S hE hA hP hD hS (c_House_hasGuest l G z0 H.size x1 _) hB (gw_c lk_X11_171 (gw_c wi_X0_hasGuest (gw_c we_X0_X0_hasGuest_X0_hasGuest (gw_c wn_X0 (gw_c wc_X0_hasGuest (fun _ h9 => h9)))))) hd_X0_hasGuest rfl rfl (Nat.le_trans (Nat.le_of_ble_eq_true rfl) hRf) (Nat.le_trans (Nat.le_of_ble_eq_true rfl) hRl) ⟨Nat.zero_le _, Nat.zero_le _⟩ (va_recv hE.1 hP (ci := 0) (q0 := 6) rfl rfl) rfl hl.1 rfl (Nat.le_of_ble_eq_true rfl) dX11_game_5 (fun r1 z1 H locs hB hP hD hS => ?_)
  refine lv_if_eq (tgt := 31) hx hb dX11_game_8 (by decide) (fun c2 => ?_) (fun c2 => ?_)
  · have hB := hB.1 c2
    exact w_B_game_31 S hE hA hRf hRl hret x1 x2 x3 x4 x5 z1 hB _ _ _ hP hD hS (lv_sub hl [0, 1, 2, 3, 4, 5] rfl)
  · have hB := hB.2 c2
    refine lv_aload_n hx hb dX11_game_11 rfl (lv_at hl 0 rfl) ?_
    refine xXg_0_house S hE hP lk_X11_64 dX11_game_12 ?_
    refine lv_iload_n hx hb dX11_game_15 rfl (lv_at hl 2 rfl) ?_
    refine xcVi [.int x2] S hE hA hP hD hS (c_House_hasGuest l G z1 H.size x2 _) hB (gw_c lk_X11_171 (gw_c wi_X0_hasGuest (gw_c we_X0_X0_hasGuest_X0_hasGuest (gw_c wn_X0 (gw_c wc_X0_hasGuest (fun _ h9 => h9)))))) hd_X0_hasGuest rfl rfl (Nat.le_trans (Nat.le_of_ble_eq_true rfl) hRf) (Nat.le_trans (Nat.le_of_ble_eq_true rfl) hRl) ⟨Nat.zero_le _, Nat.zero_le _⟩ (va_recv hE.1 hP (ci := 0) (q0 := 6) rfl rfl) rfl hl.1 rfl (Nat.le_of_ble_eq_true rfl) dX11_game_16 (fun r3 z2 H locs hB hP hD hS => ?_)
    refine lv_if_eq (tgt := 31) hx hb dX11_game_19 (by decide) (fun c4 => ?_) (fun c4 => ?_)
    · have hB := hB.1 c4
      exact w_B_game_31 S hE hA hRf hRl hret x1 x2 x3 x4 x5 z2 hB _ _ _ hP hD hS (lv_sub hl [0, 1, 2, 3, 4, 5] rfl)
    · have hB := hB.2 c4
      refine lv_iload_n hx hb dX11_game_22 rfl (lv_at hl 1 rfl) ?_
      refine lv_iload_n hx hb dX11_game_23 rfl (lv_at hl 2 rfl) ?_
      refine lv_icmp_eq (tgt := 31) hx hb dX11_game_24 (by decide) (fun c5 => ?_) (fun c5 => ?_)
      · have hB := hB.1 c5
        exact w_B_game_31 S hE hA hRf hRl hret x1 x2 x3 x4 x5 z2 hB _ _ _ hP hD hS (lv_sub hl [0, 1, 2, 3, 4, 5] rfl)
      · have hB := hB.2 c5
        refine lv_iconst (v := 1) hx hb dX11_game_27 (by decide) ?_
        refine lv_goto (tgt := 32) hx hb dX11_game_28 (by decide) ?_
        exact w_B_game_32 S hE hA hRf hRl hret x1 x2 x3 x4 x5 (1 : Int32) z2 hB _ _ _ hP hD hS (lv_sub hl [0, 1, 2, 3, 4, 5] rfl)
set_option maxHeartbeats 4000000 in
set_option maxRecDepth 100000 in
theorem c_B_game (l : Launch) (G : GX) (z0 : St) (sz : Nat) (x1 : Int32) (x2 : Int32) (x3 : Int32) (x4 : Int32) (x5 : Int32) (post : Int32 → St → Prop) : MetI l wX yX11_game cX11_game 7 (some .int) ({ frames := 2, cells := 0, slots := 0, locals := 45 }) [.ref (ad G 0), .int x1, .int x2, .int x3, .int x4, .int x5] G z0 sz (S_B_game post x1 x2 x3 x4 x5 z0) post := by
  refine Met.ofW (cc := cX11_game) (maxL := 7) (ret := (some .int)) (by decide) rfl ?_
  intro p e s m args below meth c s₁ B hml hv
  obtain ⟨rfl, hsz, hP, hD0, hE, hB⟩ := hv
  have S : CallFix p m c cX11_game 7 s _ GW RX11 := ⟨B.exec, B.bytes, hml, findClass_of_methodNamed B.named, fun w h => atoms_spec (ws := Cond.code yX11_game cX11_game 7 (some .int) :: GW) B.pre w (List.mem_cons_of_mem _ h)⟩
  have hlocks := B.notSynchronized
  subst hsz
  have hD := hD0.self (sz := s.heap.size)
  generalize hAe : va_A (wX G z0) s.heap.size = A at hD hE ⊢
  have hA : ∀ q : Nat, s.heap.size ≤ q → A q := fun q h => by rw [← hAe]; exact Or.inr h
  have hS : va_S A s.heap s.heap [] := va_S.rf
  have hl := lv_entry ([.ref (ad G 0), .int x1, .int x2, .int x3, .int x4, .int x5]) (n := 7) (Nat.le_of_ble_eq_true rfl)
  rw [lg_entry_eq]
  generalize (lg_sl ([.ref (ad G 0), .int x1, .int x2, .int x3, .int x4, .int x5]) ++ List.replicate (7 - (lg_sl ([.ref (ad G 0), .int x1, .int x2, .int x3, .int x4, .int x5])).length) Slot.unset).toArray = ls at hl ⊢
  have hl : lv_has ls 7 [(0, .ref (ad G 0)), (1, .int x1), (2, .int x2), (3, .int x3), (4, .int x4), (5, .int x5)] := hl
  refine w_B_game_0 S hE hA (Nat.le_refl _) (Nat.le_refl _) ?_ x1 x2 x3 x4 x5 z0 hB _ _ _ hP hD hS hl
  intro pc ls r σ H locs hd hp hP hD hS
  exact W.iret (v := r) B.exec B.bytes B.returns (fun t ht hW => ⟨⟨r, σ, rfl, hp, by rw [ht]; exact hP, hD⟩, hS.F ht⟩) hS.2.2 hd
def B_Table_stays_8_3 (post : Int32 → St → Prop) (ih3 : Int32 → Int32 → Int32 → Int32 → St → Prop) (x1 : Int32) (x2 : Int32) (x3 : Int32) (x4 : Int32) (z0 : St) : Prop :=
  (((gI z0 26) ≤ x4 → (post (1 : Int32) z0)) ∧ (¬ (gI z0 26) ≤ x4 → (S_Table_share_8 (fun (r2 : Int32) (z1 : St) => (S_Table_share_8 (fun (r3 : Int32) (z2 : St) => ((r2 ≤ r3 → (∀ v5 : Int32, v5 = x4 + (1 : Int32) → (ih3 x1 x2 x3 v5 z2))) ∧ (¬ r2 ≤ r3 → (post (0 : Int32) z2)))) x1 x2 x3 z1)) x1 x2 x4 z0)))
set_option maxHeartbeats 4000000 in
set_option maxRecDepth 100000 in
theorem w_Table_stays_8_3 {p : Program} {l : Launch} {e : Env} {R : Room} {s : State} {m : MethodId} {args : Array Value} {below : List Frame} {meth : Method} {c : Code} {Q : State → Prop} {G : GX} {A : Nat → Prop} (S : CallFix p m c cX8_stays 5 s args GW RX8) (hE : env G A s s.heap) (hA : ∀ q, s.heap.size ≤ q → A q) (hRf : 2 ≤ R.frames) (hRl : 45 ≤ R.locals) {post : Int32 → St → Prop} (hret : RetZ p l e R s m args below meth c Q 0 0 wX G A cX8_stays post) {ih3 : Int32 → Int32 → Int32 → Int32 → St → Prop} (h3 : ∀ (x1 : Int32) (x2 : Int32) (x3 : Int32) (x4 : Int32) (z0 : St), ih3 x1 x2 x3 x4 z0 → Xw p l e R s m args below meth c Q 0 0 wX G A z0 5 [(0, .ref (ad G 8)), (1, .int x1), (2, .int x2), (3, .int x3), (4, .int x4)] 3 []) (x1 : Int32) (x2 : Int32) (x3 : Int32) (x4 : Int32) (z0 : St) (hB : B_Table_stays_8_3 post ih3 x1 x2 x3 x4 z0) : Xw p l e R s m args below meth c Q 0 0 wX G A z0 5 [(0, .ref (ad G 8)), (1, .int x1), (2, .int x2), (3, .int x3), (4, .int x4)] 3 [] := by
  intro H locs ls hP hD hS hl
  have hx := S.1
  have hb := S.2.1
  refine lv_iload hx hb dX8_stays_3 (lv_at hl 4 rfl) ?_
  refine lv_aload_n hx hb dX8_stays_5 rfl (lv_at hl 0 rfl) ?_
  refine xXg_8_house S hE hP lk_X8_15 dX8_stays_6 ?_
  refine xXg_6_drinks S hE hP lk_X8_35 dX8_stays_9 ?_
  refine lv_icmp_ge (tgt := 41) hx hb dX8_stays_12 (by decide) (fun c1 => ?_) (fun c1 => ?_)
  · have hB := hB.1 c1
    refine lv_iconst (v := 1) hx hb dX8_stays_41 (by decide) ?_
    exact hret _ _ _ _ _ _ dX8_stays_42 ⟨by decide, hB⟩ hP hD hS
  · have hB := hB.2 c1
    refine lv_aload_n hx hb dX8_stays_15 rfl (lv_at hl 0 rfl) ?_
    refine lv_iload_n hx hb dX8_stays_16 rfl (lv_at hl 1 rfl) ?_
    refine lv_iload_n hx hb dX8_stays_17 rfl (lv_at hl 2 rfl) ?_
    refine lv_iload hx hb dX8_stays_18 (lv_at hl 4 rfl) ?_
    refine xcVi [.int x1, .int x2, .int x4] S hE hA hP hD hS (c_Table_share_8 l G z0 H.size x1 x2 x4 _) hB (gw_c lk_X8_143 (gw_c wi_X8_share (gw_c we_X8_X8_share_X8_share (gw_c wn_X8 (gw_c wc_X8_share (fun _ h9 => h9)))))) hd_X8_share rfl rfl (Nat.le_trans (Nat.le_of_ble_eq_true rfl) hRf) (Nat.le_trans (Nat.le_of_ble_eq_true rfl) hRl) ⟨Nat.zero_le _, Nat.zero_le _⟩ (va_recv hE.1 hP (ci := 7) (q0 := 8) rfl rfl) rfl hl.1 rfl (Nat.le_of_ble_eq_true rfl) dX8_stays_20 (fun r2 z1 H locs hB hP hD hS => ?_)
    refine lv_aload_n hx hb dX8_stays_23 rfl (lv_at hl 0 rfl) ?_
    refine lv_iload_n hx hb dX8_stays_24 rfl (lv_at hl 1 rfl) ?_
    refine lv_iload_n hx hb dX8_stays_25 rfl (lv_at hl 2 rfl) ?_
    refine lv_iload_n hx hb dX8_stays_26 rfl (lv_at hl 3 rfl) ?_
    refine xcVi [.int x1, .int x2, .int x3] S hE hA hP hD hS (c_Table_share_8 l G z1 H.size x1 x2 x3 _) hB (gw_c lk_X8_143 (gw_c wi_X8_share (gw_c we_X8_X8_share_X8_share (gw_c wn_X8 (gw_c wc_X8_share (fun _ h9 => h9)))))) hd_X8_share rfl rfl (Nat.le_trans (Nat.le_of_ble_eq_true rfl) hRf) (Nat.le_trans (Nat.le_of_ble_eq_true rfl) hRl) ⟨Nat.zero_le _, Nat.zero_le _⟩ (va_recv hE.1 hP (ci := 7) (q0 := 8) rfl rfl) rfl hl.1 rfl (Nat.le_of_ble_eq_true rfl) dX8_stays_27 (fun r3 z2 H locs hB hP hD hS => ?_)
    refine lv_icmp_le (tgt := 35) hx hb dX8_stays_30 (by decide) (fun c4 => ?_) (fun c4 => ?_)
    · have hB := hB.1 c4
      obtain ⟨v5, ev5⟩ : ∃ y9, y9 = x4 + (1 : Int32) := ⟨_, rfl⟩
      have hB := hB v5 ev5
      refine lv_iinc (v := v5) (lv' := [(4, .int v5), (0, .ref (ad G 8)), (1, .int x1), (2, .int x2), (3, .int x3)]) hx hb dX8_stays_35 hl (k := 4) rfl (by rw [ev5]; rfl) (by decide) rfl (fun ls hl => ?_)
      refine lv_goto (tgt := 3) hx hb dX8_stays_38 (by decide) ?_
      exact h3 x1 x2 x3 v5 z2 hB _ _ _ hP hD hS (lv_sub hl [1, 2, 3, 4, 0] rfl)
    · have hB := hB.2 c4
      refine lv_iconst (v := 0) hx hb dX8_stays_33 (by decide) ?_
      exact hret _ _ _ _ _ _ dX8_stays_34 ⟨by decide, hB⟩ hP hD hS
def L_Table_stays_8_3 (post : Int32 → St → Prop) : Nat → Int32 → Int32 → Int32 → Int32 → St → Prop
  | 0 => fun _ _ _ _ _ => False
  | n + 1 => B_Table_stays_8_3 post (L_Table_stays_8_3 post n)
theorem wl_Table_stays_8_3 {p : Program} {l : Launch} {e : Env} {R : Room} {s : State} {m : MethodId} {args : Array Value} {below : List Frame} {meth : Method} {c : Code} {Q : State → Prop} {G : GX} {A : Nat → Prop} (S : CallFix p m c cX8_stays 5 s args GW RX8) (hE : env G A s s.heap) (hA : ∀ q, s.heap.size ≤ q → A q) (hRf : 2 ≤ R.frames) (hRl : 45 ≤ R.locals) {post : Int32 → St → Prop} (hret : RetZ p l e R s m args below meth c Q 0 0 wX G A cX8_stays post) : ∀ (n : Nat) (x1 : Int32) (x2 : Int32) (x3 : Int32) (x4 : Int32) (z0 : St), L_Table_stays_8_3 post n x1 x2 x3 x4 z0 → Xw p l e R s m args below meth c Q 0 0 wX G A z0 5 [(0, .ref (ad G 8)), (1, .int x1), (2, .int x2), (3, .int x3), (4, .int x4)] 3 [] := by
  intro n
  induction n with
  | zero => intro x1 x2 x3 x4 z0 hB; exact absurd hB id
  | succ n ih => exact fun x1 x2 x3 x4 z0 hB => w_Table_stays_8_3 S hE hA hRf hRl hret ih x1 x2 x3 x4 z0 hB
def S_Table_stays_8 (post : Int32 → St → Prop) (x1 : Int32) (x2 : Int32) (x3 : Int32) (z0 : St) : Prop :=
  (∃ n1, L_Table_stays_8_3 post n1 x1 x2 x3 (0 : Int32) z0)
set_option maxHeartbeats 4000000 in
set_option maxRecDepth 100000 in
theorem w_Table_stays_8_0 {p : Program} {l : Launch} {e : Env} {R : Room} {s : State} {m : MethodId} {args : Array Value} {below : List Frame} {meth : Method} {c : Code} {Q : State → Prop} {G : GX} {A : Nat → Prop} (S : CallFix p m c cX8_stays 5 s args GW RX8) (hE : env G A s s.heap) (hA : ∀ q, s.heap.size ≤ q → A q) (hRf : 2 ≤ R.frames) (hRl : 45 ≤ R.locals) {post : Int32 → St → Prop} (hret : RetZ p l e R s m args below meth c Q 0 0 wX G A cX8_stays post) (x1 : Int32) (x2 : Int32) (x3 : Int32) (z0 : St) (hB : S_Table_stays_8 post x1 x2 x3 z0) : Xw p l e R s m args below meth c Q 0 0 wX G A z0 5 [(0, .ref (ad G 8)), (1, .int x1), (2, .int x2), (3, .int x3)] 0 [] := by
  intro H locs ls hP hD hS hl
  have hx := S.1
  have hb := S.2.1
  refine lv_iconst (v := 0) hx hb dX8_stays_0 (by decide) ?_
  refine lv_istore (lv' := [(4, .int (0 : Int32)), (0, .ref (ad G 8)), (1, .int x1), (2, .int x2), (3, .int x3)]) hx hb dX8_stays_1 hl (by decide) rfl (fun ls hl => ?_)
  obtain ⟨n1, hB⟩ := hB
  exact wl_Table_stays_8_3 S hE hA hRf hRl hret n1 x1 x2 x3 (0 : Int32) z0 hB _ _ _ hP hD hS (lv_sub hl [1, 2, 3, 4, 0] rfl)
set_option maxHeartbeats 4000000 in
set_option maxRecDepth 100000 in
theorem c_Table_stays_8 (l : Launch) (G : GX) (z0 : St) (sz : Nat) (x1 : Int32) (x2 : Int32) (x3 : Int32) (post : Int32 → St → Prop) : MetI l wX yX8_stays cX8_stays 5 (some .boolean) ({ frames := 2, cells := 0, slots := 0, locals := 45 }) [.ref (ad G 8), .int x1, .int x2, .int x3] G z0 sz (S_Table_stays_8 post x1 x2 x3 z0) post := by
  refine Met.ofW (cc := cX8_stays) (maxL := 5) (ret := (some .boolean)) (by decide) rfl ?_
  intro p e s m args below meth c s₁ B hml hv
  obtain ⟨rfl, hsz, hP, hD0, hE, hB⟩ := hv
  have S : CallFix p m c cX8_stays 5 s _ GW RX8 := ⟨B.exec, B.bytes, hml, findClass_of_methodNamed B.named, fun w h => atoms_spec (ws := Cond.code yX8_stays cX8_stays 5 (some .boolean) :: GW) B.pre w (List.mem_cons_of_mem _ h)⟩
  have hlocks := B.notSynchronized
  subst hsz
  have hD := hD0.self (sz := s.heap.size)
  generalize hAe : va_A (wX G z0) s.heap.size = A at hD hE ⊢
  have hA : ∀ q : Nat, s.heap.size ≤ q → A q := fun q h => by rw [← hAe]; exact Or.inr h
  have hS : va_S A s.heap s.heap [] := va_S.rf
  have hl := lv_entry ([.ref (ad G 8), .int x1, .int x2, .int x3]) (n := 5) (Nat.le_of_ble_eq_true rfl)
  rw [lg_entry_eq]
  generalize (lg_sl ([.ref (ad G 8), .int x1, .int x2, .int x3]) ++ List.replicate (5 - (lg_sl ([.ref (ad G 8), .int x1, .int x2, .int x3])).length) Slot.unset).toArray = ls at hl ⊢
  have hl : lv_has ls 5 [(0, .ref (ad G 8)), (1, .int x1), (2, .int x2), (3, .int x3)] := hl
  refine w_Table_stays_8_0 S hE hA (Nat.le_refl _) (Nat.le_refl _) ?_ x1 x2 x3 z0 hB _ _ _ hP hD hS hl
  intro pc ls r σ H locs hd hp hP hD hS
  exact W.zret (v := r) B.exec B.bytes B.returns (xboolc r hp.1) (fun t ht hW => ⟨⟨r, σ, rfl, hp.2, by rw [ht]; exact hP, hD⟩, hS.F ht⟩) hS.2.2 hd
def B_B_rests_110 (post : Int32 → St → Prop) (ih35 : Int32 → Int32 → Int32 → Int32 → Int32 → St → Prop) (ih50 : Int32 → Int32 → Int32 → Int32 → Int32 → Int32 → St → Prop) (x1 : Int32) (x2 : Int32) (x3 : Int32) (x4 : Int32) (x5 : Int32) (x6 : Int32) (z0 : St) : Prop :=
  (∀ v1 : Int32, v1 = x6 + (1 : Int32) → (ih50 x1 x2 x3 x4 x5 v1 z0))
set_option maxHeartbeats 4000000 in
set_option maxRecDepth 100000 in
theorem w_B_rests_110 {p : Program} {l : Launch} {e : Env} {R : Room} {s : State} {m : MethodId} {args : Array Value} {below : List Frame} {meth : Method} {c : Code} {Q : State → Prop} {G : GX} {A : Nat → Prop} (S : CallFix p m c cX11_rests 7 s args GW RX11) (hE : env G A s s.heap) (hA : ∀ q, s.heap.size ≤ q → A q) (hRf : 3 ≤ R.frames) (hRl : 69 ≤ R.locals) {post : Int32 → St → Prop} (hret : RetI p l e R s m args below meth c Q 0 0 wX G A cX11_rests post) {ih35 : Int32 → Int32 → Int32 → Int32 → Int32 → St → Prop} (h35 : ∀ (x1 : Int32) (x2 : Int32) (x3 : Int32) (x4 : Int32) (x5 : Int32) (z0 : St), ih35 x1 x2 x3 x4 x5 z0 → Xw p l e R s m args below meth c Q 0 0 wX G A z0 7 [(0, .ref (ad G 0)), (1, .int x1), (2, .int x2), (3, .int x3), (4, .int x4), (5, .int x5)] 35 []) {ih50 : Int32 → Int32 → Int32 → Int32 → Int32 → Int32 → St → Prop} (h50 : ∀ (x1 : Int32) (x2 : Int32) (x3 : Int32) (x4 : Int32) (x5 : Int32) (x6 : Int32) (z0 : St), ih50 x1 x2 x3 x4 x5 x6 z0 → Xw p l e R s m args below meth c Q 0 0 wX G A z0 7 [(0, .ref (ad G 0)), (1, .int x1), (2, .int x2), (3, .int x3), (4, .int x4), (5, .int x5), (6, .int x6)] 50 []) (x1 : Int32) (x2 : Int32) (x3 : Int32) (x4 : Int32) (x5 : Int32) (x6 : Int32) (z0 : St) (hB : B_B_rests_110 post ih35 ih50 x1 x2 x3 x4 x5 x6 z0) : Xw p l e R s m args below meth c Q 0 0 wX G A z0 7 [(0, .ref (ad G 0)), (1, .int x1), (2, .int x2), (3, .int x3), (4, .int x4), (5, .int x5), (6, .int x6)] 110 [] := by
  intro H locs ls hP hD hS hl
  have hx := S.1
  have hb := S.2.1
  obtain ⟨v1, ev1⟩ : ∃ y9, y9 = x6 + (1 : Int32) := ⟨_, rfl⟩
  have hB := hB v1 ev1
  refine lv_iinc (v := v1) (lv' := [(6, .int v1), (0, .ref (ad G 0)), (1, .int x1), (2, .int x2), (3, .int x3), (4, .int x4), (5, .int x5)]) hx hb dX11_rests_110 hl (k := 6) rfl (by rw [ev1]; rfl) (by decide) rfl (fun ls hl => ?_)
  refine lv_goto (tgt := 50) hx hb dX11_rests_113 (by decide) ?_
  exact h50 x1 x2 x3 x4 x5 v1 z0 hB _ _ _ hP hD hS (lv_sub hl [1, 2, 3, 4, 5, 6, 0] rfl)
def B_B_rests_50 (post : Int32 → St → Prop) (ih35 : Int32 → Int32 → Int32 → Int32 → Int32 → St → Prop) (ih50 : Int32 → Int32 → Int32 → Int32 → Int32 → Int32 → St → Prop) (x1 : Int32) (x2 : Int32) (x3 : Int32) (x4 : Int32) (x5 : Int32) (x6 : Int32) (z0 : St) : Prop :=
  (((gI z0 26) ≤ x6 → (∀ v2 : Int32, v2 = x5 + (1 : Int32) → (ih35 x1 x2 x3 x4 v2 z0))) ∧ (¬ (gI z0 26) ≤ x6 → (S_Table_stays_8 (fun (r3 : Int32) (z1 : St) => ((r3 = 0 → (B_B_rests_110 post ih35 ih50 x1 x2 x3 x4 x5 x6 z1)) ∧ (¬ r3 = 0 → (S_Table_stays_8 (fun (r5 : Int32) (z2 : St) => ((r5 = 0 → (B_B_rests_110 post ih35 ih50 x1 x2 x3 x4 x5 x6 z2)) ∧ (¬ r5 = 0 → ((x4 = x3 → (post (((10 : Int32) * x5) + x6) z2)) ∧ (¬ x4 = x3 → (∀ v8 : Int32, v8 = x4 + (1 : Int32) → (B_B_rests_110 post ih35 ih50 x1 x2 x3 v8 x5 x6 z2))))))) x2 x5 x6 z1)))) x1 x6 x5 z0)))
set_option maxHeartbeats 4000000 in
set_option maxRecDepth 100000 in
theorem w_B_rests_50 {p : Program} {l : Launch} {e : Env} {R : Room} {s : State} {m : MethodId} {args : Array Value} {below : List Frame} {meth : Method} {c : Code} {Q : State → Prop} {G : GX} {A : Nat → Prop} (S : CallFix p m c cX11_rests 7 s args GW RX11) (hE : env G A s s.heap) (hA : ∀ q, s.heap.size ≤ q → A q) (hRf : 3 ≤ R.frames) (hRl : 69 ≤ R.locals) {post : Int32 → St → Prop} (hret : RetI p l e R s m args below meth c Q 0 0 wX G A cX11_rests post) {ih35 : Int32 → Int32 → Int32 → Int32 → Int32 → St → Prop} (h35 : ∀ (x1 : Int32) (x2 : Int32) (x3 : Int32) (x4 : Int32) (x5 : Int32) (z0 : St), ih35 x1 x2 x3 x4 x5 z0 → Xw p l e R s m args below meth c Q 0 0 wX G A z0 7 [(0, .ref (ad G 0)), (1, .int x1), (2, .int x2), (3, .int x3), (4, .int x4), (5, .int x5)] 35 []) {ih50 : Int32 → Int32 → Int32 → Int32 → Int32 → Int32 → St → Prop} (h50 : ∀ (x1 : Int32) (x2 : Int32) (x3 : Int32) (x4 : Int32) (x5 : Int32) (x6 : Int32) (z0 : St), ih50 x1 x2 x3 x4 x5 x6 z0 → Xw p l e R s m args below meth c Q 0 0 wX G A z0 7 [(0, .ref (ad G 0)), (1, .int x1), (2, .int x2), (3, .int x3), (4, .int x4), (5, .int x5), (6, .int x6)] 50 []) (x1 : Int32) (x2 : Int32) (x3 : Int32) (x4 : Int32) (x5 : Int32) (x6 : Int32) (z0 : St) (hB : B_B_rests_50 post ih35 ih50 x1 x2 x3 x4 x5 x6 z0) : Xw p l e R s m args below meth c Q 0 0 wX G A z0 7 [(0, .ref (ad G 0)), (1, .int x1), (2, .int x2), (3, .int x3), (4, .int x4), (5, .int x5), (6, .int x6)] 50 [] := by
  intro H locs ls hP hD hS hl
  have hx := S.1
  have hb := S.2.1
  refine lv_iload hx hb dX11_rests_50 (lv_at hl 6 rfl) ?_
  refine lv_aload_n hx hb dX11_rests_52 rfl (lv_at hl 0 rfl) ?_
  refine xXg_0_house S hE hP lk_X11_64 dX11_rests_53 ?_
  refine xXg_6_drinks S hE hP lk_X11_325 dX11_rests_56 ?_
  refine lv_icmp_ge (tgt := 116) hx hb dX11_rests_59 (by decide) (fun c1 => ?_) (fun c1 => ?_)
  · have hB := hB.1 c1
    obtain ⟨v2, ev2⟩ : ∃ y9, y9 = x5 + (1 : Int32) := ⟨_, rfl⟩
    have hB := hB v2 ev2
    refine lv_iinc (v := v2) (lv' := [(5, .int v2), (0, .ref (ad G 0)), (1, .int x1), (2, .int x2), (3, .int x3), (4, .int x4), (6, .int x6)]) hx hb dX11_rests_116 hl (k := 5) rfl (by rw [ev2]; rfl) (by decide) rfl (fun ls hl => ?_)
    refine lv_goto (tgt := 35) hx hb dX11_rests_119 (by decide) ?_
    exact h35 x1 x2 x3 x4 v2 z0 hB _ _ _ hP hD hS (lv_sub hl [1, 2, 3, 4, 5, 0] rfl)
  · have hB := hB.2 c1
    refine lv_aload_n hx hb dX11_rests_62 rfl (lv_at hl 0 rfl) ?_
    refine xXg_0_table S hE hP lk_X11_72 dX11_rests_63 ?_
    refine lv_iload_n hx hb dX11_rests_66 rfl (lv_at hl 1 rfl) ?_
    refine lv_iload hx hb dX11_rests_67 (lv_at hl 6 rfl) ?_
    refine lv_iload hx hb dX11_rests_69 (lv_at hl 5 rfl) ?_
    refine xcVi [.int x1, .int x6, .int x5] S hE hA hP hD hS (c_Table_stays_8 l G z0 H.size x1 x6 x5 _) hB (gw_c lk_X11_328 (gw_c wi_X8_stays (gw_c we_X8_X8_stays_X8_stays (gw_c wn_X8 (gw_c wc_X8_stays (fun _ h9 => h9)))))) hd_X8_stays rfl rfl (Nat.le_trans (Nat.le_of_ble_eq_true rfl) hRf) (Nat.le_trans (Nat.le_of_ble_eq_true rfl) hRl) ⟨Nat.zero_le _, Nat.zero_le _⟩ (va_recv hE.1 hP (ci := 7) (q0 := 8) rfl rfl) rfl hl.1 rfl (Nat.le_of_ble_eq_true rfl) dX11_rests_71 (fun r3 z1 H locs hB hP hD hS => ?_)
    refine lv_if_eq (tgt := 110) hx hb dX11_rests_74 (by decide) (fun c4 => ?_) (fun c4 => ?_)
    · have hB := hB.1 c4
      exact w_B_rests_110 S hE hA hRf hRl hret h35 h50 x1 x2 x3 x4 x5 x6 z1 hB _ _ _ hP hD hS (lv_sub hl [0, 1, 2, 3, 4, 5, 6] rfl)
    · have hB := hB.2 c4
      refine lv_aload_n hx hb dX11_rests_77 rfl (lv_at hl 0 rfl) ?_
      refine xXg_0_table S hE hP lk_X11_72 dX11_rests_78 ?_
      refine lv_iload_n hx hb dX11_rests_81 rfl (lv_at hl 2 rfl) ?_
      refine lv_iload hx hb dX11_rests_82 (lv_at hl 5 rfl) ?_
      refine lv_iload hx hb dX11_rests_84 (lv_at hl 6 rfl) ?_
      refine xcVi [.int x2, .int x5, .int x6] S hE hA hP hD hS (c_Table_stays_8 l G z1 H.size x2 x5 x6 _) hB (gw_c lk_X11_328 (gw_c wi_X8_stays (gw_c we_X8_X8_stays_X8_stays (gw_c wn_X8 (gw_c wc_X8_stays (fun _ h9 => h9)))))) hd_X8_stays rfl rfl (Nat.le_trans (Nat.le_of_ble_eq_true rfl) hRf) (Nat.le_trans (Nat.le_of_ble_eq_true rfl) hRl) ⟨Nat.zero_le _, Nat.zero_le _⟩ (va_recv hE.1 hP (ci := 7) (q0 := 8) rfl rfl) rfl hl.1 rfl (Nat.le_of_ble_eq_true rfl) dX11_rests_86 (fun r5 z2 H locs hB hP hD hS => ?_)
      refine lv_if_eq (tgt := 110) hx hb dX11_rests_89 (by decide) (fun c6 => ?_) (fun c6 => ?_)
      · have hB := hB.1 c6
        exact w_B_rests_110 S hE hA hRf hRl hret h35 h50 x1 x2 x3 x4 x5 x6 z2 hB _ _ _ hP hD hS (lv_sub hl [0, 1, 2, 3, 4, 5, 6] rfl)
      · have hB := hB.2 c6
        refine lv_iload hx hb dX11_rests_92 (lv_at hl 4 rfl) ?_
        refine lv_iload_n hx hb dX11_rests_94 rfl (lv_at hl 3 rfl) ?_
        refine lv_icmp_ne (tgt := 107) hx hb dX11_rests_95 (by decide) (fun c7 => ?_) (fun c7 => ?_)
        · have hB := hB.2 c7
          obtain ⟨v8, ev8⟩ : ∃ y9, y9 = x4 + (1 : Int32) := ⟨_, rfl⟩
          have hB := hB v8 ev8
          refine lv_iinc (v := v8) (lv' := [(4, .int v8), (0, .ref (ad G 0)), (1, .int x1), (2, .int x2), (3, .int x3), (5, .int x5), (6, .int x6)]) hx hb dX11_rests_107 hl (k := 4) rfl (by rw [ev8]; rfl) (by decide) rfl (fun ls hl => ?_)
          exact w_B_rests_110 S hE hA hRf hRl hret h35 h50 x1 x2 x3 v8 x5 x6 z2 hB _ _ _ hP hD hS (lv_sub hl [1, 2, 3, 4, 0, 5, 6] rfl)
        · have hB := hB.1 c7
          refine lv_bipush (v := 10) hx hb dX11_rests_98 (by decide) ?_
          refine lv_iload hx hb dX11_rests_100 (lv_at hl 5 rfl) ?_
          refine lv_imul hx hb dX11_rests_102 ?_
          refine lv_iload hx hb dX11_rests_103 (lv_at hl 6 rfl) ?_
          refine lv_iadd hx hb dX11_rests_105 ?_
          exact hret _ _ _ _ _ _ dX11_rests_106 hB hP hD hS
def L_B_rests_50 (post : Int32 → St → Prop) (ih35 : Int32 → Int32 → Int32 → Int32 → Int32 → St → Prop) : Nat → Int32 → Int32 → Int32 → Int32 → Int32 → Int32 → St → Prop
  | 0 => fun _ _ _ _ _ _ _ => False
  | n + 1 => B_B_rests_50 post ih35 (L_B_rests_50 post ih35 n)
theorem wl_B_rests_50 {p : Program} {l : Launch} {e : Env} {R : Room} {s : State} {m : MethodId} {args : Array Value} {below : List Frame} {meth : Method} {c : Code} {Q : State → Prop} {G : GX} {A : Nat → Prop} (S : CallFix p m c cX11_rests 7 s args GW RX11) (hE : env G A s s.heap) (hA : ∀ q, s.heap.size ≤ q → A q) (hRf : 3 ≤ R.frames) (hRl : 69 ≤ R.locals) {post : Int32 → St → Prop} (hret : RetI p l e R s m args below meth c Q 0 0 wX G A cX11_rests post) {ih35 : Int32 → Int32 → Int32 → Int32 → Int32 → St → Prop} (h35 : ∀ (x1 : Int32) (x2 : Int32) (x3 : Int32) (x4 : Int32) (x5 : Int32) (z0 : St), ih35 x1 x2 x3 x4 x5 z0 → Xw p l e R s m args below meth c Q 0 0 wX G A z0 7 [(0, .ref (ad G 0)), (1, .int x1), (2, .int x2), (3, .int x3), (4, .int x4), (5, .int x5)] 35 []) : ∀ (n : Nat) (x1 : Int32) (x2 : Int32) (x3 : Int32) (x4 : Int32) (x5 : Int32) (x6 : Int32) (z0 : St), L_B_rests_50 post ih35 n x1 x2 x3 x4 x5 x6 z0 → Xw p l e R s m args below meth c Q 0 0 wX G A z0 7 [(0, .ref (ad G 0)), (1, .int x1), (2, .int x2), (3, .int x3), (4, .int x4), (5, .int x5), (6, .int x6)] 50 [] := by
  intro n
  induction n with
  | zero => intro x1 x2 x3 x4 x5 x6 z0 hB; exact absurd hB id
  | succ n ih => exact fun x1 x2 x3 x4 x5 x6 z0 hB => w_B_rests_50 S hE hA hRf hRl hret h35 ih x1 x2 x3 x4 x5 x6 z0 hB
def B_B_rests_35 (post : Int32 → St → Prop) (ih35 : Int32 → Int32 → Int32 → Int32 → Int32 → St → Prop) (x1 : Int32) (x2 : Int32) (x3 : Int32) (x4 : Int32) (x5 : Int32) (z0 : St) : Prop :=
  (((gI z0 26) ≤ x5 → ((x3 = (-1 : Int32) → (post x4 z0)) ∧ (¬ x3 = (-1 : Int32) → (post (-1 : Int32) z0)))) ∧ (¬ (gI z0 26) ≤ x5 → (∃ n3, L_B_rests_50 post ih35 n3 x1 x2 x3 x4 x5 (0 : Int32) z0)))
set_option maxHeartbeats 4000000 in
set_option maxRecDepth 100000 in
theorem w_B_rests_35 {p : Program} {l : Launch} {e : Env} {R : Room} {s : State} {m : MethodId} {args : Array Value} {below : List Frame} {meth : Method} {c : Code} {Q : State → Prop} {G : GX} {A : Nat → Prop} (S : CallFix p m c cX11_rests 7 s args GW RX11) (hE : env G A s s.heap) (hA : ∀ q, s.heap.size ≤ q → A q) (hRf : 3 ≤ R.frames) (hRl : 69 ≤ R.locals) {post : Int32 → St → Prop} (hret : RetI p l e R s m args below meth c Q 0 0 wX G A cX11_rests post) {ih35 : Int32 → Int32 → Int32 → Int32 → Int32 → St → Prop} (h35 : ∀ (x1 : Int32) (x2 : Int32) (x3 : Int32) (x4 : Int32) (x5 : Int32) (z0 : St), ih35 x1 x2 x3 x4 x5 z0 → Xw p l e R s m args below meth c Q 0 0 wX G A z0 7 [(0, .ref (ad G 0)), (1, .int x1), (2, .int x2), (3, .int x3), (4, .int x4), (5, .int x5)] 35 []) (x1 : Int32) (x2 : Int32) (x3 : Int32) (x4 : Int32) (x5 : Int32) (z0 : St) (hB : B_B_rests_35 post ih35 x1 x2 x3 x4 x5 z0) : Xw p l e R s m args below meth c Q 0 0 wX G A z0 7 [(0, .ref (ad G 0)), (1, .int x1), (2, .int x2), (3, .int x3), (4, .int x4), (5, .int x5)] 35 [] := by
  intro H locs ls hP hD hS hl
  have hx := S.1
  have hb := S.2.1
  refine lv_iload hx hb dX11_rests_35 (lv_at hl 5 rfl) ?_
  refine lv_aload_n hx hb dX11_rests_37 rfl (lv_at hl 0 rfl) ?_
  refine xXg_0_house S hE hP lk_X11_64 dX11_rests_38 ?_
  refine xXg_6_drinks S hE hP lk_X11_325 dX11_rests_41 ?_
  refine lv_icmp_ge (tgt := 122) hx hb dX11_rests_44 (by decide) (fun c1 => ?_) (fun c1 => ?_)
  · have hB := hB.1 c1
    refine lv_iload_n hx hb dX11_rests_122 rfl (lv_at hl 3 rfl) ?_
    refine lv_iconst (v := -1) hx hb dX11_rests_123 (by decide) ?_
    refine lv_icmp_ne (tgt := 132) hx hb dX11_rests_124 (by decide) (fun c2 => ?_) (fun c2 => ?_)
    · have hB := hB.2 c2
      refine lv_iconst (v := -1) hx hb dX11_rests_132 (by decide) ?_
      exact hret _ _ _ _ _ _ dX11_rests_133 hB hP hD hS
    · have hB := hB.1 c2
      refine lv_iload hx hb dX11_rests_127 (lv_at hl 4 rfl) ?_
      refine lv_goto (tgt := 133) hx hb dX11_rests_129 (by decide) ?_
      exact hret _ _ _ _ _ _ dX11_rests_133 hB hP hD hS
  · have hB := hB.2 c1
    refine lv_iconst (v := 0) hx hb dX11_rests_47 (by decide) ?_
    refine lv_istore (lv' := [(6, .int (0 : Int32)), (0, .ref (ad G 0)), (1, .int x1), (2, .int x2), (3, .int x3), (4, .int x4), (5, .int x5)]) hx hb dX11_rests_48 hl (by decide) rfl (fun ls hl => ?_)
    obtain ⟨n3, hB⟩ := hB
    exact wl_B_rests_50 S hE hA hRf hRl hret h35 n3 x1 x2 x3 x4 x5 (0 : Int32) z0 hB _ _ _ hP hD hS (lv_sub hl [1, 2, 3, 4, 5, 6, 0] rfl)
def L_B_rests_35 (post : Int32 → St → Prop) : Nat → Int32 → Int32 → Int32 → Int32 → Int32 → St → Prop
  | 0 => fun _ _ _ _ _ _ => False
  | n + 1 => B_B_rests_35 post (L_B_rests_35 post n)
theorem wl_B_rests_35 {p : Program} {l : Launch} {e : Env} {R : Room} {s : State} {m : MethodId} {args : Array Value} {below : List Frame} {meth : Method} {c : Code} {Q : State → Prop} {G : GX} {A : Nat → Prop} (S : CallFix p m c cX11_rests 7 s args GW RX11) (hE : env G A s s.heap) (hA : ∀ q, s.heap.size ≤ q → A q) (hRf : 3 ≤ R.frames) (hRl : 69 ≤ R.locals) {post : Int32 → St → Prop} (hret : RetI p l e R s m args below meth c Q 0 0 wX G A cX11_rests post) : ∀ (n : Nat) (x1 : Int32) (x2 : Int32) (x3 : Int32) (x4 : Int32) (x5 : Int32) (z0 : St), L_B_rests_35 post n x1 x2 x3 x4 x5 z0 → Xw p l e R s m args below meth c Q 0 0 wX G A z0 7 [(0, .ref (ad G 0)), (1, .int x1), (2, .int x2), (3, .int x3), (4, .int x4), (5, .int x5)] 35 [] := by
  intro n
  induction n with
  | zero => intro x1 x2 x3 x4 x5 z0 hB; exact absurd hB id
  | succ n ih => exact fun x1 x2 x3 x4 x5 z0 hB => w_B_rests_35 S hE hA hRf hRl hret ih x1 x2 x3 x4 x5 z0 hB
def S_B_rests (post : Int32 → St → Prop) (x1 : Int32) (x2 : Int32) (x3 : Int32) (z0 : St) : Prop :=
  (S_House_hasGuest (fun (r1 : Int32) (z1 : St) => ((r1 = 0 → (post (-1 : Int32) z1)) ∧ (¬ r1 = 0 → (S_House_hasGuest (fun (r3 : Int32) (z2 : St) => ((r3 = 0 → (post (-1 : Int32) z2)) ∧ (¬ r3 = 0 → ((x1 = x2 → (post (-1 : Int32) z2)) ∧ (¬ x1 = x2 → (∃ n6, L_B_rests_35 post n6 x1 x2 x3 (0 : Int32) (0 : Int32) z2)))))) x2 z1)))) x1 z0)
set_option maxHeartbeats 4000000 in
set_option maxRecDepth 100000 in
theorem w_B_rests_0 {p : Program} {l : Launch} {e : Env} {R : Room} {s : State} {m : MethodId} {args : Array Value} {below : List Frame} {meth : Method} {c : Code} {Q : State → Prop} {G : GX} {A : Nat → Prop} (S : CallFix p m c cX11_rests 7 s args GW RX11) (hE : env G A s s.heap) (hA : ∀ q, s.heap.size ≤ q → A q) (hRf : 3 ≤ R.frames) (hRl : 69 ≤ R.locals) {post : Int32 → St → Prop} (hret : RetI p l e R s m args below meth c Q 0 0 wX G A cX11_rests post) (x1 : Int32) (x2 : Int32) (x3 : Int32) (z0 : St) (hB : S_B_rests post x1 x2 x3 z0) : Xw p l e R s m args below meth c Q 0 0 wX G A z0 7 [(0, .ref (ad G 0)), (1, .int x1), (2, .int x2), (3, .int x3)] 0 [] := by
  intro H locs ls hP hD hS hl
  have hx := S.1
  have hb := S.2.1
  refine lv_aload_n hx hb dX11_rests_0 rfl (lv_at hl 0 rfl) ?_
  refine xXg_0_house S hE hP lk_X11_64 dX11_rests_1 ?_
  refine lv_iload_n hx hb dX11_rests_4 rfl (lv_at hl 1 rfl) ?_
  refine xcVi [.int x1] S hE hA hP hD hS (c_House_hasGuest l G z0 H.size x1 _) hB (gw_c lk_X11_171 (gw_c wi_X0_hasGuest (gw_c we_X0_X0_hasGuest_X0_hasGuest (gw_c wn_X0 (gw_c wc_X0_hasGuest (fun _ h9 => h9)))))) hd_X0_hasGuest rfl rfl (Nat.le_trans (Nat.le_of_ble_eq_true rfl) hRf) (Nat.le_trans (Nat.le_of_ble_eq_true rfl) hRl) ⟨Nat.zero_le _, Nat.zero_le _⟩ (va_recv hE.1 hP (ci := 0) (q0 := 6) rfl rfl) rfl hl.1 rfl (Nat.le_of_ble_eq_true rfl) dX11_rests_5 (fun r1 z1 H locs hB hP hD hS => ?_)
  refine lv_if_eq (tgt := 27) hx hb dX11_rests_8 (by decide) (fun c2 => ?_) (fun c2 => ?_)
  · have hB := hB.1 c2
    refine lv_iconst (v := -1) hx hb dX11_rests_27 (by decide) ?_
    exact hret _ _ _ _ _ _ dX11_rests_28 hB hP hD hS
  · have hB := hB.2 c2
    refine lv_aload_n hx hb dX11_rests_11 rfl (lv_at hl 0 rfl) ?_
    refine xXg_0_house S hE hP lk_X11_64 dX11_rests_12 ?_
    refine lv_iload_n hx hb dX11_rests_15 rfl (lv_at hl 2 rfl) ?_
    refine xcVi [.int x2] S hE hA hP hD hS (c_House_hasGuest l G z1 H.size x2 _) hB (gw_c lk_X11_171 (gw_c wi_X0_hasGuest (gw_c we_X0_X0_hasGuest_X0_hasGuest (gw_c wn_X0 (gw_c wc_X0_hasGuest (fun _ h9 => h9)))))) hd_X0_hasGuest rfl rfl (Nat.le_trans (Nat.le_of_ble_eq_true rfl) hRf) (Nat.le_trans (Nat.le_of_ble_eq_true rfl) hRl) ⟨Nat.zero_le _, Nat.zero_le _⟩ (va_recv hE.1 hP (ci := 0) (q0 := 6) rfl rfl) rfl hl.1 rfl (Nat.le_of_ble_eq_true rfl) dX11_rests_16 (fun r3 z2 H locs hB hP hD hS => ?_)
    refine lv_if_eq (tgt := 27) hx hb dX11_rests_19 (by decide) (fun c4 => ?_) (fun c4 => ?_)
    · have hB := hB.1 c4
      refine lv_iconst (v := -1) hx hb dX11_rests_27 (by decide) ?_
      exact hret _ _ _ _ _ _ dX11_rests_28 hB hP hD hS
    · have hB := hB.2 c4
      refine lv_iload_n hx hb dX11_rests_22 rfl (lv_at hl 1 rfl) ?_
      refine lv_iload_n hx hb dX11_rests_23 rfl (lv_at hl 2 rfl) ?_
      refine lv_icmp_ne (tgt := 29) hx hb dX11_rests_24 (by decide) (fun c5 => ?_) (fun c5 => ?_)
      · have hB := hB.2 c5
        refine lv_iconst (v := 0) hx hb dX11_rests_29 (by decide) ?_
        refine lv_istore (lv' := [(4, .int (0 : Int32)), (0, .ref (ad G 0)), (1, .int x1), (2, .int x2), (3, .int x3)]) hx hb dX11_rests_30 hl (by decide) rfl (fun ls hl => ?_)
        refine lv_iconst (v := 0) hx hb dX11_rests_32 (by decide) ?_
        refine lv_istore (lv' := [(5, .int (0 : Int32)), (4, .int (0 : Int32)), (0, .ref (ad G 0)), (1, .int x1), (2, .int x2), (3, .int x3)]) hx hb dX11_rests_33 hl (by decide) rfl (fun ls hl => ?_)
        obtain ⟨n6, hB⟩ := hB
        exact wl_B_rests_35 S hE hA hRf hRl hret n6 x1 x2 x3 (0 : Int32) (0 : Int32) z2 hB _ _ _ hP hD hS (lv_sub hl [2, 3, 4, 5, 1, 0] rfl)
      · have hB := hB.1 c5
        refine lv_iconst (v := -1) hx hb dX11_rests_27 (by decide) ?_
        exact hret _ _ _ _ _ _ dX11_rests_28 hB hP hD hS
set_option maxHeartbeats 4000000 in
set_option maxRecDepth 100000 in
theorem c_B_rests (l : Launch) (G : GX) (z0 : St) (sz : Nat) (x1 : Int32) (x2 : Int32) (x3 : Int32) (post : Int32 → St → Prop) : MetI l wX yX11_rests cX11_rests 7 (some .int) ({ frames := 3, cells := 0, slots := 0, locals := 69 }) [.ref (ad G 0), .int x1, .int x2, .int x3] G z0 sz (S_B_rests post x1 x2 x3 z0) post := by
  refine Met.ofW (cc := cX11_rests) (maxL := 7) (ret := (some .int)) (by decide) rfl ?_
  intro p e s m args below meth c s₁ B hml hv
  obtain ⟨rfl, hsz, hP, hD0, hE, hB⟩ := hv
  have S : CallFix p m c cX11_rests 7 s _ GW RX11 := ⟨B.exec, B.bytes, hml, findClass_of_methodNamed B.named, fun w h => atoms_spec (ws := Cond.code yX11_rests cX11_rests 7 (some .int) :: GW) B.pre w (List.mem_cons_of_mem _ h)⟩
  have hlocks := B.notSynchronized
  subst hsz
  have hD := hD0.self (sz := s.heap.size)
  generalize hAe : va_A (wX G z0) s.heap.size = A at hD hE ⊢
  have hA : ∀ q : Nat, s.heap.size ≤ q → A q := fun q h => by rw [← hAe]; exact Or.inr h
  have hS : va_S A s.heap s.heap [] := va_S.rf
  have hl := lv_entry ([.ref (ad G 0), .int x1, .int x2, .int x3]) (n := 7) (Nat.le_of_ble_eq_true rfl)
  rw [lg_entry_eq]
  generalize (lg_sl ([.ref (ad G 0), .int x1, .int x2, .int x3]) ++ List.replicate (7 - (lg_sl ([.ref (ad G 0), .int x1, .int x2, .int x3])).length) Slot.unset).toArray = ls at hl ⊢
  have hl : lv_has ls 7 [(0, .ref (ad G 0)), (1, .int x1), (2, .int x2), (3, .int x3)] := hl
  refine w_B_rests_0 S hE hA (Nat.le_refl _) (Nat.le_refl _) ?_ x1 x2 x3 z0 hB _ _ _ hP hD hS hl
  intro pc ls r σ H locs hd hp hP hD hS
  exact W.iret (v := r) B.exec B.bytes B.returns (fun t ht hW => ⟨⟨r, σ, rfl, hp, by rw [ht]; exact hP, hD⟩, hS.F ht⟩) hS.2.2 hd
def B_Rows_goDeals_88 (rq : (St → Prop) → Int32 → Int32 → Int32 → Int32 → St → Prop) (post : St → Prop) (ih21 : Int32 → Int32 → Int32 → Int32 → Int32 → St → Prop) (x1 : Int32) (x2 : Int32) (x3 : Int32) (x4 : Int32) (x5 : Int32) (z0 : St) : Prop :=
  (∀ v1 : Int32, v1 = x5 + (1 : Int32) → (ih21 x1 x2 x3 x4 v1 z0))
set_option maxHeartbeats 4000000 in
set_option maxRecDepth 100000 in
theorem w_Rows_goDeals_88 {p : Program} {l : Launch} {e : Env} {R : Room} {s : State} {m : MethodId} {args : Array Value} {below : List Frame} {meth : Method} {c : Code} {Q : State → Prop} {G : GX} {A : Nat → Prop} {rq : (St → Prop) → Int32 → Int32 → Int32 → Int32 → St → Prop} {frec lrec : Nat} (S : CallFix p m c cX6_goDeals 7 s args GW RX6) (hE : env G A s s.heap) (hA : ∀ q, s.heap.size ≤ q → A q) (hRf : frec + 1 ≤ R.frames) (hRl : lrec + 40 ≤ R.locals) (hq : ∀ (G : GX) (z0 : St) (sz : Nat) (x1 : Int32) (x2 : Int32) (x3 : Int32) (x4 : Int32) (post : St → Prop), MetV l wX yX6_goDeals cX6_goDeals 7 none { frames := frec, cells := 0, slots := 0, locals := lrec } [.ref (ad G 10), .int x1, .int x2, .int x3, .int x4] G z0 sz (rq post x1 x2 x3 x4 z0) post) (hfb : 1 ≤ frec ∧ 22 ≤ lrec) {post : St → Prop} (hret : RetV p l e R s m args below meth c Q 0 0 wX G A cX6_goDeals post) {ih21 : Int32 → Int32 → Int32 → Int32 → Int32 → St → Prop} (h21 : ∀ (x1 : Int32) (x2 : Int32) (x3 : Int32) (x4 : Int32) (x5 : Int32) (z0 : St), ih21 x1 x2 x3 x4 x5 z0 → Xw p l e R s m args below meth c Q 0 0 wX G A z0 7 [(0, .ref (ad G 10)), (1, .int x1), (2, .int x2), (3, .int x3), (4, .int x4), (5, .int x5)] 21 []) (x1 : Int32) (x2 : Int32) (x3 : Int32) (x4 : Int32) (x5 : Int32) (z0 : St) (hB : B_Rows_goDeals_88 rq post ih21 x1 x2 x3 x4 x5 z0) : Xw p l e R s m args below meth c Q 0 0 wX G A z0 7 [(0, .ref (ad G 10)), (1, .int x1), (2, .int x2), (3, .int x3), (4, .int x4), (5, .int x5)] 88 [] := by
  intro H locs ls hP hD hS hl
  have hx := S.1
  have hb := S.2.1
  obtain ⟨v1, ev1⟩ : ∃ y9, y9 = x5 + (1 : Int32) := ⟨_, rfl⟩
  have hB := hB v1 ev1
  refine lv_iinc (v := v1) (lv' := [(5, .int v1), (0, .ref (ad G 10)), (1, .int x1), (2, .int x2), (3, .int x3), (4, .int x4)]) hx hb dX6_goDeals_88 hl (k := 5) rfl (by rw [ev1]; rfl) (by decide) rfl (fun ls hl => ?_)
  refine lv_goto (tgt := 21) hx hb dX6_goDeals_91 (by decide) ?_
  exact h21 x1 x2 x3 x4 v1 z0 hB _ _ _ hP hD hS (lv_sub hl [1, 2, 3, 4, 5, 0] rfl)
def B_Rows_goDeals_21 (rq : (St → Prop) → Int32 → Int32 → Int32 → Int32 → St → Prop) (post : St → Prop) (ih21 : Int32 → Int32 → Int32 → Int32 → Int32 → St → Prop) (x1 : Int32) (x2 : Int32) (x3 : Int32) (x4 : Int32) (x5 : Int32) (z0 : St) : Prop :=
  (((gI z0 26) ≤ x5 → (post z0)) ∧ (¬ (gI z0 26) ≤ x5 → ((((x4 >>> (x5 &&& 31)) &&& (1 : Int32)) = 0 → (vp_in x1 6 ∧ (S_House_joyBy (fun (r3 : Int32) (z1 : St) => (rq (fun (z2 : St) => (B_Rows_goDeals_88 rq post ih21 x1 x2 x3 x4 x5 z2)) (x1 + (1 : Int32)) (((10 : Int32) * x2) + x5) (x3 + r3) (x4 ||| ((1 : Int32) <<< (x5 &&& 31))) z1)) (gA z0 19 x1.toNatClampNeg) x5 z0))) ∧ (¬ ((x4 >>> (x5 &&& 31)) &&& (1 : Int32)) = 0 → (B_Rows_goDeals_88 rq post ih21 x1 x2 x3 x4 x5 z0)))))
set_option maxHeartbeats 4000000 in
set_option maxRecDepth 100000 in
theorem w_Rows_goDeals_21 {p : Program} {l : Launch} {e : Env} {R : Room} {s : State} {m : MethodId} {args : Array Value} {below : List Frame} {meth : Method} {c : Code} {Q : State → Prop} {G : GX} {A : Nat → Prop} {rq : (St → Prop) → Int32 → Int32 → Int32 → Int32 → St → Prop} {frec lrec : Nat} (S : CallFix p m c cX6_goDeals 7 s args GW RX6) (hE : env G A s s.heap) (hA : ∀ q, s.heap.size ≤ q → A q) (hRf : frec + 1 ≤ R.frames) (hRl : lrec + 40 ≤ R.locals) (hq : ∀ (G : GX) (z0 : St) (sz : Nat) (x1 : Int32) (x2 : Int32) (x3 : Int32) (x4 : Int32) (post : St → Prop), MetV l wX yX6_goDeals cX6_goDeals 7 none { frames := frec, cells := 0, slots := 0, locals := lrec } [.ref (ad G 10), .int x1, .int x2, .int x3, .int x4] G z0 sz (rq post x1 x2 x3 x4 z0) post) (hfb : 1 ≤ frec ∧ 22 ≤ lrec) {post : St → Prop} (hret : RetV p l e R s m args below meth c Q 0 0 wX G A cX6_goDeals post) {ih21 : Int32 → Int32 → Int32 → Int32 → Int32 → St → Prop} (h21 : ∀ (x1 : Int32) (x2 : Int32) (x3 : Int32) (x4 : Int32) (x5 : Int32) (z0 : St), ih21 x1 x2 x3 x4 x5 z0 → Xw p l e R s m args below meth c Q 0 0 wX G A z0 7 [(0, .ref (ad G 10)), (1, .int x1), (2, .int x2), (3, .int x3), (4, .int x4), (5, .int x5)] 21 []) (x1 : Int32) (x2 : Int32) (x3 : Int32) (x4 : Int32) (x5 : Int32) (z0 : St) (hB : B_Rows_goDeals_21 rq post ih21 x1 x2 x3 x4 x5 z0) : Xw p l e R s m args below meth c Q 0 0 wX G A z0 7 [(0, .ref (ad G 10)), (1, .int x1), (2, .int x2), (3, .int x3), (4, .int x4), (5, .int x5)] 21 [] := by
  intro H locs ls hP hD hS hl
  have hx := S.1
  have hb := S.2.1
  refine lv_iload hx hb dX6_goDeals_21 (lv_at hl 5 rfl) ?_
  refine lv_aload_n hx hb dX6_goDeals_23 rfl (lv_at hl 0 rfl) ?_
  refine xXg_10_house S hE hP lk_X6_18 dX6_goDeals_24 ?_
  refine xXg_6_drinks S hE hP lk_X6_101 dX6_goDeals_27 ?_
  refine lv_icmp_ge (tgt := 94) hx hb dX6_goDeals_30 (by decide) (fun c1 => ?_) (fun c1 => ?_)
  · have hB := hB.1 c1
    exact hret _ _ _ _ _ dX6_goDeals_94 hB hP hD hS
  · have hB := hB.2 c1
    refine lv_iload hx hb dX6_goDeals_33 (lv_at hl 4 rfl) ?_
    refine lv_iload hx hb dX6_goDeals_35 (lv_at hl 5 rfl) ?_
    refine lv_ishr hx hb dX6_goDeals_37 ?_
    refine lv_iconst (v := 1) hx hb dX6_goDeals_38 (by decide) ?_
    refine lv_iand hx hb dX6_goDeals_39 ?_
    refine lv_if_ne (tgt := 88) hx hb dX6_goDeals_40 (by decide) (fun c2 => ?_) (fun c2 => ?_)
    · have hB := hB.2 c2
      exact w_Rows_goDeals_88 S hE hA hRf hRl hq hfb hret h21 x1 x2 x3 x4 x5 z0 hB _ _ _ hP hD hS (lv_sub hl [0, 1, 2, 3, 4, 5] rfl)
    · have hB := hB.1 c2
      refine lv_aload_n hx hb dX6_goDeals_43 rfl (lv_at hl 0 rfl) ?_
      refine xXg_10_house S hE hP lk_X6_18 dX6_goDeals_44 ?_
      refine lv_aload_n hx hb dX6_goDeals_47 rfl (lv_at hl 0 rfl) ?_
      refine xXg_10_house S hE hP lk_X6_18 dX6_goDeals_48 ?_
      refine xXg_6_likes S hE hP lk_X6_104 dX6_goDeals_51 ?_
      refine lv_iload_n hx hb dX6_goDeals_54 rfl (lv_at hl 1 rfl) ?_
      obtain ⟨hi, hB⟩ := hB
      refine xXl_19 S hE hP hi dX6_goDeals_55 ?_
      refine lv_iload hx hb dX6_goDeals_56 (lv_at hl 5 rfl) ?_
      refine xcVi [.int (gA z0 19 x1.toNatClampNeg), .int x5] S hE hA hP hD hS (c_House_joyBy l G z0 H.size (gA z0 19 x1.toNatClampNeg) x5 _) hB (gw_c lk_X6_108 (gw_c wi_X0_joyBy (gw_c we_X0_X0_joyBy_X0_joyBy (gw_c wn_X0 (gw_c wc_X0_joyBy (fun _ h9 => h9)))))) hd_X0_joyBy rfl rfl (Nat.le_trans (show 0 + 1 ≤ frec + 1 by omega) hRf) (Nat.le_trans (show 8 + (3 + 11) + (0) ≤ lrec + 40 by omega) hRl) ⟨Nat.zero_le _, Nat.zero_le _⟩ (va_recv hE.1 hP (ci := 0) (q0 := 6) rfl rfl) rfl hl.1 rfl (Nat.le_of_ble_eq_true rfl) dX6_goDeals_58 (fun r3 z1 H locs hB hP hD hS => ?_)
      refine lv_istore (lv' := [(6, .int r3), (0, .ref (ad G 10)), (1, .int x1), (2, .int x2), (3, .int x3), (4, .int x4), (5, .int x5)]) hx hb dX6_goDeals_61 hl (by decide) rfl (fun ls hl => ?_)
      refine lv_aload_n hx hb dX6_goDeals_63 rfl (lv_at hl 1 rfl) ?_
      refine lv_iload_n hx hb dX6_goDeals_64 rfl (lv_at hl 2 rfl) ?_
      refine lv_iconst (v := 1) hx hb dX6_goDeals_65 (by decide) ?_
      refine lv_iadd hx hb dX6_goDeals_66 ?_
      refine lv_bipush (v := 10) hx hb dX6_goDeals_67 (by decide) ?_
      refine lv_iload_n hx hb dX6_goDeals_69 rfl (lv_at hl 3 rfl) ?_
      refine lv_imul hx hb dX6_goDeals_70 ?_
      refine lv_iload hx hb dX6_goDeals_71 (lv_at hl 6 rfl) ?_
      refine lv_iadd hx hb dX6_goDeals_73 ?_
      refine lv_iload_n hx hb dX6_goDeals_74 rfl (lv_at hl 4 rfl) ?_
      refine lv_iload hx hb dX6_goDeals_75 (lv_at hl 0 rfl) ?_
      refine lv_iadd hx hb dX6_goDeals_77 ?_
      refine lv_iload hx hb dX6_goDeals_78 (lv_at hl 5 rfl) ?_
      refine lv_iconst (v := 1) hx hb dX6_goDeals_80 (by decide) ?_
      refine lv_iload hx hb dX6_goDeals_81 (lv_at hl 6 rfl) ?_
      refine lv_ishl hx hb dX6_goDeals_83 ?_
      refine lv_ior hx hb dX6_goDeals_84 ?_
      refine xcVv [.int (x1 + (1 : Int32)), .int (((10 : Int32) * x2) + x5), .int (x3 + r3), .int (x4 ||| ((1 : Int32) <<< (x5 &&& 31)))] S hE hA hP hD hS (hq G z1 H.size (x1 + (1 : Int32)) (((10 : Int32) * x2) + x5) (x3 + r3) (x4 ||| ((1 : Int32) <<< (x5 &&& 31))) _) hB (gw_c lk_X6_50 (gw_c wi_X6_goDeals (gw_c we_X6_X6_goDeals_X6_goDeals (gw_c wn_X6 (gw_c wc_X6_goDeals (fun _ h9 => h9)))))) hd_X6_goDeals rfl rfl (Nat.le_trans (show frec + 1 ≤ frec + 1 by omega) hRf) (Nat.le_trans (show 8 + (7 + 11) + (lrec) ≤ lrec + 40 by omega) hRl) ⟨Nat.zero_le _, Nat.zero_le _⟩ (va_recv hE.1 hP (ci := 5) (q0 := 10) rfl rfl) rfl hl.1 rfl (Nat.le_of_ble_eq_true rfl) dX6_goDeals_85 (fun z2 H locs hB hP hD hS => ?_)
      exact w_Rows_goDeals_88 S hE hA hRf hRl hq hfb hret h21 x1 x2 x3 x4 x5 z2 hB _ _ _ hP hD hS (lv_sub hl [1, 2, 3, 4, 5, 6] rfl)
def L_Rows_goDeals_21 (rq : (St → Prop) → Int32 → Int32 → Int32 → Int32 → St → Prop) (post : St → Prop) : Nat → Int32 → Int32 → Int32 → Int32 → Int32 → St → Prop
  | 0 => fun _ _ _ _ _ _ => False
  | n + 1 => B_Rows_goDeals_21 rq post (L_Rows_goDeals_21 rq post n)
theorem wl_Rows_goDeals_21 {p : Program} {l : Launch} {e : Env} {R : Room} {s : State} {m : MethodId} {args : Array Value} {below : List Frame} {meth : Method} {c : Code} {Q : State → Prop} {G : GX} {A : Nat → Prop} {rq : (St → Prop) → Int32 → Int32 → Int32 → Int32 → St → Prop} {frec lrec : Nat} (S : CallFix p m c cX6_goDeals 7 s args GW RX6) (hE : env G A s s.heap) (hA : ∀ q, s.heap.size ≤ q → A q) (hRf : frec + 1 ≤ R.frames) (hRl : lrec + 40 ≤ R.locals) (hq : ∀ (G : GX) (z0 : St) (sz : Nat) (x1 : Int32) (x2 : Int32) (x3 : Int32) (x4 : Int32) (post : St → Prop), MetV l wX yX6_goDeals cX6_goDeals 7 none { frames := frec, cells := 0, slots := 0, locals := lrec } [.ref (ad G 10), .int x1, .int x2, .int x3, .int x4] G z0 sz (rq post x1 x2 x3 x4 z0) post) (hfb : 1 ≤ frec ∧ 22 ≤ lrec) {post : St → Prop} (hret : RetV p l e R s m args below meth c Q 0 0 wX G A cX6_goDeals post) : ∀ (n : Nat) (x1 : Int32) (x2 : Int32) (x3 : Int32) (x4 : Int32) (x5 : Int32) (z0 : St), L_Rows_goDeals_21 rq post n x1 x2 x3 x4 x5 z0 → Xw p l e R s m args below meth c Q 0 0 wX G A z0 7 [(0, .ref (ad G 10)), (1, .int x1), (2, .int x2), (3, .int x3), (4, .int x4), (5, .int x5)] 21 [] := by
  intro n
  induction n with
  | zero => intro x1 x2 x3 x4 x5 z0 hB; exact absurd hB id
  | succ n ih => exact fun x1 x2 x3 x4 x5 z0 hB => w_Rows_goDeals_21 S hE hA hRf hRl hq hfb hret ih x1 x2 x3 x4 x5 z0 hB
def S_Rows_goDeals (rq : (St → Prop) → Int32 → Int32 → Int32 → Int32 → St → Prop) (post : St → Prop) (x1 : Int32) (x2 : Int32) (x3 : Int32) (x4 : Int32) (z0 : St) : Prop :=
  ((x1 < (gI z0 27) → (∃ n2, L_Rows_goDeals_21 rq post n2 x1 x2 x3 x4 (0 : Int32) z0)) ∧ (¬ x1 < (gI z0 27) → (S_Rows_weigh (fun (z1 : St) => (post z1)) x2 x3 z0)))
set_option maxHeartbeats 4000000 in
set_option maxRecDepth 100000 in
theorem w_Rows_goDeals_0 {p : Program} {l : Launch} {e : Env} {R : Room} {s : State} {m : MethodId} {args : Array Value} {below : List Frame} {meth : Method} {c : Code} {Q : State → Prop} {G : GX} {A : Nat → Prop} {rq : (St → Prop) → Int32 → Int32 → Int32 → Int32 → St → Prop} {frec lrec : Nat} (S : CallFix p m c cX6_goDeals 7 s args GW RX6) (hE : env G A s s.heap) (hA : ∀ q, s.heap.size ≤ q → A q) (hRf : frec + 1 ≤ R.frames) (hRl : lrec + 40 ≤ R.locals) (hq : ∀ (G : GX) (z0 : St) (sz : Nat) (x1 : Int32) (x2 : Int32) (x3 : Int32) (x4 : Int32) (post : St → Prop), MetV l wX yX6_goDeals cX6_goDeals 7 none { frames := frec, cells := 0, slots := 0, locals := lrec } [.ref (ad G 10), .int x1, .int x2, .int x3, .int x4] G z0 sz (rq post x1 x2 x3 x4 z0) post) (hfb : 1 ≤ frec ∧ 22 ≤ lrec) {post : St → Prop} (hret : RetV p l e R s m args below meth c Q 0 0 wX G A cX6_goDeals post) (x1 : Int32) (x2 : Int32) (x3 : Int32) (x4 : Int32) (z0 : St) (hB : S_Rows_goDeals rq post x1 x2 x3 x4 z0) : Xw p l e R s m args below meth c Q 0 0 wX G A z0 7 [(0, .ref (ad G 10)), (1, .int x1), (2, .int x2), (3, .int x3), (4, .int x4)] 0 [] := by
  intro H locs ls hP hD hS hl
  have hx := S.1
  have hb := S.2.1
  refine lv_iload_n hx hb dX6_goDeals_0 rfl (lv_at hl 1 rfl) ?_
  refine lv_aload_n hx hb dX6_goDeals_1 rfl (lv_at hl 0 rfl) ?_
  refine xXg_10_house S hE hP lk_X6_18 dX6_goDeals_2 ?_
  refine xXg_6_guests S hE hP lk_X6_69 dX6_goDeals_5 ?_
  refine lv_icmp_lt (tgt := 18) hx hb dX6_goDeals_8 (by decide) (fun c1 => ?_) (fun c1 => ?_)
  · have hB := hB.1 c1
    refine lv_iconst (v := 0) hx hb dX6_goDeals_18 (by decide) ?_
    refine lv_istore (lv' := [(5, .int (0 : Int32)), (0, .ref (ad G 10)), (1, .int x1), (2, .int x2), (3, .int x3), (4, .int x4)]) hx hb dX6_goDeals_19 hl (by decide) rfl (fun ls hl => ?_)
    obtain ⟨n2, hB⟩ := hB
    exact wl_Rows_goDeals_21 S hE hA hRf hRl hq hfb hret n2 x1 x2 x3 x4 (0 : Int32) z0 hB _ _ _ hP hD hS (lv_sub hl [1, 2, 3, 4, 5, 0] rfl)
  · have hB := hB.2 c1
    refine lv_aload_n hx hb dX6_goDeals_11 rfl (lv_at hl 0 rfl) ?_
    refine lv_iload_n hx hb dX6_goDeals_12 rfl (lv_at hl 2 rfl) ?_
    refine lv_iload_n hx hb dX6_goDeals_13 rfl (lv_at hl 3 rfl) ?_
    refine xcVv [.int x2, .int x3] S hE hA hP hD hS (c_Rows_weigh l G z0 H.size x2 x3 _) hB (gw_c lk_X6_74 (gw_c wi_X6_weigh (gw_c we_X6_X6_weigh_X6_weigh (gw_c wn_X6 (gw_c wc_X6_weigh (fun _ h9 => h9)))))) hd_X6_weigh rfl rfl (Nat.le_trans (show 0 + 1 ≤ frec + 1 by omega) hRf) (Nat.le_trans (show 8 + (3 + 11) + (0) ≤ lrec + 40 by omega) hRl) ⟨Nat.zero_le _, Nat.zero_le _⟩ (va_recv hE.1 hP (ci := 5) (q0 := 10) rfl rfl) rfl hl.1 rfl (Nat.le_of_ble_eq_true rfl) dX6_goDeals_14 (fun z1 H locs hB hP hD hS => ?_)
    exact hret _ _ _ _ _ dX6_goDeals_17 hB hP hD hS
set_option maxHeartbeats 4000000 in
set_option maxRecDepth 100000 in
theorem c_Rows_goDeals (l : Launch) {rq : (St → Prop) → Int32 → Int32 → Int32 → Int32 → St → Prop} {frec lrec : Nat} (hq : ∀ (G : GX) (z0 : St) (sz : Nat) (x1 : Int32) (x2 : Int32) (x3 : Int32) (x4 : Int32) (post : St → Prop), MetV l wX yX6_goDeals cX6_goDeals 7 none { frames := frec, cells := 0, slots := 0, locals := lrec } [.ref (ad G 10), .int x1, .int x2, .int x3, .int x4] G z0 sz (rq post x1 x2 x3 x4 z0) post) (hfb : 1 ≤ frec ∧ 22 ≤ lrec) (G : GX) (z0 : St) (sz : Nat) (x1 : Int32) (x2 : Int32) (x3 : Int32) (x4 : Int32) (post : St → Prop) : MetV l wX yX6_goDeals cX6_goDeals 7 none ({ frames := frec + 1, cells := 0, slots := 0, locals := lrec + 40 }) [.ref (ad G 10), .int x1, .int x2, .int x3, .int x4] G z0 sz (S_Rows_goDeals rq post x1 x2 x3 x4 z0) post := by
  refine Met.ofW (cc := cX6_goDeals) (maxL := 7) (ret := none) (by decide) rfl ?_
  intro p e s m args below meth c s₁ B hml hv
  obtain ⟨rfl, hsz, hP, hD0, hE, hB⟩ := hv
  have S : CallFix p m c cX6_goDeals 7 s _ GW RX6 := ⟨B.exec, B.bytes, hml, findClass_of_methodNamed B.named, fun w h => atoms_spec (ws := Cond.code yX6_goDeals cX6_goDeals 7 none :: GW) B.pre w (List.mem_cons_of_mem _ h)⟩
  have hlocks := B.notSynchronized
  subst hsz
  have hD := hD0.self (sz := s.heap.size)
  generalize hAe : va_A (wX G z0) s.heap.size = A at hD hE ⊢
  have hA : ∀ q : Nat, s.heap.size ≤ q → A q := fun q h => by rw [← hAe]; exact Or.inr h
  have hS : va_S A s.heap s.heap [] := va_S.rf
  have hl := lv_entry ([.ref (ad G 10), .int x1, .int x2, .int x3, .int x4]) (n := 7) (Nat.le_of_ble_eq_true rfl)
  rw [lg_entry_eq]
  generalize (lg_sl ([.ref (ad G 10), .int x1, .int x2, .int x3, .int x4]) ++ List.replicate (7 - (lg_sl ([.ref (ad G 10), .int x1, .int x2, .int x3, .int x4])).length) Slot.unset).toArray = ls at hl ⊢
  have hl : lv_has ls 7 [(0, .ref (ad G 10)), (1, .int x1), (2, .int x2), (3, .int x3), (4, .int x4)] := hl
  refine w_Rows_goDeals_0 S hE hA (Nat.le_refl _) (Nat.le_refl _) hq hfb ?_ x1 x2 x3 x4 z0 hB _ _ _ hP hD hS hl
  intro pc ls σ H locs hd hp hP hD hS
  exact W.vret B.exec B.bytes B.returns (fun t ht hW => ⟨⟨σ, rfl, hp, by rw [ht]; exact hP, hD⟩, hS.F ht⟩) hS.2.2 hd
def D_Rows_goDeals : Nat → (St → Prop) → Int32 → Int32 → Int32 → Int32 → St → Prop
  | 0 => fun _ _ _ _ _ _ => False
  | d + 1 => S_Rows_goDeals (D_Rows_goDeals d)
theorem cd_Rows_goDeals (l : Launch) : ∀ (d : Nat) (G : GX) (z0 : St) (sz : Nat) (x1 : Int32) (x2 : Int32) (x3 : Int32) (x4 : Int32) (post : St → Prop), MetV l wX yX6_goDeals cX6_goDeals 7 none { frames := 1 + 1 * d, cells := 0, slots := 0, locals := 22 + 40 * d } [.ref (ad G 10), .int x1, .int x2, .int x3, .int x4] G z0 sz (D_Rows_goDeals d post x1 x2 x3 x4 z0) post := by
  intro d
  induction d with
  | zero => exact fun G z0 sz x1 x2 x3 x4 post => Met.never (by decide) rfl (fun _ _ h => h.2.2.2.2.2)
  | succ d ih =>
    intro G z0 sz x1 x2 x3 x4 post
    have h9 := c_Rows_goDeals l ih ⟨by omega, by omega⟩ G z0 sz x1 x2 x3 x4 post
    rw [show 1 + 1 * d + 1 = 1 + 1 * (d + 1) by omega, show 22 + 40 * d + 40 = 22 + 40 * (d + 1) by omega] at h9
    exact h9
def S_Rows_searchDeals (post : St → Prop) (z0 : St) : Prop :=
  (S_Rows_forget (fun (z1 : St) => (D_Rows_goDeals 8 (fun (z2 : St) => (post z2)) (0 : Int32) (0 : Int32) (0 : Int32) (0 : Int32) z1)) z0)
set_option maxHeartbeats 4000000 in
set_option maxRecDepth 100000 in
theorem w_Rows_searchDeals_0 {p : Program} {l : Launch} {e : Env} {R : Room} {s : State} {m : MethodId} {args : Array Value} {below : List Frame} {meth : Method} {c : Code} {Q : State → Prop} {G : GX} {A : Nat → Prop} (S : CallFix p m c cX6_searchDeals 1 s args GW RX6) (hE : env G A s s.heap) (hA : ∀ q, s.heap.size ≤ q → A q) (hRf : 10 ≤ R.frames) (hRl : 368 ≤ R.locals) {post : St → Prop} (hret : RetV p l e R s m args below meth c Q 0 0 wX G A cX6_searchDeals post) (z0 : St) (hB : S_Rows_searchDeals post z0) : Xw p l e R s m args below meth c Q 0 0 wX G A z0 1 [(0, .ref (ad G 10))] 0 [] := by
  intro H locs ls hP hD hS hl
  have hx := S.1
  have hb := S.2.1
  refine lv_aload_n hx hb dX6_searchDeals_0 rfl (lv_at hl 0 rfl) ?_
  refine xcVv [] S hE hA hP hD hS (c_Rows_forget l G z0 H.size _) hB (gw_c lk_X6_33 (gw_c wi_X6_forget (gw_c we_X6_X6_forget_X6_forget (gw_c wn_X6 (gw_c wc_X6_forget (fun _ h9 => h9)))))) hd_X6_forget rfl rfl (Nat.le_trans (Nat.le_of_ble_eq_true rfl) hRf) (Nat.le_trans (Nat.le_of_ble_eq_true rfl) hRl) ⟨Nat.zero_le _, Nat.zero_le _⟩ (va_recv hE.1 hP (ci := 5) (q0 := 10) rfl rfl) rfl hl.1 rfl (Nat.le_of_ble_eq_true rfl) dX6_searchDeals_1 (fun z1 H locs hB hP hD hS => ?_)
  refine lv_aload_n hx hb dX6_searchDeals_4 rfl (lv_at hl 0 rfl) ?_
  refine lv_iconst (v := 0) hx hb dX6_searchDeals_5 (by decide) ?_
  refine lv_iconst (v := 0) hx hb dX6_searchDeals_6 (by decide) ?_
  refine lv_iconst (v := 0) hx hb dX6_searchDeals_7 (by decide) ?_
  refine lv_iconst (v := 0) hx hb dX6_searchDeals_8 (by decide) ?_
  refine xcVv [.int (0 : Int32), .int (0 : Int32), .int (0 : Int32), .int (0 : Int32)] S hE hA hP hD hS (cd_Rows_goDeals l 8 G z1 H.size (0 : Int32) (0 : Int32) (0 : Int32) (0 : Int32) _) hB (gw_c lk_X6_50 (gw_c wi_X6_goDeals (gw_c we_X6_X6_goDeals_X6_goDeals (gw_c wn_X6 (gw_c wc_X6_goDeals (fun _ h9 => h9)))))) hd_X6_goDeals rfl rfl (Nat.le_trans (Nat.le_of_ble_eq_true rfl) hRf) (Nat.le_trans (Nat.le_of_ble_eq_true rfl) hRl) ⟨Nat.zero_le _, Nat.zero_le _⟩ (va_recv hE.1 hP (ci := 5) (q0 := 10) rfl rfl) rfl hl.1 rfl (Nat.le_of_ble_eq_true rfl) dX6_searchDeals_9 (fun z2 H locs hB hP hD hS => ?_)
  exact hret _ _ _ _ _ dX6_searchDeals_12 hB hP hD hS
set_option maxHeartbeats 4000000 in
set_option maxRecDepth 100000 in
theorem c_Rows_searchDeals (l : Launch) (G : GX) (z0 : St) (sz : Nat) (post : St → Prop) : MetV l wX yX6_searchDeals cX6_searchDeals 1 none ({ frames := 10, cells := 0, slots := 0, locals := 368 }) [.ref (ad G 10)] G z0 sz (S_Rows_searchDeals post z0) post := by
  refine Met.ofW (cc := cX6_searchDeals) (maxL := 1) (ret := none) (by decide) rfl ?_
  intro p e s m args below meth c s₁ B hml hv
  obtain ⟨rfl, hsz, hP, hD0, hE, hB⟩ := hv
  have S : CallFix p m c cX6_searchDeals 1 s _ GW RX6 := ⟨B.exec, B.bytes, hml, findClass_of_methodNamed B.named, fun w h => atoms_spec (ws := Cond.code yX6_searchDeals cX6_searchDeals 1 none :: GW) B.pre w (List.mem_cons_of_mem _ h)⟩
  have hlocks := B.notSynchronized
  subst hsz
  have hD := hD0.self (sz := s.heap.size)
  generalize hAe : va_A (wX G z0) s.heap.size = A at hD hE ⊢
  have hA : ∀ q : Nat, s.heap.size ≤ q → A q := fun q h => by rw [← hAe]; exact Or.inr h
  have hS : va_S A s.heap s.heap [] := va_S.rf
  have hl := lv_entry ([.ref (ad G 10)]) (n := 1) (Nat.le_of_ble_eq_true rfl)
  rw [lg_entry_eq]
  generalize (lg_sl ([.ref (ad G 10)]) ++ List.replicate (1 - (lg_sl ([.ref (ad G 10)])).length) Slot.unset).toArray = ls at hl ⊢
  have hl : lv_has ls 1 [(0, .ref (ad G 10))] := hl
  refine w_Rows_searchDeals_0 S hE hA (Nat.le_refl _) (Nat.le_refl _) ?_  z0 hB _ _ _ hP hD hS hl
  intro pc ls σ H locs hd hp hP hD hS
  exact W.vret B.exec B.bytes B.returns (fun t ht hW => ⟨⟨σ, rfl, hp, by rw [ht]; exact hP, hD⟩, hS.F ht⟩) hS.2.2 hd
def S_B_dealt (post : Int32 → St → Prop) (x1 : Int32) (z0 : St) : Prop :=
  (S_House_isTold (fun (r1 : Int32) (z1 : St) => ((r1 = 0 → (post (-1 : Int32) z1)) ∧ (¬ r1 = 0 → (((gI z1 26) < (gI z1 27) → (post (-1 : Int32) z1)) ∧ (¬ (gI z1 26) < (gI z1 27) → ((x1 < 0 → (post (-1 : Int32) z1)) ∧ (¬ x1 < 0 → ((x1 ≤ (1 : Int32) → (S_Rows_searchDeals (fun (z2 : St) => ((x1 = 0 → (post (gI z2 36) z2)) ∧ (¬ x1 = 0 → (post (gI z2 37) z2)))) z1)) ∧ (¬ x1 ≤ (1 : Int32) → (post (-1 : Int32) z1)))))))))) z0)
set_option maxHeartbeats 4000000 in
set_option maxRecDepth 100000 in
theorem w_B_dealt_0 {p : Program} {l : Launch} {e : Env} {R : Room} {s : State} {m : MethodId} {args : Array Value} {below : List Frame} {meth : Method} {c : Code} {Q : State → Prop} {G : GX} {A : Nat → Prop} (S : CallFix p m c cX11_dealt 2 s args GW RX11) (hE : env G A s s.heap) (hA : ∀ q, s.heap.size ≤ q → A q) (hRf : 11 ≤ R.frames) (hRl : 388 ≤ R.locals) {post : Int32 → St → Prop} (hret : RetI p l e R s m args below meth c Q 0 0 wX G A cX11_dealt post) (x1 : Int32) (z0 : St) (hB : S_B_dealt post x1 z0) : Xw p l e R s m args below meth c Q 0 0 wX G A z0 2 [(0, .ref (ad G 0)), (1, .int x1)] 0 [] := by
  intro H locs ls hP hD hS hl
  have hx := S.1
  have hb := S.2.1
  refine lv_aload_n hx hb dX11_dealt_0 rfl (lv_at hl 0 rfl) ?_
  refine xXg_0_house S hE hP lk_X11_64 dX11_dealt_1 ?_
  refine xcVi [] S hE hA hP hD hS (c_House_isTold l G z0 H.size _) hB (gw_c lk_X11_147 (gw_c wi_X0_isTold (gw_c we_X0_X0_isTold_X0_isTold (gw_c wn_X0 (gw_c wc_X0_isTold (fun _ h9 => h9)))))) hd_X0_isTold rfl rfl (Nat.le_trans (Nat.le_of_ble_eq_true rfl) hRf) (Nat.le_trans (Nat.le_of_ble_eq_true rfl) hRl) ⟨Nat.zero_le _, Nat.zero_le _⟩ (va_recv hE.1 hP (ci := 0) (q0 := 6) rfl rfl) rfl hl.1 rfl (Nat.le_of_ble_eq_true rfl) dX11_dealt_4 (fun r1 z1 H locs hB hP hD hS => ?_)
  refine lv_if_eq (tgt := 36) hx hb dX11_dealt_7 (by decide) (fun c2 => ?_) (fun c2 => ?_)
  · have hB := hB.1 c2
    refine lv_iconst (v := -1) hx hb dX11_dealt_36 (by decide) ?_
    exact hret _ _ _ _ _ _ dX11_dealt_37 hB hP hD hS
  · have hB := hB.2 c2
    refine lv_aload_n hx hb dX11_dealt_10 rfl (lv_at hl 0 rfl) ?_
    refine xXg_0_house S hE hP lk_X11_64 dX11_dealt_11 ?_
    refine xXg_6_drinks S hE hP lk_X11_325 dX11_dealt_14 ?_
    refine lv_aload_n hx hb dX11_dealt_17 rfl (lv_at hl 0 rfl) ?_
    refine xXg_0_house S hE hP lk_X11_64 dX11_dealt_18 ?_
    refine xXg_6_guests S hE hP lk_X11_137 dX11_dealt_21 ?_
    refine lv_icmp_lt (tgt := 36) hx hb dX11_dealt_24 (by decide) (fun c3 => ?_) (fun c3 => ?_)
    · have hB := hB.1 c3
      refine lv_iconst (v := -1) hx hb dX11_dealt_36 (by decide) ?_
      exact hret _ _ _ _ _ _ dX11_dealt_37 hB hP hD hS
    · have hB := hB.2 c3
      refine lv_iload_n hx hb dX11_dealt_27 rfl (lv_at hl 1 rfl) ?_
      refine lv_if_lt (tgt := 36) hx hb dX11_dealt_28 (by decide) (fun c4 => ?_) (fun c4 => ?_)
      · have hB := hB.1 c4
        refine lv_iconst (v := -1) hx hb dX11_dealt_36 (by decide) ?_
        exact hret _ _ _ _ _ _ dX11_dealt_37 hB hP hD hS
      · have hB := hB.2 c4
        refine lv_iload_n hx hb dX11_dealt_31 rfl (lv_at hl 1 rfl) ?_
        refine lv_iconst (v := 1) hx hb dX11_dealt_32 (by decide) ?_
        refine lv_icmp_le (tgt := 38) hx hb dX11_dealt_33 (by decide) (fun c5 => ?_) (fun c5 => ?_)
        · have hB := hB.1 c5
          refine lv_aload_n hx hb dX11_dealt_38 rfl (lv_at hl 0 rfl) ?_
          refine xXg_0_rows S hE hP lk_X11_84 dX11_dealt_39 ?_
          refine xcVv [] S hE hA hP hD hS (c_Rows_searchDeals l G z1 H.size _) hB (gw_c lk_X11_332 (gw_c wi_X6_searchDeals (gw_c we_X6_X6_searchDeals_X6_searchDeals (gw_c wn_X6 (gw_c wc_X6_searchDeals (fun _ h9 => h9)))))) hd_X6_searchDeals rfl rfl (Nat.le_trans (Nat.le_of_ble_eq_true rfl) hRf) (Nat.le_trans (Nat.le_of_ble_eq_true rfl) hRl) ⟨Nat.zero_le _, Nat.zero_le _⟩ (va_recv hE.1 hP (ci := 5) (q0 := 10) rfl rfl) rfl hl.1 rfl (Nat.le_of_ble_eq_true rfl) dX11_dealt_42 (fun z2 H locs hB hP hD hS => ?_)
          refine lv_iload_n hx hb dX11_dealt_45 rfl (lv_at hl 1 rfl) ?_
          refine lv_if_ne (tgt := 59) hx hb dX11_dealt_46 (by decide) (fun c6 => ?_) (fun c6 => ?_)
          · have hB := hB.2 c6
            refine lv_aload_n hx hb dX11_dealt_59 rfl (lv_at hl 0 rfl) ?_
            refine xXg_0_rows S hE hP lk_X11_84 dX11_dealt_60 ?_
            refine xXg_10_topJoy S hE hP lk_X11_290 dX11_dealt_63 ?_
            exact hret _ _ _ _ _ _ dX11_dealt_66 hB hP hD hS
          · have hB := hB.1 c6
            refine lv_aload_n hx hb dX11_dealt_49 rfl (lv_at hl 0 rfl) ?_
            refine xXg_0_rows S hE hP lk_X11_84 dX11_dealt_50 ?_
            refine xXg_10_topRow S hE hP lk_X11_287 dX11_dealt_53 ?_
            refine lv_goto (tgt := 66) hx hb dX11_dealt_56 (by decide) ?_
            exact hret _ _ _ _ _ _ dX11_dealt_66 hB hP hD hS
        · have hB := hB.2 c5
          refine lv_iconst (v := -1) hx hb dX11_dealt_36 (by decide) ?_
          exact hret _ _ _ _ _ _ dX11_dealt_37 hB hP hD hS
set_option maxHeartbeats 4000000 in
set_option maxRecDepth 100000 in
theorem c_B_dealt (l : Launch) (G : GX) (z0 : St) (sz : Nat) (x1 : Int32) (post : Int32 → St → Prop) : MetI l wX yX11_dealt cX11_dealt 2 (some .int) ({ frames := 11, cells := 0, slots := 0, locals := 388 }) [.ref (ad G 0), .int x1] G z0 sz (S_B_dealt post x1 z0) post := by
  refine Met.ofW (cc := cX11_dealt) (maxL := 2) (ret := (some .int)) (by decide) rfl ?_
  intro p e s m args below meth c s₁ B hml hv
  obtain ⟨rfl, hsz, hP, hD0, hE, hB⟩ := hv
  have S : CallFix p m c cX11_dealt 2 s _ GW RX11 := ⟨B.exec, B.bytes, hml, findClass_of_methodNamed B.named, fun w h => atoms_spec (ws := Cond.code yX11_dealt cX11_dealt 2 (some .int) :: GW) B.pre w (List.mem_cons_of_mem _ h)⟩
  have hlocks := B.notSynchronized
  subst hsz
  have hD := hD0.self (sz := s.heap.size)
  generalize hAe : va_A (wX G z0) s.heap.size = A at hD hE ⊢
  have hA : ∀ q : Nat, s.heap.size ≤ q → A q := fun q h => by rw [← hAe]; exact Or.inr h
  have hS : va_S A s.heap s.heap [] := va_S.rf
  have hl := lv_entry ([.ref (ad G 0), .int x1]) (n := 2) (Nat.le_of_ble_eq_true rfl)
  rw [lg_entry_eq]
  generalize (lg_sl ([.ref (ad G 0), .int x1]) ++ List.replicate (2 - (lg_sl ([.ref (ad G 0), .int x1])).length) Slot.unset).toArray = ls at hl ⊢
  have hl : lv_has ls 2 [(0, .ref (ad G 0)), (1, .int x1)] := hl
  refine w_B_dealt_0 S hE hA (Nat.le_refl _) (Nat.le_refl _) ?_ x1 z0 hB _ _ _ hP hD hS hl
  intro pc ls r σ H locs hd hp hP hD hS
  exact W.iret (v := r) B.exec B.bytes B.returns (fun t ht hW => ⟨⟨r, σ, rfl, hp, by rw [ht]; exact hP, hD⟩, hS.F ht⟩) hS.2.2 hd
def S_B_odds (post : Int32 → St → Prop) (x1 : Int32) (x2 : Int32) (z0 : St) : Prop :=
  (S_House_hasDrink (fun (r1 : Int32) (z1 : St) => ((r1 = 0 → (post (-1 : Int32) z1)) ∧ (¬ r1 = 0 → ((x2 < 0 → (post (-1 : Int32) z1)) ∧ (¬ x2 < 0 → ((x2 ≤ (4 : Int32) → (S_Rows_aim (fun (z2 : St) => (S_Rows_search (fun (z3 : St) => (post (gI z3 40) z3)) x2 (0 : Int32) z2)) x1 (0 : Int32) (-1 : Int32) z1)) ∧ (¬ x2 ≤ (4 : Int32) → (post (-1 : Int32) z1)))))))) x1 z0)
set_option maxHeartbeats 4000000 in
set_option maxRecDepth 100000 in
theorem w_B_odds_0 {p : Program} {l : Launch} {e : Env} {R : Room} {s : State} {m : MethodId} {args : Array Value} {below : List Frame} {meth : Method} {c : Code} {Q : State → Prop} {G : GX} {A : Nat → Prop} (S : CallFix p m c cX11_odds 3 s args GW RX11) (hE : env G A s s.heap) (hA : ∀ q, s.heap.size ≤ q → A q) (hRf : 14 ≤ R.frames) (hRl : 473 ≤ R.locals) {post : Int32 → St → Prop} (hret : RetI p l e R s m args below meth c Q 0 0 wX G A cX11_odds post) (x1 : Int32) (x2 : Int32) (z0 : St) (hB : S_B_odds post x1 x2 z0) : Xw p l e R s m args below meth c Q 0 0 wX G A z0 3 [(0, .ref (ad G 0)), (1, .int x1), (2, .int x2)] 0 [] := by
  intro H locs ls hP hD hS hl
  have hx := S.1
  have hb := S.2.1
  refine lv_aload_n hx hb dX11_odds_0 rfl (lv_at hl 0 rfl) ?_
  refine xXg_0_house S hE hP lk_X11_64 dX11_odds_1 ?_
  refine lv_iload_n hx hb dX11_odds_4 rfl (lv_at hl 1 rfl) ?_
  refine xcVi [.int x1] S hE hA hP hD hS (c_House_hasDrink l G z0 H.size x1 _) hB (gw_c lk_X11_160 (gw_c wi_X0_hasDrink (gw_c we_X0_X0_hasDrink_X0_hasDrink (gw_c wn_X0 (gw_c wc_X0_hasDrink (fun _ h9 => h9)))))) hd_X0_hasDrink rfl rfl (Nat.le_trans (Nat.le_of_ble_eq_true rfl) hRf) (Nat.le_trans (Nat.le_of_ble_eq_true rfl) hRl) ⟨Nat.zero_le _, Nat.zero_le _⟩ (va_recv hE.1 hP (ci := 0) (q0 := 6) rfl rfl) rfl hl.1 rfl (Nat.le_of_ble_eq_true rfl) dX11_odds_5 (fun r1 z1 H locs hB hP hD hS => ?_)
  refine lv_if_eq (tgt := 20) hx hb dX11_odds_8 (by decide) (fun c2 => ?_) (fun c2 => ?_)
  · have hB := hB.1 c2
    refine lv_iconst (v := -1) hx hb dX11_odds_20 (by decide) ?_
    exact hret _ _ _ _ _ _ dX11_odds_21 hB hP hD hS
  · have hB := hB.2 c2
    refine lv_iload_n hx hb dX11_odds_11 rfl (lv_at hl 2 rfl) ?_
    refine lv_if_lt (tgt := 20) hx hb dX11_odds_12 (by decide) (fun c3 => ?_) (fun c3 => ?_)
    · have hB := hB.1 c3
      refine lv_iconst (v := -1) hx hb dX11_odds_20 (by decide) ?_
      exact hret _ _ _ _ _ _ dX11_odds_21 hB hP hD hS
    · have hB := hB.2 c3
      refine lv_iload_n hx hb dX11_odds_15 rfl (lv_at hl 2 rfl) ?_
      refine lv_iconst (v := 4) hx hb dX11_odds_16 (by decide) ?_
      refine lv_icmp_le (tgt := 22) hx hb dX11_odds_17 (by decide) (fun c4 => ?_) (fun c4 => ?_)
      · have hB := hB.1 c4
        refine lv_aload_n hx hb dX11_odds_22 rfl (lv_at hl 0 rfl) ?_
        refine xXg_0_rows S hE hP lk_X11_84 dX11_odds_23 ?_
        refine lv_iload_n hx hb dX11_odds_26 rfl (lv_at hl 1 rfl) ?_
        refine lv_iconst (v := 0) hx hb dX11_odds_27 (by decide) ?_
        refine lv_iconst (v := -1) hx hb dX11_odds_28 (by decide) ?_
        refine xcVv [.int x1, .int (0 : Int32), .int (-1 : Int32)] S hE hA hP hD hS (c_Rows_aim l G z1 H.size x1 (0 : Int32) (-1 : Int32) _) hB (gw_c lk_X11_293 (gw_c wi_X6_aim (gw_c we_X6_X6_aim_X6_aim (gw_c wn_X6 (gw_c wc_X6_aim (fun _ h9 => h9)))))) hd_X6_aim rfl rfl (Nat.le_trans (Nat.le_of_ble_eq_true rfl) hRf) (Nat.le_trans (Nat.le_of_ble_eq_true rfl) hRl) ⟨Nat.zero_le _, Nat.zero_le _⟩ (va_recv hE.1 hP (ci := 5) (q0 := 10) rfl rfl) rfl hl.1 rfl (Nat.le_of_ble_eq_true rfl) dX11_odds_29 (fun z2 H locs hB hP hD hS => ?_)
        refine lv_aload_n hx hb dX11_odds_32 rfl (lv_at hl 0 rfl) ?_
        refine xXg_0_rows S hE hP lk_X11_84 dX11_odds_33 ?_
        refine lv_iload_n hx hb dX11_odds_36 rfl (lv_at hl 2 rfl) ?_
        refine lv_iconst (v := 0) hx hb dX11_odds_37 (by decide) ?_
        refine xcVv [.int x2, .int (0 : Int32)] S hE hA hP hD hS (c_Rows_search l G z2 H.size x2 (0 : Int32) _) hB (gw_c lk_X11_283 (gw_c wi_X6_search (gw_c we_X6_X6_search_X6_search (gw_c wn_X6 (gw_c wc_X6_search (fun _ h9 => h9)))))) hd_X6_search rfl rfl (Nat.le_trans (Nat.le_of_ble_eq_true rfl) hRf) (Nat.le_trans (Nat.le_of_ble_eq_true rfl) hRl) ⟨Nat.zero_le _, Nat.zero_le _⟩ (va_recv hE.1 hP (ci := 5) (q0 := 10) rfl rfl) rfl hl.1 rfl (Nat.le_of_ble_eq_true rfl) dX11_odds_38 (fun z3 H locs hB hP hD hS => ?_)
        refine lv_aload_n hx hb dX11_odds_41 rfl (lv_at hl 0 rfl) ?_
        refine xXg_0_rows S hE hP lk_X11_84 dX11_odds_42 ?_
        refine xXg_10_hitParts S hE hP lk_X11_306 dX11_odds_45 ?_
        exact hret _ _ _ _ _ _ dX11_odds_48 hB hP hD hS
      · have hB := hB.2 c4
        refine lv_iconst (v := -1) hx hb dX11_odds_20 (by decide) ?_
        exact hret _ _ _ _ _ _ dX11_odds_21 hB hP hD hS
set_option maxHeartbeats 4000000 in
set_option maxRecDepth 100000 in
theorem c_B_odds (l : Launch) (G : GX) (z0 : St) (sz : Nat) (x1 : Int32) (x2 : Int32) (post : Int32 → St → Prop) : MetI l wX yX11_odds cX11_odds 3 (some .int) ({ frames := 14, cells := 0, slots := 0, locals := 473 }) [.ref (ad G 0), .int x1, .int x2] G z0 sz (S_B_odds post x1 x2 z0) post := by
  refine Met.ofW (cc := cX11_odds) (maxL := 3) (ret := (some .int)) (by decide) rfl ?_
  intro p e s m args below meth c s₁ B hml hv
  obtain ⟨rfl, hsz, hP, hD0, hE, hB⟩ := hv
  have S : CallFix p m c cX11_odds 3 s _ GW RX11 := ⟨B.exec, B.bytes, hml, findClass_of_methodNamed B.named, fun w h => atoms_spec (ws := Cond.code yX11_odds cX11_odds 3 (some .int) :: GW) B.pre w (List.mem_cons_of_mem _ h)⟩
  have hlocks := B.notSynchronized
  subst hsz
  have hD := hD0.self (sz := s.heap.size)
  generalize hAe : va_A (wX G z0) s.heap.size = A at hD hE ⊢
  have hA : ∀ q : Nat, s.heap.size ≤ q → A q := fun q h => by rw [← hAe]; exact Or.inr h
  have hS : va_S A s.heap s.heap [] := va_S.rf
  have hl := lv_entry ([.ref (ad G 0), .int x1, .int x2]) (n := 3) (Nat.le_of_ble_eq_true rfl)
  rw [lg_entry_eq]
  generalize (lg_sl ([.ref (ad G 0), .int x1, .int x2]) ++ List.replicate (3 - (lg_sl ([.ref (ad G 0), .int x1, .int x2])).length) Slot.unset).toArray = ls at hl ⊢
  have hl : lv_has ls 3 [(0, .ref (ad G 0)), (1, .int x1), (2, .int x2)] := hl
  refine w_B_odds_0 S hE hA (Nat.le_refl _) (Nat.le_refl _) ?_ x1 x2 z0 hB _ _ _ hP hD hS hl
  intro pc ls r σ H locs hd hp hP hD hS
  exact W.iret (v := r) B.exec B.bytes B.returns (fun t ht hW => ⟨⟨r, σ, rfl, hp, by rw [ht]; exact hP, hD⟩, hS.F ht⟩) hS.2.2 hd
def S_Table_wouldBring_8 (post : Int32 → St → Prop) (x1 : Int32) (x2 : Int32) (z0 : St) : Prop :=
  (vp_in x1 6 ∧ (vp_in ((10 : Int32) + x1) 28 ∧ (vp_in ((4 : Int32) + x1) 28 ∧ (S_Table_brings_8 (fun (r1 : Int32) (z1 : St) => (post r1 z1)) (gA z0 19 x1.toNatClampNeg) (gA z0 23 ((10 : Int32) + x1).toNatClampNeg) (gA z0 23 ((4 : Int32) + x1).toNatClampNeg) (gA z0 23 3) x2 z0))))
set_option maxHeartbeats 4000000 in
set_option maxRecDepth 100000 in
theorem w_Table_wouldBring_8_0 {p : Program} {l : Launch} {e : Env} {R : Room} {s : State} {m : MethodId} {args : Array Value} {below : List Frame} {meth : Method} {c : Code} {Q : State → Prop} {G : GX} {A : Nat → Prop} (S : CallFix p m c cX8_wouldBring 3 s args GW RX8) (hE : env G A s s.heap) (hA : ∀ q, s.heap.size ≤ q → A q) (hRf : 3 ≤ R.frames) (hRl : 76 ≤ R.locals) {post : Int32 → St → Prop} (hret : RetI p l e R s m args below meth c Q 0 0 wX G A cX8_wouldBring post) (x1 : Int32) (x2 : Int32) (z0 : St) (hB : S_Table_wouldBring_8 post x1 x2 z0) : Xw p l e R s m args below meth c Q 0 0 wX G A z0 3 [(0, .ref (ad G 8)), (1, .int x1), (2, .int x2)] 0 [] := by
  intro H locs ls hP hD hS hl
  have hx := S.1
  have hb := S.2.1
  refine lv_aload_n hx hb dX8_wouldBring_0 rfl (lv_at hl 0 rfl) ?_
  refine lv_aload_n hx hb dX8_wouldBring_1 rfl (lv_at hl 0 rfl) ?_
  refine xXg_8_house S hE hP lk_X8_15 dX8_wouldBring_2 ?_
  refine xXg_6_likes S hE hP lk_X8_97 dX8_wouldBring_5 ?_
  refine lv_iload_n hx hb dX8_wouldBring_8 rfl (lv_at hl 1 rfl) ?_
  obtain ⟨hi, hB⟩ := hB
  refine xXl_19 S hE hP hi dX8_wouldBring_9 ?_
  refine lv_aload_n hx hb dX8_wouldBring_10 rfl (lv_at hl 0 rfl) ?_
  refine xXg_8_cells S hE hP lk_X8_11 dX8_wouldBring_11 ?_
  refine lv_bipush (v := 10) hx hb dX8_wouldBring_14 (by decide) ?_
  refine lv_iload_n hx hb dX8_wouldBring_16 rfl (lv_at hl 1 rfl) ?_
  refine lv_iadd hx hb dX8_wouldBring_17 ?_
  obtain ⟨hi, hB⟩ := hB
  refine xXl_23 S hE hP hi dX8_wouldBring_18 ?_
  refine lv_aload_n hx hb dX8_wouldBring_19 rfl (lv_at hl 0 rfl) ?_
  refine xXg_8_cells S hE hP lk_X8_11 dX8_wouldBring_20 ?_
  refine lv_iconst (v := 4) hx hb dX8_wouldBring_23 (by decide) ?_
  refine lv_iload_n hx hb dX8_wouldBring_24 rfl (lv_at hl 1 rfl) ?_
  refine lv_iadd hx hb dX8_wouldBring_25 ?_
  obtain ⟨hi, hB⟩ := hB
  refine xXl_23 S hE hP hi dX8_wouldBring_26 ?_
  refine lv_aload_n hx hb dX8_wouldBring_27 rfl (lv_at hl 0 rfl) ?_
  refine xXg_8_cells S hE hP lk_X8_11 dX8_wouldBring_28 ?_
  refine lv_iconst (v := 3) hx hb dX8_wouldBring_31 (by decide) ?_
  refine xXk_23 S hE hP 3 (by decide) (by unfold vp_in; decide) dX8_wouldBring_32 ?_
  refine lv_iload_n hx hb dX8_wouldBring_33 rfl (lv_at hl 2 rfl) ?_
  refine xcVi [.int (gA z0 19 x1.toNatClampNeg), .int (gA z0 23 ((10 : Int32) + x1).toNatClampNeg), .int (gA z0 23 ((4 : Int32) + x1).toNatClampNeg), .int (gA z0 23 3), .int x2] S hE hA hP hD hS (c_Table_brings_8 l G z0 H.size (gA z0 19 x1.toNatClampNeg) (gA z0 23 ((10 : Int32) + x1).toNatClampNeg) (gA z0 23 ((4 : Int32) + x1).toNatClampNeg) (gA z0 23 3) x2 _) hB (gw_c lk_X8_103 (gw_c wi_X8_brings (gw_c we_X8_X8_brings_X8_brings (gw_c wn_X8 (gw_c wc_X8_brings (fun _ h9 => h9)))))) hd_X8_brings rfl rfl (Nat.le_trans (Nat.le_of_ble_eq_true rfl) hRf) (Nat.le_trans (Nat.le_of_ble_eq_true rfl) hRl) ⟨Nat.zero_le _, Nat.zero_le _⟩ (va_recv hE.1 hP (ci := 7) (q0 := 8) rfl rfl) rfl hl.1 rfl (Nat.le_of_ble_eq_true rfl) dX8_wouldBring_34 (fun r1 z1 H locs hB hP hD hS => ?_)
  exact hret _ _ _ _ _ _ dX8_wouldBring_37 hB hP hD hS
set_option maxHeartbeats 4000000 in
set_option maxRecDepth 100000 in
theorem c_Table_wouldBring_8 (l : Launch) (G : GX) (z0 : St) (sz : Nat) (x1 : Int32) (x2 : Int32) (post : Int32 → St → Prop) : MetI l wX yX8_wouldBring cX8_wouldBring 3 (some .int) ({ frames := 3, cells := 0, slots := 0, locals := 76 }) [.ref (ad G 8), .int x1, .int x2] G z0 sz (S_Table_wouldBring_8 post x1 x2 z0) post := by
  refine Met.ofW (cc := cX8_wouldBring) (maxL := 3) (ret := (some .int)) (by decide) rfl ?_
  intro p e s m args below meth c s₁ B hml hv
  obtain ⟨rfl, hsz, hP, hD0, hE, hB⟩ := hv
  have S : CallFix p m c cX8_wouldBring 3 s _ GW RX8 := ⟨B.exec, B.bytes, hml, findClass_of_methodNamed B.named, fun w h => atoms_spec (ws := Cond.code yX8_wouldBring cX8_wouldBring 3 (some .int) :: GW) B.pre w (List.mem_cons_of_mem _ h)⟩
  have hlocks := B.notSynchronized
  subst hsz
  have hD := hD0.self (sz := s.heap.size)
  generalize hAe : va_A (wX G z0) s.heap.size = A at hD hE ⊢
  have hA : ∀ q : Nat, s.heap.size ≤ q → A q := fun q h => by rw [← hAe]; exact Or.inr h
  have hS : va_S A s.heap s.heap [] := va_S.rf
  have hl := lv_entry ([.ref (ad G 8), .int x1, .int x2]) (n := 3) (Nat.le_of_ble_eq_true rfl)
  rw [lg_entry_eq]
  generalize (lg_sl ([.ref (ad G 8), .int x1, .int x2]) ++ List.replicate (3 - (lg_sl ([.ref (ad G 8), .int x1, .int x2])).length) Slot.unset).toArray = ls at hl ⊢
  have hl : lv_has ls 3 [(0, .ref (ad G 8)), (1, .int x1), (2, .int x2)] := hl
  refine w_Table_wouldBring_8_0 S hE hA (Nat.le_refl _) (Nat.le_refl _) ?_ x1 x2 z0 hB _ _ _ hP hD hS hl
  intro pc ls r σ H locs hd hp hP hD hS
  exact W.iret (v := r) B.exec B.bytes B.returns (fun t ht hW => ⟨⟨r, σ, rfl, hp, by rw [ht]; exact hP, hD⟩, hS.F ht⟩) hS.2.2 hd
def S_B_makes (post : Int32 → St → Prop) (x1 : Int32) (x2 : Int32) (z0 : St) : Prop :=
  (S_House_hasGuest (fun (r1 : Int32) (z1 : St) => ((r1 = 0 → (post (-1000000 : Int32) z1)) ∧ (¬ r1 = 0 → (S_House_hasDrink (fun (r3 : Int32) (z2 : St) => ((r3 = 0 → (post (-1000000 : Int32) z2)) ∧ (¬ r3 = 0 → (S_Table_wouldBring_8 (fun (r5 : Int32) (z3 : St) => (post r5 z3)) x1 x2 z2)))) x2 z1)))) x1 z0)
set_option maxHeartbeats 4000000 in
set_option maxRecDepth 100000 in
theorem w_B_makes_0 {p : Program} {l : Launch} {e : Env} {R : Room} {s : State} {m : MethodId} {args : Array Value} {below : List Frame} {meth : Method} {c : Code} {Q : State → Prop} {G : GX} {A : Nat → Prop} (S : CallFix p m c cX11_makes 3 s args GW RX11) (hE : env G A s s.heap) (hA : ∀ q, s.heap.size ≤ q → A q) (hRf : 4 ≤ R.frames) (hRl : 98 ≤ R.locals) {post : Int32 → St → Prop} (hret : RetI p l e R s m args below meth c Q 0 0 wX G A cX11_makes post) (x1 : Int32) (x2 : Int32) (z0 : St) (hB : S_B_makes post x1 x2 z0) : Xw p l e R s m args below meth c Q 0 0 wX G A z0 3 [(0, .ref (ad G 0)), (1, .int x1), (2, .int x2)] 0 [] := by
  intro H locs ls hP hD hS hl
  have hx := S.1
  have hb := S.2.1
  refine lv_aload_n hx hb dX11_makes_0 rfl (lv_at hl 0 rfl) ?_
  refine xXg_0_house S hE hP lk_X11_64 dX11_makes_1 ?_
  refine lv_iload_n hx hb dX11_makes_4 rfl (lv_at hl 1 rfl) ?_
  refine xcVi [.int x1] S hE hA hP hD hS (c_House_hasGuest l G z0 H.size x1 _) hB (gw_c lk_X11_171 (gw_c wi_X0_hasGuest (gw_c we_X0_X0_hasGuest_X0_hasGuest (gw_c wn_X0 (gw_c wc_X0_hasGuest (fun _ h9 => h9)))))) hd_X0_hasGuest rfl rfl (Nat.le_trans (Nat.le_of_ble_eq_true rfl) hRf) (Nat.le_trans (Nat.le_of_ble_eq_true rfl) hRl) ⟨Nat.zero_le _, Nat.zero_le _⟩ (va_recv hE.1 hP (ci := 0) (q0 := 6) rfl rfl) rfl hl.1 rfl (Nat.le_of_ble_eq_true rfl) dX11_makes_5 (fun r1 z1 H locs hB hP hD hS => ?_)
  refine lv_if_eq (tgt := 22) hx hb dX11_makes_8 (by decide) (fun c2 => ?_) (fun c2 => ?_)
  · have hB := hB.1 c2
    refine lv_ldcw hx hb S.2.2.2.1 (S.2.2.2.2 _ lk_X11_264) dX11_makes_22 ?_
    exact hret _ _ _ _ _ _ dX11_makes_25 hB hP hD hS
  · have hB := hB.2 c2
    refine lv_aload_n hx hb dX11_makes_11 rfl (lv_at hl 0 rfl) ?_
    refine xXg_0_house S hE hP lk_X11_64 dX11_makes_12 ?_
    refine lv_iload_n hx hb dX11_makes_15 rfl (lv_at hl 2 rfl) ?_
    refine xcVi [.int x2] S hE hA hP hD hS (c_House_hasDrink l G z1 H.size x2 _) hB (gw_c lk_X11_160 (gw_c wi_X0_hasDrink (gw_c we_X0_X0_hasDrink_X0_hasDrink (gw_c wn_X0 (gw_c wc_X0_hasDrink (fun _ h9 => h9)))))) hd_X0_hasDrink rfl rfl (Nat.le_trans (Nat.le_of_ble_eq_true rfl) hRf) (Nat.le_trans (Nat.le_of_ble_eq_true rfl) hRl) ⟨Nat.zero_le _, Nat.zero_le _⟩ (va_recv hE.1 hP (ci := 0) (q0 := 6) rfl rfl) rfl hl.1 rfl (Nat.le_of_ble_eq_true rfl) dX11_makes_16 (fun r3 z2 H locs hB hP hD hS => ?_)
    refine lv_if_ne (tgt := 26) hx hb dX11_makes_19 (by decide) (fun c4 => ?_) (fun c4 => ?_)
    · have hB := hB.2 c4
      refine lv_aload_n hx hb dX11_makes_26 rfl (lv_at hl 0 rfl) ?_
      refine xXg_0_table S hE hP lk_X11_72 dX11_makes_27 ?_
      refine lv_iload_n hx hb dX11_makes_30 rfl (lv_at hl 1 rfl) ?_
      refine lv_iload_n hx hb dX11_makes_31 rfl (lv_at hl 2 rfl) ?_
      refine xcVi [.int x1, .int x2] S hE hA hP hD hS (c_Table_wouldBring_8 l G z2 H.size x1 x2 _) hB (gw_c lk_X11_335 (gw_c wi_X8_wouldBring (gw_c we_X8_X8_wouldBring_X8_wouldBring (gw_c wn_X8 (gw_c wc_X8_wouldBring (fun _ h9 => h9)))))) hd_X8_wouldBring rfl rfl (Nat.le_trans (Nat.le_of_ble_eq_true rfl) hRf) (Nat.le_trans (Nat.le_of_ble_eq_true rfl) hRl) ⟨Nat.zero_le _, Nat.zero_le _⟩ (va_recv hE.1 hP (ci := 7) (q0 := 8) rfl rfl) rfl hl.1 rfl (Nat.le_of_ble_eq_true rfl) dX11_makes_32 (fun r5 z3 H locs hB hP hD hS => ?_)
      exact hret _ _ _ _ _ _ dX11_makes_35 hB hP hD hS
    · have hB := hB.1 c4
      refine lv_ldcw hx hb S.2.2.2.1 (S.2.2.2.2 _ lk_X11_264) dX11_makes_22 ?_
      exact hret _ _ _ _ _ _ dX11_makes_25 hB hP hD hS
set_option maxHeartbeats 4000000 in
set_option maxRecDepth 100000 in
theorem c_B_makes (l : Launch) (G : GX) (z0 : St) (sz : Nat) (x1 : Int32) (x2 : Int32) (post : Int32 → St → Prop) : MetI l wX yX11_makes cX11_makes 3 (some .int) ({ frames := 4, cells := 0, slots := 0, locals := 98 }) [.ref (ad G 0), .int x1, .int x2] G z0 sz (S_B_makes post x1 x2 z0) post := by
  refine Met.ofW (cc := cX11_makes) (maxL := 3) (ret := (some .int)) (by decide) rfl ?_
  intro p e s m args below meth c s₁ B hml hv
  obtain ⟨rfl, hsz, hP, hD0, hE, hB⟩ := hv
  have S : CallFix p m c cX11_makes 3 s _ GW RX11 := ⟨B.exec, B.bytes, hml, findClass_of_methodNamed B.named, fun w h => atoms_spec (ws := Cond.code yX11_makes cX11_makes 3 (some .int) :: GW) B.pre w (List.mem_cons_of_mem _ h)⟩
  have hlocks := B.notSynchronized
  subst hsz
  have hD := hD0.self (sz := s.heap.size)
  generalize hAe : va_A (wX G z0) s.heap.size = A at hD hE ⊢
  have hA : ∀ q : Nat, s.heap.size ≤ q → A q := fun q h => by rw [← hAe]; exact Or.inr h
  have hS : va_S A s.heap s.heap [] := va_S.rf
  have hl := lv_entry ([.ref (ad G 0), .int x1, .int x2]) (n := 3) (Nat.le_of_ble_eq_true rfl)
  rw [lg_entry_eq]
  generalize (lg_sl ([.ref (ad G 0), .int x1, .int x2]) ++ List.replicate (3 - (lg_sl ([.ref (ad G 0), .int x1, .int x2])).length) Slot.unset).toArray = ls at hl ⊢
  have hl : lv_has ls 3 [(0, .ref (ad G 0)), (1, .int x1), (2, .int x2)] := hl
  refine w_B_makes_0 S hE hA (Nat.le_refl _) (Nat.le_refl _) ?_ x1 x2 z0 hB _ _ _ hP hD hS hl
  intro pc ls r σ H locs hd hp hP hD hS
  exact W.iret (v := r) B.exec B.bytes B.returns (fun t ht hW => ⟨⟨r, σ, rfl, hp, by rw [ht]; exact hP, hD⟩, hS.F ht⟩) hS.2.2 hd
def S_B_glad (post : Int32 → St → Prop) (x1 : Int32) (z0 : St) : Prop :=
  (S_House_hasGuest (fun (r1 : Int32) (z1 : St) => ((r1 = 0 → (post (-1 : Int32) z1)) ∧ (¬ r1 = 0 → (S_Table_gladness_8 (fun (r3 : Int32) (z2 : St) => (post r3 z2)) x1 z1)))) x1 z0)
set_option maxHeartbeats 4000000 in
set_option maxRecDepth 100000 in
theorem w_B_glad_0 {p : Program} {l : Launch} {e : Env} {R : Room} {s : State} {m : MethodId} {args : Array Value} {below : List Frame} {meth : Method} {c : Code} {Q : State → Prop} {G : GX} {A : Nat → Prop} (S : CallFix p m c cX11_glad 2 s args GW RX11) (hE : env G A s s.heap) (hA : ∀ q, s.heap.size ≤ q → A q) (hRf : 2 ≤ R.frames) (hRl : 43 ≤ R.locals) {post : Int32 → St → Prop} (hret : RetI p l e R s m args below meth c Q 0 0 wX G A cX11_glad post) (x1 : Int32) (z0 : St) (hB : S_B_glad post x1 z0) : Xw p l e R s m args below meth c Q 0 0 wX G A z0 2 [(0, .ref (ad G 0)), (1, .int x1)] 0 [] := by
  intro H locs ls hP hD hS hl
  have hx := S.1
  have hb := S.2.1
  refine lv_aload_n hx hb dX11_glad_0 rfl (lv_at hl 0 rfl) ?_
  refine xXg_0_house S hE hP lk_X11_64 dX11_glad_1 ?_
  refine lv_iload_n hx hb dX11_glad_4 rfl (lv_at hl 1 rfl) ?_
  refine xcVi [.int x1] S hE hA hP hD hS (c_House_hasGuest l G z0 H.size x1 _) hB (gw_c lk_X11_171 (gw_c wi_X0_hasGuest (gw_c we_X0_X0_hasGuest_X0_hasGuest (gw_c wn_X0 (gw_c wc_X0_hasGuest (fun _ h9 => h9)))))) hd_X0_hasGuest rfl rfl (Nat.le_trans (Nat.le_of_ble_eq_true rfl) hRf) (Nat.le_trans (Nat.le_of_ble_eq_true rfl) hRl) ⟨Nat.zero_le _, Nat.zero_le _⟩ (va_recv hE.1 hP (ci := 0) (q0 := 6) rfl rfl) rfl hl.1 rfl (Nat.le_of_ble_eq_true rfl) dX11_glad_5 (fun r1 z1 H locs hB hP hD hS => ?_)
  refine lv_if_eq (tgt := 22) hx hb dX11_glad_8 (by decide) (fun c2 => ?_) (fun c2 => ?_)
  · have hB := hB.1 c2
    refine lv_iconst (v := -1) hx hb dX11_glad_22 (by decide) ?_
    exact hret _ _ _ _ _ _ dX11_glad_23 hB hP hD hS
  · have hB := hB.2 c2
    refine lv_aload_n hx hb dX11_glad_11 rfl (lv_at hl 0 rfl) ?_
    refine xXg_0_table S hE hP lk_X11_72 dX11_glad_12 ?_
    refine lv_iload_n hx hb dX11_glad_15 rfl (lv_at hl 1 rfl) ?_
    refine xcVi [.int x1] S hE hA hP hD hS (c_Table_gladness_8 l G z1 H.size x1 _) hB (gw_c lk_X11_244 (gw_c wi_X8_gladness (gw_c we_X8_X8_gladness_X8_gladness (gw_c wn_X8 (gw_c wc_X8_gladness (fun _ h9 => h9)))))) hd_X8_gladness rfl rfl (Nat.le_trans (Nat.le_of_ble_eq_true rfl) hRf) (Nat.le_trans (Nat.le_of_ble_eq_true rfl) hRl) ⟨Nat.zero_le _, Nat.zero_le _⟩ (va_recv hE.1 hP (ci := 7) (q0 := 8) rfl rfl) rfl hl.1 rfl (Nat.le_of_ble_eq_true rfl) dX11_glad_16 (fun r3 z2 H locs hB hP hD hS => ?_)
    refine lv_goto (tgt := 23) hx hb dX11_glad_19 (by decide) ?_
    exact hret _ _ _ _ _ _ dX11_glad_23 hB hP hD hS
set_option maxHeartbeats 4000000 in
set_option maxRecDepth 100000 in
theorem c_B_glad (l : Launch) (G : GX) (z0 : St) (sz : Nat) (x1 : Int32) (post : Int32 → St → Prop) : MetI l wX yX11_glad cX11_glad 2 (some .int) ({ frames := 2, cells := 0, slots := 0, locals := 43 }) [.ref (ad G 0), .int x1] G z0 sz (S_B_glad post x1 z0) post := by
  refine Met.ofW (cc := cX11_glad) (maxL := 2) (ret := (some .int)) (by decide) rfl ?_
  intro p e s m args below meth c s₁ B hml hv
  obtain ⟨rfl, hsz, hP, hD0, hE, hB⟩ := hv
  have S : CallFix p m c cX11_glad 2 s _ GW RX11 := ⟨B.exec, B.bytes, hml, findClass_of_methodNamed B.named, fun w h => atoms_spec (ws := Cond.code yX11_glad cX11_glad 2 (some .int) :: GW) B.pre w (List.mem_cons_of_mem _ h)⟩
  have hlocks := B.notSynchronized
  subst hsz
  have hD := hD0.self (sz := s.heap.size)
  generalize hAe : va_A (wX G z0) s.heap.size = A at hD hE ⊢
  have hA : ∀ q : Nat, s.heap.size ≤ q → A q := fun q h => by rw [← hAe]; exact Or.inr h
  have hS : va_S A s.heap s.heap [] := va_S.rf
  have hl := lv_entry ([.ref (ad G 0), .int x1]) (n := 2) (Nat.le_of_ble_eq_true rfl)
  rw [lg_entry_eq]
  generalize (lg_sl ([.ref (ad G 0), .int x1]) ++ List.replicate (2 - (lg_sl ([.ref (ad G 0), .int x1])).length) Slot.unset).toArray = ls at hl ⊢
  have hl : lv_has ls 2 [(0, .ref (ad G 0)), (1, .int x1)] := hl
  refine w_B_glad_0 S hE hA (Nat.le_refl _) (Nat.le_refl _) ?_ x1 z0 hB _ _ _ hP hD hS hl
  intro pc ls r σ H locs hd hp hP hD hS
  exact W.iret (v := r) B.exec B.bytes B.returns (fun t ht hW => ⟨⟨r, σ, rfl, hp, by rw [ht]; exact hP, hD⟩, hS.F ht⟩) hS.2.2 hd
def B_Table_sourest_8_38 (post : Int32 → St → Prop) (ih4 : Int32 → Int32 → St → Prop) (x1 : Int32) (x2 : Int32) (z0 : St) : Prop :=
  (∀ v1 : Int32, v1 = x2 + (1 : Int32) → (ih4 x1 v1 z0))
set_option maxHeartbeats 4000000 in
set_option maxRecDepth 100000 in
theorem w_Table_sourest_8_38 {p : Program} {l : Launch} {e : Env} {R : Room} {s : State} {m : MethodId} {args : Array Value} {below : List Frame} {meth : Method} {c : Code} {Q : State → Prop} {G : GX} {A : Nat → Prop} (S : CallFix p m c cX8_sourest 3 s args GW RX8) (hE : env G A s s.heap) (hA : ∀ q, s.heap.size ≤ q → A q) (hRf : 0 ≤ R.frames) (hRl : 0 ≤ R.locals) {post : Int32 → St → Prop} (hret : RetI p l e R s m args below meth c Q 0 0 wX G A cX8_sourest post) {ih4 : Int32 → Int32 → St → Prop} (h4 : ∀ (x1 : Int32) (x2 : Int32) (z0 : St), ih4 x1 x2 z0 → Xw p l e R s m args below meth c Q 0 0 wX G A z0 3 [(0, .ref (ad G 8)), (1, .int x1), (2, .int x2)] 4 []) (x1 : Int32) (x2 : Int32) (z0 : St) (hB : B_Table_sourest_8_38 post ih4 x1 x2 z0) : Xw p l e R s m args below meth c Q 0 0 wX G A z0 3 [(0, .ref (ad G 8)), (1, .int x1), (2, .int x2)] 38 [] := by
  intro H locs ls hP hD hS hl
  have hx := S.1
  have hb := S.2.1
  obtain ⟨v1, ev1⟩ : ∃ y9, y9 = x2 + (1 : Int32) := ⟨_, rfl⟩
  have hB := hB v1 ev1
  refine lv_iinc (v := v1) (lv' := [(2, .int v1), (0, .ref (ad G 8)), (1, .int x1)]) hx hb dX8_sourest_38 hl (k := 2) rfl (by rw [ev1]; rfl) (by decide) rfl (fun ls hl => ?_)
  refine lv_goto (tgt := 4) hx hb dX8_sourest_41 (by decide) ?_
  exact h4 x1 v1 z0 hB _ _ _ hP hD hS (lv_sub hl [1, 2, 0] rfl)
def B_Table_sourest_8_4 (post : Int32 → St → Prop) (ih4 : Int32 → Int32 → St → Prop) (x1 : Int32) (x2 : Int32) (z0 : St) : Prop :=
  (((gI z0 27) ≤ x2 → (post x1 z0)) ∧ (¬ (gI z0 27) ≤ x2 → (vp_in ((10 : Int32) + x2) 28 ∧ (vp_in ((10 : Int32) + x1) 28 ∧ (((gA z0 23 ((10 : Int32) + x1).toNatClampNeg) ≤ (gA z0 23 ((10 : Int32) + x2).toNatClampNeg) → (B_Table_sourest_8_38 post ih4 x1 x2 z0)) ∧ (¬ (gA z0 23 ((10 : Int32) + x1).toNatClampNeg) ≤ (gA z0 23 ((10 : Int32) + x2).toNatClampNeg) → (B_Table_sourest_8_38 post ih4 x2 x2 z0)))))))
set_option maxHeartbeats 4000000 in
set_option maxRecDepth 100000 in
theorem w_Table_sourest_8_4 {p : Program} {l : Launch} {e : Env} {R : Room} {s : State} {m : MethodId} {args : Array Value} {below : List Frame} {meth : Method} {c : Code} {Q : State → Prop} {G : GX} {A : Nat → Prop} (S : CallFix p m c cX8_sourest 3 s args GW RX8) (hE : env G A s s.heap) (hA : ∀ q, s.heap.size ≤ q → A q) (hRf : 0 ≤ R.frames) (hRl : 0 ≤ R.locals) {post : Int32 → St → Prop} (hret : RetI p l e R s m args below meth c Q 0 0 wX G A cX8_sourest post) {ih4 : Int32 → Int32 → St → Prop} (h4 : ∀ (x1 : Int32) (x2 : Int32) (z0 : St), ih4 x1 x2 z0 → Xw p l e R s m args below meth c Q 0 0 wX G A z0 3 [(0, .ref (ad G 8)), (1, .int x1), (2, .int x2)] 4 []) (x1 : Int32) (x2 : Int32) (z0 : St) (hB : B_Table_sourest_8_4 post ih4 x1 x2 z0) : Xw p l e R s m args below meth c Q 0 0 wX G A z0 3 [(0, .ref (ad G 8)), (1, .int x1), (2, .int x2)] 4 [] := by
  intro H locs ls hP hD hS hl
  have hx := S.1
  have hb := S.2.1
  refine lv_iload_n hx hb dX8_sourest_4 rfl (lv_at hl 2 rfl) ?_
  refine lv_aload_n hx hb dX8_sourest_5 rfl (lv_at hl 0 rfl) ?_
  refine xXg_8_house S hE hP lk_X8_15 dX8_sourest_6 ?_
  refine xXg_6_guests S hE hP lk_X8_45 dX8_sourest_9 ?_
  refine lv_icmp_ge (tgt := 44) hx hb dX8_sourest_12 (by decide) (fun c1 => ?_) (fun c1 => ?_)
  · have hB := hB.1 c1
    refine lv_iload_n hx hb dX8_sourest_44 rfl (lv_at hl 1 rfl) ?_
    exact hret _ _ _ _ _ _ dX8_sourest_45 hB hP hD hS
  · have hB := hB.2 c1
    refine lv_aload_n hx hb dX8_sourest_15 rfl (lv_at hl 0 rfl) ?_
    refine xXg_8_cells S hE hP lk_X8_11 dX8_sourest_16 ?_
    refine lv_bipush (v := 10) hx hb dX8_sourest_19 (by decide) ?_
    refine lv_iload_n hx hb dX8_sourest_21 rfl (lv_at hl 2 rfl) ?_
    refine lv_iadd hx hb dX8_sourest_22 ?_
    obtain ⟨hi, hB⟩ := hB
    refine xXl_23 S hE hP hi dX8_sourest_23 ?_
    refine lv_aload_n hx hb dX8_sourest_24 rfl (lv_at hl 0 rfl) ?_
    refine xXg_8_cells S hE hP lk_X8_11 dX8_sourest_25 ?_
    refine lv_bipush (v := 10) hx hb dX8_sourest_28 (by decide) ?_
    refine lv_iload_n hx hb dX8_sourest_30 rfl (lv_at hl 1 rfl) ?_
    refine lv_iadd hx hb dX8_sourest_31 ?_
    obtain ⟨hi, hB⟩ := hB
    refine xXl_23 S hE hP hi dX8_sourest_32 ?_
    refine lv_icmp_ge (tgt := 38) hx hb dX8_sourest_33 (by decide) (fun c2 => ?_) (fun c2 => ?_)
    · have hB := hB.1 c2
      exact w_Table_sourest_8_38 S hE hA hRf hRl hret h4 x1 x2 z0 hB _ _ _ hP hD hS (lv_sub hl [0, 1, 2] rfl)
    · have hB := hB.2 c2
      refine lv_iload_n hx hb dX8_sourest_36 rfl (lv_at hl 2 rfl) ?_
      refine lv_istore_n (lv' := [(1, .int x2), (0, .ref (ad G 8)), (2, .int x2)]) hx hb dX8_sourest_37 rfl hl (by decide) rfl (fun ls hl => ?_)
      exact w_Table_sourest_8_38 S hE hA hRf hRl hret h4 x2 x2 z0 hB _ _ _ hP hD hS (lv_sub hl [1, 0, 2] rfl)
def L_Table_sourest_8_4 (post : Int32 → St → Prop) : Nat → Int32 → Int32 → St → Prop
  | 0 => fun _ _ _ => False
  | n + 1 => B_Table_sourest_8_4 post (L_Table_sourest_8_4 post n)
theorem wl_Table_sourest_8_4 {p : Program} {l : Launch} {e : Env} {R : Room} {s : State} {m : MethodId} {args : Array Value} {below : List Frame} {meth : Method} {c : Code} {Q : State → Prop} {G : GX} {A : Nat → Prop} (S : CallFix p m c cX8_sourest 3 s args GW RX8) (hE : env G A s s.heap) (hA : ∀ q, s.heap.size ≤ q → A q) (hRf : 0 ≤ R.frames) (hRl : 0 ≤ R.locals) {post : Int32 → St → Prop} (hret : RetI p l e R s m args below meth c Q 0 0 wX G A cX8_sourest post) : ∀ (n : Nat) (x1 : Int32) (x2 : Int32) (z0 : St), L_Table_sourest_8_4 post n x1 x2 z0 → Xw p l e R s m args below meth c Q 0 0 wX G A z0 3 [(0, .ref (ad G 8)), (1, .int x1), (2, .int x2)] 4 [] := by
  intro n
  induction n with
  | zero => intro x1 x2 z0 hB; exact absurd hB id
  | succ n ih => exact fun x1 x2 z0 hB => w_Table_sourest_8_4 S hE hA hRf hRl hret ih x1 x2 z0 hB
def S_Table_sourest_8 (post : Int32 → St → Prop) (z0 : St) : Prop :=
  (∃ n1, L_Table_sourest_8_4 post n1 (0 : Int32) (1 : Int32) z0)
set_option maxHeartbeats 4000000 in
set_option maxRecDepth 100000 in
theorem w_Table_sourest_8_0 {p : Program} {l : Launch} {e : Env} {R : Room} {s : State} {m : MethodId} {args : Array Value} {below : List Frame} {meth : Method} {c : Code} {Q : State → Prop} {G : GX} {A : Nat → Prop} (S : CallFix p m c cX8_sourest 3 s args GW RX8) (hE : env G A s s.heap) (hA : ∀ q, s.heap.size ≤ q → A q) (hRf : 0 ≤ R.frames) (hRl : 0 ≤ R.locals) {post : Int32 → St → Prop} (hret : RetI p l e R s m args below meth c Q 0 0 wX G A cX8_sourest post) (z0 : St) (hB : S_Table_sourest_8 post z0) : Xw p l e R s m args below meth c Q 0 0 wX G A z0 3 [(0, .ref (ad G 8))] 0 [] := by
  intro H locs ls hP hD hS hl
  have hx := S.1
  have hb := S.2.1
  refine lv_iconst (v := 0) hx hb dX8_sourest_0 (by decide) ?_
  refine lv_istore_n (lv' := [(1, .int (0 : Int32)), (0, .ref (ad G 8))]) hx hb dX8_sourest_1 rfl hl (by decide) rfl (fun ls hl => ?_)
  refine lv_iconst (v := 1) hx hb dX8_sourest_2 (by decide) ?_
  refine lv_istore_n (lv' := [(2, .int (1 : Int32)), (1, .int (0 : Int32)), (0, .ref (ad G 8))]) hx hb dX8_sourest_3 rfl hl (by decide) rfl (fun ls hl => ?_)
  obtain ⟨n1, hB⟩ := hB
  exact wl_Table_sourest_8_4 S hE hA hRf hRl hret n1 (0 : Int32) (1 : Int32) z0 hB _ _ _ hP hD hS (lv_sub hl [2, 1, 0] rfl)
set_option maxHeartbeats 4000000 in
set_option maxRecDepth 100000 in
theorem c_Table_sourest_8 (l : Launch) (G : GX) (z0 : St) (sz : Nat) (post : Int32 → St → Prop) : MetI l wX yX8_sourest cX8_sourest 3 (some .int) ({ frames := 0, cells := 0, slots := 0, locals := 0 }) [.ref (ad G 8)] G z0 sz (S_Table_sourest_8 post z0) post := by
  refine Met.ofW (cc := cX8_sourest) (maxL := 3) (ret := (some .int)) (by decide) rfl ?_
  intro p e s m args below meth c s₁ B hml hv
  obtain ⟨rfl, hsz, hP, hD0, hE, hB⟩ := hv
  have S : CallFix p m c cX8_sourest 3 s _ GW RX8 := ⟨B.exec, B.bytes, hml, findClass_of_methodNamed B.named, fun w h => atoms_spec (ws := Cond.code yX8_sourest cX8_sourest 3 (some .int) :: GW) B.pre w (List.mem_cons_of_mem _ h)⟩
  have hlocks := B.notSynchronized
  subst hsz
  have hD := hD0.self (sz := s.heap.size)
  generalize hAe : va_A (wX G z0) s.heap.size = A at hD hE ⊢
  have hA : ∀ q : Nat, s.heap.size ≤ q → A q := fun q h => by rw [← hAe]; exact Or.inr h
  have hS : va_S A s.heap s.heap [] := va_S.rf
  have hl := lv_entry ([.ref (ad G 8)]) (n := 3) (Nat.le_of_ble_eq_true rfl)
  rw [lg_entry_eq]
  generalize (lg_sl ([.ref (ad G 8)]) ++ List.replicate (3 - (lg_sl ([.ref (ad G 8)])).length) Slot.unset).toArray = ls at hl ⊢
  have hl : lv_has ls 3 [(0, .ref (ad G 8))] := hl
  refine w_Table_sourest_8_0 S hE hA (Nat.le_refl _) (Nat.le_refl _) ?_  z0 hB _ _ _ hP hD hS hl
  intro pc ls r σ H locs hd hp hP hD hS
  exact W.iret (v := r) B.exec B.bytes B.returns (fun t ht hW => ⟨⟨r, σ, rfl, hp, by rw [ht]; exact hP, hD⟩, hS.F ht⟩) hS.2.2 hd
def B_Table_guestWithMost_8_36 (post : Int32 → St → Prop) (ih4 : Int32 → Int32 → Int32 → St → Prop) (x1 : Int32) (x2 : Int32) (x3 : Int32) (z0 : St) : Prop :=
  (∀ v1 : Int32, v1 = x3 + (1 : Int32) → (ih4 x1 x2 v1 z0))
set_option maxHeartbeats 4000000 in
set_option maxRecDepth 100000 in
theorem w_Table_guestWithMost_8_36 {p : Program} {l : Launch} {e : Env} {R : Room} {s : State} {m : MethodId} {args : Array Value} {below : List Frame} {meth : Method} {c : Code} {Q : State → Prop} {G : GX} {A : Nat → Prop} (S : CallFix p m c cX8_guestWithMost 4 s args GW RX8) (hE : env G A s s.heap) (hA : ∀ q, s.heap.size ≤ q → A q) (hRf : 0 ≤ R.frames) (hRl : 0 ≤ R.locals) {post : Int32 → St → Prop} (hret : RetI p l e R s m args below meth c Q 0 0 wX G A cX8_guestWithMost post) {ih4 : Int32 → Int32 → Int32 → St → Prop} (h4 : ∀ (x1 : Int32) (x2 : Int32) (x3 : Int32) (z0 : St), ih4 x1 x2 x3 z0 → Xw p l e R s m args below meth c Q 0 0 wX G A z0 4 [(0, .ref (ad G 8)), (1, .int x1), (2, .int x2), (3, .int x3)] 4 []) (x1 : Int32) (x2 : Int32) (x3 : Int32) (z0 : St) (hB : B_Table_guestWithMost_8_36 post ih4 x1 x2 x3 z0) : Xw p l e R s m args below meth c Q 0 0 wX G A z0 4 [(0, .ref (ad G 8)), (1, .int x1), (2, .int x2), (3, .int x3)] 36 [] := by
  intro H locs ls hP hD hS hl
  have hx := S.1
  have hb := S.2.1
  obtain ⟨v1, ev1⟩ : ∃ y9, y9 = x3 + (1 : Int32) := ⟨_, rfl⟩
  have hB := hB v1 ev1
  refine lv_iinc (v := v1) (lv' := [(3, .int v1), (0, .ref (ad G 8)), (1, .int x1), (2, .int x2)]) hx hb dX8_guestWithMost_36 hl (k := 3) rfl (by rw [ev1]; rfl) (by decide) rfl (fun ls hl => ?_)
  refine lv_goto (tgt := 4) hx hb dX8_guestWithMost_39 (by decide) ?_
  exact h4 x1 x2 v1 z0 hB _ _ _ hP hD hS (lv_sub hl [1, 2, 3, 0] rfl)
def B_Table_guestWithMost_8_4 (post : Int32 → St → Prop) (ih4 : Int32 → Int32 → Int32 → St → Prop) (x1 : Int32) (x2 : Int32) (x3 : Int32) (z0 : St) : Prop :=
  (((gI z0 27) ≤ x3 → (post x2 z0)) ∧ (¬ (gI z0 27) ≤ x3 → (vp_in (x1 + x3) 28 ∧ (vp_in (x1 + x2) 28 ∧ (((gA z0 23 (x1 + x3).toNatClampNeg) ≤ (gA z0 23 (x1 + x2).toNatClampNeg) → (B_Table_guestWithMost_8_36 post ih4 x1 x2 x3 z0)) ∧ (¬ (gA z0 23 (x1 + x3).toNatClampNeg) ≤ (gA z0 23 (x1 + x2).toNatClampNeg) → (B_Table_guestWithMost_8_36 post ih4 x1 x3 x3 z0)))))))
set_option maxHeartbeats 4000000 in
set_option maxRecDepth 100000 in
theorem w_Table_guestWithMost_8_4 {p : Program} {l : Launch} {e : Env} {R : Room} {s : State} {m : MethodId} {args : Array Value} {below : List Frame} {meth : Method} {c : Code} {Q : State → Prop} {G : GX} {A : Nat → Prop} (S : CallFix p m c cX8_guestWithMost 4 s args GW RX8) (hE : env G A s s.heap) (hA : ∀ q, s.heap.size ≤ q → A q) (hRf : 0 ≤ R.frames) (hRl : 0 ≤ R.locals) {post : Int32 → St → Prop} (hret : RetI p l e R s m args below meth c Q 0 0 wX G A cX8_guestWithMost post) {ih4 : Int32 → Int32 → Int32 → St → Prop} (h4 : ∀ (x1 : Int32) (x2 : Int32) (x3 : Int32) (z0 : St), ih4 x1 x2 x3 z0 → Xw p l e R s m args below meth c Q 0 0 wX G A z0 4 [(0, .ref (ad G 8)), (1, .int x1), (2, .int x2), (3, .int x3)] 4 []) (x1 : Int32) (x2 : Int32) (x3 : Int32) (z0 : St) (hB : B_Table_guestWithMost_8_4 post ih4 x1 x2 x3 z0) : Xw p l e R s m args below meth c Q 0 0 wX G A z0 4 [(0, .ref (ad G 8)), (1, .int x1), (2, .int x2), (3, .int x3)] 4 [] := by
  intro H locs ls hP hD hS hl
  have hx := S.1
  have hb := S.2.1
  refine lv_iload_n hx hb dX8_guestWithMost_4 rfl (lv_at hl 3 rfl) ?_
  refine lv_aload_n hx hb dX8_guestWithMost_5 rfl (lv_at hl 0 rfl) ?_
  refine xXg_8_house S hE hP lk_X8_15 dX8_guestWithMost_6 ?_
  refine xXg_6_guests S hE hP lk_X8_45 dX8_guestWithMost_9 ?_
  refine lv_icmp_ge (tgt := 42) hx hb dX8_guestWithMost_12 (by decide) (fun c1 => ?_) (fun c1 => ?_)
  · have hB := hB.1 c1
    refine lv_iload_n hx hb dX8_guestWithMost_42 rfl (lv_at hl 2 rfl) ?_
    exact hret _ _ _ _ _ _ dX8_guestWithMost_43 hB hP hD hS
  · have hB := hB.2 c1
    refine lv_aload_n hx hb dX8_guestWithMost_15 rfl (lv_at hl 0 rfl) ?_
    refine xXg_8_cells S hE hP lk_X8_11 dX8_guestWithMost_16 ?_
    refine lv_iload_n hx hb dX8_guestWithMost_19 rfl (lv_at hl 1 rfl) ?_
    refine lv_iload_n hx hb dX8_guestWithMost_20 rfl (lv_at hl 3 rfl) ?_
    refine lv_iadd hx hb dX8_guestWithMost_21 ?_
    obtain ⟨hi, hB⟩ := hB
    refine xXl_23 S hE hP hi dX8_guestWithMost_22 ?_
    refine lv_aload_n hx hb dX8_guestWithMost_23 rfl (lv_at hl 0 rfl) ?_
    refine xXg_8_cells S hE hP lk_X8_11 dX8_guestWithMost_24 ?_
    refine lv_iload_n hx hb dX8_guestWithMost_27 rfl (lv_at hl 1 rfl) ?_
    refine lv_iload_n hx hb dX8_guestWithMost_28 rfl (lv_at hl 2 rfl) ?_
    refine lv_iadd hx hb dX8_guestWithMost_29 ?_
    obtain ⟨hi, hB⟩ := hB
    refine xXl_23 S hE hP hi dX8_guestWithMost_30 ?_
    refine lv_icmp_le (tgt := 36) hx hb dX8_guestWithMost_31 (by decide) (fun c2 => ?_) (fun c2 => ?_)
    · have hB := hB.1 c2
      exact w_Table_guestWithMost_8_36 S hE hA hRf hRl hret h4 x1 x2 x3 z0 hB _ _ _ hP hD hS (lv_sub hl [0, 1, 2, 3] rfl)
    · have hB := hB.2 c2
      refine lv_iload_n hx hb dX8_guestWithMost_34 rfl (lv_at hl 3 rfl) ?_
      refine lv_istore_n (lv' := [(2, .int x3), (0, .ref (ad G 8)), (1, .int x1), (3, .int x3)]) hx hb dX8_guestWithMost_35 rfl hl (by decide) rfl (fun ls hl => ?_)
      exact w_Table_guestWithMost_8_36 S hE hA hRf hRl hret h4 x1 x3 x3 z0 hB _ _ _ hP hD hS (lv_sub hl [1, 2, 0, 3] rfl)
def L_Table_guestWithMost_8_4 (post : Int32 → St → Prop) : Nat → Int32 → Int32 → Int32 → St → Prop
  | 0 => fun _ _ _ _ => False
  | n + 1 => B_Table_guestWithMost_8_4 post (L_Table_guestWithMost_8_4 post n)
theorem wl_Table_guestWithMost_8_4 {p : Program} {l : Launch} {e : Env} {R : Room} {s : State} {m : MethodId} {args : Array Value} {below : List Frame} {meth : Method} {c : Code} {Q : State → Prop} {G : GX} {A : Nat → Prop} (S : CallFix p m c cX8_guestWithMost 4 s args GW RX8) (hE : env G A s s.heap) (hA : ∀ q, s.heap.size ≤ q → A q) (hRf : 0 ≤ R.frames) (hRl : 0 ≤ R.locals) {post : Int32 → St → Prop} (hret : RetI p l e R s m args below meth c Q 0 0 wX G A cX8_guestWithMost post) : ∀ (n : Nat) (x1 : Int32) (x2 : Int32) (x3 : Int32) (z0 : St), L_Table_guestWithMost_8_4 post n x1 x2 x3 z0 → Xw p l e R s m args below meth c Q 0 0 wX G A z0 4 [(0, .ref (ad G 8)), (1, .int x1), (2, .int x2), (3, .int x3)] 4 [] := by
  intro n
  induction n with
  | zero => intro x1 x2 x3 z0 hB; exact absurd hB id
  | succ n ih => exact fun x1 x2 x3 z0 hB => w_Table_guestWithMost_8_4 S hE hA hRf hRl hret ih x1 x2 x3 z0 hB
def S_Table_guestWithMost_8 (post : Int32 → St → Prop) (x1 : Int32) (z0 : St) : Prop :=
  (∃ n1, L_Table_guestWithMost_8_4 post n1 x1 (0 : Int32) (1 : Int32) z0)
set_option maxHeartbeats 4000000 in
set_option maxRecDepth 100000 in
theorem w_Table_guestWithMost_8_0 {p : Program} {l : Launch} {e : Env} {R : Room} {s : State} {m : MethodId} {args : Array Value} {below : List Frame} {meth : Method} {c : Code} {Q : State → Prop} {G : GX} {A : Nat → Prop} (S : CallFix p m c cX8_guestWithMost 4 s args GW RX8) (hE : env G A s s.heap) (hA : ∀ q, s.heap.size ≤ q → A q) (hRf : 0 ≤ R.frames) (hRl : 0 ≤ R.locals) {post : Int32 → St → Prop} (hret : RetI p l e R s m args below meth c Q 0 0 wX G A cX8_guestWithMost post) (x1 : Int32) (z0 : St) (hB : S_Table_guestWithMost_8 post x1 z0) : Xw p l e R s m args below meth c Q 0 0 wX G A z0 4 [(0, .ref (ad G 8)), (1, .int x1)] 0 [] := by
  intro H locs ls hP hD hS hl
  have hx := S.1
  have hb := S.2.1
  refine lv_iconst (v := 0) hx hb dX8_guestWithMost_0 (by decide) ?_
  refine lv_istore_n (lv' := [(2, .int (0 : Int32)), (0, .ref (ad G 8)), (1, .int x1)]) hx hb dX8_guestWithMost_1 rfl hl (by decide) rfl (fun ls hl => ?_)
  refine lv_iconst (v := 1) hx hb dX8_guestWithMost_2 (by decide) ?_
  refine lv_istore_n (lv' := [(3, .int (1 : Int32)), (2, .int (0 : Int32)), (0, .ref (ad G 8)), (1, .int x1)]) hx hb dX8_guestWithMost_3 rfl hl (by decide) rfl (fun ls hl => ?_)
  obtain ⟨n1, hB⟩ := hB
  exact wl_Table_guestWithMost_8_4 S hE hA hRf hRl hret n1 x1 (0 : Int32) (1 : Int32) z0 hB _ _ _ hP hD hS (lv_sub hl [2, 3, 1, 0] rfl)
set_option maxHeartbeats 4000000 in
set_option maxRecDepth 100000 in
theorem c_Table_guestWithMost_8 (l : Launch) (G : GX) (z0 : St) (sz : Nat) (x1 : Int32) (post : Int32 → St → Prop) : MetI l wX yX8_guestWithMost cX8_guestWithMost 4 (some .int) ({ frames := 0, cells := 0, slots := 0, locals := 0 }) [.ref (ad G 8), .int x1] G z0 sz (S_Table_guestWithMost_8 post x1 z0) post := by
  refine Met.ofW (cc := cX8_guestWithMost) (maxL := 4) (ret := (some .int)) (by decide) rfl ?_
  intro p e s m args below meth c s₁ B hml hv
  obtain ⟨rfl, hsz, hP, hD0, hE, hB⟩ := hv
  have S : CallFix p m c cX8_guestWithMost 4 s _ GW RX8 := ⟨B.exec, B.bytes, hml, findClass_of_methodNamed B.named, fun w h => atoms_spec (ws := Cond.code yX8_guestWithMost cX8_guestWithMost 4 (some .int) :: GW) B.pre w (List.mem_cons_of_mem _ h)⟩
  have hlocks := B.notSynchronized
  subst hsz
  have hD := hD0.self (sz := s.heap.size)
  generalize hAe : va_A (wX G z0) s.heap.size = A at hD hE ⊢
  have hA : ∀ q : Nat, s.heap.size ≤ q → A q := fun q h => by rw [← hAe]; exact Or.inr h
  have hS : va_S A s.heap s.heap [] := va_S.rf
  have hl := lv_entry ([.ref (ad G 8), .int x1]) (n := 4) (Nat.le_of_ble_eq_true rfl)
  rw [lg_entry_eq]
  generalize (lg_sl ([.ref (ad G 8), .int x1]) ++ List.replicate (4 - (lg_sl ([.ref (ad G 8), .int x1])).length) Slot.unset).toArray = ls at hl ⊢
  have hl : lv_has ls 4 [(0, .ref (ad G 8)), (1, .int x1)] := hl
  refine w_Table_guestWithMost_8_0 S hE hA (Nat.le_refl _) (Nat.le_refl _) ?_ x1 z0 hB _ _ _ hP hD hS hl
  intro pc ls r σ H locs hd hp hP hD hS
  exact W.iret (v := r) B.exec B.bytes B.returns (fun t ht hW => ⟨⟨r, σ, rfl, hp, by rw [ht]; exact hP, hD⟩, hS.F ht⟩) hS.2.2 hd
def S_Table_richest_8 (post : Int32 → St → Prop) (z0 : St) : Prop :=
  (S_Table_guestWithMost_8 (fun (r1 : Int32) (z1 : St) => (post r1 z1)) (4 : Int32) z0)
set_option maxHeartbeats 4000000 in
set_option maxRecDepth 100000 in
theorem w_Table_richest_8_0 {p : Program} {l : Launch} {e : Env} {R : Room} {s : State} {m : MethodId} {args : Array Value} {below : List Frame} {meth : Method} {c : Code} {Q : State → Prop} {G : GX} {A : Nat → Prop} (S : CallFix p m c cX8_richest 1 s args GW RX8) (hE : env G A s s.heap) (hA : ∀ q, s.heap.size ≤ q → A q) (hRf : 1 ≤ R.frames) (hRl : 23 ≤ R.locals) {post : Int32 → St → Prop} (hret : RetI p l e R s m args below meth c Q 0 0 wX G A cX8_richest post) (z0 : St) (hB : S_Table_richest_8 post z0) : Xw p l e R s m args below meth c Q 0 0 wX G A z0 1 [(0, .ref (ad G 8))] 0 [] := by
  intro H locs ls hP hD hS hl
  have hx := S.1
  have hb := S.2.1
  refine lv_aload_n hx hb dX8_richest_0 rfl (lv_at hl 0 rfl) ?_
  refine lv_iconst (v := 4) hx hb dX8_richest_1 (by decide) ?_
  refine xcVi [.int (4 : Int32)] S hE hA hP hD hS (c_Table_guestWithMost_8 l G z0 H.size (4 : Int32) _) hB (gw_c lk_X8_137 (gw_c wi_X8_guestWithMost (gw_c we_X8_X8_guestWithMost_X8_guestWithMost (gw_c wn_X8 (gw_c wc_X8_guestWithMost (fun _ h9 => h9)))))) hd_X8_guestWithMost rfl rfl (Nat.le_trans (Nat.le_of_ble_eq_true rfl) hRf) (Nat.le_trans (Nat.le_of_ble_eq_true rfl) hRl) ⟨Nat.zero_le _, Nat.zero_le _⟩ (va_recv hE.1 hP (ci := 7) (q0 := 8) rfl rfl) rfl hl.1 rfl (Nat.le_of_ble_eq_true rfl) dX8_richest_2 (fun r1 z1 H locs hB hP hD hS => ?_)
  exact hret _ _ _ _ _ _ dX8_richest_5 hB hP hD hS
set_option maxHeartbeats 4000000 in
set_option maxRecDepth 100000 in
theorem c_Table_richest_8 (l : Launch) (G : GX) (z0 : St) (sz : Nat) (post : Int32 → St → Prop) : MetI l wX yX8_richest cX8_richest 1 (some .int) ({ frames := 1, cells := 0, slots := 0, locals := 23 }) [.ref (ad G 8)] G z0 sz (S_Table_richest_8 post z0) post := by
  refine Met.ofW (cc := cX8_richest) (maxL := 1) (ret := (some .int)) (by decide) rfl ?_
  intro p e s m args below meth c s₁ B hml hv
  obtain ⟨rfl, hsz, hP, hD0, hE, hB⟩ := hv
  have S : CallFix p m c cX8_richest 1 s _ GW RX8 := ⟨B.exec, B.bytes, hml, findClass_of_methodNamed B.named, fun w h => atoms_spec (ws := Cond.code yX8_richest cX8_richest 1 (some .int) :: GW) B.pre w (List.mem_cons_of_mem _ h)⟩
  have hlocks := B.notSynchronized
  subst hsz
  have hD := hD0.self (sz := s.heap.size)
  generalize hAe : va_A (wX G z0) s.heap.size = A at hD hE ⊢
  have hA : ∀ q : Nat, s.heap.size ≤ q → A q := fun q h => by rw [← hAe]; exact Or.inr h
  have hS : va_S A s.heap s.heap [] := va_S.rf
  have hl := lv_entry ([.ref (ad G 8)]) (n := 1) (Nat.le_of_ble_eq_true rfl)
  rw [lg_entry_eq]
  generalize (lg_sl ([.ref (ad G 8)]) ++ List.replicate (1 - (lg_sl ([.ref (ad G 8)])).length) Slot.unset).toArray = ls at hl ⊢
  have hl : lv_has ls 1 [(0, .ref (ad G 8))] := hl
  refine w_Table_richest_8_0 S hE hA (Nat.le_refl _) (Nat.le_refl _) ?_  z0 hB _ _ _ hP hD hS hl
  intro pc ls r σ H locs hd hp hP hD hS
  exact W.iret (v := r) B.exec B.bytes B.returns (fun t ht hW => ⟨⟨r, σ, rfl, hp, by rw [ht]; exact hP, hD⟩, hS.F ht⟩) hS.2.2 hd
def S_Table_merriest_8 (post : Int32 → St → Prop) (z0 : St) : Prop :=
  (S_Table_guestWithMost_8 (fun (r1 : Int32) (z1 : St) => (post r1 z1)) (16 : Int32) z0)
set_option maxHeartbeats 4000000 in
set_option maxRecDepth 100000 in
theorem w_Table_merriest_8_0 {p : Program} {l : Launch} {e : Env} {R : Room} {s : State} {m : MethodId} {args : Array Value} {below : List Frame} {meth : Method} {c : Code} {Q : State → Prop} {G : GX} {A : Nat → Prop} (S : CallFix p m c cX8_merriest 1 s args GW RX8) (hE : env G A s s.heap) (hA : ∀ q, s.heap.size ≤ q → A q) (hRf : 1 ≤ R.frames) (hRl : 23 ≤ R.locals) {post : Int32 → St → Prop} (hret : RetI p l e R s m args below meth c Q 0 0 wX G A cX8_merriest post) (z0 : St) (hB : S_Table_merriest_8 post z0) : Xw p l e R s m args below meth c Q 0 0 wX G A z0 1 [(0, .ref (ad G 8))] 0 [] := by
  intro H locs ls hP hD hS hl
  have hx := S.1
  have hb := S.2.1
  refine lv_aload_n hx hb dX8_merriest_0 rfl (lv_at hl 0 rfl) ?_
  refine lv_bipush (v := 16) hx hb dX8_merriest_1 (by decide) ?_
  refine xcVi [.int (16 : Int32)] S hE hA hP hD hS (c_Table_guestWithMost_8 l G z0 H.size (16 : Int32) _) hB (gw_c lk_X8_137 (gw_c wi_X8_guestWithMost (gw_c we_X8_X8_guestWithMost_X8_guestWithMost (gw_c wn_X8 (gw_c wc_X8_guestWithMost (fun _ h9 => h9)))))) hd_X8_guestWithMost rfl rfl (Nat.le_trans (Nat.le_of_ble_eq_true rfl) hRf) (Nat.le_trans (Nat.le_of_ble_eq_true rfl) hRl) ⟨Nat.zero_le _, Nat.zero_le _⟩ (va_recv hE.1 hP (ci := 7) (q0 := 8) rfl rfl) rfl hl.1 rfl (Nat.le_of_ble_eq_true rfl) dX8_merriest_3 (fun r1 z1 H locs hB hP hD hS => ?_)
  exact hret _ _ _ _ _ _ dX8_merriest_6 hB hP hD hS
set_option maxHeartbeats 4000000 in
set_option maxRecDepth 100000 in
theorem c_Table_merriest_8 (l : Launch) (G : GX) (z0 : St) (sz : Nat) (post : Int32 → St → Prop) : MetI l wX yX8_merriest cX8_merriest 1 (some .int) ({ frames := 1, cells := 0, slots := 0, locals := 23 }) [.ref (ad G 8)] G z0 sz (S_Table_merriest_8 post z0) post := by
  refine Met.ofW (cc := cX8_merriest) (maxL := 1) (ret := (some .int)) (by decide) rfl ?_
  intro p e s m args below meth c s₁ B hml hv
  obtain ⟨rfl, hsz, hP, hD0, hE, hB⟩ := hv
  have S : CallFix p m c cX8_merriest 1 s _ GW RX8 := ⟨B.exec, B.bytes, hml, findClass_of_methodNamed B.named, fun w h => atoms_spec (ws := Cond.code yX8_merriest cX8_merriest 1 (some .int) :: GW) B.pre w (List.mem_cons_of_mem _ h)⟩
  have hlocks := B.notSynchronized
  subst hsz
  have hD := hD0.self (sz := s.heap.size)
  generalize hAe : va_A (wX G z0) s.heap.size = A at hD hE ⊢
  have hA : ∀ q : Nat, s.heap.size ≤ q → A q := fun q h => by rw [← hAe]; exact Or.inr h
  have hS : va_S A s.heap s.heap [] := va_S.rf
  have hl := lv_entry ([.ref (ad G 8)]) (n := 1) (Nat.le_of_ble_eq_true rfl)
  rw [lg_entry_eq]
  generalize (lg_sl ([.ref (ad G 8)]) ++ List.replicate (1 - (lg_sl ([.ref (ad G 8)])).length) Slot.unset).toArray = ls at hl ⊢
  have hl : lv_has ls 1 [(0, .ref (ad G 8))] := hl
  refine w_Table_merriest_8_0 S hE hA (Nat.le_refl _) (Nat.le_refl _) ?_  z0 hB _ _ _ hP hD hS hl
  intro pc ls r σ H locs hd hp hP hD hS
  exact W.iret (v := r) B.exec B.bytes B.returns (fun t ht hW => ⟨⟨r, σ, rfl, hp, by rw [ht]; exact hP, hD⟩, hS.F ht⟩) hS.2.2 hd
def B_House_mostLiked_60 (post : Int32 → St → Prop) (ih6 : Int32 → Int32 → Int32 → St → Prop) (x1 : Int32) (x2 : Int32) (x3 : Int32) (z0 : St) : Prop :=
  (∀ v1 : Int32, v1 = x3 + (1 : Int32) → (ih6 x1 x2 v1 z0))
set_option maxHeartbeats 4000000 in
set_option maxRecDepth 100000 in
theorem w_House_mostLiked_60 {p : Program} {l : Launch} {e : Env} {R : Room} {s : State} {m : MethodId} {args : Array Value} {below : List Frame} {meth : Method} {c : Code} {Q : State → Prop} {G : GX} {A : Nat → Prop} (S : CallFix p m c cX0_mostLiked 6 s args GW RX0) (hE : env G A s s.heap) (hA : ∀ q, s.heap.size ≤ q → A q) (hRf : 0 ≤ R.frames) (hRl : 0 ≤ R.locals) {post : Int32 → St → Prop} (hret : RetI p l e R s m args below meth c Q 0 0 wX G A cX0_mostLiked post) {ih6 : Int32 → Int32 → Int32 → St → Prop} (h6 : ∀ (x1 : Int32) (x2 : Int32) (x3 : Int32) (z0 : St), ih6 x1 x2 x3 z0 → Xw p l e R s m args below meth c Q 0 0 wX G A z0 6 [(0, .ref (ad G 6)), (1, .int x1), (2, .int x2), (3, .int x3)] 6 []) (x1 : Int32) (x2 : Int32) (x3 : Int32) (z0 : St) (hB : B_House_mostLiked_60 post ih6 x1 x2 x3 z0) : Xw p l e R s m args below meth c Q 0 0 wX G A z0 6 [(0, .ref (ad G 6)), (1, .int x1), (2, .int x2), (3, .int x3)] 60 [] := by
  intro H locs ls hP hD hS hl
  have hx := S.1
  have hb := S.2.1
  obtain ⟨v1, ev1⟩ : ∃ y9, y9 = x3 + (1 : Int32) := ⟨_, rfl⟩
  have hB := hB v1 ev1
  refine lv_iinc (v := v1) (lv' := [(3, .int v1), (0, .ref (ad G 6)), (1, .int x1), (2, .int x2)]) hx hb dX0_mostLiked_60 hl (k := 3) rfl (by rw [ev1]; rfl) (by decide) rfl (fun ls hl => ?_)
  refine lv_goto (tgt := 6) hx hb dX0_mostLiked_63 (by decide) ?_
  exact h6 x1 x2 v1 z0 hB _ _ _ hP hD hS (lv_sub hl [1, 2, 3, 0] rfl)
def B_House_mostLiked_43 (post : Int32 → St → Prop) (ih6 : Int32 → Int32 → Int32 → St → Prop) (ih20 : Int32 → Int32 → Int32 → Int32 → Int32 → St → Prop) (x1 : Int32) (x2 : Int32) (x3 : Int32) (x4 : Int32) (x5 : Int32) (z0 : St) : Prop :=
  (∀ v1 : Int32, v1 = x5 + (1 : Int32) → (ih20 x1 x2 x3 x4 v1 z0))
set_option maxHeartbeats 4000000 in
set_option maxRecDepth 100000 in
theorem w_House_mostLiked_43 {p : Program} {l : Launch} {e : Env} {R : Room} {s : State} {m : MethodId} {args : Array Value} {below : List Frame} {meth : Method} {c : Code} {Q : State → Prop} {G : GX} {A : Nat → Prop} (S : CallFix p m c cX0_mostLiked 6 s args GW RX0) (hE : env G A s s.heap) (hA : ∀ q, s.heap.size ≤ q → A q) (hRf : 0 ≤ R.frames) (hRl : 0 ≤ R.locals) {post : Int32 → St → Prop} (hret : RetI p l e R s m args below meth c Q 0 0 wX G A cX0_mostLiked post) {ih6 : Int32 → Int32 → Int32 → St → Prop} (h6 : ∀ (x1 : Int32) (x2 : Int32) (x3 : Int32) (z0 : St), ih6 x1 x2 x3 z0 → Xw p l e R s m args below meth c Q 0 0 wX G A z0 6 [(0, .ref (ad G 6)), (1, .int x1), (2, .int x2), (3, .int x3)] 6 []) {ih20 : Int32 → Int32 → Int32 → Int32 → Int32 → St → Prop} (h20 : ∀ (x1 : Int32) (x2 : Int32) (x3 : Int32) (x4 : Int32) (x5 : Int32) (z0 : St), ih20 x1 x2 x3 x4 x5 z0 → Xw p l e R s m args below meth c Q 0 0 wX G A z0 6 [(0, .ref (ad G 6)), (1, .int x1), (2, .int x2), (3, .int x3), (4, .int x4), (5, .int x5)] 20 []) (x1 : Int32) (x2 : Int32) (x3 : Int32) (x4 : Int32) (x5 : Int32) (z0 : St) (hB : B_House_mostLiked_43 post ih6 ih20 x1 x2 x3 x4 x5 z0) : Xw p l e R s m args below meth c Q 0 0 wX G A z0 6 [(0, .ref (ad G 6)), (1, .int x1), (2, .int x2), (3, .int x3), (4, .int x4), (5, .int x5)] 43 [] := by
  intro H locs ls hP hD hS hl
  have hx := S.1
  have hb := S.2.1
  obtain ⟨v1, ev1⟩ : ∃ y9, y9 = x5 + (1 : Int32) := ⟨_, rfl⟩
  have hB := hB v1 ev1
  refine lv_iinc (v := v1) (lv' := [(5, .int v1), (0, .ref (ad G 6)), (1, .int x1), (2, .int x2), (3, .int x3), (4, .int x4)]) hx hb dX0_mostLiked_43 hl (k := 5) rfl (by rw [ev1]; rfl) (by decide) rfl (fun ls hl => ?_)
  refine lv_goto (tgt := 20) hx hb dX0_mostLiked_46 (by decide) ?_
  exact h20 x1 x2 x3 x4 v1 z0 hB _ _ _ hP hD hS (lv_sub hl [1, 2, 3, 4, 5, 0] rfl)
def B_House_mostLiked_20 (post : Int32 → St → Prop) (ih6 : Int32 → Int32 → Int32 → St → Prop) (ih20 : Int32 → Int32 → Int32 → Int32 → Int32 → St → Prop) (x1 : Int32) (x2 : Int32) (x3 : Int32) (x4 : Int32) (x5 : Int32) (z0 : St) : Prop :=
  (((gI z0 27) ≤ x5 → ((x4 ≤ x1 → (B_House_mostLiked_60 post ih6 x1 x2 x3 z0)) ∧ (¬ x4 ≤ x1 → (B_House_mostLiked_60 post ih6 x4 x3 x3 z0)))) ∧ (¬ (gI z0 27) ≤ x5 → (vp_in x5 6 ∧ (((gA z0 19 x5.toNatClampNeg) = x3 → (∀ v4 : Int32, v4 = x4 + (1 : Int32) → (B_House_mostLiked_43 post ih6 ih20 x1 x2 x3 v4 x5 z0))) ∧ (¬ (gA z0 19 x5.toNatClampNeg) = x3 → (B_House_mostLiked_43 post ih6 ih20 x1 x2 x3 x4 x5 z0))))))
set_option maxHeartbeats 4000000 in
set_option maxRecDepth 100000 in
theorem w_House_mostLiked_20 {p : Program} {l : Launch} {e : Env} {R : Room} {s : State} {m : MethodId} {args : Array Value} {below : List Frame} {meth : Method} {c : Code} {Q : State → Prop} {G : GX} {A : Nat → Prop} (S : CallFix p m c cX0_mostLiked 6 s args GW RX0) (hE : env G A s s.heap) (hA : ∀ q, s.heap.size ≤ q → A q) (hRf : 0 ≤ R.frames) (hRl : 0 ≤ R.locals) {post : Int32 → St → Prop} (hret : RetI p l e R s m args below meth c Q 0 0 wX G A cX0_mostLiked post) {ih6 : Int32 → Int32 → Int32 → St → Prop} (h6 : ∀ (x1 : Int32) (x2 : Int32) (x3 : Int32) (z0 : St), ih6 x1 x2 x3 z0 → Xw p l e R s m args below meth c Q 0 0 wX G A z0 6 [(0, .ref (ad G 6)), (1, .int x1), (2, .int x2), (3, .int x3)] 6 []) {ih20 : Int32 → Int32 → Int32 → Int32 → Int32 → St → Prop} (h20 : ∀ (x1 : Int32) (x2 : Int32) (x3 : Int32) (x4 : Int32) (x5 : Int32) (z0 : St), ih20 x1 x2 x3 x4 x5 z0 → Xw p l e R s m args below meth c Q 0 0 wX G A z0 6 [(0, .ref (ad G 6)), (1, .int x1), (2, .int x2), (3, .int x3), (4, .int x4), (5, .int x5)] 20 []) (x1 : Int32) (x2 : Int32) (x3 : Int32) (x4 : Int32) (x5 : Int32) (z0 : St) (hB : B_House_mostLiked_20 post ih6 ih20 x1 x2 x3 x4 x5 z0) : Xw p l e R s m args below meth c Q 0 0 wX G A z0 6 [(0, .ref (ad G 6)), (1, .int x1), (2, .int x2), (3, .int x3), (4, .int x4), (5, .int x5)] 20 [] := by
  intro H locs ls hP hD hS hl
  have hx := S.1
  have hb := S.2.1
  refine lv_iload hx hb dX0_mostLiked_20 (lv_at hl 5 rfl) ?_
  refine lv_aload_n hx hb dX0_mostLiked_22 rfl (lv_at hl 0 rfl) ?_
  refine xXg_6_guests S hE hP lk_X0_30 dX0_mostLiked_23 ?_
  refine lv_icmp_ge (tgt := 49) hx hb dX0_mostLiked_26 (by decide) (fun c1 => ?_) (fun c1 => ?_)
  · have hB := hB.1 c1
    refine lv_iload hx hb dX0_mostLiked_49 (lv_at hl 4 rfl) ?_
    refine lv_iload_n hx hb dX0_mostLiked_51 rfl (lv_at hl 1 rfl) ?_
    refine lv_icmp_le (tgt := 60) hx hb dX0_mostLiked_52 (by decide) (fun c2 => ?_) (fun c2 => ?_)
    · have hB := hB.1 c2
      exact w_House_mostLiked_60 S hE hA hRf hRl hret h6 x1 x2 x3 z0 hB _ _ _ hP hD hS (lv_sub hl [0, 1, 2, 3] rfl)
    · have hB := hB.2 c2
      refine lv_iload hx hb dX0_mostLiked_55 (lv_at hl 4 rfl) ?_
      refine lv_istore_n (lv' := [(1, .int x4), (0, .ref (ad G 6)), (2, .int x2), (3, .int x3), (4, .int x4), (5, .int x5)]) hx hb dX0_mostLiked_57 rfl hl (by decide) rfl (fun ls hl => ?_)
      refine lv_iload_n hx hb dX0_mostLiked_58 rfl (lv_at hl 3 rfl) ?_
      refine lv_istore_n (lv' := [(2, .int x3), (1, .int x4), (0, .ref (ad G 6)), (3, .int x3), (4, .int x4), (5, .int x5)]) hx hb dX0_mostLiked_59 rfl hl (by decide) rfl (fun ls hl => ?_)
      exact w_House_mostLiked_60 S hE hA hRf hRl hret h6 x4 x3 x3 z0 hB _ _ _ hP hD hS (lv_sub hl [2, 1, 0, 3] rfl)
  · have hB := hB.2 c1
    refine lv_aload_n hx hb dX0_mostLiked_29 rfl (lv_at hl 0 rfl) ?_
    refine xXg_6_likes S hE hP lk_X0_15 dX0_mostLiked_30 ?_
    refine lv_iload hx hb dX0_mostLiked_33 (lv_at hl 5 rfl) ?_
    obtain ⟨hi, hB⟩ := hB
    refine xXl_19 S hE hP hi dX0_mostLiked_35 ?_
    refine lv_iload_n hx hb dX0_mostLiked_36 rfl (lv_at hl 3 rfl) ?_
    refine lv_icmp_ne (tgt := 43) hx hb dX0_mostLiked_37 (by decide) (fun c3 => ?_) (fun c3 => ?_)
    · have hB := hB.2 c3
      exact w_House_mostLiked_43 S hE hA hRf hRl hret h6 h20 x1 x2 x3 x4 x5 z0 hB _ _ _ hP hD hS (lv_sub hl [0, 1, 2, 3, 4, 5] rfl)
    · have hB := hB.1 c3
      obtain ⟨v4, ev4⟩ : ∃ y9, y9 = x4 + (1 : Int32) := ⟨_, rfl⟩
      have hB := hB v4 ev4
      refine lv_iinc (v := v4) (lv' := [(4, .int v4), (0, .ref (ad G 6)), (1, .int x1), (2, .int x2), (3, .int x3), (5, .int x5)]) hx hb dX0_mostLiked_40 hl (k := 4) rfl (by rw [ev4]; rfl) (by decide) rfl (fun ls hl => ?_)
      exact w_House_mostLiked_43 S hE hA hRf hRl hret h6 h20 x1 x2 x3 v4 x5 z0 hB _ _ _ hP hD hS (lv_sub hl [1, 2, 3, 4, 0, 5] rfl)
def L_House_mostLiked_20 (post : Int32 → St → Prop) (ih6 : Int32 → Int32 → Int32 → St → Prop) : Nat → Int32 → Int32 → Int32 → Int32 → Int32 → St → Prop
  | 0 => fun _ _ _ _ _ _ => False
  | n + 1 => B_House_mostLiked_20 post ih6 (L_House_mostLiked_20 post ih6 n)
theorem wl_House_mostLiked_20 {p : Program} {l : Launch} {e : Env} {R : Room} {s : State} {m : MethodId} {args : Array Value} {below : List Frame} {meth : Method} {c : Code} {Q : State → Prop} {G : GX} {A : Nat → Prop} (S : CallFix p m c cX0_mostLiked 6 s args GW RX0) (hE : env G A s s.heap) (hA : ∀ q, s.heap.size ≤ q → A q) (hRf : 0 ≤ R.frames) (hRl : 0 ≤ R.locals) {post : Int32 → St → Prop} (hret : RetI p l e R s m args below meth c Q 0 0 wX G A cX0_mostLiked post) {ih6 : Int32 → Int32 → Int32 → St → Prop} (h6 : ∀ (x1 : Int32) (x2 : Int32) (x3 : Int32) (z0 : St), ih6 x1 x2 x3 z0 → Xw p l e R s m args below meth c Q 0 0 wX G A z0 6 [(0, .ref (ad G 6)), (1, .int x1), (2, .int x2), (3, .int x3)] 6 []) : ∀ (n : Nat) (x1 : Int32) (x2 : Int32) (x3 : Int32) (x4 : Int32) (x5 : Int32) (z0 : St), L_House_mostLiked_20 post ih6 n x1 x2 x3 x4 x5 z0 → Xw p l e R s m args below meth c Q 0 0 wX G A z0 6 [(0, .ref (ad G 6)), (1, .int x1), (2, .int x2), (3, .int x3), (4, .int x4), (5, .int x5)] 20 [] := by
  intro n
  induction n with
  | zero => intro x1 x2 x3 x4 x5 z0 hB; exact absurd hB id
  | succ n ih => exact fun x1 x2 x3 x4 x5 z0 hB => w_House_mostLiked_20 S hE hA hRf hRl hret h6 ih x1 x2 x3 x4 x5 z0 hB
def B_House_mostLiked_6 (post : Int32 → St → Prop) (ih6 : Int32 → Int32 → Int32 → St → Prop) (x1 : Int32) (x2 : Int32) (x3 : Int32) (z0 : St) : Prop :=
  (((gI z0 26) ≤ x3 → (post x2 z0)) ∧ (¬ (gI z0 26) ≤ x3 → (∃ n2, L_House_mostLiked_20 post ih6 n2 x1 x2 x3 (0 : Int32) (0 : Int32) z0)))
set_option maxHeartbeats 4000000 in
set_option maxRecDepth 100000 in
theorem w_House_mostLiked_6 {p : Program} {l : Launch} {e : Env} {R : Room} {s : State} {m : MethodId} {args : Array Value} {below : List Frame} {meth : Method} {c : Code} {Q : State → Prop} {G : GX} {A : Nat → Prop} (S : CallFix p m c cX0_mostLiked 6 s args GW RX0) (hE : env G A s s.heap) (hA : ∀ q, s.heap.size ≤ q → A q) (hRf : 0 ≤ R.frames) (hRl : 0 ≤ R.locals) {post : Int32 → St → Prop} (hret : RetI p l e R s m args below meth c Q 0 0 wX G A cX0_mostLiked post) {ih6 : Int32 → Int32 → Int32 → St → Prop} (h6 : ∀ (x1 : Int32) (x2 : Int32) (x3 : Int32) (z0 : St), ih6 x1 x2 x3 z0 → Xw p l e R s m args below meth c Q 0 0 wX G A z0 6 [(0, .ref (ad G 6)), (1, .int x1), (2, .int x2), (3, .int x3)] 6 []) (x1 : Int32) (x2 : Int32) (x3 : Int32) (z0 : St) (hB : B_House_mostLiked_6 post ih6 x1 x2 x3 z0) : Xw p l e R s m args below meth c Q 0 0 wX G A z0 6 [(0, .ref (ad G 6)), (1, .int x1), (2, .int x2), (3, .int x3)] 6 [] := by
  intro H locs ls hP hD hS hl
  have hx := S.1
  have hb := S.2.1
  refine lv_iload_n hx hb dX0_mostLiked_6 rfl (lv_at hl 3 rfl) ?_
  refine lv_aload_n hx hb dX0_mostLiked_7 rfl (lv_at hl 0 rfl) ?_
  refine xXg_6_drinks S hE hP lk_X0_24 dX0_mostLiked_8 ?_
  refine lv_icmp_ge (tgt := 66) hx hb dX0_mostLiked_11 (by decide) (fun c1 => ?_) (fun c1 => ?_)
  · have hB := hB.1 c1
    refine lv_iload_n hx hb dX0_mostLiked_66 rfl (lv_at hl 2 rfl) ?_
    exact hret _ _ _ _ _ _ dX0_mostLiked_67 hB hP hD hS
  · have hB := hB.2 c1
    refine lv_iconst (v := 0) hx hb dX0_mostLiked_14 (by decide) ?_
    refine lv_istore (lv' := [(4, .int (0 : Int32)), (0, .ref (ad G 6)), (1, .int x1), (2, .int x2), (3, .int x3)]) hx hb dX0_mostLiked_15 hl (by decide) rfl (fun ls hl => ?_)
    refine lv_iconst (v := 0) hx hb dX0_mostLiked_17 (by decide) ?_
    refine lv_istore (lv' := [(5, .int (0 : Int32)), (4, .int (0 : Int32)), (0, .ref (ad G 6)), (1, .int x1), (2, .int x2), (3, .int x3)]) hx hb dX0_mostLiked_18 hl (by decide) rfl (fun ls hl => ?_)
    obtain ⟨n2, hB⟩ := hB
    exact wl_House_mostLiked_20 S hE hA hRf hRl hret h6 n2 x1 x2 x3 (0 : Int32) (0 : Int32) z0 hB _ _ _ hP hD hS (lv_sub hl [2, 3, 4, 5, 1, 0] rfl)
def L_House_mostLiked_6 (post : Int32 → St → Prop) : Nat → Int32 → Int32 → Int32 → St → Prop
  | 0 => fun _ _ _ _ => False
  | n + 1 => B_House_mostLiked_6 post (L_House_mostLiked_6 post n)
theorem wl_House_mostLiked_6 {p : Program} {l : Launch} {e : Env} {R : Room} {s : State} {m : MethodId} {args : Array Value} {below : List Frame} {meth : Method} {c : Code} {Q : State → Prop} {G : GX} {A : Nat → Prop} (S : CallFix p m c cX0_mostLiked 6 s args GW RX0) (hE : env G A s s.heap) (hA : ∀ q, s.heap.size ≤ q → A q) (hRf : 0 ≤ R.frames) (hRl : 0 ≤ R.locals) {post : Int32 → St → Prop} (hret : RetI p l e R s m args below meth c Q 0 0 wX G A cX0_mostLiked post) : ∀ (n : Nat) (x1 : Int32) (x2 : Int32) (x3 : Int32) (z0 : St), L_House_mostLiked_6 post n x1 x2 x3 z0 → Xw p l e R s m args below meth c Q 0 0 wX G A z0 6 [(0, .ref (ad G 6)), (1, .int x1), (2, .int x2), (3, .int x3)] 6 [] := by
  intro n
  induction n with
  | zero => intro x1 x2 x3 z0 hB; exact absurd hB id
  | succ n ih => exact fun x1 x2 x3 z0 hB => w_House_mostLiked_6 S hE hA hRf hRl hret ih x1 x2 x3 z0 hB
def S_House_mostLiked (post : Int32 → St → Prop) (z0 : St) : Prop :=
  (∃ n1, L_House_mostLiked_6 post n1 (-1 : Int32) (-1 : Int32) (0 : Int32) z0)
set_option maxHeartbeats 4000000 in
set_option maxRecDepth 100000 in
theorem w_House_mostLiked_0 {p : Program} {l : Launch} {e : Env} {R : Room} {s : State} {m : MethodId} {args : Array Value} {below : List Frame} {meth : Method} {c : Code} {Q : State → Prop} {G : GX} {A : Nat → Prop} (S : CallFix p m c cX0_mostLiked 6 s args GW RX0) (hE : env G A s s.heap) (hA : ∀ q, s.heap.size ≤ q → A q) (hRf : 0 ≤ R.frames) (hRl : 0 ≤ R.locals) {post : Int32 → St → Prop} (hret : RetI p l e R s m args below meth c Q 0 0 wX G A cX0_mostLiked post) (z0 : St) (hB : S_House_mostLiked post z0) : Xw p l e R s m args below meth c Q 0 0 wX G A z0 6 [(0, .ref (ad G 6))] 0 [] := by
  intro H locs ls hP hD hS hl
  have hx := S.1
  have hb := S.2.1
  refine lv_iconst (v := -1) hx hb dX0_mostLiked_0 (by decide) ?_
  refine lv_istore_n (lv' := [(1, .int (-1 : Int32)), (0, .ref (ad G 6))]) hx hb dX0_mostLiked_1 rfl hl (by decide) rfl (fun ls hl => ?_)
  refine lv_iconst (v := -1) hx hb dX0_mostLiked_2 (by decide) ?_
  refine lv_istore_n (lv' := [(2, .int (-1 : Int32)), (1, .int (-1 : Int32)), (0, .ref (ad G 6))]) hx hb dX0_mostLiked_3 rfl hl (by decide) rfl (fun ls hl => ?_)
  refine lv_iconst (v := 0) hx hb dX0_mostLiked_4 (by decide) ?_
  refine lv_istore_n (lv' := [(3, .int (0 : Int32)), (2, .int (-1 : Int32)), (1, .int (-1 : Int32)), (0, .ref (ad G 6))]) hx hb dX0_mostLiked_5 rfl hl (by decide) rfl (fun ls hl => ?_)
  obtain ⟨n1, hB⟩ := hB
  exact wl_House_mostLiked_6 S hE hA hRf hRl hret n1 (-1 : Int32) (-1 : Int32) (0 : Int32) z0 hB _ _ _ hP hD hS (lv_sub hl [3, 2, 1, 0] rfl)
set_option maxHeartbeats 4000000 in
set_option maxRecDepth 100000 in
theorem c_House_mostLiked (l : Launch) (G : GX) (z0 : St) (sz : Nat) (post : Int32 → St → Prop) : MetI l wX yX0_mostLiked cX0_mostLiked 6 (some .int) ({ frames := 0, cells := 0, slots := 0, locals := 0 }) [.ref (ad G 6)] G z0 sz (S_House_mostLiked post z0) post := by
  refine Met.ofW (cc := cX0_mostLiked) (maxL := 6) (ret := (some .int)) (by decide) rfl ?_
  intro p e s m args below meth c s₁ B hml hv
  obtain ⟨rfl, hsz, hP, hD0, hE, hB⟩ := hv
  have S : CallFix p m c cX0_mostLiked 6 s _ GW RX0 := ⟨B.exec, B.bytes, hml, findClass_of_methodNamed B.named, fun w h => atoms_spec (ws := Cond.code yX0_mostLiked cX0_mostLiked 6 (some .int) :: GW) B.pre w (List.mem_cons_of_mem _ h)⟩
  have hlocks := B.notSynchronized
  subst hsz
  have hD := hD0.self (sz := s.heap.size)
  generalize hAe : va_A (wX G z0) s.heap.size = A at hD hE ⊢
  have hA : ∀ q : Nat, s.heap.size ≤ q → A q := fun q h => by rw [← hAe]; exact Or.inr h
  have hS : va_S A s.heap s.heap [] := va_S.rf
  have hl := lv_entry ([.ref (ad G 6)]) (n := 6) (Nat.le_of_ble_eq_true rfl)
  rw [lg_entry_eq]
  generalize (lg_sl ([.ref (ad G 6)]) ++ List.replicate (6 - (lg_sl ([.ref (ad G 6)])).length) Slot.unset).toArray = ls at hl ⊢
  have hl : lv_has ls 6 [(0, .ref (ad G 6))] := hl
  refine w_House_mostLiked_0 S hE hA (Nat.le_refl _) (Nat.le_refl _) ?_  z0 hB _ _ _ hP hD hS hl
  intro pc ls r σ H locs hd hp hP hD hS
  exact W.iret (v := r) B.exec B.bytes B.returns (fun t ht hW => ⟨⟨r, σ, rfl, hp, by rw [ht]; exact hP, hD⟩, hS.F ht⟩) hS.2.2 hd
def B_Memory_middle_r6_11 (post : Int32 → St → Prop) (ih11 : Int32 → Int32 → Int32 → Int32 → St → Prop) (x1 : Int32) (x3 : Int32) (x4 : Int32) (x5 : Int32) (z0 : St) : Prop :=
  ((x3 ≤ x5 → (((1 : Int32) ≤ x3 → (¬ x3 = 0 ∧ (post (x4 / x3) z0))) ∧ (¬ (1 : Int32) ≤ x3 → (post (0 : Int32) z0)))) ∧ (¬ x3 ≤ x5 → (S_Memory_line (fun (r3 : Int32) (z1 : St) => (vp_in r3 6 ∧ (∀ v4 : Int32, v4 = (x4 + (gA z1 18 r3.toNatClampNeg)) → (∀ v5 : Int32, v5 = x5 + (1 : Int32) → (ih11 x1 x3 v4 v5 z1))))) (x1 - x5) (1 : Int32) z0)))
set_option maxHeartbeats 4000000 in
set_option maxRecDepth 100000 in
theorem w_Memory_middle_r6_11 {p : Program} {l : Launch} {e : Env} {R : Room} {s : State} {m : MethodId} {args : Array Value} {below : List Frame} {meth : Method} {c : Code} {Q : State → Prop} {G : GX} {A : Nat → Prop} (S : CallFix p m c cX4_middle 6 s args GW RX4) (hE : env G A s s.heap) (hA : ∀ q, s.heap.size ≤ q → A q) (hRf : 3 ≤ R.frames) (hRl : 64 ≤ R.locals) {post : Int32 → St → Prop} (hret : RetI p l e R s m args below meth c Q 0 0 wX G A cX4_middle post) {ih11 : Int32 → Int32 → Int32 → Int32 → St → Prop} (h11 : ∀ (x1 : Int32) (x3 : Int32) (x4 : Int32) (x5 : Int32) (z0 : St), ih11 x1 x3 x4 x5 z0 → Xw p l e R s m args below meth c Q 0 0 wX G A z0 6 [(0, .ref (ad G 5)), (1, .int x1), (2, .ref (ad G 6)), (3, .int x3), (4, .int x4), (5, .int x5)] 11 []) (x1 : Int32) (x3 : Int32) (x4 : Int32) (x5 : Int32) (z0 : St) (hB : B_Memory_middle_r6_11 post ih11 x1 x3 x4 x5 z0) : Xw p l e R s m args below meth c Q 0 0 wX G A z0 6 [(0, .ref (ad G 5)), (1, .int x1), (2, .ref (ad G 6)), (3, .int x3), (4, .int x4), (5, .int x5)] 11 [] := by
  intro H locs ls hP hD hS hl
  have hx := S.1
  have hb := S.2.1
  refine lv_iload hx hb dX4_middle_11 (lv_at hl 5 rfl) ?_
  refine lv_iload_n hx hb dX4_middle_13 rfl (lv_at hl 3 rfl) ?_
  refine lv_icmp_ge (tgt := 42) hx hb dX4_middle_14 (by decide) (fun c1 => ?_) (fun c1 => ?_)
  · have hB := hB.1 c1
    refine lv_iload_n hx hb dX4_middle_42 rfl (lv_at hl 3 rfl) ?_
    refine lv_iconst (v := 1) hx hb dX4_middle_43 (by decide) ?_
    refine lv_icmp_ge (tgt := 51) hx hb dX4_middle_44 (by decide) (fun c2 => ?_) (fun c2 => ?_)
    · have hB := hB.1 c2
      refine lv_iload hx hb dX4_middle_51 (lv_at hl 4 rfl) ?_
      refine lv_iload_n hx hb dX4_middle_53 rfl (lv_at hl 3 rfl) ?_
      obtain ⟨hne, hB⟩ := hB
      refine lv_idiv hx hb dX4_middle_54 hne ?_
      exact hret _ _ _ _ _ _ dX4_middle_55 hB hP hD hS
    · have hB := hB.2 c2
      refine lv_iconst (v := 0) hx hb dX4_middle_47 (by decide) ?_
      refine lv_goto (tgt := 55) hx hb dX4_middle_48 (by decide) ?_
      exact hret _ _ _ _ _ _ dX4_middle_55 hB hP hD hS
  · have hB := hB.2 c1
    refine lv_iload hx hb dX4_middle_17 (lv_at hl 4 rfl) ?_
    refine lv_aload_n hx hb dX4_middle_19 rfl (lv_at hl 2 rfl) ?_
    refine xXg_6_quality S hE hP lk_X4_60 dX4_middle_20 ?_
    refine lv_aload_n hx hb dX4_middle_23 rfl (lv_at hl 0 rfl) ?_
    refine lv_iload_n hx hb dX4_middle_24 rfl (lv_at hl 1 rfl) ?_
    refine lv_iload hx hb dX4_middle_25 (lv_at hl 5 rfl) ?_
    refine lv_isub hx hb dX4_middle_27 ?_
    refine lv_iconst (v := 1) hx hb dX4_middle_28 (by decide) ?_
    refine xcVi [.int (x1 - x5), .int (1 : Int32)] S hE hA hP hD hS (c_Memory_line l G z0 H.size (x1 - x5) (1 : Int32) _) hB (gw_c lk_X4_57 (gw_c wi_X4_line (gw_c we_X4_X4_line_X4_line (gw_c wn_X4 (gw_c wc_X4_line (fun _ h9 => h9)))))) hd_X4_line rfl rfl (Nat.le_trans (Nat.le_of_ble_eq_true rfl) hRf) (Nat.le_trans (Nat.le_of_ble_eq_true rfl) hRl) ⟨Nat.zero_le _, Nat.zero_le _⟩ (va_recv hE.1 hP (ci := 4) (q0 := 5) rfl rfl) rfl hl.1 rfl (Nat.le_of_ble_eq_true rfl) dX4_middle_29 (fun r3 z1 H locs hB hP hD hS => ?_)
    obtain ⟨hi, hB⟩ := hB
    refine xXl_18 S hE hP hi dX4_middle_32 ?_
    refine lv_iadd hx hb dX4_middle_33 ?_
    refine lv_topi (fun v4 ev4 => ?_)
    have hB := hB v4 ev4
    refine lv_istore (lv' := [(4, .int v4), (0, .ref (ad G 5)), (1, .int x1), (2, .ref (ad G 6)), (3, .int x3), (5, .int x5)]) hx hb dX4_middle_34 hl (by decide) rfl (fun ls hl => ?_)
    obtain ⟨v5, ev5⟩ : ∃ y9, y9 = x5 + (1 : Int32) := ⟨_, rfl⟩
    have hB := hB v5 ev5
    refine lv_iinc (v := v5) (lv' := [(5, .int v5), (4, .int v4), (0, .ref (ad G 5)), (1, .int x1), (2, .ref (ad G 6)), (3, .int x3)]) hx hb dX4_middle_36 hl (k := 5) rfl (by rw [ev5]; rfl) (by decide) rfl (fun ls hl => ?_)
    refine lv_goto (tgt := 11) hx hb dX4_middle_39 (by decide) ?_
    exact h11 x1 x3 v4 v5 z1 hB _ _ _ hP hD hS (lv_sub hl [2, 3, 4, 5, 1, 0] rfl)
def L_Memory_middle_r6_11 (post : Int32 → St → Prop) : Nat → Int32 → Int32 → Int32 → Int32 → St → Prop
  | 0 => fun _ _ _ _ _ => False
  | n + 1 => B_Memory_middle_r6_11 post (L_Memory_middle_r6_11 post n)
theorem wl_Memory_middle_r6_11 {p : Program} {l : Launch} {e : Env} {R : Room} {s : State} {m : MethodId} {args : Array Value} {below : List Frame} {meth : Method} {c : Code} {Q : State → Prop} {G : GX} {A : Nat → Prop} (S : CallFix p m c cX4_middle 6 s args GW RX4) (hE : env G A s s.heap) (hA : ∀ q, s.heap.size ≤ q → A q) (hRf : 3 ≤ R.frames) (hRl : 64 ≤ R.locals) {post : Int32 → St → Prop} (hret : RetI p l e R s m args below meth c Q 0 0 wX G A cX4_middle post) : ∀ (n : Nat) (x1 : Int32) (x3 : Int32) (x4 : Int32) (x5 : Int32) (z0 : St), L_Memory_middle_r6_11 post n x1 x3 x4 x5 z0 → Xw p l e R s m args below meth c Q 0 0 wX G A z0 6 [(0, .ref (ad G 5)), (1, .int x1), (2, .ref (ad G 6)), (3, .int x3), (4, .int x4), (5, .int x5)] 11 [] := by
  intro n
  induction n with
  | zero => intro x1 x3 x4 x5 z0 hB; exact absurd hB id
  | succ n ih => exact fun x1 x3 x4 x5 z0 hB => w_Memory_middle_r6_11 S hE hA hRf hRl hret ih x1 x3 x4 x5 z0 hB
def S_Memory_middle_r6 (post : Int32 → St → Prop) (x1 : Int32) (z0 : St) : Prop :=
  (S_Memory_bookLength (fun (r1 : Int32) (z1 : St) => (∃ n2, L_Memory_middle_r6_11 post n2 x1 r1 (0 : Int32) (0 : Int32) z1)) x1 z0)
set_option maxHeartbeats 4000000 in
set_option maxRecDepth 100000 in
theorem w_Memory_middle_r6_0 {p : Program} {l : Launch} {e : Env} {R : Room} {s : State} {m : MethodId} {args : Array Value} {below : List Frame} {meth : Method} {c : Code} {Q : State → Prop} {G : GX} {A : Nat → Prop} (S : CallFix p m c cX4_middle 6 s args GW RX4) (hE : env G A s s.heap) (hA : ∀ q, s.heap.size ≤ q → A q) (hRf : 3 ≤ R.frames) (hRl : 64 ≤ R.locals) {post : Int32 → St → Prop} (hret : RetI p l e R s m args below meth c Q 0 0 wX G A cX4_middle post) (x1 : Int32) (z0 : St) (hB : S_Memory_middle_r6 post x1 z0) : Xw p l e R s m args below meth c Q 0 0 wX G A z0 6 [(0, .ref (ad G 5)), (1, .int x1), (2, .ref (ad G 6))] 0 [] := by
  intro H locs ls hP hD hS hl
  have hx := S.1
  have hb := S.2.1
  refine lv_iload_n hx hb dX4_middle_0 rfl (lv_at hl 1 rfl) ?_
  refine xcSi [.int x1] S hE hA hP hD hS (c_Memory_bookLength l G z0 H.size x1 _) hB (gw_c lk_X4_54 (gw_c wt_X4_bookLength (gw_c wn_X4 (gw_c wc_X4_bookLength (fun _ h9 => h9))))) hs_X4_bookLength rfl rfl (Nat.le_trans (Nat.le_of_ble_eq_true rfl) hRf) (Nat.le_trans (Nat.le_of_ble_eq_true rfl) hRl) ⟨Nat.zero_le _, Nat.zero_le _⟩ rfl hl.1 rfl (Nat.le_of_ble_eq_true rfl) dX4_middle_1 (fun r1 z1 H locs hB hP hD hS => ?_)
  refine lv_istore_n (lv' := [(3, .int r1), (0, .ref (ad G 5)), (1, .int x1), (2, .ref (ad G 6))]) hx hb dX4_middle_4 rfl hl (by decide) rfl (fun ls hl => ?_)
  refine lv_iconst (v := 0) hx hb dX4_middle_5 (by decide) ?_
  refine lv_istore (lv' := [(4, .int (0 : Int32)), (3, .int r1), (0, .ref (ad G 5)), (1, .int x1), (2, .ref (ad G 6))]) hx hb dX4_middle_6 hl (by decide) rfl (fun ls hl => ?_)
  refine lv_iconst (v := 0) hx hb dX4_middle_8 (by decide) ?_
  refine lv_istore (lv' := [(5, .int (0 : Int32)), (4, .int (0 : Int32)), (3, .int r1), (0, .ref (ad G 5)), (1, .int x1), (2, .ref (ad G 6))]) hx hb dX4_middle_9 hl (by decide) rfl (fun ls hl => ?_)
  obtain ⟨n2, hB⟩ := hB
  exact wl_Memory_middle_r6_11 S hE hA hRf hRl hret n2 x1 r1 (0 : Int32) (0 : Int32) z1 hB _ _ _ hP hD hS (lv_sub hl [3, 4, 5, 2, 1, 0] rfl)
set_option maxHeartbeats 4000000 in
set_option maxRecDepth 100000 in
theorem c_Memory_middle_r6 (l : Launch) (G : GX) (z0 : St) (sz : Nat) (x1 : Int32) (post : Int32 → St → Prop) : MetI l wX yX4_middle cX4_middle 6 (some .int) ({ frames := 3, cells := 0, slots := 0, locals := 64 }) [.ref (ad G 5), .int x1, .ref (ad G 6)] G z0 sz (S_Memory_middle_r6 post x1 z0) post := by
  refine Met.ofW (cc := cX4_middle) (maxL := 6) (ret := (some .int)) (by decide) rfl ?_
  intro p e s m args below meth c s₁ B hml hv
  obtain ⟨rfl, hsz, hP, hD0, hE, hB⟩ := hv
  have S : CallFix p m c cX4_middle 6 s _ GW RX4 := ⟨B.exec, B.bytes, hml, findClass_of_methodNamed B.named, fun w h => atoms_spec (ws := Cond.code yX4_middle cX4_middle 6 (some .int) :: GW) B.pre w (List.mem_cons_of_mem _ h)⟩
  have hlocks := B.notSynchronized
  subst hsz
  have hD := hD0.self (sz := s.heap.size)
  generalize hAe : va_A (wX G z0) s.heap.size = A at hD hE ⊢
  have hA : ∀ q : Nat, s.heap.size ≤ q → A q := fun q h => by rw [← hAe]; exact Or.inr h
  have hS : va_S A s.heap s.heap [] := va_S.rf
  have hl := lv_entry ([.ref (ad G 5), .int x1, .ref (ad G 6)]) (n := 6) (Nat.le_of_ble_eq_true rfl)
  rw [lg_entry_eq]
  generalize (lg_sl ([.ref (ad G 5), .int x1, .ref (ad G 6)]) ++ List.replicate (6 - (lg_sl ([.ref (ad G 5), .int x1, .ref (ad G 6)])).length) Slot.unset).toArray = ls at hl ⊢
  have hl : lv_has ls 6 [(0, .ref (ad G 5)), (1, .int x1), (2, .ref (ad G 6))] := hl
  refine w_Memory_middle_r6_0 S hE hA (Nat.le_refl _) (Nat.le_refl _) ?_ x1 z0 hB _ _ _ hP hD hS hl
  intro pc ls r σ H locs hd hp hP hD hS
  exact W.iret (v := r) B.exec B.bytes B.returns (fun t ht hW => ⟨⟨r, σ, rfl, hp, by rw [ht]; exact hP, hD⟩, hS.F ht⟩) hS.2.2 hd
def B_Memory_timesBrought_30 (post : Int32 → St → Prop) (ih5 : Int32 → Int32 → Int32 → Int32 → St → Prop) (x1 : Int32) (x2 : Int32) (x3 : Int32) (x4 : Int32) (z0 : St) : Prop :=
  (∀ v1 : Int32, v1 = x4 + (1 : Int32) → (ih5 x1 x2 x3 v1 z0))
set_option maxHeartbeats 4000000 in
set_option maxRecDepth 100000 in
theorem w_Memory_timesBrought_30 {p : Program} {l : Launch} {e : Env} {R : Room} {s : State} {m : MethodId} {args : Array Value} {below : List Frame} {meth : Method} {c : Code} {Q : State → Prop} {G : GX} {A : Nat → Prop} (S : CallFix p m c cX4_timesBrought 5 s args GW RX4) (hE : env G A s s.heap) (hA : ∀ q, s.heap.size ≤ q → A q) (hRf : 3 ≤ R.frames) (hRl : 64 ≤ R.locals) {post : Int32 → St → Prop} (hret : RetI p l e R s m args below meth c Q 0 0 wX G A cX4_timesBrought post) {ih5 : Int32 → Int32 → Int32 → Int32 → St → Prop} (h5 : ∀ (x1 : Int32) (x2 : Int32) (x3 : Int32) (x4 : Int32) (z0 : St), ih5 x1 x2 x3 x4 z0 → Xw p l e R s m args below meth c Q 0 0 wX G A z0 5 [(0, .ref (ad G 5)), (1, .int x1), (2, .int x2), (3, .int x3), (4, .int x4)] 5 []) (x1 : Int32) (x2 : Int32) (x3 : Int32) (x4 : Int32) (z0 : St) (hB : B_Memory_timesBrought_30 post ih5 x1 x2 x3 x4 z0) : Xw p l e R s m args below meth c Q 0 0 wX G A z0 5 [(0, .ref (ad G 5)), (1, .int x1), (2, .int x2), (3, .int x3), (4, .int x4)] 30 [] := by
  intro H locs ls hP hD hS hl
  have hx := S.1
  have hb := S.2.1
  obtain ⟨v1, ev1⟩ : ∃ y9, y9 = x4 + (1 : Int32) := ⟨_, rfl⟩
  have hB := hB v1 ev1
  refine lv_iinc (v := v1) (lv' := [(4, .int v1), (0, .ref (ad G 5)), (1, .int x1), (2, .int x2), (3, .int x3)]) hx hb dX4_timesBrought_30 hl (k := 4) rfl (by rw [ev1]; rfl) (by decide) rfl (fun ls hl => ?_)
  refine lv_goto (tgt := 5) hx hb dX4_timesBrought_33 (by decide) ?_
  exact h5 x1 x2 x3 v1 z0 hB _ _ _ hP hD hS (lv_sub hl [1, 2, 3, 4, 0] rfl)
def B_Memory_timesBrought_5 (post : Int32 → St → Prop) (ih5 : Int32 → Int32 → Int32 → Int32 → St → Prop) (x1 : Int32) (x2 : Int32) (x3 : Int32) (x4 : Int32) (z0 : St) : Prop :=
  (S_Memory_bookLength (fun (r1 : Int32) (z1 : St) => ((r1 ≤ x4 → (post x3 z1)) ∧ (¬ r1 ≤ x4 → (S_Memory_line (fun (r3 : Int32) (z2 : St) => ((r3 = x2 → (∀ v5 : Int32, v5 = x3 + (1 : Int32) → (B_Memory_timesBrought_30 post ih5 x1 x2 v5 x4 z2))) ∧ (¬ r3 = x2 → (B_Memory_timesBrought_30 post ih5 x1 x2 x3 x4 z2)))) (x1 - x4) (2 : Int32) z1)))) x1 z0)
set_option maxHeartbeats 4000000 in
set_option maxRecDepth 100000 in
theorem w_Memory_timesBrought_5 {p : Program} {l : Launch} {e : Env} {R : Room} {s : State} {m : MethodId} {args : Array Value} {below : List Frame} {meth : Method} {c : Code} {Q : State → Prop} {G : GX} {A : Nat → Prop} (S : CallFix p m c cX4_timesBrought 5 s args GW RX4) (hE : env G A s s.heap) (hA : ∀ q, s.heap.size ≤ q → A q) (hRf : 3 ≤ R.frames) (hRl : 64 ≤ R.locals) {post : Int32 → St → Prop} (hret : RetI p l e R s m args below meth c Q 0 0 wX G A cX4_timesBrought post) {ih5 : Int32 → Int32 → Int32 → Int32 → St → Prop} (h5 : ∀ (x1 : Int32) (x2 : Int32) (x3 : Int32) (x4 : Int32) (z0 : St), ih5 x1 x2 x3 x4 z0 → Xw p l e R s m args below meth c Q 0 0 wX G A z0 5 [(0, .ref (ad G 5)), (1, .int x1), (2, .int x2), (3, .int x3), (4, .int x4)] 5 []) (x1 : Int32) (x2 : Int32) (x3 : Int32) (x4 : Int32) (z0 : St) (hB : B_Memory_timesBrought_5 post ih5 x1 x2 x3 x4 z0) : Xw p l e R s m args below meth c Q 0 0 wX G A z0 5 [(0, .ref (ad G 5)), (1, .int x1), (2, .int x2), (3, .int x3), (4, .int x4)] 5 [] := by
  intro H locs ls hP hD hS hl
  have hx := S.1
  have hb := S.2.1
  refine lv_iload hx hb dX4_timesBrought_5 (lv_at hl 4 rfl) ?_
  refine lv_iload_n hx hb dX4_timesBrought_7 rfl (lv_at hl 1 rfl) ?_
  refine xcSi [.int x1] S hE hA hP hD hS (c_Memory_bookLength l G z0 H.size x1 _) hB (gw_c lk_X4_54 (gw_c wt_X4_bookLength (gw_c wn_X4 (gw_c wc_X4_bookLength (fun _ h9 => h9))))) hs_X4_bookLength rfl rfl (Nat.le_trans (Nat.le_of_ble_eq_true rfl) hRf) (Nat.le_trans (Nat.le_of_ble_eq_true rfl) hRl) ⟨Nat.zero_le _, Nat.zero_le _⟩ rfl hl.1 rfl (Nat.le_of_ble_eq_true rfl) dX4_timesBrought_8 (fun r1 z1 H locs hB hP hD hS => ?_)
  refine lv_icmp_ge (tgt := 36) hx hb dX4_timesBrought_11 (by decide) (fun c2 => ?_) (fun c2 => ?_)
  · have hB := hB.1 c2
    refine lv_iload_n hx hb dX4_timesBrought_36 rfl (lv_at hl 3 rfl) ?_
    exact hret _ _ _ _ _ _ dX4_timesBrought_37 hB hP hD hS
  · have hB := hB.2 c2
    refine lv_aload_n hx hb dX4_timesBrought_14 rfl (lv_at hl 0 rfl) ?_
    refine lv_iload_n hx hb dX4_timesBrought_15 rfl (lv_at hl 1 rfl) ?_
    refine lv_iload hx hb dX4_timesBrought_16 (lv_at hl 4 rfl) ?_
    refine lv_isub hx hb dX4_timesBrought_18 ?_
    refine lv_iconst (v := 2) hx hb dX4_timesBrought_19 (by decide) ?_
    refine xcVi [.int (x1 - x4), .int (2 : Int32)] S hE hA hP hD hS (c_Memory_line l G z1 H.size (x1 - x4) (2 : Int32) _) hB (gw_c lk_X4_57 (gw_c wi_X4_line (gw_c we_X4_X4_line_X4_line (gw_c wn_X4 (gw_c wc_X4_line (fun _ h9 => h9)))))) hd_X4_line rfl rfl (Nat.le_trans (Nat.le_of_ble_eq_true rfl) hRf) (Nat.le_trans (Nat.le_of_ble_eq_true rfl) hRl) ⟨Nat.zero_le _, Nat.zero_le _⟩ (va_recv hE.1 hP (ci := 4) (q0 := 5) rfl rfl) rfl hl.1 rfl (Nat.le_of_ble_eq_true rfl) dX4_timesBrought_20 (fun r3 z2 H locs hB hP hD hS => ?_)
    refine lv_iload_n hx hb dX4_timesBrought_23 rfl (lv_at hl 2 rfl) ?_
    refine lv_icmp_ne (tgt := 30) hx hb dX4_timesBrought_24 (by decide) (fun c4 => ?_) (fun c4 => ?_)
    · have hB := hB.2 c4
      exact w_Memory_timesBrought_30 S hE hA hRf hRl hret h5 x1 x2 x3 x4 z2 hB _ _ _ hP hD hS (lv_sub hl [0, 1, 2, 3, 4] rfl)
    · have hB := hB.1 c4
      obtain ⟨v5, ev5⟩ : ∃ y9, y9 = x3 + (1 : Int32) := ⟨_, rfl⟩
      have hB := hB v5 ev5
      refine lv_iinc (v := v5) (lv' := [(3, .int v5), (0, .ref (ad G 5)), (1, .int x1), (2, .int x2), (4, .int x4)]) hx hb dX4_timesBrought_27 hl (k := 3) rfl (by rw [ev5]; rfl) (by decide) rfl (fun ls hl => ?_)
      exact w_Memory_timesBrought_30 S hE hA hRf hRl hret h5 x1 x2 v5 x4 z2 hB _ _ _ hP hD hS (lv_sub hl [1, 2, 3, 0, 4] rfl)
def L_Memory_timesBrought_5 (post : Int32 → St → Prop) : Nat → Int32 → Int32 → Int32 → Int32 → St → Prop
  | 0 => fun _ _ _ _ _ => False
  | n + 1 => B_Memory_timesBrought_5 post (L_Memory_timesBrought_5 post n)
theorem wl_Memory_timesBrought_5 {p : Program} {l : Launch} {e : Env} {R : Room} {s : State} {m : MethodId} {args : Array Value} {below : List Frame} {meth : Method} {c : Code} {Q : State → Prop} {G : GX} {A : Nat → Prop} (S : CallFix p m c cX4_timesBrought 5 s args GW RX4) (hE : env G A s s.heap) (hA : ∀ q, s.heap.size ≤ q → A q) (hRf : 3 ≤ R.frames) (hRl : 64 ≤ R.locals) {post : Int32 → St → Prop} (hret : RetI p l e R s m args below meth c Q 0 0 wX G A cX4_timesBrought post) : ∀ (n : Nat) (x1 : Int32) (x2 : Int32) (x3 : Int32) (x4 : Int32) (z0 : St), L_Memory_timesBrought_5 post n x1 x2 x3 x4 z0 → Xw p l e R s m args below meth c Q 0 0 wX G A z0 5 [(0, .ref (ad G 5)), (1, .int x1), (2, .int x2), (3, .int x3), (4, .int x4)] 5 [] := by
  intro n
  induction n with
  | zero => intro x1 x2 x3 x4 z0 hB; exact absurd hB id
  | succ n ih => exact fun x1 x2 x3 x4 z0 hB => w_Memory_timesBrought_5 S hE hA hRf hRl hret ih x1 x2 x3 x4 z0 hB
def S_Memory_timesBrought (post : Int32 → St → Prop) (x1 : Int32) (x2 : Int32) (z0 : St) : Prop :=
  (∃ n1, L_Memory_timesBrought_5 post n1 x1 x2 (0 : Int32) (0 : Int32) z0)
set_option maxHeartbeats 4000000 in
set_option maxRecDepth 100000 in
theorem w_Memory_timesBrought_0 {p : Program} {l : Launch} {e : Env} {R : Room} {s : State} {m : MethodId} {args : Array Value} {below : List Frame} {meth : Method} {c : Code} {Q : State → Prop} {G : GX} {A : Nat → Prop} (S : CallFix p m c cX4_timesBrought 5 s args GW RX4) (hE : env G A s s.heap) (hA : ∀ q, s.heap.size ≤ q → A q) (hRf : 3 ≤ R.frames) (hRl : 64 ≤ R.locals) {post : Int32 → St → Prop} (hret : RetI p l e R s m args below meth c Q 0 0 wX G A cX4_timesBrought post) (x1 : Int32) (x2 : Int32) (z0 : St) (hB : S_Memory_timesBrought post x1 x2 z0) : Xw p l e R s m args below meth c Q 0 0 wX G A z0 5 [(0, .ref (ad G 5)), (1, .int x1), (2, .int x2)] 0 [] := by
  intro H locs ls hP hD hS hl
  have hx := S.1
  have hb := S.2.1
  refine lv_iconst (v := 0) hx hb dX4_timesBrought_0 (by decide) ?_
  refine lv_istore_n (lv' := [(3, .int (0 : Int32)), (0, .ref (ad G 5)), (1, .int x1), (2, .int x2)]) hx hb dX4_timesBrought_1 rfl hl (by decide) rfl (fun ls hl => ?_)
  refine lv_iconst (v := 0) hx hb dX4_timesBrought_2 (by decide) ?_
  refine lv_istore (lv' := [(4, .int (0 : Int32)), (3, .int (0 : Int32)), (0, .ref (ad G 5)), (1, .int x1), (2, .int x2)]) hx hb dX4_timesBrought_3 hl (by decide) rfl (fun ls hl => ?_)
  obtain ⟨n1, hB⟩ := hB
  exact wl_Memory_timesBrought_5 S hE hA hRf hRl hret n1 x1 x2 (0 : Int32) (0 : Int32) z0 hB _ _ _ hP hD hS (lv_sub hl [2, 3, 4, 1, 0] rfl)
set_option maxHeartbeats 4000000 in
set_option maxRecDepth 100000 in
theorem c_Memory_timesBrought (l : Launch) (G : GX) (z0 : St) (sz : Nat) (x1 : Int32) (x2 : Int32) (post : Int32 → St → Prop) : MetI l wX yX4_timesBrought cX4_timesBrought 5 (some .int) ({ frames := 3, cells := 0, slots := 0, locals := 64 }) [.ref (ad G 5), .int x1, .int x2] G z0 sz (S_Memory_timesBrought post x1 x2 z0) post := by
  refine Met.ofW (cc := cX4_timesBrought) (maxL := 5) (ret := (some .int)) (by decide) rfl ?_
  intro p e s m args below meth c s₁ B hml hv
  obtain ⟨rfl, hsz, hP, hD0, hE, hB⟩ := hv
  have S : CallFix p m c cX4_timesBrought 5 s _ GW RX4 := ⟨B.exec, B.bytes, hml, findClass_of_methodNamed B.named, fun w h => atoms_spec (ws := Cond.code yX4_timesBrought cX4_timesBrought 5 (some .int) :: GW) B.pre w (List.mem_cons_of_mem _ h)⟩
  have hlocks := B.notSynchronized
  subst hsz
  have hD := hD0.self (sz := s.heap.size)
  generalize hAe : va_A (wX G z0) s.heap.size = A at hD hE ⊢
  have hA : ∀ q : Nat, s.heap.size ≤ q → A q := fun q h => by rw [← hAe]; exact Or.inr h
  have hS : va_S A s.heap s.heap [] := va_S.rf
  have hl := lv_entry ([.ref (ad G 5), .int x1, .int x2]) (n := 5) (Nat.le_of_ble_eq_true rfl)
  rw [lg_entry_eq]
  generalize (lg_sl ([.ref (ad G 5), .int x1, .int x2]) ++ List.replicate (5 - (lg_sl ([.ref (ad G 5), .int x1, .int x2])).length) Slot.unset).toArray = ls at hl ⊢
  have hl : lv_has ls 5 [(0, .ref (ad G 5)), (1, .int x1), (2, .int x2)] := hl
  refine w_Memory_timesBrought_0 S hE hA (Nat.le_refl _) (Nat.le_refl _) ?_ x1 x2 z0 hB _ _ _ hP hD hS hl
  intro pc ls r σ H locs hd hp hP hD hS
  exact W.iret (v := r) B.exec B.bytes B.returns (fun t ht hW => ⟨⟨r, σ, rfl, hp, by rw [ht]; exact hP, hD⟩, hS.F ht⟩) hS.2.2 hd
def B_Table_leastPrice_8_5 (post : Int32 → St → Prop) (ih5 : Int32 → Int32 → St → Prop) (x1 : Int32) (x2 : Int32) (z0 : St) : Prop :=
  (((gI z0 26) ≤ x2 → (post x1 z0)) ∧ (¬ (gI z0 26) ≤ x2 → (vp_in ((22 : Int32) + x2) 28 ∧ (S_Math_min_7cf53_X (fun (r2 : Int32) (z1 : St) => (∀ v3 : Int32, v3 = x2 + (1 : Int32) → (ih5 r2 v3 z1))) x1 (gA z0 23 ((22 : Int32) + x2).toNatClampNeg) z0))))
set_option maxHeartbeats 4000000 in
set_option maxRecDepth 100000 in
theorem w_Table_leastPrice_8_5 {p : Program} {l : Launch} {e : Env} {R : Room} {s : State} {m : MethodId} {args : Array Value} {below : List Frame} {meth : Method} {c : Code} {Q : State → Prop} {G : GX} {A : Nat → Prop} (S : CallFix p m c cX8_leastPrice 3 s args GW RX8) (hE : env G A s s.heap) (hA : ∀ q, s.heap.size ≤ q → A q) (hRf : 1 ≤ R.frames) (hRl : 21 ≤ R.locals) {post : Int32 → St → Prop} (hret : RetI p l e R s m args below meth c Q 0 0 wX G A cX8_leastPrice post) {ih5 : Int32 → Int32 → St → Prop} (h5 : ∀ (x1 : Int32) (x2 : Int32) (z0 : St), ih5 x1 x2 z0 → Xw p l e R s m args below meth c Q 0 0 wX G A z0 3 [(0, .ref (ad G 8)), (1, .int x1), (2, .int x2)] 5 []) (x1 : Int32) (x2 : Int32) (z0 : St) (hB : B_Table_leastPrice_8_5 post ih5 x1 x2 z0) : Xw p l e R s m args below meth c Q 0 0 wX G A z0 3 [(0, .ref (ad G 8)), (1, .int x1), (2, .int x2)] 5 [] := by
  intro H locs ls hP hD hS hl
  have hx := S.1
  have hb := S.2.1
  refine lv_iload_n hx hb dX8_leastPrice_5 rfl (lv_at hl 2 rfl) ?_
  refine lv_aload_n hx hb dX8_leastPrice_6 rfl (lv_at hl 0 rfl) ?_
  refine xXg_8_house S hE hP lk_X8_15 dX8_leastPrice_7 ?_
  refine xXg_6_drinks S hE hP lk_X8_35 dX8_leastPrice_10 ?_
  refine lv_icmp_ge (tgt := 36) hx hb dX8_leastPrice_13 (by decide) (fun c1 => ?_) (fun c1 => ?_)
  · have hB := hB.1 c1
    refine lv_iload_n hx hb dX8_leastPrice_36 rfl (lv_at hl 1 rfl) ?_
    exact hret _ _ _ _ _ _ dX8_leastPrice_37 hB hP hD hS
  · have hB := hB.2 c1
    refine lv_iload_n hx hb dX8_leastPrice_16 rfl (lv_at hl 1 rfl) ?_
    refine lv_aload_n hx hb dX8_leastPrice_17 rfl (lv_at hl 0 rfl) ?_
    refine xXg_8_cells S hE hP lk_X8_11 dX8_leastPrice_18 ?_
    refine lv_bipush (v := 22) hx hb dX8_leastPrice_21 (by decide) ?_
    refine lv_iload_n hx hb dX8_leastPrice_23 rfl (lv_at hl 2 rfl) ?_
    refine lv_iadd hx hb dX8_leastPrice_24 ?_
    obtain ⟨hi, hB⟩ := hB
    refine xXl_23 S hE hP hi dX8_leastPrice_25 ?_
    refine xcSi [.int x1, .int (gA z0 23 ((22 : Int32) + x2).toNatClampNeg)] S hE hA hP hD hS (c_Math_min_7cf53_X l G z0 H.size x1 (gA z0 23 ((22 : Int32) + x2).toNatClampNeg) _) hB (gw_c lk_X8_60 (gw_c wt_J9_min_7cf53 (gw_c wn_J9 (gw_c wc_J9_min_7cf53 (fun _ h9 => h9))))) hs_J9_min_7cf53 rfl rfl (Nat.le_trans (Nat.le_of_ble_eq_true rfl) hRf) (Nat.le_trans (Nat.le_of_ble_eq_true rfl) hRl) ⟨Nat.zero_le _, Nat.zero_le _⟩ rfl hl.1 rfl (Nat.le_of_ble_eq_true rfl) dX8_leastPrice_26 (fun r2 z1 H locs hB hP hD hS => ?_)
    refine lv_istore_n (lv' := [(1, .int r2), (0, .ref (ad G 8)), (2, .int x2)]) hx hb dX8_leastPrice_29 rfl hl (by decide) rfl (fun ls hl => ?_)
    obtain ⟨v3, ev3⟩ : ∃ y9, y9 = x2 + (1 : Int32) := ⟨_, rfl⟩
    have hB := hB v3 ev3
    refine lv_iinc (v := v3) (lv' := [(2, .int v3), (1, .int r2), (0, .ref (ad G 8))]) hx hb dX8_leastPrice_30 hl (k := 2) rfl (by rw [ev3]; rfl) (by decide) rfl (fun ls hl => ?_)
    refine lv_goto (tgt := 5) hx hb dX8_leastPrice_33 (by decide) ?_
    exact h5 r2 v3 z1 hB _ _ _ hP hD hS (lv_sub hl [2, 1, 0] rfl)
def L_Table_leastPrice_8_5 (post : Int32 → St → Prop) : Nat → Int32 → Int32 → St → Prop
  | 0 => fun _ _ _ => False
  | n + 1 => B_Table_leastPrice_8_5 post (L_Table_leastPrice_8_5 post n)
theorem wl_Table_leastPrice_8_5 {p : Program} {l : Launch} {e : Env} {R : Room} {s : State} {m : MethodId} {args : Array Value} {below : List Frame} {meth : Method} {c : Code} {Q : State → Prop} {G : GX} {A : Nat → Prop} (S : CallFix p m c cX8_leastPrice 3 s args GW RX8) (hE : env G A s s.heap) (hA : ∀ q, s.heap.size ≤ q → A q) (hRf : 1 ≤ R.frames) (hRl : 21 ≤ R.locals) {post : Int32 → St → Prop} (hret : RetI p l e R s m args below meth c Q 0 0 wX G A cX8_leastPrice post) : ∀ (n : Nat) (x1 : Int32) (x2 : Int32) (z0 : St), L_Table_leastPrice_8_5 post n x1 x2 z0 → Xw p l e R s m args below meth c Q 0 0 wX G A z0 3 [(0, .ref (ad G 8)), (1, .int x1), (2, .int x2)] 5 [] := by
  intro n
  induction n with
  | zero => intro x1 x2 z0 hB; exact absurd hB id
  | succ n ih => exact fun x1 x2 z0 hB => w_Table_leastPrice_8_5 S hE hA hRf hRl hret ih x1 x2 z0 hB
def S_Table_leastPrice_8 (post : Int32 → St → Prop) (z0 : St) : Prop :=
  (∃ n1, L_Table_leastPrice_8_5 post n1 (60 : Int32) (0 : Int32) z0)
set_option maxHeartbeats 4000000 in
set_option maxRecDepth 100000 in
theorem w_Table_leastPrice_8_0 {p : Program} {l : Launch} {e : Env} {R : Room} {s : State} {m : MethodId} {args : Array Value} {below : List Frame} {meth : Method} {c : Code} {Q : State → Prop} {G : GX} {A : Nat → Prop} (S : CallFix p m c cX8_leastPrice 3 s args GW RX8) (hE : env G A s s.heap) (hA : ∀ q, s.heap.size ≤ q → A q) (hRf : 1 ≤ R.frames) (hRl : 21 ≤ R.locals) {post : Int32 → St → Prop} (hret : RetI p l e R s m args below meth c Q 0 0 wX G A cX8_leastPrice post) (z0 : St) (hB : S_Table_leastPrice_8 post z0) : Xw p l e R s m args below meth c Q 0 0 wX G A z0 3 [(0, .ref (ad G 8))] 0 [] := by
  intro H locs ls hP hD hS hl
  have hx := S.1
  have hb := S.2.1
  refine lv_bipush (v := 60) hx hb dX8_leastPrice_0 (by decide) ?_
  refine lv_istore_n (lv' := [(1, .int (60 : Int32)), (0, .ref (ad G 8))]) hx hb dX8_leastPrice_2 rfl hl (by decide) rfl (fun ls hl => ?_)
  refine lv_iconst (v := 0) hx hb dX8_leastPrice_3 (by decide) ?_
  refine lv_istore_n (lv' := [(2, .int (0 : Int32)), (1, .int (60 : Int32)), (0, .ref (ad G 8))]) hx hb dX8_leastPrice_4 rfl hl (by decide) rfl (fun ls hl => ?_)
  obtain ⟨n1, hB⟩ := hB
  exact wl_Table_leastPrice_8_5 S hE hA hRf hRl hret n1 (60 : Int32) (0 : Int32) z0 hB _ _ _ hP hD hS (lv_sub hl [2, 1, 0] rfl)
set_option maxHeartbeats 4000000 in
set_option maxRecDepth 100000 in
theorem c_Table_leastPrice_8 (l : Launch) (G : GX) (z0 : St) (sz : Nat) (post : Int32 → St → Prop) : MetI l wX yX8_leastPrice cX8_leastPrice 3 (some .int) ({ frames := 1, cells := 0, slots := 0, locals := 21 }) [.ref (ad G 8)] G z0 sz (S_Table_leastPrice_8 post z0) post := by
  refine Met.ofW (cc := cX8_leastPrice) (maxL := 3) (ret := (some .int)) (by decide) rfl ?_
  intro p e s m args below meth c s₁ B hml hv
  obtain ⟨rfl, hsz, hP, hD0, hE, hB⟩ := hv
  have S : CallFix p m c cX8_leastPrice 3 s _ GW RX8 := ⟨B.exec, B.bytes, hml, findClass_of_methodNamed B.named, fun w h => atoms_spec (ws := Cond.code yX8_leastPrice cX8_leastPrice 3 (some .int) :: GW) B.pre w (List.mem_cons_of_mem _ h)⟩
  have hlocks := B.notSynchronized
  subst hsz
  have hD := hD0.self (sz := s.heap.size)
  generalize hAe : va_A (wX G z0) s.heap.size = A at hD hE ⊢
  have hA : ∀ q : Nat, s.heap.size ≤ q → A q := fun q h => by rw [← hAe]; exact Or.inr h
  have hS : va_S A s.heap s.heap [] := va_S.rf
  have hl := lv_entry ([.ref (ad G 8)]) (n := 3) (Nat.le_of_ble_eq_true rfl)
  rw [lg_entry_eq]
  generalize (lg_sl ([.ref (ad G 8)]) ++ List.replicate (3 - (lg_sl ([.ref (ad G 8)])).length) Slot.unset).toArray = ls at hl ⊢
  have hl : lv_has ls 3 [(0, .ref (ad G 8))] := hl
  refine w_Table_leastPrice_8_0 S hE hA (Nat.le_refl _) (Nat.le_refl _) ?_  z0 hB _ _ _ hP hD hS hl
  intro pc ls r σ H locs hd hp hP hD hS
  exact W.iret (v := r) B.exec B.bytes B.returns (fun t ht hW => ⟨⟨r, σ, rfl, hp, by rw [ht]; exact hP, hD⟩, hS.F ht⟩) hS.2.2 hd
def B_Table_nobles_8_64 (post : Int32 → St → Prop) (ih4 : Int32 → Int32 → St → Prop) (x1 : Int32) (x2 : Int32) (z0 : St) : Prop :=
  (∀ v1 : Int32, v1 = x2 + (1 : Int32) → (ih4 x1 v1 z0))
set_option maxHeartbeats 4000000 in
set_option maxRecDepth 100000 in
theorem w_Table_nobles_8_64 {p : Program} {l : Launch} {e : Env} {R : Room} {s : State} {m : MethodId} {args : Array Value} {below : List Frame} {meth : Method} {c : Code} {Q : State → Prop} {G : GX} {A : Nat → Prop} (S : CallFix p m c cX8_nobles 4 s args GW RX8) (hE : env G A s s.heap) (hA : ∀ q, s.heap.size ≤ q → A q) (hRf : 4 ≤ R.frames) (hRl : 98 ≤ R.locals) {post : Int32 → St → Prop} (hret : RetI p l e R s m args below meth c Q 0 0 wX G A cX8_nobles post) {ih4 : Int32 → Int32 → St → Prop} (h4 : ∀ (x1 : Int32) (x2 : Int32) (z0 : St), ih4 x1 x2 z0 → Xw p l e R s m args below meth c Q 0 0 wX G A z0 4 [(0, .ref (ad G 8)), (1, .int x1), (2, .int x2)] 4 []) (x1 : Int32) (x2 : Int32) (z0 : St) (hB : B_Table_nobles_8_64 post ih4 x1 x2 z0) : Xw p l e R s m args below meth c Q 0 0 wX G A z0 4 [(0, .ref (ad G 8)), (1, .int x1), (2, .int x2)] 64 [] := by
  intro H locs ls hP hD hS hl
  have hx := S.1
  have hb := S.2.1
  obtain ⟨v1, ev1⟩ : ∃ y9, y9 = x2 + (1 : Int32) := ⟨_, rfl⟩
  have hB := hB v1 ev1
  refine lv_iinc (v := v1) (lv' := [(2, .int v1), (0, .ref (ad G 8)), (1, .int x1)]) hx hb dX8_nobles_64 hl (k := 2) rfl (by rw [ev1]; rfl) (by decide) rfl (fun ls hl => ?_)
  refine lv_goto (tgt := 4) hx hb dX8_nobles_67 (by decide) ?_
  exact h4 x1 v1 z0 hB _ _ _ hP hD hS (lv_sub hl [1, 2, 0] rfl)
def B_Table_nobles_8_4 (post : Int32 → St → Prop) (ih4 : Int32 → Int32 → St → Prop) (x1 : Int32) (x2 : Int32) (z0 : St) : Prop :=
  (((gI z0 27) ≤ x2 → (post x1 z0)) ∧ (¬ (gI z0 27) ≤ x2 → (S_Table_wouldBring_8 (fun (r2 : Int32) (z1 : St) => ((r2 = (-1 : Int32) → (B_Table_nobles_8_64 post ih4 x1 x2 z1)) ∧ (¬ r2 = (-1 : Int32) → (vp_in r2 6 ∧ (vp_in (gA z1 23 0) 6 ∧ (((gA z1 18 r2.toNatClampNeg) ≤ (gA z1 18 (gA z1 23 0).toNatClampNeg) → (B_Table_nobles_8_64 post ih4 x1 x2 z1)) ∧ (¬ (gA z1 18 r2.toNatClampNeg) ≤ (gA z1 18 (gA z1 23 0).toNatClampNeg) → (∀ v5 : Int32, v5 = (x1 ||| ((1 : Int32) <<< (x2 &&& 31))) → (B_Table_nobles_8_64 post ih4 v5 x2 z1))))))))) x2 (gA z0 23 0) z0)))
set_option maxHeartbeats 4000000 in
set_option maxRecDepth 100000 in
theorem w_Table_nobles_8_4 {p : Program} {l : Launch} {e : Env} {R : Room} {s : State} {m : MethodId} {args : Array Value} {below : List Frame} {meth : Method} {c : Code} {Q : State → Prop} {G : GX} {A : Nat → Prop} (S : CallFix p m c cX8_nobles 4 s args GW RX8) (hE : env G A s s.heap) (hA : ∀ q, s.heap.size ≤ q → A q) (hRf : 4 ≤ R.frames) (hRl : 98 ≤ R.locals) {post : Int32 → St → Prop} (hret : RetI p l e R s m args below meth c Q 0 0 wX G A cX8_nobles post) {ih4 : Int32 → Int32 → St → Prop} (h4 : ∀ (x1 : Int32) (x2 : Int32) (z0 : St), ih4 x1 x2 z0 → Xw p l e R s m args below meth c Q 0 0 wX G A z0 4 [(0, .ref (ad G 8)), (1, .int x1), (2, .int x2)] 4 []) (x1 : Int32) (x2 : Int32) (z0 : St) (hB : B_Table_nobles_8_4 post ih4 x1 x2 z0) : Xw p l e R s m args below meth c Q 0 0 wX G A z0 4 [(0, .ref (ad G 8)), (1, .int x1), (2, .int x2)] 4 [] := by
  intro H locs ls hP hD hS hl
  have hx := S.1
  have hb := S.2.1
  refine lv_iload_n hx hb dX8_nobles_4 rfl (lv_at hl 2 rfl) ?_
  refine lv_aload_n hx hb dX8_nobles_5 rfl (lv_at hl 0 rfl) ?_
  refine xXg_8_house S hE hP lk_X8_15 dX8_nobles_6 ?_
  refine xXg_6_guests S hE hP lk_X8_45 dX8_nobles_9 ?_
  refine lv_icmp_ge (tgt := 70) hx hb dX8_nobles_12 (by decide) (fun c1 => ?_) (fun c1 => ?_)
  · have hB := hB.1 c1
    refine lv_iload_n hx hb dX8_nobles_70 rfl (lv_at hl 1 rfl) ?_
    exact hret _ _ _ _ _ _ dX8_nobles_71 hB hP hD hS
  · have hB := hB.2 c1
    refine lv_aload_n hx hb dX8_nobles_15 rfl (lv_at hl 0 rfl) ?_
    refine lv_iload_n hx hb dX8_nobles_16 rfl (lv_at hl 2 rfl) ?_
    refine lv_aload_n hx hb dX8_nobles_17 rfl (lv_at hl 0 rfl) ?_
    refine xXg_8_cells S hE hP lk_X8_11 dX8_nobles_18 ?_
    refine lv_iconst (v := 0) hx hb dX8_nobles_21 (by decide) ?_
    refine xXk_23 S hE hP 0 (by decide) (by unfold vp_in; decide) dX8_nobles_22 ?_
    refine xcVi [.int x2, .int (gA z0 23 0)] S hE hA hP hD hS (c_Table_wouldBring_8 l G z0 H.size x2 (gA z0 23 0) _) hB (gw_c lk_X8_140 (gw_c wi_X8_wouldBring (gw_c we_X8_X8_wouldBring_X8_wouldBring (gw_c wn_X8 (gw_c wc_X8_wouldBring (fun _ h9 => h9)))))) hd_X8_wouldBring rfl rfl (Nat.le_trans (Nat.le_of_ble_eq_true rfl) hRf) (Nat.le_trans (Nat.le_of_ble_eq_true rfl) hRl) ⟨Nat.zero_le _, Nat.zero_le _⟩ (va_recv hE.1 hP (ci := 7) (q0 := 8) rfl rfl) rfl hl.1 rfl (Nat.le_of_ble_eq_true rfl) dX8_nobles_23 (fun r2 z1 H locs hB hP hD hS => ?_)
    refine lv_istore_n (lv' := [(3, .int r2), (0, .ref (ad G 8)), (1, .int x1), (2, .int x2)]) hx hb dX8_nobles_26 rfl hl (by decide) rfl (fun ls hl => ?_)
    refine lv_iload_n hx hb dX8_nobles_27 rfl (lv_at hl 0 rfl) ?_
    refine lv_iconst (v := -1) hx hb dX8_nobles_28 (by decide) ?_
    refine lv_icmp_eq (tgt := 64) hx hb dX8_nobles_29 (by decide) (fun c3 => ?_) (fun c3 => ?_)
    · have hB := hB.1 c3
      exact w_Table_nobles_8_64 S hE hA hRf hRl hret h4 x1 x2 z1 hB _ _ _ hP hD hS (lv_sub hl [1, 2, 3] rfl)
    · have hB := hB.2 c3
      refine lv_aload_n hx hb dX8_nobles_32 rfl (lv_at hl 1 rfl) ?_
      refine xXg_8_house S hE hP lk_X8_15 dX8_nobles_33 ?_
      refine xXg_6_quality S hE hP lk_X8_113 dX8_nobles_36 ?_
      refine lv_iload_n hx hb dX8_nobles_39 rfl (lv_at hl 0 rfl) ?_
      obtain ⟨hi, hB⟩ := hB
      refine xXl_18 S hE hP hi dX8_nobles_40 ?_
      refine lv_aload_n hx hb dX8_nobles_41 rfl (lv_at hl 1 rfl) ?_
      refine xXg_8_house S hE hP lk_X8_15 dX8_nobles_42 ?_
      refine xXg_6_quality S hE hP lk_X8_113 dX8_nobles_45 ?_
      refine lv_aload_n hx hb dX8_nobles_48 rfl (lv_at hl 1 rfl) ?_
      refine xXg_8_cells S hE hP lk_X8_11 dX8_nobles_49 ?_
      refine lv_iconst (v := 0) hx hb dX8_nobles_52 (by decide) ?_
      refine xXk_23 S hE hP 0 (by decide) (by unfold vp_in; decide) dX8_nobles_53 ?_
      obtain ⟨hi, hB⟩ := hB
      refine xXl_18 S hE hP hi dX8_nobles_54 ?_
      refine lv_icmp_le (tgt := 64) hx hb dX8_nobles_55 (by decide) (fun c4 => ?_) (fun c4 => ?_)
      · have hB := hB.1 c4
        exact w_Table_nobles_8_64 S hE hA hRf hRl hret h4 x1 x2 z1 hB _ _ _ hP hD hS (lv_sub hl [1, 2, 3] rfl)
      · have hB := hB.2 c4
        refine lv_iload_n hx hb dX8_nobles_58 rfl (lv_at hl 2 rfl) ?_
        refine lv_iconst (v := 1) hx hb dX8_nobles_59 (by decide) ?_
        refine lv_iload_n hx hb dX8_nobles_60 rfl (lv_at hl 3 rfl) ?_
        refine lv_ishl hx hb dX8_nobles_61 ?_
        refine lv_ior hx hb dX8_nobles_62 ?_
        refine lv_topi (fun v5 ev5 => ?_)
        have hB := hB v5 ev5
        refine lv_istore_n (lv' := [(1, .int v5), (3, .int r2), (0, .ref (ad G 8)), (2, .int x2)]) hx hb dX8_nobles_63 rfl hl (by decide) rfl (fun ls hl => ?_)
        exact w_Table_nobles_8_64 S hE hA hRf hRl hret h4 v5 x2 z1 hB _ _ _ hP hD hS (lv_sub hl [2, 0, 3] rfl)
def L_Table_nobles_8_4 (post : Int32 → St → Prop) : Nat → Int32 → Int32 → St → Prop
  | 0 => fun _ _ _ => False
  | n + 1 => B_Table_nobles_8_4 post (L_Table_nobles_8_4 post n)
theorem wl_Table_nobles_8_4 {p : Program} {l : Launch} {e : Env} {R : Room} {s : State} {m : MethodId} {args : Array Value} {below : List Frame} {meth : Method} {c : Code} {Q : State → Prop} {G : GX} {A : Nat → Prop} (S : CallFix p m c cX8_nobles 4 s args GW RX8) (hE : env G A s s.heap) (hA : ∀ q, s.heap.size ≤ q → A q) (hRf : 4 ≤ R.frames) (hRl : 98 ≤ R.locals) {post : Int32 → St → Prop} (hret : RetI p l e R s m args below meth c Q 0 0 wX G A cX8_nobles post) : ∀ (n : Nat) (x1 : Int32) (x2 : Int32) (z0 : St), L_Table_nobles_8_4 post n x1 x2 z0 → Xw p l e R s m args below meth c Q 0 0 wX G A z0 4 [(0, .ref (ad G 8)), (1, .int x1), (2, .int x2)] 4 [] := by
  intro n
  induction n with
  | zero => intro x1 x2 z0 hB; exact absurd hB id
  | succ n ih => exact fun x1 x2 z0 hB => w_Table_nobles_8_4 S hE hA hRf hRl hret ih x1 x2 z0 hB
def S_Table_nobles_8 (post : Int32 → St → Prop) (z0 : St) : Prop :=
  (∃ n1, L_Table_nobles_8_4 post n1 (0 : Int32) (0 : Int32) z0)
set_option maxHeartbeats 4000000 in
set_option maxRecDepth 100000 in
theorem w_Table_nobles_8_0 {p : Program} {l : Launch} {e : Env} {R : Room} {s : State} {m : MethodId} {args : Array Value} {below : List Frame} {meth : Method} {c : Code} {Q : State → Prop} {G : GX} {A : Nat → Prop} (S : CallFix p m c cX8_nobles 4 s args GW RX8) (hE : env G A s s.heap) (hA : ∀ q, s.heap.size ≤ q → A q) (hRf : 4 ≤ R.frames) (hRl : 98 ≤ R.locals) {post : Int32 → St → Prop} (hret : RetI p l e R s m args below meth c Q 0 0 wX G A cX8_nobles post) (z0 : St) (hB : S_Table_nobles_8 post z0) : Xw p l e R s m args below meth c Q 0 0 wX G A z0 4 [(0, .ref (ad G 8))] 0 [] := by
  intro H locs ls hP hD hS hl
  have hx := S.1
  have hb := S.2.1
  refine lv_iconst (v := 0) hx hb dX8_nobles_0 (by decide) ?_
  refine lv_istore_n (lv' := [(1, .int (0 : Int32)), (0, .ref (ad G 8))]) hx hb dX8_nobles_1 rfl hl (by decide) rfl (fun ls hl => ?_)
  refine lv_iconst (v := 0) hx hb dX8_nobles_2 (by decide) ?_
  refine lv_istore_n (lv' := [(2, .int (0 : Int32)), (1, .int (0 : Int32)), (0, .ref (ad G 8))]) hx hb dX8_nobles_3 rfl hl (by decide) rfl (fun ls hl => ?_)
  obtain ⟨n1, hB⟩ := hB
  exact wl_Table_nobles_8_4 S hE hA hRf hRl hret n1 (0 : Int32) (0 : Int32) z0 hB _ _ _ hP hD hS (lv_sub hl [2, 1, 0] rfl)
set_option maxHeartbeats 4000000 in
set_option maxRecDepth 100000 in
theorem c_Table_nobles_8 (l : Launch) (G : GX) (z0 : St) (sz : Nat) (post : Int32 → St → Prop) : MetI l wX yX8_nobles cX8_nobles 4 (some .int) ({ frames := 4, cells := 0, slots := 0, locals := 98 }) [.ref (ad G 8)] G z0 sz (S_Table_nobles_8 post z0) post := by
  refine Met.ofW (cc := cX8_nobles) (maxL := 4) (ret := (some .int)) (by decide) rfl ?_
  intro p e s m args below meth c s₁ B hml hv
  obtain ⟨rfl, hsz, hP, hD0, hE, hB⟩ := hv
  have S : CallFix p m c cX8_nobles 4 s _ GW RX8 := ⟨B.exec, B.bytes, hml, findClass_of_methodNamed B.named, fun w h => atoms_spec (ws := Cond.code yX8_nobles cX8_nobles 4 (some .int) :: GW) B.pre w (List.mem_cons_of_mem _ h)⟩
  have hlocks := B.notSynchronized
  subst hsz
  have hD := hD0.self (sz := s.heap.size)
  generalize hAe : va_A (wX G z0) s.heap.size = A at hD hE ⊢
  have hA : ∀ q : Nat, s.heap.size ≤ q → A q := fun q h => by rw [← hAe]; exact Or.inr h
  have hS : va_S A s.heap s.heap [] := va_S.rf
  have hl := lv_entry ([.ref (ad G 8)]) (n := 4) (Nat.le_of_ble_eq_true rfl)
  rw [lg_entry_eq]
  generalize (lg_sl ([.ref (ad G 8)]) ++ List.replicate (4 - (lg_sl ([.ref (ad G 8)])).length) Slot.unset).toArray = ls at hl ⊢
  have hl : lv_has ls 4 [(0, .ref (ad G 8))] := hl
  refine w_Table_nobles_8_0 S hE hA (Nat.le_refl _) (Nat.le_refl _) ?_  z0 hB _ _ _ hP hD hS hl
  intro pc ls r σ H locs hd hp hP hD hS
  exact W.iret (v := r) B.exec B.bytes B.returns (fun t ht hW => ⟨⟨r, σ, rfl, hp, by rw [ht]; exact hP, hD⟩, hS.F ht⟩) hS.2.2 hd
def S_B_all (post : Int32 → St → Prop) (x1 : Int32) (z0 : St) : Prop :=
  (S_House_isTold (fun (r1 : Int32) (z1 : St) => ((r1 = 0 → (post (-1 : Int32) z1)) ∧ (¬ r1 = 0 → ((x1 = (0 : Int32) → (S_Table_sourest_8 (fun (r3 : Int32) (z2 : St) => (post r3 z2)) z1)) ∧ (¬ x1 = (0 : Int32) → ((x1 = (1 : Int32) → (S_Table_richest_8 (fun (r4 : Int32) (z3 : St) => (post r4 z3)) z1)) ∧ (¬ x1 = (1 : Int32) → ((x1 = (2 : Int32) → (S_Table_merriest_8 (fun (r5 : Int32) (z4 : St) => (post r5 z4)) z1)) ∧ (¬ x1 = (2 : Int32) → ((x1 = (3 : Int32) → (S_House_mostLiked (fun (r6 : Int32) (z5 : St) => (post r6 z5)) z1)) ∧ (¬ x1 = (3 : Int32) → ((x1 = (4 : Int32) → (S_Table_visits_8 (fun (r7 : Int32) (z6 : St) => (S_Memory_middle_r6 (fun (r8 : Int32) (z7 : St) => (post r8 z7)) r7 z6)) z1)) ∧ (¬ x1 = (4 : Int32) → ((x1 = (5 : Int32) → (S_Table_visits_8 (fun (r9 : Int32) (z8 : St) => (S_Memory_timesBrought (fun (r10 : Int32) (z9 : St) => (post r10 z9)) r9 (-1 : Int32) z8)) z1)) ∧ (¬ x1 = (5 : Int32) → ((x1 = (6 : Int32) → (S_Table_leastPrice_8 (fun (r11 : Int32) (z10 : St) => (post r11 z10)) z1)) ∧ (¬ x1 = (6 : Int32) → ((x1 = (7 : Int32) → (S_Table_nobles_8 (fun (r12 : Int32) (z11 : St) => (post r12 z11)) z1)) ∧ (¬ x1 = (7 : Int32) → (post (-1 : Int32) z1)))))))))))))))))))) z0)
set_option maxHeartbeats 4000000 in
set_option maxRecDepth 100000 in
theorem w_B_all_0 {p : Program} {l : Launch} {e : Env} {R : Room} {s : State} {m : MethodId} {args : Array Value} {below : List Frame} {meth : Method} {c : Code} {Q : State → Prop} {G : GX} {A : Nat → Prop} (S : CallFix p m c cX11_all 2 s args GW RX11) (hE : env G A s s.heap) (hA : ∀ q, s.heap.size ≤ q → A q) (hRf : 5 ≤ R.frames) (hRl : 121 ≤ R.locals) {post : Int32 → St → Prop} (hret : RetI p l e R s m args below meth c Q 0 0 wX G A cX11_all post) (x1 : Int32) (z0 : St) (hB : S_B_all post x1 z0) : Xw p l e R s m args below meth c Q 0 0 wX G A z0 2 [(0, .ref (ad G 0)), (1, .int x1)] 0 [] := by
  intro H locs ls hP hD hS hl
  have hx := S.1
  have hb := S.2.1
  refine lv_aload_n hx hb dX11_all_0 rfl (lv_at hl 0 rfl) ?_
  refine xXg_0_house S hE hP lk_X11_64 dX11_all_1 ?_
  refine xcVi [] S hE hA hP hD hS (c_House_isTold l G z0 H.size _) hB (gw_c lk_X11_147 (gw_c wi_X0_isTold (gw_c we_X0_X0_isTold_X0_isTold (gw_c wn_X0 (gw_c wc_X0_isTold (fun _ h9 => h9)))))) hd_X0_isTold rfl rfl (Nat.le_trans (Nat.le_of_ble_eq_true rfl) hRf) (Nat.le_trans (Nat.le_of_ble_eq_true rfl) hRl) ⟨Nat.zero_le _, Nat.zero_le _⟩ (va_recv hE.1 hP (ci := 0) (q0 := 6) rfl rfl) rfl hl.1 rfl (Nat.le_of_ble_eq_true rfl) dX11_all_4 (fun r1 z1 H locs hB hP hD hS => ?_)
  refine lv_if_ne (tgt := 12) hx hb dX11_all_7 (by decide) (fun c2 => ?_) (fun c2 => ?_)
  · have hB := hB.2 c2
    refine lv_iload_n hx hb dX11_all_12 rfl (lv_at hl 1 rfl) ?_
    -- switch
    by_cases q0 : x1 = (0 : Int32)
    · have hB := hB.1 q0
      refine lv_tableIn (tgt := 60) (off := 47) hx hb dX11_all_13 (by rw [q0]; decide) (by rw [q0]; decide) (by rw [q0]; decide) (by decide) ?_
      refine lv_aload_n hx hb dX11_all_60 rfl (lv_at hl 0 rfl) ?_
      refine xXg_0_table S hE hP lk_X11_72 dX11_all_61 ?_
      refine xcVi [] S hE hA hP hD hS (c_Table_sourest_8 l G z1 H.size _) hB (gw_c lk_X11_338 (gw_c wi_X8_sourest (gw_c we_X8_X8_sourest_X8_sourest (gw_c wn_X8 (gw_c wc_X8_sourest (fun _ h9 => h9)))))) hd_X8_sourest rfl rfl (Nat.le_trans (Nat.le_of_ble_eq_true rfl) hRf) (Nat.le_trans (Nat.le_of_ble_eq_true rfl) hRl) ⟨Nat.zero_le _, Nat.zero_le _⟩ (va_recv hE.1 hP (ci := 7) (q0 := 8) rfl rfl) rfl hl.1 rfl (Nat.le_of_ble_eq_true rfl) dX11_all_64 (fun r3 z2 H locs hB hP hD hS => ?_)
      exact hret _ _ _ _ _ _ dX11_all_67 hB hP hD hS
    have hB := hB.2 q0
    by_cases q1 : x1 = (1 : Int32)
    · have hB := hB.1 q1
      refine lv_tableIn (tgt := 68) (off := 55) hx hb dX11_all_13 (by rw [q1]; decide) (by rw [q1]; decide) (by rw [q1]; decide) (by decide) ?_
      refine lv_aload_n hx hb dX11_all_68 rfl (lv_at hl 0 rfl) ?_
      refine xXg_0_table S hE hP lk_X11_72 dX11_all_69 ?_
      refine xcVi [] S hE hA hP hD hS (c_Table_richest_8 l G z1 H.size _) hB (gw_c lk_X11_341 (gw_c wi_X8_richest (gw_c we_X8_X8_richest_X8_richest (gw_c wn_X8 (gw_c wc_X8_richest (fun _ h9 => h9)))))) hd_X8_richest rfl rfl (Nat.le_trans (Nat.le_of_ble_eq_true rfl) hRf) (Nat.le_trans (Nat.le_of_ble_eq_true rfl) hRl) ⟨Nat.zero_le _, Nat.zero_le _⟩ (va_recv hE.1 hP (ci := 7) (q0 := 8) rfl rfl) rfl hl.1 rfl (Nat.le_of_ble_eq_true rfl) dX11_all_72 (fun r4 z3 H locs hB hP hD hS => ?_)
      exact hret _ _ _ _ _ _ dX11_all_75 hB hP hD hS
    have hB := hB.2 q1
    by_cases q2 : x1 = (2 : Int32)
    · have hB := hB.1 q2
      refine lv_tableIn (tgt := 76) (off := 63) hx hb dX11_all_13 (by rw [q2]; decide) (by rw [q2]; decide) (by rw [q2]; decide) (by decide) ?_
      refine lv_aload_n hx hb dX11_all_76 rfl (lv_at hl 0 rfl) ?_
      refine xXg_0_table S hE hP lk_X11_72 dX11_all_77 ?_
      refine xcVi [] S hE hA hP hD hS (c_Table_merriest_8 l G z1 H.size _) hB (gw_c lk_X11_344 (gw_c wi_X8_merriest (gw_c we_X8_X8_merriest_X8_merriest (gw_c wn_X8 (gw_c wc_X8_merriest (fun _ h9 => h9)))))) hd_X8_merriest rfl rfl (Nat.le_trans (Nat.le_of_ble_eq_true rfl) hRf) (Nat.le_trans (Nat.le_of_ble_eq_true rfl) hRl) ⟨Nat.zero_le _, Nat.zero_le _⟩ (va_recv hE.1 hP (ci := 7) (q0 := 8) rfl rfl) rfl hl.1 rfl (Nat.le_of_ble_eq_true rfl) dX11_all_80 (fun r5 z4 H locs hB hP hD hS => ?_)
      exact hret _ _ _ _ _ _ dX11_all_83 hB hP hD hS
    have hB := hB.2 q2
    by_cases q3 : x1 = (3 : Int32)
    · have hB := hB.1 q3
      refine lv_tableIn (tgt := 84) (off := 71) hx hb dX11_all_13 (by rw [q3]; decide) (by rw [q3]; decide) (by rw [q3]; decide) (by decide) ?_
      refine lv_aload_n hx hb dX11_all_84 rfl (lv_at hl 0 rfl) ?_
      refine xXg_0_house S hE hP lk_X11_64 dX11_all_85 ?_
      refine xcVi [] S hE hA hP hD hS (c_House_mostLiked l G z1 H.size _) hB (gw_c lk_X11_347 (gw_c wi_X0_mostLiked (gw_c we_X0_X0_mostLiked_X0_mostLiked (gw_c wn_X0 (gw_c wc_X0_mostLiked (fun _ h9 => h9)))))) hd_X0_mostLiked rfl rfl (Nat.le_trans (Nat.le_of_ble_eq_true rfl) hRf) (Nat.le_trans (Nat.le_of_ble_eq_true rfl) hRl) ⟨Nat.zero_le _, Nat.zero_le _⟩ (va_recv hE.1 hP (ci := 0) (q0 := 6) rfl rfl) rfl hl.1 rfl (Nat.le_of_ble_eq_true rfl) dX11_all_88 (fun r6 z5 H locs hB hP hD hS => ?_)
      exact hret _ _ _ _ _ _ dX11_all_91 hB hP hD hS
    have hB := hB.2 q3
    by_cases q4 : x1 = (4 : Int32)
    · have hB := hB.1 q4
      refine lv_tableIn (tgt := 92) (off := 79) hx hb dX11_all_13 (by rw [q4]; decide) (by rw [q4]; decide) (by rw [q4]; decide) (by decide) ?_
      refine lv_aload_n hx hb dX11_all_92 rfl (lv_at hl 0 rfl) ?_
      refine xXg_0_memory S hE hP lk_X11_45 dX11_all_93 ?_
      refine lv_aload_n hx hb dX11_all_96 rfl (lv_at hl 0 rfl) ?_
      refine xXg_0_table S hE hP lk_X11_72 dX11_all_97 ?_
      refine xcVi [] S hE hA hP hD hS (c_Table_visits_8 l G z1 H.size _) hB (gw_c lk_X11_220 (gw_c wi_X8_visits (gw_c we_X8_X8_visits_X8_visits (gw_c wn_X8 (gw_c wc_X8_visits (fun _ h9 => h9)))))) hd_X8_visits rfl rfl (Nat.le_trans (Nat.le_of_ble_eq_true rfl) hRf) (Nat.le_trans (Nat.le_of_ble_eq_true rfl) hRl) ⟨Nat.zero_le _, Nat.zero_le _⟩ (va_recv hE.1 hP (ci := 7) (q0 := 8) rfl rfl) rfl hl.1 rfl (Nat.le_of_ble_eq_true rfl) dX11_all_100 (fun r7 z6 H locs hB hP hD hS => ?_)
      refine lv_aload_n hx hb dX11_all_103 rfl (lv_at hl 0 rfl) ?_
      refine xXg_0_house S hE hP lk_X11_64 dX11_all_104 ?_
      refine xcVi [.int r7, .ref (ad G 6)] S hE hA hP hD hS (c_Memory_middle_r6 l G z6 H.size r7 _) hB (gw_c lk_X11_350 (gw_c wi_X4_middle (gw_c we_X4_X4_middle_X4_middle (gw_c wn_X4 (gw_c wc_X4_middle (fun _ h9 => h9)))))) hd_X4_middle rfl rfl (Nat.le_trans (Nat.le_of_ble_eq_true rfl) hRf) (Nat.le_trans (Nat.le_of_ble_eq_true rfl) hRl) ⟨Nat.zero_le _, Nat.zero_le _⟩ (va_recv hE.1 hP (ci := 4) (q0 := 5) rfl rfl) rfl hl.1 rfl (Nat.le_of_ble_eq_true rfl) dX11_all_107 (fun r8 z7 H locs hB hP hD hS => ?_)
      exact hret _ _ _ _ _ _ dX11_all_110 hB hP hD hS
    have hB := hB.2 q4
    by_cases q5 : x1 = (5 : Int32)
    · have hB := hB.1 q5
      refine lv_tableIn (tgt := 111) (off := 98) hx hb dX11_all_13 (by rw [q5]; decide) (by rw [q5]; decide) (by rw [q5]; decide) (by decide) ?_
      refine lv_aload_n hx hb dX11_all_111 rfl (lv_at hl 0 rfl) ?_
      refine xXg_0_memory S hE hP lk_X11_45 dX11_all_112 ?_
      refine lv_aload_n hx hb dX11_all_115 rfl (lv_at hl 0 rfl) ?_
      refine xXg_0_table S hE hP lk_X11_72 dX11_all_116 ?_
      refine xcVi [] S hE hA hP hD hS (c_Table_visits_8 l G z1 H.size _) hB (gw_c lk_X11_220 (gw_c wi_X8_visits (gw_c we_X8_X8_visits_X8_visits (gw_c wn_X8 (gw_c wc_X8_visits (fun _ h9 => h9)))))) hd_X8_visits rfl rfl (Nat.le_trans (Nat.le_of_ble_eq_true rfl) hRf) (Nat.le_trans (Nat.le_of_ble_eq_true rfl) hRl) ⟨Nat.zero_le _, Nat.zero_le _⟩ (va_recv hE.1 hP (ci := 7) (q0 := 8) rfl rfl) rfl hl.1 rfl (Nat.le_of_ble_eq_true rfl) dX11_all_119 (fun r9 z8 H locs hB hP hD hS => ?_)
      refine lv_iconst (v := -1) hx hb dX11_all_122 (by decide) ?_
      refine xcVi [.int r9, .int (-1 : Int32)] S hE hA hP hD hS (c_Memory_timesBrought l G z8 H.size r9 (-1 : Int32) _) hB (gw_c lk_X11_354 (gw_c wi_X4_timesBrought (gw_c we_X4_X4_timesBrought_X4_timesBrought (gw_c wn_X4 (gw_c wc_X4_timesBrought (fun _ h9 => h9)))))) hd_X4_timesBrought rfl rfl (Nat.le_trans (Nat.le_of_ble_eq_true rfl) hRf) (Nat.le_trans (Nat.le_of_ble_eq_true rfl) hRl) ⟨Nat.zero_le _, Nat.zero_le _⟩ (va_recv hE.1 hP (ci := 4) (q0 := 5) rfl rfl) rfl hl.1 rfl (Nat.le_of_ble_eq_true rfl) dX11_all_123 (fun r10 z9 H locs hB hP hD hS => ?_)
      exact hret _ _ _ _ _ _ dX11_all_126 hB hP hD hS
    have hB := hB.2 q5
    by_cases q6 : x1 = (6 : Int32)
    · have hB := hB.1 q6
      refine lv_tableIn (tgt := 127) (off := 114) hx hb dX11_all_13 (by rw [q6]; decide) (by rw [q6]; decide) (by rw [q6]; decide) (by decide) ?_
      refine lv_aload_n hx hb dX11_all_127 rfl (lv_at hl 0 rfl) ?_
      refine xXg_0_table S hE hP lk_X11_72 dX11_all_128 ?_
      refine xcVi [] S hE hA hP hD hS (c_Table_leastPrice_8 l G z1 H.size _) hB (gw_c lk_X11_357 (gw_c wi_X8_leastPrice (gw_c we_X8_X8_leastPrice_X8_leastPrice (gw_c wn_X8 (gw_c wc_X8_leastPrice (fun _ h9 => h9)))))) hd_X8_leastPrice rfl rfl (Nat.le_trans (Nat.le_of_ble_eq_true rfl) hRf) (Nat.le_trans (Nat.le_of_ble_eq_true rfl) hRl) ⟨Nat.zero_le _, Nat.zero_le _⟩ (va_recv hE.1 hP (ci := 7) (q0 := 8) rfl rfl) rfl hl.1 rfl (Nat.le_of_ble_eq_true rfl) dX11_all_131 (fun r11 z10 H locs hB hP hD hS => ?_)
      exact hret _ _ _ _ _ _ dX11_all_134 hB hP hD hS
    have hB := hB.2 q6
    by_cases q7 : x1 = (7 : Int32)
    · have hB := hB.1 q7
      refine lv_tableIn (tgt := 135) (off := 122) hx hb dX11_all_13 (by rw [q7]; decide) (by rw [q7]; decide) (by rw [q7]; decide) (by decide) ?_
      refine lv_aload_n hx hb dX11_all_135 rfl (lv_at hl 0 rfl) ?_
      refine xXg_0_table S hE hP lk_X11_72 dX11_all_136 ?_
      refine xcVi [] S hE hA hP hD hS (c_Table_nobles_8 l G z1 H.size _) hB (gw_c lk_X11_360 (gw_c wi_X8_nobles (gw_c we_X8_X8_nobles_X8_nobles (gw_c wn_X8 (gw_c wc_X8_nobles (fun _ h9 => h9)))))) hd_X8_nobles rfl rfl (Nat.le_trans (Nat.le_of_ble_eq_true rfl) hRf) (Nat.le_trans (Nat.le_of_ble_eq_true rfl) hRl) ⟨Nat.zero_le _, Nat.zero_le _⟩ (va_recv hE.1 hP (ci := 7) (q0 := 8) rfl rfl) rfl hl.1 rfl (Nat.le_of_ble_eq_true rfl) dX11_all_139 (fun r12 z11 H locs hB hP hD hS => ?_)
      exact hret _ _ _ _ _ _ dX11_all_142 hB hP hD hS
    have hB := hB.2 q7
    have t0 := lv_neT q0 (show ((0 : Int32)).toInt = 0 by decide)
    have t1 := lv_neT q1 (show ((1 : Int32)).toInt = 1 by decide)
    have t2 := lv_neT q2 (show ((2 : Int32)).toInt = 2 by decide)
    have t3 := lv_neT q3 (show ((3 : Int32)).toInt = 3 by decide)
    have t4 := lv_neT q4 (show ((4 : Int32)).toInt = 4 by decide)
    have t5 := lv_neT q5 (show ((5 : Int32)).toInt = 5 by decide)
    have t6 := lv_neT q6 (show ((6 : Int32)).toInt = 6 by decide)
    have t7 := lv_neT q7 (show ((7 : Int32)).toInt = 7 by decide)
    refine lv_tableOut (tgt := 143) hx hb dX11_all_13 (by omega) (by decide) ?_
    refine lv_iconst (v := -1) hx hb dX11_all_143 (by decide) ?_
    exact hret _ _ _ _ _ _ dX11_all_144 hB hP hD hS
  · have hB := hB.1 c2
    refine lv_iconst (v := -1) hx hb dX11_all_10 (by decide) ?_
    exact hret _ _ _ _ _ _ dX11_all_11 hB hP hD hS
set_option maxHeartbeats 4000000 in
set_option maxRecDepth 100000 in
theorem c_B_all (l : Launch) (G : GX) (z0 : St) (sz : Nat) (x1 : Int32) (post : Int32 → St → Prop) : MetI l wX yX11_all cX11_all 2 (some .int) ({ frames := 5, cells := 0, slots := 0, locals := 121 }) [.ref (ad G 0), .int x1] G z0 sz (S_B_all post x1 z0) post := by
  refine Met.ofW (cc := cX11_all) (maxL := 2) (ret := (some .int)) (by decide) rfl ?_
  intro p e s m args below meth c s₁ B hml hv
  obtain ⟨rfl, hsz, hP, hD0, hE, hB⟩ := hv
  have S : CallFix p m c cX11_all 2 s _ GW RX11 := ⟨B.exec, B.bytes, hml, findClass_of_methodNamed B.named, fun w h => atoms_spec (ws := Cond.code yX11_all cX11_all 2 (some .int) :: GW) B.pre w (List.mem_cons_of_mem _ h)⟩
  have hlocks := B.notSynchronized
  subst hsz
  have hD := hD0.self (sz := s.heap.size)
  generalize hAe : va_A (wX G z0) s.heap.size = A at hD hE ⊢
  have hA : ∀ q : Nat, s.heap.size ≤ q → A q := fun q h => by rw [← hAe]; exact Or.inr h
  have hS : va_S A s.heap s.heap [] := va_S.rf
  have hl := lv_entry ([.ref (ad G 0), .int x1]) (n := 2) (Nat.le_of_ble_eq_true rfl)
  rw [lg_entry_eq]
  generalize (lg_sl ([.ref (ad G 0), .int x1]) ++ List.replicate (2 - (lg_sl ([.ref (ad G 0), .int x1])).length) Slot.unset).toArray = ls at hl ⊢
  have hl : lv_has ls 2 [(0, .ref (ad G 0)), (1, .int x1)] := hl
  refine w_B_all_0 S hE hA (Nat.le_refl _) (Nat.le_refl _) ?_ x1 z0 hB _ _ _ hP hD hS hl
  intro pc ls r σ H locs hd hp hP hD hS
  exact W.iret (v := r) B.exec B.bytes B.returns (fun t ht hW => ⟨⟨r, σ, rfl, hp, by rw [ht]; exact hP, hD⟩, hS.F ht⟩) hS.2.2 hd
def B_Table_payable_8_41 (post : Int32 → St → Prop) (ih4 : Int32 → Int32 → Int32 → St → Prop) (x1 : Int32) (x2 : Int32) (x3 : Int32) (z0 : St) : Prop :=
  (∀ v1 : Int32, v1 = x3 + (1 : Int32) → (ih4 x1 x2 v1 z0))
set_option maxHeartbeats 4000000 in
set_option maxRecDepth 100000 in
theorem w_Table_payable_8_41 {p : Program} {l : Launch} {e : Env} {R : Room} {s : State} {m : MethodId} {args : Array Value} {below : List Frame} {meth : Method} {c : Code} {Q : State → Prop} {G : GX} {A : Nat → Prop} (S : CallFix p m c cX8_payable 4 s args GW RX8) (hE : env G A s s.heap) (hA : ∀ q, s.heap.size ≤ q → A q) (hRf : 0 ≤ R.frames) (hRl : 0 ≤ R.locals) {post : Int32 → St → Prop} (hret : RetI p l e R s m args below meth c Q 0 0 wX G A cX8_payable post) {ih4 : Int32 → Int32 → Int32 → St → Prop} (h4 : ∀ (x1 : Int32) (x2 : Int32) (x3 : Int32) (z0 : St), ih4 x1 x2 x3 z0 → Xw p l e R s m args below meth c Q 0 0 wX G A z0 4 [(0, .ref (ad G 8)), (1, .int x1), (2, .int x2), (3, .int x3)] 4 []) (x1 : Int32) (x2 : Int32) (x3 : Int32) (z0 : St) (hB : B_Table_payable_8_41 post ih4 x1 x2 x3 z0) : Xw p l e R s m args below meth c Q 0 0 wX G A z0 4 [(0, .ref (ad G 8)), (1, .int x1), (2, .int x2), (3, .int x3)] 41 [] := by
  intro H locs ls hP hD hS hl
  have hx := S.1
  have hb := S.2.1
  obtain ⟨v1, ev1⟩ : ∃ y9, y9 = x3 + (1 : Int32) := ⟨_, rfl⟩
  have hB := hB v1 ev1
  refine lv_iinc (v := v1) (lv' := [(3, .int v1), (0, .ref (ad G 8)), (1, .int x1), (2, .int x2)]) hx hb dX8_payable_41 hl (k := 3) rfl (by rw [ev1]; rfl) (by decide) rfl (fun ls hl => ?_)
  refine lv_goto (tgt := 4) hx hb dX8_payable_44 (by decide) ?_
  exact h4 x1 x2 v1 z0 hB _ _ _ hP hD hS (lv_sub hl [1, 2, 3, 0] rfl)
def B_Table_payable_8_4 (post : Int32 → St → Prop) (ih4 : Int32 → Int32 → Int32 → St → Prop) (x1 : Int32) (x2 : Int32) (x3 : Int32) (z0 : St) : Prop :=
  (((gI z0 26) ≤ x3 → (post x2 z0)) ∧ (¬ (gI z0 26) ≤ x3 → (vp_in ((22 : Int32) + x3) 28 ∧ (vp_in ((4 : Int32) + x1) 28 ∧ (((gA z0 23 ((4 : Int32) + x1).toNatClampNeg) < (gA z0 23 ((22 : Int32) + x3).toNatClampNeg) → (B_Table_payable_8_41 post ih4 x1 x2 x3 z0)) ∧ (¬ (gA z0 23 ((4 : Int32) + x1).toNatClampNeg) < (gA z0 23 ((22 : Int32) + x3).toNatClampNeg) → (∀ v3 : Int32, v3 = (x2 ||| ((1 : Int32) <<< (x3 &&& 31))) → (B_Table_payable_8_41 post ih4 x1 v3 x3 z0))))))))
set_option maxHeartbeats 4000000 in
set_option maxRecDepth 100000 in
theorem w_Table_payable_8_4 {p : Program} {l : Launch} {e : Env} {R : Room} {s : State} {m : MethodId} {args : Array Value} {below : List Frame} {meth : Method} {c : Code} {Q : State → Prop} {G : GX} {A : Nat → Prop} (S : CallFix p m c cX8_payable 4 s args GW RX8) (hE : env G A s s.heap) (hA : ∀ q, s.heap.size ≤ q → A q) (hRf : 0 ≤ R.frames) (hRl : 0 ≤ R.locals) {post : Int32 → St → Prop} (hret : RetI p l e R s m args below meth c Q 0 0 wX G A cX8_payable post) {ih4 : Int32 → Int32 → Int32 → St → Prop} (h4 : ∀ (x1 : Int32) (x2 : Int32) (x3 : Int32) (z0 : St), ih4 x1 x2 x3 z0 → Xw p l e R s m args below meth c Q 0 0 wX G A z0 4 [(0, .ref (ad G 8)), (1, .int x1), (2, .int x2), (3, .int x3)] 4 []) (x1 : Int32) (x2 : Int32) (x3 : Int32) (z0 : St) (hB : B_Table_payable_8_4 post ih4 x1 x2 x3 z0) : Xw p l e R s m args below meth c Q 0 0 wX G A z0 4 [(0, .ref (ad G 8)), (1, .int x1), (2, .int x2), (3, .int x3)] 4 [] := by
  intro H locs ls hP hD hS hl
  have hx := S.1
  have hb := S.2.1
  refine lv_iload_n hx hb dX8_payable_4 rfl (lv_at hl 3 rfl) ?_
  refine lv_aload_n hx hb dX8_payable_5 rfl (lv_at hl 0 rfl) ?_
  refine xXg_8_house S hE hP lk_X8_15 dX8_payable_6 ?_
  refine xXg_6_drinks S hE hP lk_X8_35 dX8_payable_9 ?_
  refine lv_icmp_ge (tgt := 47) hx hb dX8_payable_12 (by decide) (fun c1 => ?_) (fun c1 => ?_)
  · have hB := hB.1 c1
    refine lv_iload_n hx hb dX8_payable_47 rfl (lv_at hl 2 rfl) ?_
    exact hret _ _ _ _ _ _ dX8_payable_48 hB hP hD hS
  · have hB := hB.2 c1
    refine lv_aload_n hx hb dX8_payable_15 rfl (lv_at hl 0 rfl) ?_
    refine xXg_8_cells S hE hP lk_X8_11 dX8_payable_16 ?_
    refine lv_bipush (v := 22) hx hb dX8_payable_19 (by decide) ?_
    refine lv_iload_n hx hb dX8_payable_21 rfl (lv_at hl 3 rfl) ?_
    refine lv_iadd hx hb dX8_payable_22 ?_
    obtain ⟨hi, hB⟩ := hB
    refine xXl_23 S hE hP hi dX8_payable_23 ?_
    refine lv_aload_n hx hb dX8_payable_24 rfl (lv_at hl 0 rfl) ?_
    refine xXg_8_cells S hE hP lk_X8_11 dX8_payable_25 ?_
    refine lv_iconst (v := 4) hx hb dX8_payable_28 (by decide) ?_
    refine lv_iload_n hx hb dX8_payable_29 rfl (lv_at hl 1 rfl) ?_
    refine lv_iadd hx hb dX8_payable_30 ?_
    obtain ⟨hi, hB⟩ := hB
    refine xXl_23 S hE hP hi dX8_payable_31 ?_
    refine lv_icmp_gt (tgt := 41) hx hb dX8_payable_32 (by decide) (fun c2 => ?_) (fun c2 => ?_)
    · have hB := hB.1 c2
      exact w_Table_payable_8_41 S hE hA hRf hRl hret h4 x1 x2 x3 z0 hB _ _ _ hP hD hS (lv_sub hl [0, 1, 2, 3] rfl)
    · have hB := hB.2 c2
      refine lv_iload_n hx hb dX8_payable_35 rfl (lv_at hl 2 rfl) ?_
      refine lv_iconst (v := 1) hx hb dX8_payable_36 (by decide) ?_
      refine lv_iload_n hx hb dX8_payable_37 rfl (lv_at hl 3 rfl) ?_
      refine lv_ishl hx hb dX8_payable_38 ?_
      refine lv_ior hx hb dX8_payable_39 ?_
      refine lv_topi (fun v3 ev3 => ?_)
      have hB := hB v3 ev3
      refine lv_istore_n (lv' := [(2, .int v3), (0, .ref (ad G 8)), (1, .int x1), (3, .int x3)]) hx hb dX8_payable_40 rfl hl (by decide) rfl (fun ls hl => ?_)
      exact w_Table_payable_8_41 S hE hA hRf hRl hret h4 x1 v3 x3 z0 hB _ _ _ hP hD hS (lv_sub hl [1, 2, 0, 3] rfl)
def L_Table_payable_8_4 (post : Int32 → St → Prop) : Nat → Int32 → Int32 → Int32 → St → Prop
  | 0 => fun _ _ _ _ => False
  | n + 1 => B_Table_payable_8_4 post (L_Table_payable_8_4 post n)
theorem wl_Table_payable_8_4 {p : Program} {l : Launch} {e : Env} {R : Room} {s : State} {m : MethodId} {args : Array Value} {below : List Frame} {meth : Method} {c : Code} {Q : State → Prop} {G : GX} {A : Nat → Prop} (S : CallFix p m c cX8_payable 4 s args GW RX8) (hE : env G A s s.heap) (hA : ∀ q, s.heap.size ≤ q → A q) (hRf : 0 ≤ R.frames) (hRl : 0 ≤ R.locals) {post : Int32 → St → Prop} (hret : RetI p l e R s m args below meth c Q 0 0 wX G A cX8_payable post) : ∀ (n : Nat) (x1 : Int32) (x2 : Int32) (x3 : Int32) (z0 : St), L_Table_payable_8_4 post n x1 x2 x3 z0 → Xw p l e R s m args below meth c Q 0 0 wX G A z0 4 [(0, .ref (ad G 8)), (1, .int x1), (2, .int x2), (3, .int x3)] 4 [] := by
  intro n
  induction n with
  | zero => intro x1 x2 x3 z0 hB; exact absurd hB id
  | succ n ih => exact fun x1 x2 x3 z0 hB => w_Table_payable_8_4 S hE hA hRf hRl hret ih x1 x2 x3 z0 hB
def S_Table_payable_8 (post : Int32 → St → Prop) (x1 : Int32) (z0 : St) : Prop :=
  (∃ n1, L_Table_payable_8_4 post n1 x1 (0 : Int32) (0 : Int32) z0)
set_option maxHeartbeats 4000000 in
set_option maxRecDepth 100000 in
theorem w_Table_payable_8_0 {p : Program} {l : Launch} {e : Env} {R : Room} {s : State} {m : MethodId} {args : Array Value} {below : List Frame} {meth : Method} {c : Code} {Q : State → Prop} {G : GX} {A : Nat → Prop} (S : CallFix p m c cX8_payable 4 s args GW RX8) (hE : env G A s s.heap) (hA : ∀ q, s.heap.size ≤ q → A q) (hRf : 0 ≤ R.frames) (hRl : 0 ≤ R.locals) {post : Int32 → St → Prop} (hret : RetI p l e R s m args below meth c Q 0 0 wX G A cX8_payable post) (x1 : Int32) (z0 : St) (hB : S_Table_payable_8 post x1 z0) : Xw p l e R s m args below meth c Q 0 0 wX G A z0 4 [(0, .ref (ad G 8)), (1, .int x1)] 0 [] := by
  intro H locs ls hP hD hS hl
  have hx := S.1
  have hb := S.2.1
  refine lv_iconst (v := 0) hx hb dX8_payable_0 (by decide) ?_
  refine lv_istore_n (lv' := [(2, .int (0 : Int32)), (0, .ref (ad G 8)), (1, .int x1)]) hx hb dX8_payable_1 rfl hl (by decide) rfl (fun ls hl => ?_)
  refine lv_iconst (v := 0) hx hb dX8_payable_2 (by decide) ?_
  refine lv_istore_n (lv' := [(3, .int (0 : Int32)), (2, .int (0 : Int32)), (0, .ref (ad G 8)), (1, .int x1)]) hx hb dX8_payable_3 rfl hl (by decide) rfl (fun ls hl => ?_)
  obtain ⟨n1, hB⟩ := hB
  exact wl_Table_payable_8_4 S hE hA hRf hRl hret n1 x1 (0 : Int32) (0 : Int32) z0 hB _ _ _ hP hD hS (lv_sub hl [2, 3, 1, 0] rfl)
set_option maxHeartbeats 4000000 in
set_option maxRecDepth 100000 in
theorem c_Table_payable_8 (l : Launch) (G : GX) (z0 : St) (sz : Nat) (x1 : Int32) (post : Int32 → St → Prop) : MetI l wX yX8_payable cX8_payable 4 (some .int) ({ frames := 0, cells := 0, slots := 0, locals := 0 }) [.ref (ad G 8), .int x1] G z0 sz (S_Table_payable_8 post x1 z0) post := by
  refine Met.ofW (cc := cX8_payable) (maxL := 4) (ret := (some .int)) (by decide) rfl ?_
  intro p e s m args below meth c s₁ B hml hv
  obtain ⟨rfl, hsz, hP, hD0, hE, hB⟩ := hv
  have S : CallFix p m c cX8_payable 4 s _ GW RX8 := ⟨B.exec, B.bytes, hml, findClass_of_methodNamed B.named, fun w h => atoms_spec (ws := Cond.code yX8_payable cX8_payable 4 (some .int) :: GW) B.pre w (List.mem_cons_of_mem _ h)⟩
  have hlocks := B.notSynchronized
  subst hsz
  have hD := hD0.self (sz := s.heap.size)
  generalize hAe : va_A (wX G z0) s.heap.size = A at hD hE ⊢
  have hA : ∀ q : Nat, s.heap.size ≤ q → A q := fun q h => by rw [← hAe]; exact Or.inr h
  have hS : va_S A s.heap s.heap [] := va_S.rf
  have hl := lv_entry ([.ref (ad G 8), .int x1]) (n := 4) (Nat.le_of_ble_eq_true rfl)
  rw [lg_entry_eq]
  generalize (lg_sl ([.ref (ad G 8), .int x1]) ++ List.replicate (4 - (lg_sl ([.ref (ad G 8), .int x1])).length) Slot.unset).toArray = ls at hl ⊢
  have hl : lv_has ls 4 [(0, .ref (ad G 8)), (1, .int x1)] := hl
  refine w_Table_payable_8_0 S hE hA (Nat.le_refl _) (Nat.le_refl _) ?_ x1 z0 hB _ _ _ hP hD hS hl
  intro pc ls r σ H locs hd hp hP hD hS
  exact W.iret (v := r) B.exec B.bytes B.returns (fun t ht hW => ⟨⟨r, σ, rfl, hp, by rw [ht]; exact hP, hD⟩, hS.F ht⟩) hS.2.2 hd
def S_B_affords (post : Int32 → St → Prop) (x1 : Int32) (z0 : St) : Prop :=
  (S_House_hasGuest (fun (r1 : Int32) (z1 : St) => ((r1 = 0 → (post (-1 : Int32) z1)) ∧ (¬ r1 = 0 → (S_Table_payable_8 (fun (r3 : Int32) (z2 : St) => (post r3 z2)) x1 z1)))) x1 z0)
set_option maxHeartbeats 4000000 in
set_option maxRecDepth 100000 in
theorem w_B_affords_0 {p : Program} {l : Launch} {e : Env} {R : Room} {s : State} {m : MethodId} {args : Array Value} {below : List Frame} {meth : Method} {c : Code} {Q : State → Prop} {G : GX} {A : Nat → Prop} (S : CallFix p m c cX11_affords 2 s args GW RX11) (hE : env G A s s.heap) (hA : ∀ q, s.heap.size ≤ q → A q) (hRf : 1 ≤ R.frames) (hRl : 23 ≤ R.locals) {post : Int32 → St → Prop} (hret : RetI p l e R s m args below meth c Q 0 0 wX G A cX11_affords post) (x1 : Int32) (z0 : St) (hB : S_B_affords post x1 z0) : Xw p l e R s m args below meth c Q 0 0 wX G A z0 2 [(0, .ref (ad G 0)), (1, .int x1)] 0 [] := by
  intro H locs ls hP hD hS hl
  have hx := S.1
  have hb := S.2.1
  refine lv_aload_n hx hb dX11_affords_0 rfl (lv_at hl 0 rfl) ?_
  refine xXg_0_house S hE hP lk_X11_64 dX11_affords_1 ?_
  refine lv_iload_n hx hb dX11_affords_4 rfl (lv_at hl 1 rfl) ?_
  refine xcVi [.int x1] S hE hA hP hD hS (c_House_hasGuest l G z0 H.size x1 _) hB (gw_c lk_X11_171 (gw_c wi_X0_hasGuest (gw_c we_X0_X0_hasGuest_X0_hasGuest (gw_c wn_X0 (gw_c wc_X0_hasGuest (fun _ h9 => h9)))))) hd_X0_hasGuest rfl rfl (Nat.le_trans (Nat.le_of_ble_eq_true rfl) hRf) (Nat.le_trans (Nat.le_of_ble_eq_true rfl) hRl) ⟨Nat.zero_le _, Nat.zero_le _⟩ (va_recv hE.1 hP (ci := 0) (q0 := 6) rfl rfl) rfl hl.1 rfl (Nat.le_of_ble_eq_true rfl) dX11_affords_5 (fun r1 z1 H locs hB hP hD hS => ?_)
  refine lv_if_eq (tgt := 22) hx hb dX11_affords_8 (by decide) (fun c2 => ?_) (fun c2 => ?_)
  · have hB := hB.1 c2
    refine lv_iconst (v := -1) hx hb dX11_affords_22 (by decide) ?_
    exact hret _ _ _ _ _ _ dX11_affords_23 hB hP hD hS
  · have hB := hB.2 c2
    refine lv_aload_n hx hb dX11_affords_11 rfl (lv_at hl 0 rfl) ?_
    refine xXg_0_table S hE hP lk_X11_72 dX11_affords_12 ?_
    refine lv_iload_n hx hb dX11_affords_15 rfl (lv_at hl 1 rfl) ?_
    refine xcVi [.int x1] S hE hA hP hD hS (c_Table_payable_8 l G z1 H.size x1 _) hB (gw_c lk_X11_363 (gw_c wi_X8_payable (gw_c we_X8_X8_payable_X8_payable (gw_c wn_X8 (gw_c wc_X8_payable (fun _ h9 => h9)))))) hd_X8_payable rfl rfl (Nat.le_trans (Nat.le_of_ble_eq_true rfl) hRf) (Nat.le_trans (Nat.le_of_ble_eq_true rfl) hRl) ⟨Nat.zero_le _, Nat.zero_le _⟩ (va_recv hE.1 hP (ci := 7) (q0 := 8) rfl rfl) rfl hl.1 rfl (Nat.le_of_ble_eq_true rfl) dX11_affords_16 (fun r3 z2 H locs hB hP hD hS => ?_)
    refine lv_goto (tgt := 23) hx hb dX11_affords_19 (by decide) ?_
    exact hret _ _ _ _ _ _ dX11_affords_23 hB hP hD hS
set_option maxHeartbeats 4000000 in
set_option maxRecDepth 100000 in
theorem c_B_affords (l : Launch) (G : GX) (z0 : St) (sz : Nat) (x1 : Int32) (post : Int32 → St → Prop) : MetI l wX yX11_affords cX11_affords 2 (some .int) ({ frames := 1, cells := 0, slots := 0, locals := 23 }) [.ref (ad G 0), .int x1] G z0 sz (S_B_affords post x1 z0) post := by
  refine Met.ofW (cc := cX11_affords) (maxL := 2) (ret := (some .int)) (by decide) rfl ?_
  intro p e s m args below meth c s₁ B hml hv
  obtain ⟨rfl, hsz, hP, hD0, hE, hB⟩ := hv
  have S : CallFix p m c cX11_affords 2 s _ GW RX11 := ⟨B.exec, B.bytes, hml, findClass_of_methodNamed B.named, fun w h => atoms_spec (ws := Cond.code yX11_affords cX11_affords 2 (some .int) :: GW) B.pre w (List.mem_cons_of_mem _ h)⟩
  have hlocks := B.notSynchronized
  subst hsz
  have hD := hD0.self (sz := s.heap.size)
  generalize hAe : va_A (wX G z0) s.heap.size = A at hD hE ⊢
  have hA : ∀ q : Nat, s.heap.size ≤ q → A q := fun q h => by rw [← hAe]; exact Or.inr h
  have hS : va_S A s.heap s.heap [] := va_S.rf
  have hl := lv_entry ([.ref (ad G 0), .int x1]) (n := 2) (Nat.le_of_ble_eq_true rfl)
  rw [lg_entry_eq]
  generalize (lg_sl ([.ref (ad G 0), .int x1]) ++ List.replicate (2 - (lg_sl ([.ref (ad G 0), .int x1])).length) Slot.unset).toArray = ls at hl ⊢
  have hl : lv_has ls 2 [(0, .ref (ad G 0)), (1, .int x1)] := hl
  refine w_B_affords_0 S hE hA (Nat.le_refl _) (Nat.le_refl _) ?_ x1 z0 hB _ _ _ hP hD hS hl
  intro pc ls r σ H locs hd hp hP hD hS
  exact W.iret (v := r) B.exec B.bytes B.returns (fun t ht hW => ⟨⟨r, σ, rfl, hp, by rw [ht]; exact hP, hD⟩, hS.F ht⟩) hS.2.2 hd
def S_B_brought (post : Int32 → St → Prop) (x1 : Int32) (z0 : St) : Prop :=
  (S_House_hasDrink (fun (r1 : Int32) (z1 : St) => ((r1 = 0 → (post (-1 : Int32) z1)) ∧ (¬ r1 = 0 → (S_Table_visits_8 (fun (r3 : Int32) (z2 : St) => (S_Memory_timesBrought (fun (r4 : Int32) (z3 : St) => (post r4 z3)) r3 x1 z2)) z1)))) x1 z0)
set_option maxHeartbeats 4000000 in
set_option maxRecDepth 100000 in
theorem w_B_brought_0 {p : Program} {l : Launch} {e : Env} {R : Room} {s : State} {m : MethodId} {args : Array Value} {below : List Frame} {meth : Method} {c : Code} {Q : State → Prop} {G : GX} {A : Nat → Prop} (S : CallFix p m c cX11_brought 2 s args GW RX11) (hE : env G A s s.heap) (hA : ∀ q, s.heap.size ≤ q → A q) (hRf : 4 ≤ R.frames) (hRl : 88 ≤ R.locals) {post : Int32 → St → Prop} (hret : RetI p l e R s m args below meth c Q 0 0 wX G A cX11_brought post) (x1 : Int32) (z0 : St) (hB : S_B_brought post x1 z0) : Xw p l e R s m args below meth c Q 0 0 wX G A z0 2 [(0, .ref (ad G 0)), (1, .int x1)] 0 [] := by
  intro H locs ls hP hD hS hl
  have hx := S.1
  have hb := S.2.1
  refine lv_aload_n hx hb dX11_brought_0 rfl (lv_at hl 0 rfl) ?_
  refine xXg_0_house S hE hP lk_X11_64 dX11_brought_1 ?_
  refine lv_iload_n hx hb dX11_brought_4 rfl (lv_at hl 1 rfl) ?_
  refine xcVi [.int x1] S hE hA hP hD hS (c_House_hasDrink l G z0 H.size x1 _) hB (gw_c lk_X11_160 (gw_c wi_X0_hasDrink (gw_c we_X0_X0_hasDrink_X0_hasDrink (gw_c wn_X0 (gw_c wc_X0_hasDrink (fun _ h9 => h9)))))) hd_X0_hasDrink rfl rfl (Nat.le_trans (Nat.le_of_ble_eq_true rfl) hRf) (Nat.le_trans (Nat.le_of_ble_eq_true rfl) hRl) ⟨Nat.zero_le _, Nat.zero_le _⟩ (va_recv hE.1 hP (ci := 0) (q0 := 6) rfl rfl) rfl hl.1 rfl (Nat.le_of_ble_eq_true rfl) dX11_brought_5 (fun r1 z1 H locs hB hP hD hS => ?_)
  refine lv_if_eq (tgt := 29) hx hb dX11_brought_8 (by decide) (fun c2 => ?_) (fun c2 => ?_)
  · have hB := hB.1 c2
    refine lv_iconst (v := -1) hx hb dX11_brought_29 (by decide) ?_
    exact hret _ _ _ _ _ _ dX11_brought_30 hB hP hD hS
  · have hB := hB.2 c2
    refine lv_aload_n hx hb dX11_brought_11 rfl (lv_at hl 0 rfl) ?_
    refine xXg_0_memory S hE hP lk_X11_45 dX11_brought_12 ?_
    refine lv_aload_n hx hb dX11_brought_15 rfl (lv_at hl 0 rfl) ?_
    refine xXg_0_table S hE hP lk_X11_72 dX11_brought_16 ?_
    refine xcVi [] S hE hA hP hD hS (c_Table_visits_8 l G z1 H.size _) hB (gw_c lk_X11_220 (gw_c wi_X8_visits (gw_c we_X8_X8_visits_X8_visits (gw_c wn_X8 (gw_c wc_X8_visits (fun _ h9 => h9)))))) hd_X8_visits rfl rfl (Nat.le_trans (Nat.le_of_ble_eq_true rfl) hRf) (Nat.le_trans (Nat.le_of_ble_eq_true rfl) hRl) ⟨Nat.zero_le _, Nat.zero_le _⟩ (va_recv hE.1 hP (ci := 7) (q0 := 8) rfl rfl) rfl hl.1 rfl (Nat.le_of_ble_eq_true rfl) dX11_brought_19 (fun r3 z2 H locs hB hP hD hS => ?_)
    refine lv_iload_n hx hb dX11_brought_22 rfl (lv_at hl 1 rfl) ?_
    refine xcVi [.int r3, .int x1] S hE hA hP hD hS (c_Memory_timesBrought l G z2 H.size r3 x1 _) hB (gw_c lk_X11_354 (gw_c wi_X4_timesBrought (gw_c we_X4_X4_timesBrought_X4_timesBrought (gw_c wn_X4 (gw_c wc_X4_timesBrought (fun _ h9 => h9)))))) hd_X4_timesBrought rfl rfl (Nat.le_trans (Nat.le_of_ble_eq_true rfl) hRf) (Nat.le_trans (Nat.le_of_ble_eq_true rfl) hRl) ⟨Nat.zero_le _, Nat.zero_le _⟩ (va_recv hE.1 hP (ci := 4) (q0 := 5) rfl rfl) rfl hl.1 rfl (Nat.le_of_ble_eq_true rfl) dX11_brought_23 (fun r4 z3 H locs hB hP hD hS => ?_)
    refine lv_goto (tgt := 30) hx hb dX11_brought_26 (by decide) ?_
    exact hret _ _ _ _ _ _ dX11_brought_30 hB hP hD hS
set_option maxHeartbeats 4000000 in
set_option maxRecDepth 100000 in
theorem c_B_brought (l : Launch) (G : GX) (z0 : St) (sz : Nat) (x1 : Int32) (post : Int32 → St → Prop) : MetI l wX yX11_brought cX11_brought 2 (some .int) ({ frames := 4, cells := 0, slots := 0, locals := 88 }) [.ref (ad G 0), .int x1] G z0 sz (S_B_brought post x1 z0) post := by
  refine Met.ofW (cc := cX11_brought) (maxL := 2) (ret := (some .int)) (by decide) rfl ?_
  intro p e s m args below meth c s₁ B hml hv
  obtain ⟨rfl, hsz, hP, hD0, hE, hB⟩ := hv
  have S : CallFix p m c cX11_brought 2 s _ GW RX11 := ⟨B.exec, B.bytes, hml, findClass_of_methodNamed B.named, fun w h => atoms_spec (ws := Cond.code yX11_brought cX11_brought 2 (some .int) :: GW) B.pre w (List.mem_cons_of_mem _ h)⟩
  have hlocks := B.notSynchronized
  subst hsz
  have hD := hD0.self (sz := s.heap.size)
  generalize hAe : va_A (wX G z0) s.heap.size = A at hD hE ⊢
  have hA : ∀ q : Nat, s.heap.size ≤ q → A q := fun q h => by rw [← hAe]; exact Or.inr h
  have hS : va_S A s.heap s.heap [] := va_S.rf
  have hl := lv_entry ([.ref (ad G 0), .int x1]) (n := 2) (Nat.le_of_ble_eq_true rfl)
  rw [lg_entry_eq]
  generalize (lg_sl ([.ref (ad G 0), .int x1]) ++ List.replicate (2 - (lg_sl ([.ref (ad G 0), .int x1])).length) Slot.unset).toArray = ls at hl ⊢
  have hl : lv_has ls 2 [(0, .ref (ad G 0)), (1, .int x1)] := hl
  refine w_B_brought_0 S hE hA (Nat.le_refl _) (Nat.le_refl _) ?_ x1 z0 hB _ _ _ hP hD hS hl
  intro pc ls r σ H locs hd hp hP hD hS
  exact W.iret (v := r) B.exec B.bytes B.returns (fun t ht hW => ⟨⟨r, σ, rfl, hp, by rw [ht]; exact hP, hD⟩, hS.F ht⟩) hS.2.2 hd
def B_B_saves_26 (post : Int32 → St → Prop) (ih26 : Int32 → Int32 → Int32 → St → Prop) (x1 : Int32) (x2 : Int32) (x3 : Int32) (z0 : St) : Prop :=
  (((99 : Int32) < x3 → (post (-1 : Int32) z0)) ∧ (¬ (99 : Int32) < x3 → (S_Table_moneyOf_8 (fun (r2 : Int32) (z1 : St) => (S_Table_priceOf_8 (fun (r3 : Int32) (z2 : St) => (((r2 + (x3 * (gI z1 28))) < r3 → (∀ v5 : Int32, v5 = x3 + (1 : Int32) → (ih26 x1 x2 v5 z2))) ∧ (¬ (r2 + (x3 * (gI z1 28))) < r3 → (post x3 z2)))) x2 z1)) x1 z0)))
set_option maxHeartbeats 4000000 in
set_option maxRecDepth 100000 in
theorem w_B_saves_26 {p : Program} {l : Launch} {e : Env} {R : Room} {s : State} {m : MethodId} {args : Array Value} {below : List Frame} {meth : Method} {c : Code} {Q : State → Prop} {G : GX} {A : Nat → Prop} (S : CallFix p m c cX11_saves 4 s args GW RX11) (hE : env G A s s.heap) (hA : ∀ q, s.heap.size ≤ q → A q) (hRf : 1 ≤ R.frames) (hRl : 21 ≤ R.locals) {post : Int32 → St → Prop} (hret : RetI p l e R s m args below meth c Q 0 0 wX G A cX11_saves post) {ih26 : Int32 → Int32 → Int32 → St → Prop} (h26 : ∀ (x1 : Int32) (x2 : Int32) (x3 : Int32) (z0 : St), ih26 x1 x2 x3 z0 → Xw p l e R s m args below meth c Q 0 0 wX G A z0 4 [(0, .ref (ad G 0)), (1, .int x1), (2, .int x2), (3, .int x3)] 26 []) (x1 : Int32) (x2 : Int32) (x3 : Int32) (z0 : St) (hB : B_B_saves_26 post ih26 x1 x2 x3 z0) : Xw p l e R s m args below meth c Q 0 0 wX G A z0 4 [(0, .ref (ad G 0)), (1, .int x1), (2, .int x2), (3, .int x3)] 26 [] := by
  intro H locs ls hP hD hS hl
  have hx := S.1
  have hb := S.2.1
  refine lv_iload_n hx hb dX11_saves_26 rfl (lv_at hl 3 rfl) ?_
  refine lv_bipush (v := 99) hx hb dX11_saves_27 (by decide) ?_
  refine lv_icmp_gt (tgt := 69) hx hb dX11_saves_29 (by decide) (fun c1 => ?_) (fun c1 => ?_)
  · have hB := hB.1 c1
    refine lv_iconst (v := -1) hx hb dX11_saves_69 (by decide) ?_
    exact hret _ _ _ _ _ _ dX11_saves_70 hB hP hD hS
  · have hB := hB.2 c1
    refine lv_aload_n hx hb dX11_saves_32 rfl (lv_at hl 0 rfl) ?_
    refine xXg_0_table S hE hP lk_X11_72 dX11_saves_33 ?_
    refine lv_iload_n hx hb dX11_saves_36 rfl (lv_at hl 1 rfl) ?_
    refine xcVi [.int x1] S hE hA hP hD hS (c_Table_moneyOf_8 l G z0 H.size x1 _) hB (gw_c lk_X11_184 (gw_c wi_X8_moneyOf (gw_c we_X8_X8_moneyOf_X8_moneyOf (gw_c wn_X8 (gw_c wc_X8_moneyOf (fun _ h9 => h9)))))) hd_X8_moneyOf rfl rfl (Nat.le_trans (Nat.le_of_ble_eq_true rfl) hRf) (Nat.le_trans (Nat.le_of_ble_eq_true rfl) hRl) ⟨Nat.zero_le _, Nat.zero_le _⟩ (va_recv hE.1 hP (ci := 7) (q0 := 8) rfl rfl) rfl hl.1 rfl (Nat.le_of_ble_eq_true rfl) dX11_saves_37 (fun r2 z1 H locs hB hP hD hS => ?_)
    refine lv_iload_n hx hb dX11_saves_40 rfl (lv_at hl 3 rfl) ?_
    refine lv_aload_n hx hb dX11_saves_41 rfl (lv_at hl 0 rfl) ?_
    refine xXg_0_house S hE hP lk_X11_64 dX11_saves_42 ?_
    refine xXg_6_wages S hE hP lk_X11_154 dX11_saves_45 ?_
    refine lv_imul hx hb dX11_saves_48 ?_
    refine lv_iadd hx hb dX11_saves_49 ?_
    refine lv_aload_n hx hb dX11_saves_50 rfl (lv_at hl 0 rfl) ?_
    refine xXg_0_table S hE hP lk_X11_72 dX11_saves_51 ?_
    refine lv_iload_n hx hb dX11_saves_54 rfl (lv_at hl 2 rfl) ?_
    refine xcVi [.int x2] S hE hA hP hD hS (c_Table_priceOf_8 l G z1 H.size x2 _) hB (gw_c lk_X11_168 (gw_c wi_X8_priceOf (gw_c we_X8_X8_priceOf_X8_priceOf (gw_c wn_X8 (gw_c wc_X8_priceOf (fun _ h9 => h9)))))) hd_X8_priceOf rfl rfl (Nat.le_trans (Nat.le_of_ble_eq_true rfl) hRf) (Nat.le_trans (Nat.le_of_ble_eq_true rfl) hRl) ⟨Nat.zero_le _, Nat.zero_le _⟩ (va_recv hE.1 hP (ci := 7) (q0 := 8) rfl rfl) rfl hl.1 rfl (Nat.le_of_ble_eq_true rfl) dX11_saves_55 (fun r3 z2 H locs hB hP hD hS => ?_)
    refine lv_icmp_lt (tgt := 63) hx hb dX11_saves_58 (by decide) (fun c4 => ?_) (fun c4 => ?_)
    · have hB := hB.1 c4
      obtain ⟨v5, ev5⟩ : ∃ y9, y9 = x3 + (1 : Int32) := ⟨_, rfl⟩
      have hB := hB v5 ev5
      refine lv_iinc (v := v5) (lv' := [(3, .int v5), (0, .ref (ad G 0)), (1, .int x1), (2, .int x2)]) hx hb dX11_saves_63 hl (k := 3) rfl (by rw [ev5]; rfl) (by decide) rfl (fun ls hl => ?_)
      refine lv_goto (tgt := 26) hx hb dX11_saves_66 (by decide) ?_
      exact h26 x1 x2 v5 z2 hB _ _ _ hP hD hS (lv_sub hl [1, 2, 3, 0] rfl)
    · have hB := hB.2 c4
      refine lv_iload_n hx hb dX11_saves_61 rfl (lv_at hl 3 rfl) ?_
      exact hret _ _ _ _ _ _ dX11_saves_62 hB hP hD hS
def L_B_saves_26 (post : Int32 → St → Prop) : Nat → Int32 → Int32 → Int32 → St → Prop
  | 0 => fun _ _ _ _ => False
  | n + 1 => B_B_saves_26 post (L_B_saves_26 post n)
theorem wl_B_saves_26 {p : Program} {l : Launch} {e : Env} {R : Room} {s : State} {m : MethodId} {args : Array Value} {below : List Frame} {meth : Method} {c : Code} {Q : State → Prop} {G : GX} {A : Nat → Prop} (S : CallFix p m c cX11_saves 4 s args GW RX11) (hE : env G A s s.heap) (hA : ∀ q, s.heap.size ≤ q → A q) (hRf : 1 ≤ R.frames) (hRl : 21 ≤ R.locals) {post : Int32 → St → Prop} (hret : RetI p l e R s m args below meth c Q 0 0 wX G A cX11_saves post) : ∀ (n : Nat) (x1 : Int32) (x2 : Int32) (x3 : Int32) (z0 : St), L_B_saves_26 post n x1 x2 x3 z0 → Xw p l e R s m args below meth c Q 0 0 wX G A z0 4 [(0, .ref (ad G 0)), (1, .int x1), (2, .int x2), (3, .int x3)] 26 [] := by
  intro n
  induction n with
  | zero => intro x1 x2 x3 z0 hB; exact absurd hB id
  | succ n ih => exact fun x1 x2 x3 z0 hB => w_B_saves_26 S hE hA hRf hRl hret ih x1 x2 x3 z0 hB
def S_B_saves (post : Int32 → St → Prop) (x1 : Int32) (x2 : Int32) (z0 : St) : Prop :=
  (S_House_hasGuest (fun (r1 : Int32) (z1 : St) => ((r1 = 0 → (post (-1 : Int32) z1)) ∧ (¬ r1 = 0 → (S_House_hasDrink (fun (r3 : Int32) (z2 : St) => ((r3 = 0 → (post (-1 : Int32) z2)) ∧ (¬ r3 = 0 → (∃ n5, L_B_saves_26 post n5 x1 x2 (0 : Int32) z2)))) x2 z1)))) x1 z0)
set_option maxHeartbeats 4000000 in
set_option maxRecDepth 100000 in
theorem w_B_saves_0 {p : Program} {l : Launch} {e : Env} {R : Room} {s : State} {m : MethodId} {args : Array Value} {below : List Frame} {meth : Method} {c : Code} {Q : State → Prop} {G : GX} {A : Nat → Prop} (S : CallFix p m c cX11_saves 4 s args GW RX11) (hE : env G A s s.heap) (hA : ∀ q, s.heap.size ≤ q → A q) (hRf : 1 ≤ R.frames) (hRl : 21 ≤ R.locals) {post : Int32 → St → Prop} (hret : RetI p l e R s m args below meth c Q 0 0 wX G A cX11_saves post) (x1 : Int32) (x2 : Int32) (z0 : St) (hB : S_B_saves post x1 x2 z0) : Xw p l e R s m args below meth c Q 0 0 wX G A z0 4 [(0, .ref (ad G 0)), (1, .int x1), (2, .int x2)] 0 [] := by
  intro H locs ls hP hD hS hl
  have hx := S.1
  have hb := S.2.1
  refine lv_aload_n hx hb dX11_saves_0 rfl (lv_at hl 0 rfl) ?_
  refine xXg_0_house S hE hP lk_X11_64 dX11_saves_1 ?_
  refine lv_iload_n hx hb dX11_saves_4 rfl (lv_at hl 1 rfl) ?_
  refine xcVi [.int x1] S hE hA hP hD hS (c_House_hasGuest l G z0 H.size x1 _) hB (gw_c lk_X11_171 (gw_c wi_X0_hasGuest (gw_c we_X0_X0_hasGuest_X0_hasGuest (gw_c wn_X0 (gw_c wc_X0_hasGuest (fun _ h9 => h9)))))) hd_X0_hasGuest rfl rfl (Nat.le_trans (Nat.le_of_ble_eq_true rfl) hRf) (Nat.le_trans (Nat.le_of_ble_eq_true rfl) hRl) ⟨Nat.zero_le _, Nat.zero_le _⟩ (va_recv hE.1 hP (ci := 0) (q0 := 6) rfl rfl) rfl hl.1 rfl (Nat.le_of_ble_eq_true rfl) dX11_saves_5 (fun r1 z1 H locs hB hP hD hS => ?_)
  refine lv_if_eq (tgt := 22) hx hb dX11_saves_8 (by decide) (fun c2 => ?_) (fun c2 => ?_)
  · have hB := hB.1 c2
    refine lv_iconst (v := -1) hx hb dX11_saves_22 (by decide) ?_
    exact hret _ _ _ _ _ _ dX11_saves_23 hB hP hD hS
  · have hB := hB.2 c2
    refine lv_aload_n hx hb dX11_saves_11 rfl (lv_at hl 0 rfl) ?_
    refine xXg_0_house S hE hP lk_X11_64 dX11_saves_12 ?_
    refine lv_iload_n hx hb dX11_saves_15 rfl (lv_at hl 2 rfl) ?_
    refine xcVi [.int x2] S hE hA hP hD hS (c_House_hasDrink l G z1 H.size x2 _) hB (gw_c lk_X11_160 (gw_c wi_X0_hasDrink (gw_c we_X0_X0_hasDrink_X0_hasDrink (gw_c wn_X0 (gw_c wc_X0_hasDrink (fun _ h9 => h9)))))) hd_X0_hasDrink rfl rfl (Nat.le_trans (Nat.le_of_ble_eq_true rfl) hRf) (Nat.le_trans (Nat.le_of_ble_eq_true rfl) hRl) ⟨Nat.zero_le _, Nat.zero_le _⟩ (va_recv hE.1 hP (ci := 0) (q0 := 6) rfl rfl) rfl hl.1 rfl (Nat.le_of_ble_eq_true rfl) dX11_saves_16 (fun r3 z2 H locs hB hP hD hS => ?_)
    refine lv_if_ne (tgt := 24) hx hb dX11_saves_19 (by decide) (fun c4 => ?_) (fun c4 => ?_)
    · have hB := hB.2 c4
      refine lv_iconst (v := 0) hx hb dX11_saves_24 (by decide) ?_
      refine lv_istore_n (lv' := [(3, .int (0 : Int32)), (0, .ref (ad G 0)), (1, .int x1), (2, .int x2)]) hx hb dX11_saves_25 rfl hl (by decide) rfl (fun ls hl => ?_)
      obtain ⟨n5, hB⟩ := hB
      exact wl_B_saves_26 S hE hA hRf hRl hret n5 x1 x2 (0 : Int32) z2 hB _ _ _ hP hD hS (lv_sub hl [1, 2, 3, 0] rfl)
    · have hB := hB.1 c4
      refine lv_iconst (v := -1) hx hb dX11_saves_22 (by decide) ?_
      exact hret _ _ _ _ _ _ dX11_saves_23 hB hP hD hS
set_option maxHeartbeats 4000000 in
set_option maxRecDepth 100000 in
theorem c_B_saves (l : Launch) (G : GX) (z0 : St) (sz : Nat) (x1 : Int32) (x2 : Int32) (post : Int32 → St → Prop) : MetI l wX yX11_saves cX11_saves 4 (some .int) ({ frames := 1, cells := 0, slots := 0, locals := 21 }) [.ref (ad G 0), .int x1, .int x2] G z0 sz (S_B_saves post x1 x2 z0) post := by
  refine Met.ofW (cc := cX11_saves) (maxL := 4) (ret := (some .int)) (by decide) rfl ?_
  intro p e s m args below meth c s₁ B hml hv
  obtain ⟨rfl, hsz, hP, hD0, hE, hB⟩ := hv
  have S : CallFix p m c cX11_saves 4 s _ GW RX11 := ⟨B.exec, B.bytes, hml, findClass_of_methodNamed B.named, fun w h => atoms_spec (ws := Cond.code yX11_saves cX11_saves 4 (some .int) :: GW) B.pre w (List.mem_cons_of_mem _ h)⟩
  have hlocks := B.notSynchronized
  subst hsz
  have hD := hD0.self (sz := s.heap.size)
  generalize hAe : va_A (wX G z0) s.heap.size = A at hD hE ⊢
  have hA : ∀ q : Nat, s.heap.size ≤ q → A q := fun q h => by rw [← hAe]; exact Or.inr h
  have hS : va_S A s.heap s.heap [] := va_S.rf
  have hl := lv_entry ([.ref (ad G 0), .int x1, .int x2]) (n := 4) (Nat.le_of_ble_eq_true rfl)
  rw [lg_entry_eq]
  generalize (lg_sl ([.ref (ad G 0), .int x1, .int x2]) ++ List.replicate (4 - (lg_sl ([.ref (ad G 0), .int x1, .int x2])).length) Slot.unset).toArray = ls at hl ⊢
  have hl : lv_has ls 4 [(0, .ref (ad G 0)), (1, .int x1), (2, .int x2)] := hl
  refine w_B_saves_0 S hE hA (Nat.le_refl _) (Nat.le_refl _) ?_ x1 x2 z0 hB _ _ _ hP hD hS hl
  intro pc ls r σ H locs hd hp hP hD hS
  exact W.iret (v := r) B.exec B.bytes B.returns (fun t ht hW => ⟨⟨r, σ, rfl, hp, by rw [ht]; exact hP, hD⟩, hS.F ht⟩) hS.2.2 hd
def S_Memory_takeImage_r23 (post : St → Prop) (z0 : St) : Prop :=
  (¬ (0 : Int32) < 0 ∧ ¬ (0 : Int32) < 0 ∧ ¬ (28 : Int32) < 0 ∧ (0 : Int32).toNatClampNeg + (28 : Int32).toNatClampNeg ≤ 28 ∧ (0 : Int32).toNatClampNeg + (28 : Int32).toNatClampNeg ≤ 28 ∧ (∀ z1 : St, z1 = sF z0 27 (va_cpy (gA z0 23) (gA z0 27) (0 : Int32).toNatClampNeg (0 : Int32).toNatClampNeg (28 : Int32).toNatClampNeg) → (¬ (0 : Int32) < 0 ∧ ¬ (0 : Int32) < 0 ∧ ¬ (400 : Int32) < 0 ∧ (0 : Int32).toNatClampNeg + (400 : Int32).toNatClampNeg ≤ 400 ∧ (0 : Int32).toNatClampNeg + (400 : Int32).toNatClampNeg ≤ 400 ∧ (∀ z2 : St, z2 = sF z1 28 (va_cpy (gA z1 26) (gA z1 28) (0 : Int32).toNatClampNeg (0 : Int32).toNatClampNeg (400 : Int32).toNatClampNeg) → (∀ z3 : St, z3 = sI z2 23 (1 : Int32) → (post z3))))))
set_option maxHeartbeats 4000000 in
set_option maxRecDepth 100000 in
theorem w_Memory_takeImage_r23_0 {p : Program} {l : Launch} {e : Env} {R : Room} {s : State} {m : MethodId} {args : Array Value} {below : List Frame} {meth : Method} {c : Code} {Q : State → Prop} {G : GX} {A : Nat → Prop} (S : CallFix p m c cX4_takeImage 2 s args GW RX4) (hE : env G A s s.heap) (hA : ∀ q, s.heap.size ≤ q → A q) (hRf : 1 ≤ R.frames) (hRl : 80 ≤ R.locals) {post : St → Prop} (hret : RetV p l e R s m args below meth c Q 0 0 wX G A cX4_takeImage post) (z0 : St) (hB : S_Memory_takeImage_r23 post z0) : Xw p l e R s m args below meth c Q 0 0 wX G A z0 2 [(0, .ref (ad G 5)), (1, .ref (ad G 23))] 0 [] := by
  intro H locs ls hP hD hS hl
  have hx := S.1
  have hb := S.2.1
  refine lv_aload_n hx hb dX4_takeImage_0 rfl (lv_at hl 1 rfl) ?_
  refine lv_iconst (v := 0) hx hb dX4_takeImage_1 (by decide) ?_
  refine lv_aload_n hx hb dX4_takeImage_2 rfl (lv_at hl 0 rfl) ?_
  refine xXg_5_imageCells S hE hP lk_X4_18 dX4_takeImage_3 ?_
  refine lv_iconst (v := 0) hx hb dX4_takeImage_6 (by decide) ?_
  refine lv_bipush (v := 28) hx hb dX4_takeImage_7 (by decide) ?_
  obtain ⟨h91, h92, h93, h94, h95, hB⟩ := hB
  obtain ⟨z1, ez1⟩ : ∃ z9, z9 = sF z0 27 (va_cpy (gA z0 23) (gA z0 27) (0 : Int32).toNatClampNeg (0 : Int32).toNatClampNeg (28 : Int32).toNatClampNeg) := ⟨_, rfl⟩
  have hB := hB z1 ez1
  refine xcp (w := wX) S hE hl.1 hP hD hS (sa := 23) (da := 27) 23 27 (z1 := sF z0 27 (va_cpy (gA z0 23) (gA z0 27) (0 : Int32).toNatClampNeg (0 : Int32).toNatClampNeg (28 : Int32).toNatClampNeg)) rfl rfl rfl h91 h92 h93 h94 h95 (Nat.le_trans (Nat.le_of_ble_eq_true rfl) hRf) (Nat.le_trans (Nat.le_of_ble_eq_true rfl) hRl) lk_X4_35 dX4_takeImage_9 (fun H locs hP hD hS => ?_)
  rw [← ez1] at hP hD
  refine lv_aload_n hx hb dX4_takeImage_12 rfl (lv_at hl 0 rfl) ?_
  refine xXg_5_lines S hE hP lk_X4_15 dX4_takeImage_13 ?_
  refine lv_iconst (v := 0) hx hb dX4_takeImage_16 (by decide) ?_
  refine lv_aload_n hx hb dX4_takeImage_17 rfl (lv_at hl 0 rfl) ?_
  refine xXg_5_imageLines S hE hP lk_X4_21 dX4_takeImage_18 ?_
  refine lv_iconst (v := 0) hx hb dX4_takeImage_21 (by decide) ?_
  refine lv_aload_n hx hb dX4_takeImage_22 rfl (lv_at hl 0 rfl) ?_
  refine xXg_5_lines S hE hP lk_X4_15 dX4_takeImage_23 ?_
  refine xXn_26 S hE hP dX4_takeImage_26 ?_
  obtain ⟨h91, h92, h93, h94, h95, hB⟩ := hB
  obtain ⟨z2, ez2⟩ : ∃ z9, z9 = sF z1 28 (va_cpy (gA z1 26) (gA z1 28) (0 : Int32).toNatClampNeg (0 : Int32).toNatClampNeg (400 : Int32).toNatClampNeg) := ⟨_, rfl⟩
  have hB := hB z2 ez2
  refine xcp (w := wX) S hE hl.1 hP hD hS (sa := 26) (da := 28) 26 28 (z1 := sF z1 28 (va_cpy (gA z1 26) (gA z1 28) (0 : Int32).toNatClampNeg (0 : Int32).toNatClampNeg (400 : Int32).toNatClampNeg)) rfl rfl rfl h91 h92 h93 h94 h95 (Nat.le_trans (Nat.le_of_ble_eq_true rfl) hRf) (Nat.le_trans (Nat.le_of_ble_eq_true rfl) hRl) lk_X4_35 dX4_takeImage_27 (fun H locs hP hD hS => ?_)
  rw [← ez2] at hP hD
  refine lv_aload_n hx hb dX4_takeImage_30 rfl (lv_at hl 0 rfl) ?_
  refine lv_iconst (v := 1) hx hb dX4_takeImage_31 (by decide) ?_
  obtain ⟨z3, ez3⟩ : ∃ z9, z9 = sI z2 23 (1 : Int32) := ⟨_, rfl⟩
  have hB := hB z3 ez3
  refine xXp_5_imaged S hE hP hD hS lk_X4_28 (by decide) dX4_takeImage_32 (fun H locs hP hD hS => ?_)
  rw [← ez3] at hP hD
  exact hret _ _ _ _ _ dX4_takeImage_35 hB hP hD hS
set_option maxHeartbeats 4000000 in
set_option maxRecDepth 100000 in
theorem c_Memory_takeImage_r23 (l : Launch) (G : GX) (z0 : St) (sz : Nat) (post : St → Prop) : MetV l wX yX4_takeImage cX4_takeImage 2 none ({ frames := 1, cells := 0, slots := 0, locals := 80 }) [.ref (ad G 5), .ref (ad G 23)] G z0 sz (S_Memory_takeImage_r23 post z0) post := by
  refine Met.ofW (cc := cX4_takeImage) (maxL := 2) (ret := none) (by decide) rfl ?_
  intro p e s m args below meth c s₁ B hml hv
  obtain ⟨rfl, hsz, hP, hD0, hE, hB⟩ := hv
  have S : CallFix p m c cX4_takeImage 2 s _ GW RX4 := ⟨B.exec, B.bytes, hml, findClass_of_methodNamed B.named, fun w h => atoms_spec (ws := Cond.code yX4_takeImage cX4_takeImage 2 none :: GW) B.pre w (List.mem_cons_of_mem _ h)⟩
  have hlocks := B.notSynchronized
  subst hsz
  have hD := hD0.self (sz := s.heap.size)
  generalize hAe : va_A (wX G z0) s.heap.size = A at hD hE ⊢
  have hA : ∀ q : Nat, s.heap.size ≤ q → A q := fun q h => by rw [← hAe]; exact Or.inr h
  have hS : va_S A s.heap s.heap [] := va_S.rf
  have hl := lv_entry ([.ref (ad G 5), .ref (ad G 23)]) (n := 2) (Nat.le_of_ble_eq_true rfl)
  rw [lg_entry_eq]
  generalize (lg_sl ([.ref (ad G 5), .ref (ad G 23)]) ++ List.replicate (2 - (lg_sl ([.ref (ad G 5), .ref (ad G 23)])).length) Slot.unset).toArray = ls at hl ⊢
  have hl : lv_has ls 2 [(0, .ref (ad G 5)), (1, .ref (ad G 23))] := hl
  refine w_Memory_takeImage_r23_0 S hE hA (Nat.le_refl _) (Nat.le_refl _) ?_  z0 hB _ _ _ hP hD hS hl
  intro pc ls σ H locs hd hp hP hD hS
  exact W.vret B.exec B.bytes B.returns (fun t ht hW => ⟨⟨σ, rfl, hp, by rw [ht]; exact hP, hD⟩, hS.F ht⟩) hS.2.2 hd
def S_B_image (post : Int32 → St → Prop) (z0 : St) : Prop :=
  (S_House_isTold (fun (r1 : Int32) (z1 : St) => ((r1 = 0 → (post (-1 : Int32) z1)) ∧ (¬ r1 = 0 → (S_Memory_takeImage_r23 (fun (z2 : St) => (S_Table_visits_8 (fun (r3 : Int32) (z3 : St) => (post r3 z3)) z2)) z1)))) z0)
set_option maxHeartbeats 4000000 in
set_option maxRecDepth 100000 in
theorem w_B_image_0 {p : Program} {l : Launch} {e : Env} {R : Room} {s : State} {m : MethodId} {args : Array Value} {below : List Frame} {meth : Method} {c : Code} {Q : State → Prop} {G : GX} {A : Nat → Prop} (S : CallFix p m c cX11_image 1 s args GW RX11) (hE : env G A s s.heap) (hA : ∀ q, s.heap.size ≤ q → A q) (hRf : 2 ≤ R.frames) (hRl : 101 ≤ R.locals) {post : Int32 → St → Prop} (hret : RetI p l e R s m args below meth c Q 0 0 wX G A cX11_image post) (z0 : St) (hB : S_B_image post z0) : Xw p l e R s m args below meth c Q 0 0 wX G A z0 1 [(0, .ref (ad G 0))] 0 [] := by
  intro H locs ls hP hD hS hl
  have hx := S.1
  have hb := S.2.1
  refine lv_aload_n hx hb dX11_image_0 rfl (lv_at hl 0 rfl) ?_
  refine xXg_0_house S hE hP lk_X11_64 dX11_image_1 ?_
  refine xcVi [] S hE hA hP hD hS (c_House_isTold l G z0 H.size _) hB (gw_c lk_X11_147 (gw_c wi_X0_isTold (gw_c we_X0_X0_isTold_X0_isTold (gw_c wn_X0 (gw_c wc_X0_isTold (fun _ h9 => h9)))))) hd_X0_isTold rfl rfl (Nat.le_trans (Nat.le_of_ble_eq_true rfl) hRf) (Nat.le_trans (Nat.le_of_ble_eq_true rfl) hRl) ⟨Nat.zero_le _, Nat.zero_le _⟩ (va_recv hE.1 hP (ci := 0) (q0 := 6) rfl rfl) rfl hl.1 rfl (Nat.le_of_ble_eq_true rfl) dX11_image_4 (fun r1 z1 H locs hB hP hD hS => ?_)
  refine lv_if_ne (tgt := 12) hx hb dX11_image_7 (by decide) (fun c2 => ?_) (fun c2 => ?_)
  · have hB := hB.2 c2
    refine lv_aload_n hx hb dX11_image_12 rfl (lv_at hl 0 rfl) ?_
    refine xXg_0_memory S hE hP lk_X11_45 dX11_image_13 ?_
    refine lv_aload_n hx hb dX11_image_16 rfl (lv_at hl 0 rfl) ?_
    refine xXg_0_table S hE hP lk_X11_72 dX11_image_17 ?_
    refine xXg_8_cells S hE hP lk_X11_206 dX11_image_20 ?_
    refine xcVv [.ref (ad G 23)] S hE hA hP hD hS (c_Memory_takeImage_r23 l G z1 H.size _) hB (gw_c lk_X11_366 (gw_c wi_X4_takeImage (gw_c we_X4_X4_takeImage_X4_takeImage (gw_c wn_X4 (gw_c wc_X4_takeImage (fun _ h9 => h9)))))) hd_X4_takeImage rfl rfl (Nat.le_trans (Nat.le_of_ble_eq_true rfl) hRf) (Nat.le_trans (Nat.le_of_ble_eq_true rfl) hRl) ⟨Nat.zero_le _, Nat.zero_le _⟩ (va_recv hE.1 hP (ci := 4) (q0 := 5) rfl rfl) rfl hl.1 rfl (Nat.le_of_ble_eq_true rfl) dX11_image_23 (fun z2 H locs hB hP hD hS => ?_)
    refine lv_aload_n hx hb dX11_image_26 rfl (lv_at hl 0 rfl) ?_
    refine xXg_0_table S hE hP lk_X11_72 dX11_image_27 ?_
    refine xcVi [] S hE hA hP hD hS (c_Table_visits_8 l G z2 H.size _) hB (gw_c lk_X11_220 (gw_c wi_X8_visits (gw_c we_X8_X8_visits_X8_visits (gw_c wn_X8 (gw_c wc_X8_visits (fun _ h9 => h9)))))) hd_X8_visits rfl rfl (Nat.le_trans (Nat.le_of_ble_eq_true rfl) hRf) (Nat.le_trans (Nat.le_of_ble_eq_true rfl) hRl) ⟨Nat.zero_le _, Nat.zero_le _⟩ (va_recv hE.1 hP (ci := 7) (q0 := 8) rfl rfl) rfl hl.1 rfl (Nat.le_of_ble_eq_true rfl) dX11_image_30 (fun r3 z3 H locs hB hP hD hS => ?_)
    exact hret _ _ _ _ _ _ dX11_image_33 hB hP hD hS
  · have hB := hB.1 c2
    refine lv_iconst (v := -1) hx hb dX11_image_10 (by decide) ?_
    exact hret _ _ _ _ _ _ dX11_image_11 hB hP hD hS
set_option maxHeartbeats 4000000 in
set_option maxRecDepth 100000 in
theorem c_B_image (l : Launch) (G : GX) (z0 : St) (sz : Nat) (post : Int32 → St → Prop) : MetI l wX yX11_image cX11_image 1 (some .int) ({ frames := 2, cells := 0, slots := 0, locals := 101 }) [.ref (ad G 0)] G z0 sz (S_B_image post z0) post := by
  refine Met.ofW (cc := cX11_image) (maxL := 1) (ret := (some .int)) (by decide) rfl ?_
  intro p e s m args below meth c s₁ B hml hv
  obtain ⟨rfl, hsz, hP, hD0, hE, hB⟩ := hv
  have S : CallFix p m c cX11_image 1 s _ GW RX11 := ⟨B.exec, B.bytes, hml, findClass_of_methodNamed B.named, fun w h => atoms_spec (ws := Cond.code yX11_image cX11_image 1 (some .int) :: GW) B.pre w (List.mem_cons_of_mem _ h)⟩
  have hlocks := B.notSynchronized
  subst hsz
  have hD := hD0.self (sz := s.heap.size)
  generalize hAe : va_A (wX G z0) s.heap.size = A at hD hE ⊢
  have hA : ∀ q : Nat, s.heap.size ≤ q → A q := fun q h => by rw [← hAe]; exact Or.inr h
  have hS : va_S A s.heap s.heap [] := va_S.rf
  have hl := lv_entry ([.ref (ad G 0)]) (n := 1) (Nat.le_of_ble_eq_true rfl)
  rw [lg_entry_eq]
  generalize (lg_sl ([.ref (ad G 0)]) ++ List.replicate (1 - (lg_sl ([.ref (ad G 0)])).length) Slot.unset).toArray = ls at hl ⊢
  have hl : lv_has ls 1 [(0, .ref (ad G 0))] := hl
  refine w_B_image_0 S hE hA (Nat.le_refl _) (Nat.le_refl _) ?_  z0 hB _ _ _ hP hD hS hl
  intro pc ls r σ H locs hd hp hP hD hS
  exact W.iret (v := r) B.exec B.bytes B.returns (fun t ht hW => ⟨⟨r, σ, rfl, hp, by rw [ht]; exact hP, hD⟩, hS.F ht⟩) hS.2.2 hd
def S_Memory_goBack_r23 (post : Int32 → St → Prop) (z0 : St) : Prop :=
  (((gI z0 23) = 0 → (post (0 : Int32) z0)) ∧ (¬ (gI z0 23) = 0 → (¬ (0 : Int32) < 0 ∧ ¬ (0 : Int32) < 0 ∧ ¬ (28 : Int32) < 0 ∧ (0 : Int32).toNatClampNeg + (28 : Int32).toNatClampNeg ≤ 28 ∧ (0 : Int32).toNatClampNeg + (28 : Int32).toNatClampNeg ≤ 28 ∧ (∀ z1 : St, z1 = sF z0 23 (va_cpy (gA z0 27) (gA z0 23) (0 : Int32).toNatClampNeg (0 : Int32).toNatClampNeg (28 : Int32).toNatClampNeg) → (¬ (0 : Int32) < 0 ∧ ¬ (0 : Int32) < 0 ∧ ¬ (400 : Int32) < 0 ∧ (0 : Int32).toNatClampNeg + (400 : Int32).toNatClampNeg ≤ 400 ∧ (0 : Int32).toNatClampNeg + (400 : Int32).toNatClampNeg ≤ 400 ∧ (∀ z2 : St, z2 = sF z1 26 (va_cpy (gA z1 28) (gA z1 26) (0 : Int32).toNatClampNeg (0 : Int32).toNatClampNeg (400 : Int32).toNatClampNeg) → (∀ z3 : St, z3 = sI z2 25 (0 : Int32) → (post (1 : Int32) z3))))))))
set_option maxHeartbeats 4000000 in
set_option maxRecDepth 100000 in
theorem w_Memory_goBack_r23_0 {p : Program} {l : Launch} {e : Env} {R : Room} {s : State} {m : MethodId} {args : Array Value} {below : List Frame} {meth : Method} {c : Code} {Q : State → Prop} {G : GX} {A : Nat → Prop} (S : CallFix p m c cX4_goBack 2 s args GW RX4) (hE : env G A s s.heap) (hA : ∀ q, s.heap.size ≤ q → A q) (hRf : 1 ≤ R.frames) (hRl : 80 ≤ R.locals) {post : Int32 → St → Prop} (hret : RetZ p l e R s m args below meth c Q 0 0 wX G A cX4_goBack post) (z0 : St) (hB : S_Memory_goBack_r23 post z0) : Xw p l e R s m args below meth c Q 0 0 wX G A z0 2 [(0, .ref (ad G 5)), (1, .ref (ad G 23))] 0 [] := by
  intro H locs ls hP hD hS hl
  have hx := S.1
  have hb := S.2.1
  refine lv_aload_n hx hb dX4_goBack_0 rfl (lv_at hl 0 rfl) ?_
  refine xXg_5_imaged S hE hP lk_X4_28 dX4_goBack_1 ?_
  refine lv_if_ne (tgt := 9) hx hb dX4_goBack_4 (by decide) (fun c1 => ?_) (fun c1 => ?_)
  · have hB := hB.2 c1
    refine lv_aload_n hx hb dX4_goBack_9 rfl (lv_at hl 0 rfl) ?_
    refine xXg_5_imageCells S hE hP lk_X4_18 dX4_goBack_10 ?_
    refine lv_iconst (v := 0) hx hb dX4_goBack_13 (by decide) ?_
    refine lv_aload_n hx hb dX4_goBack_14 rfl (lv_at hl 1 rfl) ?_
    refine lv_iconst (v := 0) hx hb dX4_goBack_15 (by decide) ?_
    refine lv_bipush (v := 28) hx hb dX4_goBack_16 (by decide) ?_
    obtain ⟨h91, h92, h93, h94, h95, hB⟩ := hB
    obtain ⟨z1, ez1⟩ : ∃ z9, z9 = sF z0 23 (va_cpy (gA z0 27) (gA z0 23) (0 : Int32).toNatClampNeg (0 : Int32).toNatClampNeg (28 : Int32).toNatClampNeg) := ⟨_, rfl⟩
    have hB := hB z1 ez1
    refine xcp (w := wX) S hE hl.1 hP hD hS (sa := 27) (da := 23) 27 23 (z1 := sF z0 23 (va_cpy (gA z0 27) (gA z0 23) (0 : Int32).toNatClampNeg (0 : Int32).toNatClampNeg (28 : Int32).toNatClampNeg)) rfl rfl rfl h91 h92 h93 h94 h95 (Nat.le_trans (Nat.le_of_ble_eq_true rfl) hRf) (Nat.le_trans (Nat.le_of_ble_eq_true rfl) hRl) lk_X4_35 dX4_goBack_18 (fun H locs hP hD hS => ?_)
    rw [← ez1] at hP hD
    refine lv_aload_n hx hb dX4_goBack_21 rfl (lv_at hl 0 rfl) ?_
    refine xXg_5_imageLines S hE hP lk_X4_21 dX4_goBack_22 ?_
    refine lv_iconst (v := 0) hx hb dX4_goBack_25 (by decide) ?_
    refine lv_aload_n hx hb dX4_goBack_26 rfl (lv_at hl 0 rfl) ?_
    refine xXg_5_lines S hE hP lk_X4_15 dX4_goBack_27 ?_
    refine lv_iconst (v := 0) hx hb dX4_goBack_30 (by decide) ?_
    refine lv_aload_n hx hb dX4_goBack_31 rfl (lv_at hl 0 rfl) ?_
    refine xXg_5_lines S hE hP lk_X4_15 dX4_goBack_32 ?_
    refine xXn_26 S hE hP dX4_goBack_35 ?_
    obtain ⟨h91, h92, h93, h94, h95, hB⟩ := hB
    obtain ⟨z2, ez2⟩ : ∃ z9, z9 = sF z1 26 (va_cpy (gA z1 28) (gA z1 26) (0 : Int32).toNatClampNeg (0 : Int32).toNatClampNeg (400 : Int32).toNatClampNeg) := ⟨_, rfl⟩
    have hB := hB z2 ez2
    refine xcp (w := wX) S hE hl.1 hP hD hS (sa := 28) (da := 26) 28 26 (z1 := sF z1 26 (va_cpy (gA z1 28) (gA z1 26) (0 : Int32).toNatClampNeg (0 : Int32).toNatClampNeg (400 : Int32).toNatClampNeg)) rfl rfl rfl h91 h92 h93 h94 h95 (Nat.le_trans (Nat.le_of_ble_eq_true rfl) hRf) (Nat.le_trans (Nat.le_of_ble_eq_true rfl) hRl) lk_X4_35 dX4_goBack_36 (fun H locs hP hD hS => ?_)
    rw [← ez2] at hP hD
    refine lv_aload_n hx hb dX4_goBack_39 rfl (lv_at hl 0 rfl) ?_
    refine lv_iconst (v := 0) hx hb dX4_goBack_40 (by decide) ?_
    obtain ⟨z3, ez3⟩ : ∃ z9, z9 = sI z2 25 (0 : Int32) := ⟨_, rfl⟩
    have hB := hB z3 ez3
    refine xXp_5_kept S hE hP hD hS lk_X4_24 dX4_goBack_41 (fun H locs hP hD hS => ?_)
    rw [← ez3] at hP hD
    refine lv_iconst (v := 1) hx hb dX4_goBack_44 (by decide) ?_
    exact hret _ _ _ _ _ _ dX4_goBack_45 ⟨by decide, hB⟩ hP hD hS
  · have hB := hB.1 c1
    refine lv_iconst (v := 0) hx hb dX4_goBack_7 (by decide) ?_
    exact hret _ _ _ _ _ _ dX4_goBack_8 ⟨by decide, hB⟩ hP hD hS
set_option maxHeartbeats 4000000 in
set_option maxRecDepth 100000 in
theorem c_Memory_goBack_r23 (l : Launch) (G : GX) (z0 : St) (sz : Nat) (post : Int32 → St → Prop) : MetI l wX yX4_goBack cX4_goBack 2 (some .boolean) ({ frames := 1, cells := 0, slots := 0, locals := 80 }) [.ref (ad G 5), .ref (ad G 23)] G z0 sz (S_Memory_goBack_r23 post z0) post := by
  refine Met.ofW (cc := cX4_goBack) (maxL := 2) (ret := (some .boolean)) (by decide) rfl ?_
  intro p e s m args below meth c s₁ B hml hv
  obtain ⟨rfl, hsz, hP, hD0, hE, hB⟩ := hv
  have S : CallFix p m c cX4_goBack 2 s _ GW RX4 := ⟨B.exec, B.bytes, hml, findClass_of_methodNamed B.named, fun w h => atoms_spec (ws := Cond.code yX4_goBack cX4_goBack 2 (some .boolean) :: GW) B.pre w (List.mem_cons_of_mem _ h)⟩
  have hlocks := B.notSynchronized
  subst hsz
  have hD := hD0.self (sz := s.heap.size)
  generalize hAe : va_A (wX G z0) s.heap.size = A at hD hE ⊢
  have hA : ∀ q : Nat, s.heap.size ≤ q → A q := fun q h => by rw [← hAe]; exact Or.inr h
  have hS : va_S A s.heap s.heap [] := va_S.rf
  have hl := lv_entry ([.ref (ad G 5), .ref (ad G 23)]) (n := 2) (Nat.le_of_ble_eq_true rfl)
  rw [lg_entry_eq]
  generalize (lg_sl ([.ref (ad G 5), .ref (ad G 23)]) ++ List.replicate (2 - (lg_sl ([.ref (ad G 5), .ref (ad G 23)])).length) Slot.unset).toArray = ls at hl ⊢
  have hl : lv_has ls 2 [(0, .ref (ad G 5)), (1, .ref (ad G 23))] := hl
  refine w_Memory_goBack_r23_0 S hE hA (Nat.le_refl _) (Nat.le_refl _) ?_  z0 hB _ _ _ hP hD hS hl
  intro pc ls r σ H locs hd hp hP hD hS
  exact W.zret (v := r) B.exec B.bytes B.returns (xboolc r hp.1) (fun t ht hW => ⟨⟨r, σ, rfl, hp.2, by rw [ht]; exact hP, hD⟩, hS.F ht⟩) hS.2.2 hd
def S_B_back (post : Int32 → St → Prop) (z0 : St) : Prop :=
  (S_Memory_goBack_r23 (fun (r1 : Int32) (z1 : St) => ((r1 = 0 → (post (-1 : Int32) z1)) ∧ (¬ r1 = 0 → (S_Table_visits_8 (fun (r3 : Int32) (z2 : St) => (post r3 z2)) z1)))) z0)
set_option maxHeartbeats 4000000 in
set_option maxRecDepth 100000 in
theorem w_B_back_0 {p : Program} {l : Launch} {e : Env} {R : Room} {s : State} {m : MethodId} {args : Array Value} {below : List Frame} {meth : Method} {c : Code} {Q : State → Prop} {G : GX} {A : Nat → Prop} (S : CallFix p m c cX11_back 1 s args GW RX11) (hE : env G A s s.heap) (hA : ∀ q, s.heap.size ≤ q → A q) (hRf : 2 ≤ R.frames) (hRl : 101 ≤ R.locals) {post : Int32 → St → Prop} (hret : RetI p l e R s m args below meth c Q 0 0 wX G A cX11_back post) (z0 : St) (hB : S_B_back post z0) : Xw p l e R s m args below meth c Q 0 0 wX G A z0 1 [(0, .ref (ad G 0))] 0 [] := by
  intro H locs ls hP hD hS hl
  have hx := S.1
  have hb := S.2.1
  refine lv_aload_n hx hb dX11_back_0 rfl (lv_at hl 0 rfl) ?_
  refine xXg_0_memory S hE hP lk_X11_45 dX11_back_1 ?_
  refine lv_aload_n hx hb dX11_back_4 rfl (lv_at hl 0 rfl) ?_
  refine xXg_0_table S hE hP lk_X11_72 dX11_back_5 ?_
  refine xXg_8_cells S hE hP lk_X11_206 dX11_back_8 ?_
  refine xcVi [.ref (ad G 23)] S hE hA hP hD hS (c_Memory_goBack_r23 l G z0 H.size _) hB (gw_c lk_X11_369 (gw_c wi_X4_goBack (gw_c we_X4_X4_goBack_X4_goBack (gw_c wn_X4 (gw_c wc_X4_goBack (fun _ h9 => h9)))))) hd_X4_goBack rfl rfl (Nat.le_trans (Nat.le_of_ble_eq_true rfl) hRf) (Nat.le_trans (Nat.le_of_ble_eq_true rfl) hRl) ⟨Nat.zero_le _, Nat.zero_le _⟩ (va_recv hE.1 hP (ci := 4) (q0 := 5) rfl rfl) rfl hl.1 rfl (Nat.le_of_ble_eq_true rfl) dX11_back_11 (fun r1 z1 H locs hB hP hD hS => ?_)
  refine lv_if_eq (tgt := 27) hx hb dX11_back_14 (by decide) (fun c2 => ?_) (fun c2 => ?_)
  · have hB := hB.1 c2
    refine lv_iconst (v := -1) hx hb dX11_back_27 (by decide) ?_
    exact hret _ _ _ _ _ _ dX11_back_28 hB hP hD hS
  · have hB := hB.2 c2
    refine lv_aload_n hx hb dX11_back_17 rfl (lv_at hl 0 rfl) ?_
    refine xXg_0_table S hE hP lk_X11_72 dX11_back_18 ?_
    refine xcVi [] S hE hA hP hD hS (c_Table_visits_8 l G z1 H.size _) hB (gw_c lk_X11_220 (gw_c wi_X8_visits (gw_c we_X8_X8_visits_X8_visits (gw_c wn_X8 (gw_c wc_X8_visits (fun _ h9 => h9)))))) hd_X8_visits rfl rfl (Nat.le_trans (Nat.le_of_ble_eq_true rfl) hRf) (Nat.le_trans (Nat.le_of_ble_eq_true rfl) hRl) ⟨Nat.zero_le _, Nat.zero_le _⟩ (va_recv hE.1 hP (ci := 7) (q0 := 8) rfl rfl) rfl hl.1 rfl (Nat.le_of_ble_eq_true rfl) dX11_back_21 (fun r3 z2 H locs hB hP hD hS => ?_)
    refine lv_goto (tgt := 28) hx hb dX11_back_24 (by decide) ?_
    exact hret _ _ _ _ _ _ dX11_back_28 hB hP hD hS
set_option maxHeartbeats 4000000 in
set_option maxRecDepth 100000 in
theorem c_B_back (l : Launch) (G : GX) (z0 : St) (sz : Nat) (post : Int32 → St → Prop) : MetI l wX yX11_back cX11_back 1 (some .int) ({ frames := 2, cells := 0, slots := 0, locals := 101 }) [.ref (ad G 0)] G z0 sz (S_B_back post z0) post := by
  refine Met.ofW (cc := cX11_back) (maxL := 1) (ret := (some .int)) (by decide) rfl ?_
  intro p e s m args below meth c s₁ B hml hv
  obtain ⟨rfl, hsz, hP, hD0, hE, hB⟩ := hv
  have S : CallFix p m c cX11_back 1 s _ GW RX11 := ⟨B.exec, B.bytes, hml, findClass_of_methodNamed B.named, fun w h => atoms_spec (ws := Cond.code yX11_back cX11_back 1 (some .int) :: GW) B.pre w (List.mem_cons_of_mem _ h)⟩
  have hlocks := B.notSynchronized
  subst hsz
  have hD := hD0.self (sz := s.heap.size)
  generalize hAe : va_A (wX G z0) s.heap.size = A at hD hE ⊢
  have hA : ∀ q : Nat, s.heap.size ≤ q → A q := fun q h => by rw [← hAe]; exact Or.inr h
  have hS : va_S A s.heap s.heap [] := va_S.rf
  have hl := lv_entry ([.ref (ad G 0)]) (n := 1) (Nat.le_of_ble_eq_true rfl)
  rw [lg_entry_eq]
  generalize (lg_sl ([.ref (ad G 0)]) ++ List.replicate (1 - (lg_sl ([.ref (ad G 0)])).length) Slot.unset).toArray = ls at hl ⊢
  have hl : lv_has ls 1 [(0, .ref (ad G 0))] := hl
  refine w_B_back_0 S hE hA (Nat.le_refl _) (Nat.le_refl _) ?_  z0 hB _ _ _ hP hD hS hl
  intro pc ls r σ H locs hd hp hP hD hS
  exact W.iret (v := r) B.exec B.bytes B.returns (fun t ht hW => ⟨⟨r, σ, rfl, hp, by rw [ht]; exact hP, hD⟩, hS.F ht⟩) hS.2.2 hd
def S_Table_hostPut_8 (post : Int32 → St → Prop) (z0 : St) : Prop :=
  (post (gA z0 23 2) z0)
set_option maxHeartbeats 4000000 in
set_option maxRecDepth 100000 in
theorem w_Table_hostPut_8_0 {p : Program} {l : Launch} {e : Env} {R : Room} {s : State} {m : MethodId} {args : Array Value} {below : List Frame} {meth : Method} {c : Code} {Q : State → Prop} {G : GX} {A : Nat → Prop} (S : CallFix p m c cX8_hostPut 1 s args GW RX8) (hE : env G A s s.heap) (hA : ∀ q, s.heap.size ≤ q → A q) (hRf : 0 ≤ R.frames) (hRl : 0 ≤ R.locals) {post : Int32 → St → Prop} (hret : RetI p l e R s m args below meth c Q 0 0 wX G A cX8_hostPut post) (z0 : St) (hB : S_Table_hostPut_8 post z0) : Xw p l e R s m args below meth c Q 0 0 wX G A z0 1 [(0, .ref (ad G 8))] 0 [] := by
  intro H locs ls hP hD hS hl
  have hx := S.1
  have hb := S.2.1
  refine lv_aload_n hx hb dX8_hostPut_0 rfl (lv_at hl 0 rfl) ?_
  refine xXg_8_cells S hE hP lk_X8_11 dX8_hostPut_1 ?_
  refine lv_iconst (v := 2) hx hb dX8_hostPut_4 (by decide) ?_
  refine xXk_23 S hE hP 2 (by decide) (by unfold vp_in; decide) dX8_hostPut_5 ?_
  exact hret _ _ _ _ _ _ dX8_hostPut_6 hB hP hD hS
set_option maxHeartbeats 4000000 in
set_option maxRecDepth 100000 in
theorem c_Table_hostPut_8 (l : Launch) (G : GX) (z0 : St) (sz : Nat) (post : Int32 → St → Prop) : MetI l wX yX8_hostPut cX8_hostPut 1 (some .int) ({ frames := 0, cells := 0, slots := 0, locals := 0 }) [.ref (ad G 8)] G z0 sz (S_Table_hostPut_8 post z0) post := by
  refine Met.ofW (cc := cX8_hostPut) (maxL := 1) (ret := (some .int)) (by decide) rfl ?_
  intro p e s m args below meth c s₁ B hml hv
  obtain ⟨rfl, hsz, hP, hD0, hE, hB⟩ := hv
  have S : CallFix p m c cX8_hostPut 1 s _ GW RX8 := ⟨B.exec, B.bytes, hml, findClass_of_methodNamed B.named, fun w h => atoms_spec (ws := Cond.code yX8_hostPut cX8_hostPut 1 (some .int) :: GW) B.pre w (List.mem_cons_of_mem _ h)⟩
  have hlocks := B.notSynchronized
  subst hsz
  have hD := hD0.self (sz := s.heap.size)
  generalize hAe : va_A (wX G z0) s.heap.size = A at hD hE ⊢
  have hA : ∀ q : Nat, s.heap.size ≤ q → A q := fun q h => by rw [← hAe]; exact Or.inr h
  have hS : va_S A s.heap s.heap [] := va_S.rf
  have hl := lv_entry ([.ref (ad G 8)]) (n := 1) (Nat.le_of_ble_eq_true rfl)
  rw [lg_entry_eq]
  generalize (lg_sl ([.ref (ad G 8)]) ++ List.replicate (1 - (lg_sl ([.ref (ad G 8)])).length) Slot.unset).toArray = ls at hl ⊢
  have hl : lv_has ls 1 [(0, .ref (ad G 8))] := hl
  refine w_Table_hostPut_8_0 S hE hA (Nat.le_refl _) (Nat.le_refl _) ?_  z0 hB _ _ _ hP hD hS hl
  intro pc ls r σ H locs hd hp hP hD hS
  exact W.iret (v := r) B.exec B.bytes B.returns (fun t ht hW => ⟨⟨r, σ, rfl, hp, by rw [ht]; exact hP, hD⟩, hS.F ht⟩) hS.2.2 hd
def S_B_count (post : Int32 → St → Prop) (x1 : Int32) (z0 : St) : Prop :=
  ((x1 = (0 : Int32) → (post (gI z0 27) z0)) ∧ (¬ x1 = (0 : Int32) → ((x1 = (1 : Int32) → (post (gI z0 26) z0)) ∧ (¬ x1 = (1 : Int32) → ((x1 = (2 : Int32) → (post (gI z0 30) z0)) ∧ (¬ x1 = (2 : Int32) → ((x1 = (3 : Int32) → (post (gI z0 0) z0)) ∧ (¬ x1 = (3 : Int32) → ((x1 = (4 : Int32) → (post (gI z0 2) z0)) ∧ (¬ x1 = (4 : Int32) → ((x1 = (5 : Int32) → (post (gI z0 31) z0)) ∧ (¬ x1 = (5 : Int32) → ((x1 = (6 : Int32) → (S_Table_visits_8 (fun (r1 : Int32) (z1 : St) => (post r1 z1)) z0)) ∧ (¬ x1 = (6 : Int32) → ((x1 = (7 : Int32) → (S_Table_monthNow_8 (fun (r2 : Int32) (z2 : St) => (post r2 z2)) z0)) ∧ (¬ x1 = (7 : Int32) → ((x1 = (8 : Int32) → (S_Table_joyOfAll_8 (fun (r3 : Int32) (z3 : St) => (post r3 z3)) z0)) ∧ (¬ x1 = (8 : Int32) → ((x1 = (9 : Int32) → (post (gI z0 1) z0)) ∧ (¬ x1 = (9 : Int32) → ((x1 = (10 : Int32) → (post (gI z0 41) z0)) ∧ (¬ x1 = (10 : Int32) → ((x1 = (11 : Int32) → (S_Table_hostPut_8 (fun (r4 : Int32) (z4 : St) => (post r4 z4)) z0)) ∧ (¬ x1 = (11 : Int32) → ((x1 = (12 : Int32) → (S_Table_visits_8 (fun (r5 : Int32) (z5 : St) => (S_Memory_bookLength (fun (r6 : Int32) (z6 : St) => (post r6 z6)) r5 z5)) z0)) ∧ (¬ x1 = (12 : Int32) → ((x1 = (13 : Int32) → (post (gI z0 25) z0)) ∧ (¬ x1 = (13 : Int32) → (post (-1000000 : Int32) z0)))))))))))))))))))))))))))))
set_option maxHeartbeats 4000000 in
set_option maxRecDepth 100000 in
theorem w_B_count_0 {p : Program} {l : Launch} {e : Env} {R : Room} {s : State} {m : MethodId} {args : Array Value} {below : List Frame} {meth : Method} {c : Code} {Q : State → Prop} {G : GX} {A : Nat → Prop} (S : CallFix p m c cX11_count 2 s args GW RX11) (hE : env G A s s.heap) (hA : ∀ q, s.heap.size ≤ q → A q) (hRf : 2 ≤ R.frames) (hRl : 41 ≤ R.locals) {post : Int32 → St → Prop} (hret : RetI p l e R s m args below meth c Q 0 0 wX G A cX11_count post) (x1 : Int32) (z0 : St) (hB : S_B_count post x1 z0) : Xw p l e R s m args below meth c Q 0 0 wX G A z0 2 [(0, .ref (ad G 0)), (1, .int x1)] 0 [] := by
  intro H locs ls hP hD hS hl
  have hx := S.1
  have hb := S.2.1
  refine lv_iload_n hx hb dX11_count_0 rfl (lv_at hl 1 rfl) ?_
  -- switch
  by_cases q0 : x1 = (0 : Int32)
  · have hB := hB.1 q0
    refine lv_tableIn (tgt := 72) (off := 71) hx hb dX11_count_1 (by rw [q0]; decide) (by rw [q0]; decide) (by rw [q0]; decide) (by decide) ?_
    refine lv_aload_n hx hb dX11_count_72 rfl (lv_at hl 0 rfl) ?_
    refine xXg_0_house S hE hP lk_X11_64 dX11_count_73 ?_
    refine xXg_6_guests S hE hP lk_X11_137 dX11_count_76 ?_
    exact hret _ _ _ _ _ _ dX11_count_79 hB hP hD hS
  have hB := hB.2 q0
  by_cases q1 : x1 = (1 : Int32)
  · have hB := hB.1 q1
    refine lv_tableIn (tgt := 80) (off := 79) hx hb dX11_count_1 (by rw [q1]; decide) (by rw [q1]; decide) (by rw [q1]; decide) (by decide) ?_
    refine lv_aload_n hx hb dX11_count_80 rfl (lv_at hl 0 rfl) ?_
    refine xXg_0_house S hE hP lk_X11_64 dX11_count_81 ?_
    refine xXg_6_drinks S hE hP lk_X11_325 dX11_count_84 ?_
    exact hret _ _ _ _ _ _ dX11_count_87 hB hP hD hS
  have hB := hB.2 q1
  by_cases q2 : x1 = (2 : Int32)
  · have hB := hB.1 q2
    refine lv_tableIn (tgt := 88) (off := 87) hx hb dX11_count_1 (by rw [q2]; decide) (by rw [q2]; decide) (by rw [q2]; decide) (by decide) ?_
    refine lv_aload_n hx hb dX11_count_88 rfl (lv_at hl 0 rfl) ?_
    refine xXg_0_laws S hE hP lk_X11_68 dX11_count_89 ?_
    refine xXg_7_told S hE hP lk_X11_193 dX11_count_92 ?_
    exact hret _ _ _ _ _ _ dX11_count_95 hB hP hD hS
  have hB := hB.2 q2
  by_cases q3 : x1 = (3 : Int32)
  · have hB := hB.1 q3
    refine lv_tableIn (tgt := 96) (off := 95) hx hb dX11_count_1 (by rw [q3]; decide) (by rw [q3]; decide) (by rw [q3]; decide) (by decide) ?_
    refine lv_aload_n hx hb dX11_count_96 rfl (lv_at hl 0 rfl) ?_
    refine xXg_0_wintersTold S hE hP lk_X11_140 dX11_count_97 ?_
    exact hret _ _ _ _ _ _ dX11_count_100 hB hP hD hS
  have hB := hB.2 q3
  by_cases q4 : x1 = (4 : Int32)
  · have hB := hB.1 q4
    refine lv_tableIn (tgt := 101) (off := 100) hx hb dX11_count_1 (by rw [q4]; decide) (by rw [q4]; decide) (by rw [q4]; decide) (by decide) ?_
    refine lv_aload_n hx hb dX11_count_101 rfl (lv_at hl 0 rfl) ?_
    refine xXg_0_tape S hE hP lk_X11_10 dX11_count_102 ?_
    refine xXg_1_length S hE hP lk_X11_101 dX11_count_105 ?_
    exact hret _ _ _ _ _ _ dX11_count_108 hB hP hD hS
  have hB := hB.2 q4
  by_cases q5 : x1 = (5 : Int32)
  · have hB := hB.1 q5
    refine lv_tableIn (tgt := 109) (off := 108) hx hb dX11_count_1 (by rw [q5]; decide) (by rw [q5]; decide) (by rw [q5]; decide) (by decide) ?_
    refine lv_aload_n hx hb dX11_count_109 rfl (lv_at hl 0 rfl) ?_
    refine xXg_0_laws S hE hP lk_X11_68 dX11_count_110 ?_
    refine xXg_7_holding S hE hP lk_X11_196 dX11_count_113 ?_
    exact hret _ _ _ _ _ _ dX11_count_116 hB hP hD hS
  have hB := hB.2 q5
  by_cases q6 : x1 = (6 : Int32)
  · have hB := hB.1 q6
    refine lv_tableIn (tgt := 117) (off := 116) hx hb dX11_count_1 (by rw [q6]; decide) (by rw [q6]; decide) (by rw [q6]; decide) (by decide) ?_
    refine lv_aload_n hx hb dX11_count_117 rfl (lv_at hl 0 rfl) ?_
    refine xXg_0_table S hE hP lk_X11_72 dX11_count_118 ?_
    refine xcVi [] S hE hA hP hD hS (c_Table_visits_8 l G z0 H.size _) hB (gw_c lk_X11_220 (gw_c wi_X8_visits (gw_c we_X8_X8_visits_X8_visits (gw_c wn_X8 (gw_c wc_X8_visits (fun _ h9 => h9)))))) hd_X8_visits rfl rfl (Nat.le_trans (Nat.le_of_ble_eq_true rfl) hRf) (Nat.le_trans (Nat.le_of_ble_eq_true rfl) hRl) ⟨Nat.zero_le _, Nat.zero_le _⟩ (va_recv hE.1 hP (ci := 7) (q0 := 8) rfl rfl) rfl hl.1 rfl (Nat.le_of_ble_eq_true rfl) dX11_count_121 (fun r1 z1 H locs hB hP hD hS => ?_)
    exact hret _ _ _ _ _ _ dX11_count_124 hB hP hD hS
  have hB := hB.2 q6
  by_cases q7 : x1 = (7 : Int32)
  · have hB := hB.1 q7
    refine lv_tableIn (tgt := 125) (off := 124) hx hb dX11_count_1 (by rw [q7]; decide) (by rw [q7]; decide) (by rw [q7]; decide) (by decide) ?_
    refine lv_aload_n hx hb dX11_count_125 rfl (lv_at hl 0 rfl) ?_
    refine xXg_0_table S hE hP lk_X11_72 dX11_count_126 ?_
    refine xcVi [] S hE hA hP hD hS (c_Table_monthNow_8 l G z0 H.size _) hB (gw_c lk_X11_203 (gw_c wi_X8_monthNow (gw_c we_X8_X8_monthNow_X8_monthNow (gw_c wn_X8 (gw_c wc_X8_monthNow (fun _ h9 => h9)))))) hd_X8_monthNow rfl rfl (Nat.le_trans (Nat.le_of_ble_eq_true rfl) hRf) (Nat.le_trans (Nat.le_of_ble_eq_true rfl) hRl) ⟨Nat.zero_le _, Nat.zero_le _⟩ (va_recv hE.1 hP (ci := 7) (q0 := 8) rfl rfl) rfl hl.1 rfl (Nat.le_of_ble_eq_true rfl) dX11_count_129 (fun r2 z2 H locs hB hP hD hS => ?_)
    exact hret _ _ _ _ _ _ dX11_count_132 hB hP hD hS
  have hB := hB.2 q7
  by_cases q8 : x1 = (8 : Int32)
  · have hB := hB.1 q8
    refine lv_tableIn (tgt := 133) (off := 132) hx hb dX11_count_1 (by rw [q8]; decide) (by rw [q8]; decide) (by rw [q8]; decide) (by decide) ?_
    refine lv_aload_n hx hb dX11_count_133 rfl (lv_at hl 0 rfl) ?_
    refine xXg_0_table S hE hP lk_X11_72 dX11_count_134 ?_
    refine xcVi [] S hE hA hP hD hS (c_Table_joyOfAll_8 l G z0 H.size _) hB (gw_c lk_X11_280 (gw_c wi_X8_joyOfAll (gw_c we_X8_X8_joyOfAll_X8_joyOfAll (gw_c wn_X8 (gw_c wc_X8_joyOfAll (fun _ h9 => h9)))))) hd_X8_joyOfAll rfl rfl (Nat.le_trans (Nat.le_of_ble_eq_true rfl) hRf) (Nat.le_trans (Nat.le_of_ble_eq_true rfl) hRl) ⟨Nat.zero_le _, Nat.zero_le _⟩ (va_recv hE.1 hP (ci := 7) (q0 := 8) rfl rfl) rfl hl.1 rfl (Nat.le_of_ble_eq_true rfl) dX11_count_137 (fun r3 z3 H locs hB hP hD hS => ?_)
    exact hret _ _ _ _ _ _ dX11_count_140 hB hP hD hS
  have hB := hB.2 q8
  by_cases q9 : x1 = (9 : Int32)
  · have hB := hB.1 q9
    refine lv_tableIn (tgt := 141) (off := 140) hx hb dX11_count_1 (by rw [q9]; decide) (by rw [q9]; decide) (by rw [q9]; decide) (by decide) ?_
    refine lv_aload_n hx hb dX11_count_141 rfl (lv_at hl 0 rfl) ?_
    refine xXg_0_snowiness S hE hP lk_X11_49 dX11_count_142 ?_
    exact hret _ _ _ _ _ _ dX11_count_145 hB hP hD hS
  have hB := hB.2 q9
  by_cases q10 : x1 = (10 : Int32)
  · have hB := hB.1 q10
    refine lv_tableIn (tgt := 146) (off := 145) hx hb dX11_count_1 (by rw [q10]; decide) (by rw [q10]; decide) (by rw [q10]; decide) (by decide) ?_
    refine lv_aload_n hx hb dX11_count_146 rfl (lv_at hl 0 rfl) ?_
    refine xXg_0_sightings S hE hP lk_X11_93 dX11_count_147 ?_
    refine xXg_11_length S hE hP lk_X11_136 dX11_count_150 ?_
    exact hret _ _ _ _ _ _ dX11_count_153 hB hP hD hS
  have hB := hB.2 q10
  by_cases q11 : x1 = (11 : Int32)
  · have hB := hB.1 q11
    refine lv_tableIn (tgt := 154) (off := 153) hx hb dX11_count_1 (by rw [q11]; decide) (by rw [q11]; decide) (by rw [q11]; decide) (by decide) ?_
    refine lv_aload_n hx hb dX11_count_154 rfl (lv_at hl 0 rfl) ?_
    refine xXg_0_table S hE hP lk_X11_72 dX11_count_155 ?_
    refine xcVi [] S hE hA hP hD hS (c_Table_hostPut_8 l G z0 H.size _) hB (gw_c lk_X11_372 (gw_c wi_X8_hostPut (gw_c we_X8_X8_hostPut_X8_hostPut (gw_c wn_X8 (gw_c wc_X8_hostPut (fun _ h9 => h9)))))) hd_X8_hostPut rfl rfl (Nat.le_trans (Nat.le_of_ble_eq_true rfl) hRf) (Nat.le_trans (Nat.le_of_ble_eq_true rfl) hRl) ⟨Nat.zero_le _, Nat.zero_le _⟩ (va_recv hE.1 hP (ci := 7) (q0 := 8) rfl rfl) rfl hl.1 rfl (Nat.le_of_ble_eq_true rfl) dX11_count_158 (fun r4 z4 H locs hB hP hD hS => ?_)
    exact hret _ _ _ _ _ _ dX11_count_161 hB hP hD hS
  have hB := hB.2 q11
  by_cases q12 : x1 = (12 : Int32)
  · have hB := hB.1 q12
    refine lv_tableIn (tgt := 162) (off := 161) hx hb dX11_count_1 (by rw [q12]; decide) (by rw [q12]; decide) (by rw [q12]; decide) (by decide) ?_
    refine lv_aload_n hx hb dX11_count_162 rfl (lv_at hl 0 rfl) ?_
    refine xXg_0_table S hE hP lk_X11_72 dX11_count_163 ?_
    refine xcVi [] S hE hA hP hD hS (c_Table_visits_8 l G z0 H.size _) hB (gw_c lk_X11_220 (gw_c wi_X8_visits (gw_c we_X8_X8_visits_X8_visits (gw_c wn_X8 (gw_c wc_X8_visits (fun _ h9 => h9)))))) hd_X8_visits rfl rfl (Nat.le_trans (Nat.le_of_ble_eq_true rfl) hRf) (Nat.le_trans (Nat.le_of_ble_eq_true rfl) hRl) ⟨Nat.zero_le _, Nat.zero_le _⟩ (va_recv hE.1 hP (ci := 7) (q0 := 8) rfl rfl) rfl hl.1 rfl (Nat.le_of_ble_eq_true rfl) dX11_count_166 (fun r5 z5 H locs hB hP hD hS => ?_)
    refine xcSi [.int r5] S hE hA hP hD hS (c_Memory_bookLength l G z5 H.size r5 _) hB (gw_c lk_X11_261 (gw_c wt_X4_bookLength (gw_c wn_X4 (gw_c wc_X4_bookLength (fun _ h9 => h9))))) hs_X4_bookLength rfl rfl (Nat.le_trans (Nat.le_of_ble_eq_true rfl) hRf) (Nat.le_trans (Nat.le_of_ble_eq_true rfl) hRl) ⟨Nat.zero_le _, Nat.zero_le _⟩ rfl hl.1 rfl (Nat.le_of_ble_eq_true rfl) dX11_count_169 (fun r6 z6 H locs hB hP hD hS => ?_)
    exact hret _ _ _ _ _ _ dX11_count_172 hB hP hD hS
  have hB := hB.2 q12
  by_cases q13 : x1 = (13 : Int32)
  · have hB := hB.1 q13
    refine lv_tableIn (tgt := 173) (off := 172) hx hb dX11_count_1 (by rw [q13]; decide) (by rw [q13]; decide) (by rw [q13]; decide) (by decide) ?_
    refine lv_aload_n hx hb dX11_count_173 rfl (lv_at hl 0 rfl) ?_
    refine xXg_0_memory S hE hP lk_X11_45 dX11_count_174 ?_
    refine xXg_5_kept S hE hP lk_X11_238 dX11_count_177 ?_
    exact hret _ _ _ _ _ _ dX11_count_180 hB hP hD hS
  have hB := hB.2 q13
  have t0 := lv_neT q0 (show ((0 : Int32)).toInt = 0 by decide)
  have t1 := lv_neT q1 (show ((1 : Int32)).toInt = 1 by decide)
  have t2 := lv_neT q2 (show ((2 : Int32)).toInt = 2 by decide)
  have t3 := lv_neT q3 (show ((3 : Int32)).toInt = 3 by decide)
  have t4 := lv_neT q4 (show ((4 : Int32)).toInt = 4 by decide)
  have t5 := lv_neT q5 (show ((5 : Int32)).toInt = 5 by decide)
  have t6 := lv_neT q6 (show ((6 : Int32)).toInt = 6 by decide)
  have t7 := lv_neT q7 (show ((7 : Int32)).toInt = 7 by decide)
  have t8 := lv_neT q8 (show ((8 : Int32)).toInt = 8 by decide)
  have t9 := lv_neT q9 (show ((9 : Int32)).toInt = 9 by decide)
  have t10 := lv_neT q10 (show ((10 : Int32)).toInt = 10 by decide)
  have t11 := lv_neT q11 (show ((11 : Int32)).toInt = 11 by decide)
  have t12 := lv_neT q12 (show ((12 : Int32)).toInt = 12 by decide)
  have t13 := lv_neT q13 (show ((13 : Int32)).toInt = 13 by decide)
  refine lv_tableOut (tgt := 181) hx hb dX11_count_1 (by omega) (by decide) ?_
  refine lv_ldcw hx hb S.2.2.2.1 (S.2.2.2.2 _ lk_X11_264) dX11_count_181 ?_
  exact hret _ _ _ _ _ _ dX11_count_184 hB hP hD hS
set_option maxHeartbeats 4000000 in
set_option maxRecDepth 100000 in
theorem c_B_count (l : Launch) (G : GX) (z0 : St) (sz : Nat) (x1 : Int32) (post : Int32 → St → Prop) : MetI l wX yX11_count cX11_count 2 (some .int) ({ frames := 2, cells := 0, slots := 0, locals := 41 }) [.ref (ad G 0), .int x1] G z0 sz (S_B_count post x1 z0) post := by
  refine Met.ofW (cc := cX11_count) (maxL := 2) (ret := (some .int)) (by decide) rfl ?_
  intro p e s m args below meth c s₁ B hml hv
  obtain ⟨rfl, hsz, hP, hD0, hE, hB⟩ := hv
  have S : CallFix p m c cX11_count 2 s _ GW RX11 := ⟨B.exec, B.bytes, hml, findClass_of_methodNamed B.named, fun w h => atoms_spec (ws := Cond.code yX11_count cX11_count 2 (some .int) :: GW) B.pre w (List.mem_cons_of_mem _ h)⟩
  have hlocks := B.notSynchronized
  subst hsz
  have hD := hD0.self (sz := s.heap.size)
  generalize hAe : va_A (wX G z0) s.heap.size = A at hD hE ⊢
  have hA : ∀ q : Nat, s.heap.size ≤ q → A q := fun q h => by rw [← hAe]; exact Or.inr h
  have hS : va_S A s.heap s.heap [] := va_S.rf
  have hl := lv_entry ([.ref (ad G 0), .int x1]) (n := 2) (Nat.le_of_ble_eq_true rfl)
  rw [lg_entry_eq]
  generalize (lg_sl ([.ref (ad G 0), .int x1]) ++ List.replicate (2 - (lg_sl ([.ref (ad G 0), .int x1])).length) Slot.unset).toArray = ls at hl ⊢
  have hl : lv_has ls 2 [(0, .ref (ad G 0)), (1, .int x1)] := hl
  refine w_B_count_0 S hE hA (Nat.le_refl _) (Nat.le_refl _) ?_ x1 z0 hB _ _ _ hP hD hS hl
  intro pc ls r σ H locs hd hp hP hD hS
  exact W.iret (v := r) B.exec B.bytes B.returns (fun t ht hW => ⟨⟨r, σ, rfl, hp, by rw [ht]; exact hP, hD⟩, hS.F ht⟩) hS.2.2 hd
def S_B_readerOf_v0 (post : St → Prop) (x1 : Int32) (z0 : St) : Prop :=
  (x1 = 0 ∧ (post z0))
set_option maxHeartbeats 4000000 in
set_option maxRecDepth 100000 in
theorem w_B_readerOf_v0_0 {p : Program} {l : Launch} {e : Env} {R : Room} {s : State} {m : MethodId} {args : Array Value} {below : List Frame} {meth : Method} {c : Code} {Q : State → Prop} {G : GX} {A : Nat → Prop} (S : CallFix p m c cX11_readerOf 2 s args GW RX11) (hE : env G A s s.heap) (hA : ∀ q, s.heap.size ≤ q → A q) (hRf : 0 ≤ R.frames) (hRl : 0 ≤ R.locals) {post : St → Prop} (hret : RetQ p l e R s m args below meth c Q 0 0 wX G A cX11_readerOf (.ref (ad G 2)) post) (x1 : Int32) (z0 : St) (hB : S_B_readerOf_v0 post x1 z0) : Xw p l e R s m args below meth c Q 0 0 wX G A z0 2 [(0, .ref (ad G 0)), (1, .int x1)] 0 [] := by
  intro H locs ls hP hD hS hl
  have hx := S.1
  have hb := S.2.1
  refine lv_iload_n hx hb dX11_readerOf_0 rfl (lv_at hl 1 rfl) ?_
  obtain ⟨hc9, hB⟩ := hB
  refine lv_if_ne (tgt := 9) hx hb dX11_readerOf_1 (by decide) (fun h9 => absurd hc9 h9) (fun _ => ?_)
  refine lv_aload_n hx hb dX11_readerOf_4 rfl (lv_at hl 0 rfl) ?_
  refine xXg_0_houseReader S hE hP lk_X11_19 dX11_readerOf_5 ?_
  exact hret _ _ _ _ _ dX11_readerOf_8 hB hP hD hS
set_option maxHeartbeats 4000000 in
set_option maxRecDepth 100000 in
theorem c_B_readerOf_v0 (l : Launch) (G : GX) (z0 : St) (sz : Nat) (x1 : Int32) (post : St → Prop) : MetQ l wX yX11_readerOf cX11_readerOf 2 (some (.object "BottleBefore$Reader")) ({ frames := 0, cells := 0, slots := 0, locals := 0 }) [.ref (ad G 0), .int x1] G z0 sz (S_B_readerOf_v0 post x1 z0) (some (ad G 2)) post := by
  refine Met.ofW (cc := cX11_readerOf) (maxL := 2) (ret := (some (.object "BottleBefore$Reader"))) (by decide) rfl ?_
  intro p e s m args below meth c s₁ B hml hv
  obtain ⟨rfl, hsz, hP, hD0, hE, hB⟩ := hv
  have S : CallFix p m c cX11_readerOf 2 s _ GW RX11 := ⟨B.exec, B.bytes, hml, findClass_of_methodNamed B.named, fun w h => atoms_spec (ws := Cond.code yX11_readerOf cX11_readerOf 2 (some (.object "BottleBefore$Reader")) :: GW) B.pre w (List.mem_cons_of_mem _ h)⟩
  have hlocks := B.notSynchronized
  subst hsz
  have hD := hD0.self (sz := s.heap.size)
  generalize hAe : va_A (wX G z0) s.heap.size = A at hD hE ⊢
  have hA : ∀ q : Nat, s.heap.size ≤ q → A q := fun q h => by rw [← hAe]; exact Or.inr h
  have hS : va_S A s.heap s.heap [] := va_S.rf
  have hl := lv_entry ([.ref (ad G 0), .int x1]) (n := 2) (Nat.le_of_ble_eq_true rfl)
  rw [lg_entry_eq]
  generalize (lg_sl ([.ref (ad G 0), .int x1]) ++ List.replicate (2 - (lg_sl ([.ref (ad G 0), .int x1])).length) Slot.unset).toArray = ls at hl ⊢
  have hl : lv_has ls 2 [(0, .ref (ad G 0)), (1, .int x1)] := hl
  refine w_B_readerOf_v0_0 S hE hA (Nat.le_refl _) (Nat.le_refl _) ?_ x1 z0 hB _ _ _ hP hD hS hl
  intro pc ls σ H locs hd hp hP hD hS
  exact W.aret B.exec B.bytes B.returns (Or.inl ⟨_, rfl⟩) (Or.inr ⟨_, rfl⟩) (fun t ht hW => ⟨⟨some _, σ, rfl, ⟨rfl, hp⟩, by rw [ht]; exact hP, hD⟩, hS.F ht⟩) hS.2.2 hd
def S_String_coder_7d493_X (post : Int32 → St → Prop) (x0 : Nat) (z0 : St) : Prop :=
  (((1 : Int32) = 0 → (narrow .byte (.int (1 : Int32)) = .int (1 : Int32) ∧ post (1 : Int32) z0)) ∧ (¬ (1 : Int32) = 0 → (x0 < 8 ∧ (narrow .byte (.int (0 : Int32)) = .int (0 : Int32) ∧ post (0 : Int32) z0))))
set_option maxHeartbeats 4000000 in
set_option maxRecDepth 100000 in
theorem w_String_coder_7d493_X_0 {p : Program} {l : Launch} {e : Env} {R : Room} {s : State} {m : MethodId} {args : Array Value} {below : List Frame} {meth : Method} {c : Code} {Q : State → Prop} {G : GX} {A : Nat → Prop} (S : CallFix p m c cJ0_coder_7d493 1 s args GW RJ0) (hE : env G A s s.heap) (hA : ∀ q, s.heap.size ≤ q → A q) (hRf : 0 ≤ R.frames) (hRl : 0 ≤ R.locals) {post : Int32 → St → Prop} (hret : RetB p l e R s m args below meth c Q 0 0 wX G A cJ0_coder_7d493 post) (x0 : Nat) (z0 : St) (hB : S_String_coder_7d493_X post x0 z0) : Xw p l e R s m args below meth c Q 0 0 wX G A z0 1 [(0, .ref (tx G x0))] 0 [] := by
  intro H locs ls hP hD hS hl
  have hx := S.1
  have hb := S.2.1
  refine va_gets hx hb (ez_J0_COMPACT_STRINGS hE.2) hS S.2.2.2.1 (S.2.2.2.2 _ lk_J0_38) (fun _ h9 => h9) dJ0_coder_7d493_0 ?_
  refine lv_if_eq (tgt := 13) hx hb dJ0_coder_7d493_3 (by decide) (fun c1 => ?_) (fun c1 => ?_)
  · have hB := hB.1 c1
    refine lv_iconst (v := 1) hx hb dJ0_coder_7d493_13 (by decide) ?_
    exact hret _ _ _ _ _ _ dJ0_coder_7d493_14 hB hP hD hS
  · have hB := hB.2 c1
    refine lv_aload_n hx hb dJ0_coder_7d493_6 rfl (lv_at hl 0 rfl) ?_
    obtain ⟨hk9, hB⟩ := hB
    refine vk_getf hx hb ((eS hE.2).1 _ hk9).2.1 hS S.2.2.2.1 (S.2.2.2.2 _ lk_J0_15) (fun _ h9 => h9) dJ0_coder_7d493_7 ?_
    refine lv_goto (tgt := 14) hx hb dJ0_coder_7d493_10 (by decide) ?_
    exact hret _ _ _ _ _ _ dJ0_coder_7d493_14 hB hP hD hS
set_option maxHeartbeats 4000000 in
set_option maxRecDepth 100000 in
theorem c_String_coder_7d493_X (l : Launch) (G : GX) (z0 : St) (sz : Nat) (x0 : Nat) (post : Int32 → St → Prop) : MetI l wX yJ0_coder_7d493 cJ0_coder_7d493 1 (some .byte) ({ frames := 0, cells := 0, slots := 0, locals := 0 }) [.ref (tx G x0)] G z0 sz (S_String_coder_7d493_X post x0 z0) post := by
  refine Met.ofW (cc := cJ0_coder_7d493) (maxL := 1) (ret := (some .byte)) (by decide) rfl ?_
  intro p e s m args below meth c s₁ B hml hv
  obtain ⟨rfl, hsz, hP, hD0, hE, hB⟩ := hv
  have S : CallFix p m c cJ0_coder_7d493 1 s _ GW RJ0 := ⟨B.exec, B.bytes, hml, findClass_of_methodNamed B.named, fun w h => atoms_spec (ws := Cond.code yJ0_coder_7d493 cJ0_coder_7d493 1 (some .byte) :: GW) B.pre w (List.mem_cons_of_mem _ h)⟩
  have hlocks := B.notSynchronized
  subst hsz
  have hD := hD0.self (sz := s.heap.size)
  generalize hAe : va_A (wX G z0) s.heap.size = A at hD hE ⊢
  have hA : ∀ q : Nat, s.heap.size ≤ q → A q := fun q h => by rw [← hAe]; exact Or.inr h
  have hS : va_S A s.heap s.heap [] := va_S.rf
  have hl := lv_entry ([.ref (tx G x0)]) (n := 1) (Nat.le_of_ble_eq_true rfl)
  rw [lg_entry_eq]
  generalize (lg_sl ([.ref (tx G x0)]) ++ List.replicate (1 - (lg_sl ([.ref (tx G x0)])).length) Slot.unset).toArray = ls at hl ⊢
  have hl : lv_has ls 1 [(0, .ref (tx G x0))] := hl
  refine w_String_coder_7d493_X_0 S hE hA (Nat.le_refl _) (Nat.le_refl _) ?_ x0 z0 hB _ _ _ hP hD hS hl
  intro pc ls r σ H locs hd hp hP hD hS
  exact W.zret (v := r) B.exec B.bytes B.returns hp.1 (fun t ht hW => ⟨⟨r, σ, rfl, hp.2, by rw [ht]; exact hP, hD⟩, hS.F ht⟩) hS.2.2 hd
