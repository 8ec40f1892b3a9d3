def S_M_lays (post : St → Prop) (x1 : Int32) (x2 : Int32) (x3 : Int32) (x4 : Int32) (x5 : Int32) (z0 : St) : Prop :=
  (S_M_copy_r113_r114 (fun (z1 : St) => (∀ z2 : St, z2 = sI z1 121 x2 → (∀ z3 : St, z3 = sI z2 122 x3 → (∀ z4 : St, z4 = sI z3 123 (-1 : Int32) → (∀ z5 : St, z5 = sI z4 124 (-1 : Int32) → (∀ z6 : St, z6 = sI z5 125 (0 : Int32) → (∀ z7 : St, z7 = sI z6 126 x4 → ((x5 = 0 ∨ x5 = 1) ∧ (∀ z8 : St, z8 = sI z7 127 x5 → (D_M_goRows 8 (fun (z9 : St) => (post z9)) x1 (0 : Int32) (0 : Int32) (0 : Int32) z8)))))))))) z0)
set_option maxHeartbeats 4000000 in
set_option maxRecDepth 100000 in
theorem w_M_lays_0 {p : Program} {l : Launch} {e : Env} {R : Room} {s : State} {m : MethodId} {args : Array Value} {below : List Frame} {meth : Method} {c : Code} {Q : State → Prop} {G : GX} {A : Nat → Prop} (S : CallFix p m c cX12_lays 6 s args GW RX12) (hE : env G A s s.heap) (hA : ∀ q, s.heap.size ≤ q → A q) (hRf : 72 ≤ R.frames) (hRl : 2120 ≤ R.locals) {post : St → Prop} (hret : RetV p l e R s m args below meth c Q 0 0 wM G A cX12_lays post) (x1 : Int32) (x2 : Int32) (x3 : Int32) (x4 : Int32) (x5 : Int32) (z0 : St) (hB : S_M_lays post x1 x2 x3 x4 x5 z0) : Xw p l e R s m args below meth c Q 0 0 wM G A z0 6 [(0, .ref (ad G 100)), (1, .int x1), (2, .int x2), (3, .int x3), (4, .int x4), (5, .int x5)] 0 [] := by
  intro H locs ls hP hD hS hl
  have hx := S.1
  have hb := S.2.1
  refine lv_aload_n hx hb dX12_lays_0 rfl (lv_at hl 0 rfl) ?_
  refine xMg_100_now S hE hP lk_X12_61 dX12_lays_1 ?_
  refine lv_aload_n hx hb dX12_lays_4 rfl (lv_at hl 0 rfl) ?_
  refine xMg_100_trial S hE hP lk_X12_64 dX12_lays_5 ?_
  refine xcSv [.ref (ad G 113), .ref (ad G 114)] S hE hA hP hD hS (c_M_copy_r113_r114 l G z0 H.size _) hB (gw_c lk_X12_379 (gw_c wt_X12_copy (gw_c wn_X12 (gw_c wc_X12_copy (fun _ h9 => h9))))) hs_X12_copy rfl rfl (Nat.le_trans (Nat.le_of_ble_eq_true rfl) hRf) (Nat.le_trans (Nat.le_of_ble_eq_true rfl) hRl) ⟨Nat.zero_le _, Nat.zero_le _⟩ rfl hl.1 rfl (Nat.le_of_ble_eq_true rfl) dX12_lays_8 (fun z1 H locs hB hP hD hS => ?_)
  refine lv_aload_n hx hb dX12_lays_11 rfl (lv_at hl 0 rfl) ?_
  refine lv_iload_n hx hb dX12_lays_12 rfl (lv_at hl 2 rfl) ?_
  obtain ⟨z2, ez2⟩ : ∃ z9, z9 = sI z1 121 x2 := ⟨_, rfl⟩
  have hB := hB z2 ez2
  refine xMp_100_aim S hE hP hD hS lk_X12_386 dX12_lays_13 (fun H locs hP hD hS => ?_)
  rw [← ez2] at hP hD
  refine lv_aload_n hx hb dX12_lays_16 rfl (lv_at hl 0 rfl) ?_
  refine lv_iload_n hx hb dX12_lays_17 rfl (lv_at hl 3 rfl) ?_
  obtain ⟨z3, ez3⟩ : ∃ z9, z9 = sI z2 122 x3 := ⟨_, rfl⟩
  have hB := hB z3 ez3
  refine xMp_100_aimDrink S hE hP hD hS lk_X12_395 dX12_lays_18 (fun H locs hP hD hS => ?_)
  rw [← ez3] at hP hD
  refine lv_aload_n hx hb dX12_lays_21 rfl (lv_at hl 0 rfl) ?_
  refine lv_iconst (v := -1) hx hb dX12_lays_22 (by decide) ?_
  obtain ⟨z4, ez4⟩ : ∃ z9, z9 = sI z3 123 (-1 : Int32) := ⟨_, rfl⟩
  have hB := hB z4 ez4
  refine xMp_100_bestJoy S hE hP hD hS lk_X12_389 dX12_lays_23 (fun H locs hP hD hS => ?_)
  rw [← ez4] at hP hD
  refine lv_aload_n hx hb dX12_lays_26 rfl (lv_at hl 0 rfl) ?_
  refine lv_iconst (v := -1) hx hb dX12_lays_27 (by decide) ?_
  obtain ⟨z5, ez5⟩ : ∃ z9, z9 = sI z4 124 (-1 : Int32) := ⟨_, rfl⟩
  have hB := hB z5 ez5
  refine xMp_100_bestRow S hE hP hD hS lk_X12_392 dX12_lays_28 (fun H locs hP hD hS => ?_)
  rw [← ez5] at hP hD
  refine lv_aload_n hx hb dX12_lays_31 rfl (lv_at hl 0 rfl) ?_
  refine lv_iconst (v := 0) hx hb dX12_lays_32 (by decide) ?_
  obtain ⟨z6, ez6⟩ : ∃ z9, z9 = sI z5 125 (0 : Int32) := ⟨_, rfl⟩
  have hB := hB z6 ez6
  refine xMp_100_counted S hE hP hD hS lk_X12_398 dX12_lays_33 (fun H locs hP hD hS => ?_)
  rw [← ez6] at hP hD
  refine lv_aload_n hx hb dX12_lays_36 rfl (lv_at hl 0 rfl) ?_
  refine lv_iload hx hb dX12_lays_37 (lv_at hl 4 rfl) ?_
  obtain ⟨z7, ez7⟩ : ∃ z9, z9 = sI z6 126 x4 := ⟨_, rfl⟩
  have hB := hB z7 ez7
  refine xMp_100_wanted S hE hP hD hS lk_X12_401 dX12_lays_39 (fun H locs hP hD hS => ?_)
  rw [← ez7] at hP hD
  refine lv_aload_n hx hb dX12_lays_42 rfl (lv_at hl 0 rfl) ?_
  refine lv_iload hx hb dX12_lays_43 (lv_at hl 5 rfl) ?_
  obtain ⟨hv9, hB⟩ := hB
  obtain ⟨z8, ez8⟩ : ∃ z9, z9 = sI z7 127 x5 := ⟨_, rfl⟩
  have hB := hB z8 ez8
  refine xMp_100_again S hE hP hD hS lk_X12_408 hv9 dX12_lays_45 (fun H locs hP hD hS => ?_)
  rw [← ez8] at hP hD
  refine lv_aload_n hx hb dX12_lays_48 rfl (lv_at hl 0 rfl) ?_
  refine lv_iload_n hx hb dX12_lays_49 rfl (lv_at hl 1 rfl) ?_
  refine lv_iconst (v := 0) hx hb dX12_lays_50 (by decide) ?_
  refine lv_iconst (v := 0) hx hb dX12_lays_51 (by decide) ?_
  refine lv_iconst (v := 0) hx hb dX12_lays_52 (by decide) ?_
  refine xcVv [.int x1, .int (0 : Int32), .int (0 : Int32), .int (0 : Int32)] S hE hA hP hD hS (cd_M_goRows l 8 G z8 H.size x1 (0 : Int32) (0 : Int32) (0 : Int32) _) hB (gw_c lk_X12_411 (gw_c wi_X12_goRows (gw_c we_X12_X12_goRows_X12_goRows (gw_c wn_X12 (gw_c wc_X12_goRows (fun _ h9 => h9)))))) hd_X12_goRows rfl rfl (Nat.le_trans (Nat.le_of_ble_eq_true rfl) hRf) (Nat.le_trans (Nat.le_of_ble_eq_true rfl) hRl) ⟨Nat.zero_le _, Nat.zero_le _⟩ (va_recv hE.1 hP (ci := 11) (q0 := 0) rfl rfl) rfl hl.1 rfl (Nat.le_of_ble_eq_true rfl) dX12_lays_53 (fun z9 H locs hB hP hD hS => ?_)
  exact hret _ _ _ _ _ dX12_lays_56 hB hP hD hS
set_option maxHeartbeats 4000000 in
set_option maxRecDepth 100000 in
theorem c_M_lays (l : Launch) (G : GX) (z0 : St) (sz : Nat) (x1 : Int32) (x2 : Int32) (x3 : Int32) (x4 : Int32) (x5 : Int32) (post : St → Prop) : MetV l wM yX12_lays cX12_lays 6 none ({ frames := 72, cells := 0, slots := 0, locals := 2120 }) [.ref (ad G 100), .int x1, .int x2, .int x3, .int x4, .int x5] G z0 sz (S_M_lays post x1 x2 x3 x4 x5 z0) post := by
  refine Met.ofW (cc := cX12_lays) (maxL := 6) (ret := none) (by decide) rfl ?_
  intro p e s m args below meth c s₁ B hml hv
  obtain ⟨rfl, hsz, hP, hD0, hE, hB⟩ := hv
  have S : CallFix p m c cX12_lays 6 s _ GW RX12 := ⟨B.exec, B.bytes, hml, findClass_of_methodNamed B.named, fun w h => atoms_spec (ws := Cond.code yX12_lays cX12_lays 6 none :: GW) B.pre w (List.mem_cons_of_mem _ h)⟩
  have hlocks := B.notSynchronized
  subst hsz
  have hD := hD0.self (sz := s.heap.size)
  generalize hAe : va_A (wM G z0) s.heap.size = A at hD hE ⊢
  have hA : ∀ q : Nat, s.heap.size ≤ q → A q := fun q h => by rw [← hAe]; exact Or.inr h
  have hS : va_S A s.heap s.heap [] := va_S.rf
  have hl := lv_entry ([.ref (ad G 100), .int x1, .int x2, .int x3, .int x4, .int x5]) (n := 6) (Nat.le_of_ble_eq_true rfl)
  rw [lg_entry_eq]
  generalize (lg_sl ([.ref (ad G 100), .int x1, .int x2, .int x3, .int x4, .int x5]) ++ List.replicate (6 - (lg_sl ([.ref (ad G 100), .int x1, .int x2, .int x3, .int x4, .int x5])).length) Slot.unset).toArray = ls at hl ⊢
  have hl : lv_has ls 6 [(0, .ref (ad G 100)), (1, .int x1), (2, .int x2), (3, .int x3), (4, .int x4), (5, .int x5)] := hl
  refine w_M_lays_0 S hE hA (Nat.le_refl _) (Nat.le_refl _) ?_ x1 x2 x3 x4 x5 z0 hB _ _ _ hP hD hS hl
  intro pc ls σ H locs hd hp hP hD hS
  exact W.vret B.exec B.bytes B.returns (fun t ht hW => ⟨⟨σ, rfl, hp, by rw [ht]; exact hP, hD⟩, hS.F ht⟩) hS.2.2 hd
def S_M_best (post : Int32 → St → Prop) (x1 : Int32) (z0 : St) : Prop :=
  (∀ z1 : St, z1 = sI z0 100 (0 : Int32) → (((gI z1 112) = 0 → (post (-1 : Int32) z1)) ∧ (¬ (gI z1 112) = 0 → (S_M_isIn (fun (r2 : Int32) (z2 : St) => ((r2 = 0 → (post (-1 : Int32) z2)) ∧ (¬ r2 = 0 → (S_M_lays (fun (z3 : St) => ((x1 = 0 → (post (gI z3 124) z3)) ∧ (¬ x1 = 0 → (post (gI z3 123) z3)))) (gI z2 112) (0 : Int32) (0 : Int32) (0 : Int32) (0 : Int32) z2)))) ((x1).toInt64) (0 : Int64) (1 : Int64) z1))))
set_option maxHeartbeats 4000000 in
set_option maxRecDepth 100000 in
theorem w_M_best_0 {p : Program} {l : Launch} {e : Env} {R : Room} {s : State} {m : MethodId} {args : Array Value} {below : List Frame} {meth : Method} {c : Code} {Q : State → Prop} {G : GX} {A : Nat → Prop} (S : CallFix p m c cX12_best 2 s args GW RX12) (hE : env G A s s.heap) (hA : ∀ q, s.heap.size ≤ q → A q) (hRf : 73 ≤ R.frames) (hRl : 2145 ≤ R.locals) {post : Int32 → St → Prop} (hret : RetI p l e R s m args below meth c Q 0 0 wM G A cX12_best post) (x1 : Int32) (z0 : St) (hB : S_M_best post x1 z0) : Xw p l e R s m args below meth c Q 0 0 wM G A z0 2 [(0, .ref (ad G 100)), (1, .int x1)] 0 [] := by
  intro H locs ls hP hD hS hl
  have hx := S.1
  have hb := S.2.1
  refine lv_aload_n hx hb dX12_best_0 rfl (lv_at hl 0 rfl) ?_
  refine lv_iconst (v := 0) hx hb dX12_best_1 (by decide) ?_
  obtain ⟨z1, ez1⟩ : ∃ z9, z9 = sI z0 100 (0 : Int32) := ⟨_, rfl⟩
  have hB := hB z1 ez1
  refine xMp_100_thrown S hE hP hD hS lk_X12_89 dX12_best_2 (fun H locs hP hD hS => ?_)
  rw [← ez1] at hP hD
  refine lv_aload_n hx hb dX12_best_5 rfl (lv_at hl 0 rfl) ?_
  refine xMg_100_guests S hE hP lk_X12_284 dX12_best_6 ?_
  refine lv_if_eq (tgt := 22) hx hb dX12_best_9 (by decide) (fun c1 => ?_) (fun c1 => ?_)
  · have hB := hB.1 c1
    refine lv_iconst (v := -1) hx hb dX12_best_22 (by decide) ?_
    exact hret _ _ _ _ _ _ dX12_best_23 hB hP hD hS
  · have hB := hB.2 c1
    refine lv_iload_n hx hb dX12_best_12 rfl (lv_at hl 1 rfl) ?_
    refine lv_i2l hx hb dX12_best_13 rfl ?_
    refine lv_lconst (v := 0) hx hb dX12_best_14 (by decide) ?_
    refine lv_lconst (v := 1) hx hb dX12_best_15 (by decide) ?_
    refine xcSi [.long ((x1).toInt64), .long (0 : Int64), .long (1 : Int64)] S hE hA hP hD hS (c_M_isIn l G z1 H.size ((x1).toInt64) (0 : Int64) (1 : Int64) _) hB (gw_c lk_X12_260 (gw_c wt_X12_isIn (gw_c wn_X12 (gw_c wc_X12_isIn (fun _ h9 => h9))))) hs_X12_isIn rfl rfl (Nat.le_trans (Nat.le_of_ble_eq_true rfl) hRf) (Nat.le_trans (Nat.le_of_ble_eq_true rfl) hRl) ⟨Nat.zero_le _, Nat.zero_le _⟩ rfl hl.1 rfl (Nat.le_of_ble_eq_true rfl) dX12_best_16 (fun r2 z2 H locs hB hP hD hS => ?_)
    refine lv_if_ne (tgt := 24) hx hb dX12_best_19 (by decide) (fun c3 => ?_) (fun c3 => ?_)
    · have hB := hB.2 c3
      refine lv_aload_n hx hb dX12_best_24 rfl (lv_at hl 0 rfl) ?_
      refine lv_aload_n hx hb dX12_best_25 rfl (lv_at hl 0 rfl) ?_
      refine xMg_100_guests S hE hP lk_X12_284 dX12_best_26 ?_
      refine lv_iconst (v := 0) hx hb dX12_best_29 (by decide) ?_
      refine lv_iconst (v := 0) hx hb dX12_best_30 (by decide) ?_
      refine lv_iconst (v := 0) hx hb dX12_best_31 (by decide) ?_
      refine lv_iconst (v := 0) hx hb dX12_best_32 (by decide) ?_
      refine xcVv [.int (gI z2 112), .int (0 : Int32), .int (0 : Int32), .int (0 : Int32), .int (0 : Int32)] S hE hA hP hD hS (c_M_lays l G z2 H.size (gI z2 112) (0 : Int32) (0 : Int32) (0 : Int32) (0 : Int32) _) hB (gw_c lk_X12_415 (gw_c wi_X12_lays (gw_c we_X12_X12_lays_X12_lays (gw_c wn_X12 (gw_c wc_X12_lays (fun _ h9 => h9)))))) hd_X12_lays rfl rfl (Nat.le_trans (Nat.le_of_ble_eq_true rfl) hRf) (Nat.le_trans (Nat.le_of_ble_eq_true rfl) hRl) ⟨Nat.zero_le _, Nat.zero_le _⟩ (va_recv hE.1 hP (ci := 11) (q0 := 0) rfl rfl) rfl hl.1 rfl (Nat.le_of_ble_eq_true rfl) dX12_best_33 (fun z3 H locs hB hP hD hS => ?_)
      refine lv_iload_n hx hb dX12_best_36 rfl (lv_at hl 1 rfl) ?_
      refine lv_if_ne (tgt := 47) hx hb dX12_best_37 (by decide) (fun c4 => ?_) (fun c4 => ?_)
      · have hB := hB.2 c4
        refine lv_aload_n hx hb dX12_best_47 rfl (lv_at hl 0 rfl) ?_
        refine xMg_100_bestJoy S hE hP lk_X12_389 dX12_best_48 ?_
        exact hret _ _ _ _ _ _ dX12_best_51 hB hP hD hS
      · have hB := hB.1 c4
        refine lv_aload_n hx hb dX12_best_40 rfl (lv_at hl 0 rfl) ?_
        refine xMg_100_bestRow S hE hP lk_X12_392 dX12_best_41 ?_
        refine lv_goto (tgt := 51) hx hb dX12_best_44 (by decide) ?_
        exact hret _ _ _ _ _ _ dX12_best_51 hB hP hD hS
    · have hB := hB.1 c3
      refine lv_iconst (v := -1) hx hb dX12_best_22 (by decide) ?_
      exact hret _ _ _ _ _ _ dX12_best_23 hB hP hD hS
set_option maxHeartbeats 4000000 in
set_option maxRecDepth 100000 in
theorem c_M_best (l : Launch) (G : GX) (z0 : St) (sz : Nat) (x1 : Int32) (post : Int32 → St → Prop) : MetI l wM yX12_best cX12_best 2 (some .int) ({ frames := 73, cells := 0, slots := 0, locals := 2145 }) [.ref (ad G 100), .int x1] G z0 sz (S_M_best post x1 z0) post := by
  refine Met.ofW (cc := cX12_best) (maxL := 2) (ret := (some .int)) (by decide) rfl ?_
  intro p e s m args below meth c s₁ B hml hv
  obtain ⟨rfl, hsz, hP, hD0, hE, hB⟩ := hv
  have S : CallFix p m c cX12_best 2 s _ GW RX12 := ⟨B.exec, B.bytes, hml, findClass_of_methodNamed B.named, fun w h => atoms_spec (ws := Cond.code yX12_best cX12_best 2 (some .int) :: GW) B.pre w (List.mem_cons_of_mem _ h)⟩
  have hlocks := B.notSynchronized
  subst hsz
  have hD := hD0.self (sz := s.heap.size)
  generalize hAe : va_A (wM G z0) s.heap.size = A at hD hE ⊢
  have hA : ∀ q : Nat, s.heap.size ≤ q → A q := fun q h => by rw [← hAe]; exact Or.inr h
  have hS : va_S A s.heap s.heap [] := va_S.rf
  have hl := lv_entry ([.ref (ad G 100), .int x1]) (n := 2) (Nat.le_of_ble_eq_true rfl)
  rw [lg_entry_eq]
  generalize (lg_sl ([.ref (ad G 100), .int x1]) ++ List.replicate (2 - (lg_sl ([.ref (ad G 100), .int x1])).length) Slot.unset).toArray = ls at hl ⊢
  have hl : lv_has ls 2 [(0, .ref (ad G 100)), (1, .int x1)] := hl
  refine w_M_best_0 S hE hA (Nat.le_refl _) (Nat.le_refl _) ?_ x1 z0 hB _ _ _ hP hD hS hl
  intro pc ls r σ H locs hd hp hP hD hS
  exact W.iret (v := r) B.exec B.bytes B.returns (fun t ht hW => ⟨⟨r, σ, rfl, hp, by rw [ht]; exact hP, hD⟩, hS.F ht⟩) hS.2.2 hd
def S_M_comes (post : Int32 → St → Prop) (x1 : Int32) (x2 : Int32) (z0 : St) : Prop :=
  (∀ z1 : St, z1 = sI z0 100 (0 : Int32) → (((gI z1 112) = 0 → (post (-1 : Int32) z1)) ∧ (¬ (gI z1 112) = 0 → (S_M_isIn (fun (r2 : Int32) (z2 : St) => ((r2 = 0 → (post (-1 : Int32) z2)) ∧ (¬ r2 = 0 → (S_M_isIn (fun (r4 : Int32) (z3 : St) => ((r4 = 0 → (post (-1 : Int32) z3)) ∧ (¬ r4 = 0 → (S_M_lays (fun (z4 : St) => ((x2 = 0 → (post (gI z4 124) z4)) ∧ (¬ x2 = 0 → (post (gI z4 123) z4)))) x1 (0 : Int32) (0 : Int32) (0 : Int32) (1 : Int32) z3)))) ((x2).toInt64) (0 : Int64) (1 : Int64) z2)))) ((x1).toInt64) (1 : Int64) (4 : Int64) z1))))
set_option maxHeartbeats 4000000 in
set_option maxRecDepth 100000 in
theorem w_M_comes_0 {p : Program} {l : Launch} {e : Env} {R : Room} {s : State} {m : MethodId} {args : Array Value} {below : List Frame} {meth : Method} {c : Code} {Q : State → Prop} {G : GX} {A : Nat → Prop} (S : CallFix p m c cX12_comes 3 s args GW RX12) (hE : env G A s s.heap) (hA : ∀ q, s.heap.size ≤ q → A q) (hRf : 73 ≤ R.frames) (hRl : 2145 ≤ R.locals) {post : Int32 → St → Prop} (hret : RetI p l e R s m args below meth c Q 0 0 wM G A cX12_comes post) (x1 : Int32) (x2 : Int32) (z0 : St) (hB : S_M_comes post x1 x2 z0) : Xw p l e R s m args below meth c Q 0 0 wM G A z0 3 [(0, .ref (ad G 100)), (1, .int x1), (2, .int x2)] 0 [] := by
  intro H locs ls hP hD hS hl
  have hx := S.1
  have hb := S.2.1
  refine lv_aload_n hx hb dX12_comes_0 rfl (lv_at hl 0 rfl) ?_
  refine lv_iconst (v := 0) hx hb dX12_comes_1 (by decide) ?_
  obtain ⟨z1, ez1⟩ : ∃ z9, z9 = sI z0 100 (0 : Int32) := ⟨_, rfl⟩
  have hB := hB z1 ez1
  refine xMp_100_thrown S hE hP hD hS lk_X12_89 dX12_comes_2 (fun H locs hP hD hS => ?_)
  rw [← ez1] at hP hD
  refine lv_aload_n hx hb dX12_comes_5 rfl (lv_at hl 0 rfl) ?_
  refine xMg_100_guests S hE hP lk_X12_284 dX12_comes_6 ?_
  refine lv_if_eq (tgt := 34) hx hb dX12_comes_9 (by decide) (fun c1 => ?_) (fun c1 => ?_)
  · have hB := hB.1 c1
    refine lv_iconst (v := -1) hx hb dX12_comes_34 (by decide) ?_
    exact hret _ _ _ _ _ _ dX12_comes_35 hB hP hD hS
  · have hB := hB.2 c1
    refine lv_iload_n hx hb dX12_comes_12 rfl (lv_at hl 1 rfl) ?_
    refine lv_i2l hx hb dX12_comes_13 rfl ?_
    refine lv_lconst (v := 1) hx hb dX12_comes_14 (by decide) ?_
    refine lv_ldc2 hx hb S.2.2.2.1 (S.2.2.2.2 _ lk_X12_419) dX12_comes_15 ?_
    refine xcSi [.long ((x1).toInt64), .long (1 : Int64), .long (4 : Int64)] S hE hA hP hD hS (c_M_isIn l G z1 H.size ((x1).toInt64) (1 : Int64) (4 : Int64) _) hB (gw_c lk_X12_260 (gw_c wt_X12_isIn (gw_c wn_X12 (gw_c wc_X12_isIn (fun _ h9 => h9))))) hs_X12_isIn rfl rfl (Nat.le_trans (Nat.le_of_ble_eq_true rfl) hRf) (Nat.le_trans (Nat.le_of_ble_eq_true rfl) hRl) ⟨Nat.zero_le _, Nat.zero_le _⟩ rfl hl.1 rfl (Nat.le_of_ble_eq_true rfl) dX12_comes_18 (fun r2 z2 H locs hB hP hD hS => ?_)
    refine lv_if_eq (tgt := 34) hx hb dX12_comes_21 (by decide) (fun c3 => ?_) (fun c3 => ?_)
    · have hB := hB.1 c3
      refine lv_iconst (v := -1) hx hb dX12_comes_34 (by decide) ?_
      exact hret _ _ _ _ _ _ dX12_comes_35 hB hP hD hS
    · have hB := hB.2 c3
      refine lv_iload_n hx hb dX12_comes_24 rfl (lv_at hl 2 rfl) ?_
      refine lv_i2l hx hb dX12_comes_25 rfl ?_
      refine lv_lconst (v := 0) hx hb dX12_comes_26 (by decide) ?_
      refine lv_lconst (v := 1) hx hb dX12_comes_27 (by decide) ?_
      refine xcSi [.long ((x2).toInt64), .long (0 : Int64), .long (1 : Int64)] S hE hA hP hD hS (c_M_isIn l G z2 H.size ((x2).toInt64) (0 : Int64) (1 : Int64) _) hB (gw_c lk_X12_260 (gw_c wt_X12_isIn (gw_c wn_X12 (gw_c wc_X12_isIn (fun _ h9 => h9))))) hs_X12_isIn rfl rfl (Nat.le_trans (Nat.le_of_ble_eq_true rfl) hRf) (Nat.le_trans (Nat.le_of_ble_eq_true rfl) hRl) ⟨Nat.zero_le _, Nat.zero_le _⟩ rfl hl.1 rfl (Nat.le_of_ble_eq_true rfl) dX12_comes_28 (fun r4 z3 H locs hB hP hD hS => ?_)
      refine lv_if_ne (tgt := 36) hx hb dX12_comes_31 (by decide) (fun c5 => ?_) (fun c5 => ?_)
      · have hB := hB.2 c5
        refine lv_aload_n hx hb dX12_comes_36 rfl (lv_at hl 0 rfl) ?_
        refine lv_iload_n hx hb dX12_comes_37 rfl (lv_at hl 1 rfl) ?_
        refine lv_iconst (v := 0) hx hb dX12_comes_38 (by decide) ?_
        refine lv_iconst (v := 0) hx hb dX12_comes_39 (by decide) ?_
        refine lv_iconst (v := 0) hx hb dX12_comes_40 (by decide) ?_
        refine lv_iconst (v := 1) hx hb dX12_comes_41 (by decide) ?_
        refine xcVv [.int x1, .int (0 : Int32), .int (0 : Int32), .int (0 : Int32), .int (1 : Int32)] S hE hA hP hD hS (c_M_lays l G z3 H.size x1 (0 : Int32) (0 : Int32) (0 : Int32) (1 : Int32) _) hB (gw_c lk_X12_415 (gw_c wi_X12_lays (gw_c we_X12_X12_lays_X12_lays (gw_c wn_X12 (gw_c wc_X12_lays (fun _ h9 => h9)))))) hd_X12_lays rfl rfl (Nat.le_trans (Nat.le_of_ble_eq_true rfl) hRf) (Nat.le_trans (Nat.le_of_ble_eq_true rfl) hRl) ⟨Nat.zero_le _, Nat.zero_le _⟩ (va_recv hE.1 hP (ci := 11) (q0 := 0) rfl rfl) rfl hl.1 rfl (Nat.le_of_ble_eq_true rfl) dX12_comes_42 (fun z4 H locs hB hP hD hS => ?_)
        refine lv_iload_n hx hb dX12_comes_45 rfl (lv_at hl 2 rfl) ?_
        refine lv_if_ne (tgt := 56) hx hb dX12_comes_46 (by decide) (fun c6 => ?_) (fun c6 => ?_)
        · have hB := hB.2 c6
          refine lv_aload_n hx hb dX12_comes_56 rfl (lv_at hl 0 rfl) ?_
          refine xMg_100_bestJoy S hE hP lk_X12_389 dX12_comes_57 ?_
          exact hret _ _ _ _ _ _ dX12_comes_60 hB hP hD hS
        · have hB := hB.1 c6
          refine lv_aload_n hx hb dX12_comes_49 rfl (lv_at hl 0 rfl) ?_
          refine xMg_100_bestRow S hE hP lk_X12_392 dX12_comes_50 ?_
          refine lv_goto (tgt := 60) hx hb dX12_comes_53 (by decide) ?_
          exact hret _ _ _ _ _ _ dX12_comes_60 hB hP hD hS
      · have hB := hB.1 c5
        refine lv_iconst (v := -1) hx hb dX12_comes_34 (by decide) ?_
        exact hret _ _ _ _ _ _ dX12_comes_35 hB hP hD hS
set_option maxHeartbeats 4000000 in
set_option maxRecDepth 100000 in
theorem c_M_comes (l : Launch) (G : GX) (z0 : St) (sz : Nat) (x1 : Int32) (x2 : Int32) (post : Int32 → St → Prop) : MetI l wM yX12_comes cX12_comes 3 (some .int) ({ frames := 73, cells := 0, slots := 0, locals := 2145 }) [.ref (ad G 100), .int x1, .int x2] G z0 sz (S_M_comes post x1 x2 z0) post := by
  refine Met.ofW (cc := cX12_comes) (maxL := 3) (ret := (some .int)) (by decide) rfl ?_
  intro p e s m args below meth c s₁ B hml hv
  obtain ⟨rfl, hsz, hP, hD0, hE, hB⟩ := hv
  have S : CallFix p m c cX12_comes 3 s _ GW RX12 := ⟨B.exec, B.bytes, hml, findClass_of_methodNamed B.named, fun w h => atoms_spec (ws := Cond.code yX12_comes cX12_comes 3 (some .int) :: GW) B.pre w (List.mem_cons_of_mem _ h)⟩
  have hlocks := B.notSynchronized
  subst hsz
  have hD := hD0.self (sz := s.heap.size)
  generalize hAe : va_A (wM G z0) s.heap.size = A at hD hE ⊢
  have hA : ∀ q : Nat, s.heap.size ≤ q → A q := fun q h => by rw [← hAe]; exact Or.inr h
  have hS : va_S A s.heap s.heap [] := va_S.rf
  have hl := lv_entry ([.ref (ad G 100), .int x1, .int x2]) (n := 3) (Nat.le_of_ble_eq_true rfl)
  rw [lg_entry_eq]
  generalize (lg_sl ([.ref (ad G 100), .int x1, .int x2]) ++ List.replicate (3 - (lg_sl ([.ref (ad G 100), .int x1, .int x2])).length) Slot.unset).toArray = ls at hl ⊢
  have hl : lv_has ls 3 [(0, .ref (ad G 100)), (1, .int x1), (2, .int x2)] := hl
  refine w_M_comes_0 S hE hA (Nat.le_refl _) (Nat.le_refl _) ?_ x1 x2 z0 hB _ _ _ hP hD hS hl
  intro pc ls r σ H locs hd hp hP hD hS
  exact W.iret (v := r) B.exec B.bytes B.returns (fun t ht hW => ⟨⟨r, σ, rfl, hp, by rw [ht]; exact hP, hD⟩, hS.F ht⟩) hS.2.2 hd
def B_M_fewest_3 (post : Int32 → St → Prop) (ih3 : Int32 → Int32 → Int32 → Int32 → St → Prop) (x2 : Int32) (x3 : Int32) (x4 : Int32) (x5 : Int32) (z0 : St) : Prop :=
  (((4 : Int32) < x5 → (post (-1 : Int32) z0)) ∧ (¬ (4 : Int32) < x5 → (S_M_lays (fun (z1 : St) => (((gI z1 125) ≤ 0 → (∀ v3 : Int32, v3 = x5 + (1 : Int32) → (ih3 x2 x3 x4 v3 z1))) ∧ (¬ (gI z1 125) ≤ 0 → ((x4 = 0 → (post x5 z1)) ∧ (¬ x4 = 0 → (post (gI z1 124) z1)))))) x5 x2 x3 (0 : Int32) (1 : Int32) z0)))
set_option maxHeartbeats 4000000 in
set_option maxRecDepth 100000 in
theorem w_M_fewest_3 {p : Program} {l : Launch} {e : Env} {R : Room} {s : State} {m : MethodId} {args : Array Value} {below : List Frame} {meth : Method} {c : Code} {Q : State → Prop} {G : GX} {A : Nat → Prop} (S : CallFix p m c cX12_fewest 6 s args GW RX12) (hE : env G A s s.heap) (hA : ∀ q, s.heap.size ≤ q → A q) (hRf : 73 ≤ R.frames) (hRl : 2145 ≤ R.locals) {post : Int32 → St → Prop} (hret : RetI p l e R s m args below meth c Q 0 0 wM G A cX12_fewest post) {ih3 : Int32 → Int32 → Int32 → Int32 → St → Prop} (h3 : ∀ (x2 : Int32) (x3 : Int32) (x4 : Int32) (x5 : Int32) (z0 : St), ih3 x2 x3 x4 x5 z0 → Xw p l e R s m args below meth c Q 0 0 wM G A z0 6 [(0, .ref (ad G 100)), (2, .int x2), (3, .int x3), (4, .int x4), (5, .int x5)] 3 []) (x2 : Int32) (x3 : Int32) (x4 : Int32) (x5 : Int32) (z0 : St) (hB : B_M_fewest_3 post ih3 x2 x3 x4 x5 z0) : Xw p l e R s m args below meth c Q 0 0 wM G A z0 6 [(0, .ref (ad G 100)), (2, .int x2), (3, .int x3), (4, .int x4), (5, .int x5)] 3 [] := by
  intro H locs ls hP hD hS hl
  have hx := S.1
  have hb := S.2.1
  refine lv_iload hx hb dX12_fewest_3 (lv_at hl 4 rfl) ?_
  refine lv_iconst (v := 4) hx hb dX12_fewest_5 (by decide) ?_
  refine lv_icmp_gt (tgt := 47) hx hb dX12_fewest_6 (by decide) (fun c1 => ?_) (fun c1 => ?_)
  · have hB := hB.1 c1
    refine lv_iconst (v := -1) hx hb dX12_fewest_47 (by decide) ?_
    exact hret _ _ _ _ _ _ dX12_fewest_48 hB hP hD hS
  · have hB := hB.2 c1
    refine lv_aload_n hx hb dX12_fewest_9 rfl (lv_at hl 0 rfl) ?_
    refine lv_iload hx hb dX12_fewest_10 (lv_at hl 4 rfl) ?_
    refine lv_iload_n hx hb dX12_fewest_12 rfl (lv_at hl 1 rfl) ?_
    refine lv_iload_n hx hb dX12_fewest_13 rfl (lv_at hl 2 rfl) ?_
    refine lv_iconst (v := 0) hx hb dX12_fewest_14 (by decide) ?_
    refine lv_iconst (v := 1) hx hb dX12_fewest_15 (by decide) ?_
    refine xcVv [.int x5, .int x2, .int x3, .int (0 : Int32), .int (1 : Int32)] S hE hA hP hD hS (c_M_lays l G z0 H.size x5 x2 x3 (0 : Int32) (1 : Int32) _) hB (gw_c lk_X12_415 (gw_c wi_X12_lays (gw_c we_X12_X12_lays_X12_lays (gw_c wn_X12 (gw_c wc_X12_lays (fun _ h9 => h9)))))) hd_X12_lays rfl rfl (Nat.le_trans (Nat.le_of_ble_eq_true rfl) hRf) (Nat.le_trans (Nat.le_of_ble_eq_true rfl) hRl) ⟨Nat.zero_le _, Nat.zero_le _⟩ (va_recv hE.1 hP (ci := 11) (q0 := 0) rfl rfl) rfl hl.1 rfl (Nat.le_of_ble_eq_true rfl) dX12_fewest_16 (fun z1 H locs hB hP hD hS => ?_)
    refine lv_aload_n hx hb dX12_fewest_19 rfl (lv_at hl 0 rfl) ?_
    refine xMg_100_counted S hE hP lk_X12_398 dX12_fewest_20 ?_
    refine lv_if_le (tgt := 41) hx hb dX12_fewest_23 (by decide) (fun c2 => ?_) (fun c2 => ?_)
    · have hB := hB.1 c2
      obtain ⟨v3, ev3⟩ : ∃ y9, y9 = x5 + (1 : Int32) := ⟨_, rfl⟩
      have hB := hB v3 ev3
      refine lv_iinc (v := v3) (lv' := [(5, .int v3), (0, .ref (ad G 100)), (2, .int x2), (3, .int x3), (4, .int x4)]) hx hb dX12_fewest_41 hl (k := 4) rfl (by rw [ev3]; rfl) (by decide) rfl (fun ls hl => ?_)
      refine lv_goto (tgt := 3) hx hb dX12_fewest_44 (by decide) ?_
      exact h3 x2 x3 x4 v3 z1 hB _ _ _ hP hD hS (lv_sub hl [1, 2, 3, 4, 0] rfl)
    · have hB := hB.2 c2
      refine lv_iload hx hb dX12_fewest_26 (lv_at hl 3 rfl) ?_
      refine lv_if_ne (tgt := 36) hx hb dX12_fewest_28 (by decide) (fun c4 => ?_) (fun c4 => ?_)
      · have hB := hB.2 c4
        refine lv_aload_n hx hb dX12_fewest_36 rfl (lv_at hl 0 rfl) ?_
        refine xMg_100_bestRow S hE hP lk_X12_392 dX12_fewest_37 ?_
        exact hret _ _ _ _ _ _ dX12_fewest_40 hB hP hD hS
      · have hB := hB.1 c4
        refine lv_iload hx hb dX12_fewest_31 (lv_at hl 4 rfl) ?_
        refine lv_goto (tgt := 40) hx hb dX12_fewest_33 (by decide) ?_
        exact hret _ _ _ _ _ _ dX12_fewest_40 hB hP hD hS
def L_M_fewest_3 (post : Int32 → St → Prop) : Nat → Int32 → Int32 → Int32 → Int32 → St → Prop
  | 0 => fun _ _ _ _ _ => False
  | n + 1 => B_M_fewest_3 post (L_M_fewest_3 post n)
theorem wl_M_fewest_3 {p : Program} {l : Launch} {e : Env} {R : Room} {s : State} {m : MethodId} {args : Array Value} {below : List Frame} {meth : Method} {c : Code} {Q : State → Prop} {G : GX} {A : Nat → Prop} (S : CallFix p m c cX12_fewest 6 s args GW RX12) (hE : env G A s s.heap) (hA : ∀ q, s.heap.size ≤ q → A q) (hRf : 73 ≤ R.frames) (hRl : 2145 ≤ R.locals) {post : Int32 → St → Prop} (hret : RetI p l e R s m args below meth c Q 0 0 wM G A cX12_fewest post) : ∀ (n : Nat) (x2 : Int32) (x3 : Int32) (x4 : Int32) (x5 : Int32) (z0 : St), L_M_fewest_3 post n x2 x3 x4 x5 z0 → Xw p l e R s m args below meth c Q 0 0 wM G A z0 6 [(0, .ref (ad G 100)), (2, .int x2), (3, .int x3), (4, .int x4), (5, .int x5)] 3 [] := by
  intro n
  induction n with
  | zero => intro x2 x3 x4 x5 z0 hB; exact absurd hB id
  | succ n ih => exact fun x2 x3 x4 x5 z0 hB => w_M_fewest_3 S hE hA hRf hRl hret ih x2 x3 x4 x5 z0 hB
def S_M_fewest (post : Int32 → St → Prop) (x1 : Int32) (x2 : Int32) (x3 : Int32) (x4 : Int32) (z0 : St) : Prop :=
  (∃ n1, L_M_fewest_3 post n1 x2 x3 x4 x1 z0)
set_option maxHeartbeats 4000000 in
set_option maxRecDepth 100000 in
theorem w_M_fewest_0 {p : Program} {l : Launch} {e : Env} {R : Room} {s : State} {m : MethodId} {args : Array Value} {below : List Frame} {meth : Method} {c : Code} {Q : State → Prop} {G : GX} {A : Nat → Prop} (S : CallFix p m c cX12_fewest 6 s args GW RX12) (hE : env G A s s.heap) (hA : ∀ q, s.heap.size ≤ q → A q) (hRf : 73 ≤ R.frames) (hRl : 2145 ≤ R.locals) {post : Int32 → St → Prop} (hret : RetI p l e R s m args below meth c Q 0 0 wM G A cX12_fewest post) (x1 : Int32) (x2 : Int32) (x3 : Int32) (x4 : Int32) (z0 : St) (hB : S_M_fewest post x1 x2 x3 x4 z0) : Xw p l e R s m args below meth c Q 0 0 wM G A z0 6 [(0, .ref (ad G 100)), (1, .int x1), (2, .int x2), (3, .int x3), (4, .int x4)] 0 [] := by
  intro H locs ls hP hD hS hl
  have hx := S.1
  have hb := S.2.1
  refine lv_iload_n hx hb dX12_fewest_0 rfl (lv_at hl 1 rfl) ?_
  refine lv_istore (lv' := [(5, .int x1), (0, .ref (ad G 100)), (1, .int x1), (2, .int x2), (3, .int x3), (4, .int x4)]) hx hb dX12_fewest_1 hl (by decide) rfl (fun ls hl => ?_)
  obtain ⟨n1, hB⟩ := hB
  exact wl_M_fewest_3 S hE hA hRf hRl hret n1 x2 x3 x4 x1 z0 hB _ _ _ hP hD hS (lv_sub hl [1, 3, 4, 5, 0] rfl)
set_option maxHeartbeats 4000000 in
set_option maxRecDepth 100000 in
theorem c_M_fewest (l : Launch) (G : GX) (z0 : St) (sz : Nat) (x1 : Int32) (x2 : Int32) (x3 : Int32) (x4 : Int32) (post : Int32 → St → Prop) : MetI l wM yX12_fewest cX12_fewest 6 (some .int) ({ frames := 73, cells := 0, slots := 0, locals := 2145 }) [.ref (ad G 100), .int x1, .int x2, .int x3, .int x4] G z0 sz (S_M_fewest post x1 x2 x3 x4 z0) post := by
  refine Met.ofW (cc := cX12_fewest) (maxL := 6) (ret := (some .int)) (by decide) rfl ?_
  intro p e s m args below meth c s₁ B hml hv
  obtain ⟨rfl, hsz, hP, hD0, hE, hB⟩ := hv
  have S : CallFix p m c cX12_fewest 6 s _ GW RX12 := ⟨B.exec, B.bytes, hml, findClass_of_methodNamed B.named, fun w h => atoms_spec (ws := Cond.code yX12_fewest cX12_fewest 6 (some .int) :: GW) B.pre w (List.mem_cons_of_mem _ h)⟩
  have hlocks := B.notSynchronized
  subst hsz
  have hD := hD0.self (sz := s.heap.size)
  generalize hAe : va_A (wM G z0) s.heap.size = A at hD hE ⊢
  have hA : ∀ q : Nat, s.heap.size ≤ q → A q := fun q h => by rw [← hAe]; exact Or.inr h
  have hS : va_S A s.heap s.heap [] := va_S.rf
  have hl := lv_entry ([.ref (ad G 100), .int x1, .int x2, .int x3, .int x4]) (n := 6) (Nat.le_of_ble_eq_true rfl)
  rw [lg_entry_eq]
  generalize (lg_sl ([.ref (ad G 100), .int x1, .int x2, .int x3, .int x4]) ++ List.replicate (6 - (lg_sl ([.ref (ad G 100), .int x1, .int x2, .int x3, .int x4])).length) Slot.unset).toArray = ls at hl ⊢
  have hl : lv_has ls 6 [(0, .ref (ad G 100)), (1, .int x1), (2, .int x2), (3, .int x3), (4, .int x4)] := hl
  refine w_M_fewest_0 S hE hA (Nat.le_refl _) (Nat.le_refl _) ?_ x1 x2 x3 x4 z0 hB _ _ _ hP hD hS hl
  intro pc ls r σ H locs hd hp hP hD hS
  exact W.iret (v := r) B.exec B.bytes B.returns (fun t ht hW => ⟨⟨r, σ, rfl, hp, by rw [ht]; exact hP, hD⟩, hS.F ht⟩) hS.2.2 hd
def S_M_soonest (post : Int32 → St → Prop) (x1 : Int32) (x2 : Int32) (z0 : St) : Prop :=
  (∀ z1 : St, z1 = sI z0 100 (0 : Int32) → (S_M_isDrink (fun (r1 : Int32) (z2 : St) => ((r1 = 0 → (post (-1 : Int32) z2)) ∧ (¬ r1 = 0 → (S_M_isIn (fun (r3 : Int32) (z3 : St) => ((r3 = 0 → (post (-1 : Int32) z3)) ∧ (¬ r3 = 0 → (S_M_fewest (fun (r5 : Int32) (z4 : St) => (post r5 z4)) (0 : Int32) (1 : Int32) x1 x2 z3)))) ((x2).toInt64) (0 : Int64) (1 : Int64) z2)))) x1 z1))
set_option maxHeartbeats 4000000 in
set_option maxRecDepth 100000 in
theorem w_M_soonest_0 {p : Program} {l : Launch} {e : Env} {R : Room} {s : State} {m : MethodId} {args : Array Value} {below : List Frame} {meth : Method} {c : Code} {Q : State → Prop} {G : GX} {A : Nat → Prop} (S : CallFix p m c cX12_soonest 3 s args GW RX12) (hE : env G A s s.heap) (hA : ∀ q, s.heap.size ≤ q → A q) (hRf : 74 ≤ R.frames) (hRl : 2170 ≤ R.locals) {post : Int32 → St → Prop} (hret : RetI p l e R s m args below meth c Q 0 0 wM G A cX12_soonest post) (x1 : Int32) (x2 : Int32) (z0 : St) (hB : S_M_soonest post x1 x2 z0) : Xw p l e R s m args below meth c Q 0 0 wM G A z0 3 [(0, .ref (ad G 100)), (1, .int x1), (2, .int x2)] 0 [] := by
  intro H locs ls hP hD hS hl
  have hx := S.1
  have hb := S.2.1
  refine lv_aload_n hx hb dX12_soonest_0 rfl (lv_at hl 0 rfl) ?_
  refine lv_iconst (v := 0) hx hb dX12_soonest_1 (by decide) ?_
  obtain ⟨z1, ez1⟩ : ∃ z9, z9 = sI z0 100 (0 : Int32) := ⟨_, rfl⟩
  have hB := hB z1 ez1
  refine xMp_100_thrown S hE hP hD hS lk_X12_89 dX12_soonest_2 (fun H locs hP hD hS => ?_)
  rw [← ez1] at hP hD
  refine lv_aload_n hx hb dX12_soonest_5 rfl (lv_at hl 0 rfl) ?_
  refine lv_iload_n hx hb dX12_soonest_6 rfl (lv_at hl 1 rfl) ?_
  refine xcVi [.int x1] S hE hA hP hD hS (c_M_isDrink l G z1 H.size x1 _) hB (gw_c lk_X12_319 (gw_c wi_X12_isDrink (gw_c we_X12_X12_isDrink_X12_isDrink (gw_c wn_X12 (gw_c wc_X12_isDrink (fun _ h9 => h9)))))) hd_X12_isDrink rfl rfl (Nat.le_trans (Nat.le_of_ble_eq_true rfl) hRf) (Nat.le_trans (Nat.le_of_ble_eq_true rfl) hRl) ⟨Nat.zero_le _, Nat.zero_le _⟩ (va_recv hE.1 hP (ci := 11) (q0 := 0) rfl rfl) rfl hl.1 rfl (Nat.le_of_ble_eq_true rfl) dX12_soonest_7 (fun r1 z2 H locs hB hP hD hS => ?_)
  refine lv_if_eq (tgt := 34) hx hb dX12_soonest_10 (by decide) (fun c2 => ?_) (fun c2 => ?_)
  · have hB := hB.1 c2
    refine lv_iconst (v := -1) hx hb dX12_soonest_34 (by decide) ?_
    exact hret _ _ _ _ _ _ dX12_soonest_35 hB hP hD hS
  · have hB := hB.2 c2
    refine lv_iload_n hx hb dX12_soonest_13 rfl (lv_at hl 2 rfl) ?_
    refine lv_i2l hx hb dX12_soonest_14 rfl ?_
    refine lv_lconst (v := 0) hx hb dX12_soonest_15 (by decide) ?_
    refine lv_lconst (v := 1) hx hb dX12_soonest_16 (by decide) ?_
    refine xcSi [.long ((x2).toInt64), .long (0 : Int64), .long (1 : Int64)] S hE hA hP hD hS (c_M_isIn l G z2 H.size ((x2).toInt64) (0 : Int64) (1 : Int64) _) hB (gw_c lk_X12_260 (gw_c wt_X12_isIn (gw_c wn_X12 (gw_c wc_X12_isIn (fun _ h9 => h9))))) hs_X12_isIn rfl rfl (Nat.le_trans (Nat.le_of_ble_eq_true rfl) hRf) (Nat.le_trans (Nat.le_of_ble_eq_true rfl) hRl) ⟨Nat.zero_le _, Nat.zero_le _⟩ rfl hl.1 rfl (Nat.le_of_ble_eq_true rfl) dX12_soonest_17 (fun r3 z3 H locs hB hP hD hS => ?_)
    refine lv_if_eq (tgt := 34) hx hb dX12_soonest_20 (by decide) (fun c4 => ?_) (fun c4 => ?_)
    · have hB := hB.1 c4
      refine lv_iconst (v := -1) hx hb dX12_soonest_34 (by decide) ?_
      exact hret _ _ _ _ _ _ dX12_soonest_35 hB hP hD hS
    · have hB := hB.2 c4
      refine lv_aload_n hx hb dX12_soonest_23 rfl (lv_at hl 0 rfl) ?_
      refine lv_iconst (v := 0) hx hb dX12_soonest_24 (by decide) ?_
      refine lv_iconst (v := 1) hx hb dX12_soonest_25 (by decide) ?_
      refine lv_iload_n hx hb dX12_soonest_26 rfl (lv_at hl 1 rfl) ?_
      refine lv_iload_n hx hb dX12_soonest_27 rfl (lv_at hl 2 rfl) ?_
      refine xcVi [.int (0 : Int32), .int (1 : Int32), .int x1, .int x2] S hE hA hP hD hS (c_M_fewest l G z3 H.size (0 : Int32) (1 : Int32) x1 x2 _) hB (gw_c lk_X12_421 (gw_c wi_X12_fewest (gw_c we_X12_X12_fewest_X12_fewest (gw_c wn_X12 (gw_c wc_X12_fewest (fun _ h9 => h9)))))) hd_X12_fewest rfl rfl (Nat.le_trans (Nat.le_of_ble_eq_true rfl) hRf) (Nat.le_trans (Nat.le_of_ble_eq_true rfl) hRl) ⟨Nat.zero_le _, Nat.zero_le _⟩ (va_recv hE.1 hP (ci := 11) (q0 := 0) rfl rfl) rfl hl.1 rfl (Nat.le_of_ble_eq_true rfl) dX12_soonest_28 (fun r5 z4 H locs hB hP hD hS => ?_)
      refine lv_goto (tgt := 35) hx hb dX12_soonest_31 (by decide) ?_
      exact hret _ _ _ _ _ _ dX12_soonest_35 hB hP hD hS
set_option maxHeartbeats 4000000 in
set_option maxRecDepth 100000 in
theorem c_M_soonest (l : Launch) (G : GX) (z0 : St) (sz : Nat) (x1 : Int32) (x2 : Int32) (post : Int32 → St → Prop) : MetI l wM yX12_soonest cX12_soonest 3 (some .int) ({ frames := 74, cells := 0, slots := 0, locals := 2170 }) [.ref (ad G 100), .int x1, .int x2] G z0 sz (S_M_soonest post x1 x2 z0) post := by
  refine Met.ofW (cc := cX12_soonest) (maxL := 3) (ret := (some .int)) (by decide) rfl ?_
  intro p e s m args below meth c s₁ B hml hv
  obtain ⟨rfl, hsz, hP, hD0, hE, hB⟩ := hv
  have S : CallFix p m c cX12_soonest 3 s _ GW RX12 := ⟨B.exec, B.bytes, hml, findClass_of_methodNamed B.named, fun w h => atoms_spec (ws := Cond.code yX12_soonest cX12_soonest 3 (some .int) :: GW) B.pre w (List.mem_cons_of_mem _ h)⟩
  have hlocks := B.notSynchronized
  subst hsz
  have hD := hD0.self (sz := s.heap.size)
  generalize hAe : va_A (wM G z0) s.heap.size = A at hD hE ⊢
  have hA : ∀ q : Nat, s.heap.size ≤ q → A q := fun q h => by rw [← hAe]; exact Or.inr h
  have hS : va_S A s.heap s.heap [] := va_S.rf
  have hl := lv_entry ([.ref (ad G 100), .int x1, .int x2]) (n := 3) (Nat.le_of_ble_eq_true rfl)
  rw [lg_entry_eq]
  generalize (lg_sl ([.ref (ad G 100), .int x1, .int x2]) ++ List.replicate (3 - (lg_sl ([.ref (ad G 100), .int x1, .int x2])).length) Slot.unset).toArray = ls at hl ⊢
  have hl : lv_has ls 3 [(0, .ref (ad G 100)), (1, .int x1), (2, .int x2)] := hl
  refine w_M_soonest_0 S hE hA (Nat.le_refl _) (Nat.le_refl _) ?_ x1 x2 z0 hB _ _ _ hP hD hS hl
  intro pc ls r σ H locs hd hp hP hD hS
  exact W.iret (v := r) B.exec B.bytes B.returns (fun t ht hW => ⟨⟨r, σ, rfl, hp, by rw [ht]; exact hP, hD⟩, hS.F ht⟩) hS.2.2 hd
def S_M_ends (post : Int32 → St → Prop) (x1 : Int32) (z0 : St) : Prop :=
  (∀ z1 : St, z1 = sI z0 100 (0 : Int32) → (((gI z1 112) ≤ 0 → (post (-1 : Int32) z1)) ∧ (¬ (gI z1 112) ≤ 0 → (S_M_isIn (fun (r2 : Int32) (z2 : St) => ((r2 = 0 → (post (-1 : Int32) z2)) ∧ (¬ r2 = 0 → (S_M_fewest (fun (r4 : Int32) (z3 : St) => (post r4 z3)) (1 : Int32) (2 : Int32) (gA z2 113 24) x1 z2)))) ((x1).toInt64) (0 : Int64) (1 : Int64) z1))))
set_option maxHeartbeats 4000000 in
set_option maxRecDepth 100000 in
theorem w_M_ends_0 {p : Program} {l : Launch} {e : Env} {R : Room} {s : State} {m : MethodId} {args : Array Value} {below : List Frame} {meth : Method} {c : Code} {Q : State → Prop} {G : GX} {A : Nat → Prop} (S : CallFix p m c cX12_ends 2 s args GW RX12) (hE : env G A s s.heap) (hA : ∀ q, s.heap.size ≤ q → A q) (hRf : 74 ≤ R.frames) (hRl : 2170 ≤ R.locals) {post : Int32 → St → Prop} (hret : RetI p l e R s m args below meth c Q 0 0 wM G A cX12_ends post) (x1 : Int32) (z0 : St) (hB : S_M_ends post x1 z0) : Xw p l e R s m args below meth c Q 0 0 wM G A z0 2 [(0, .ref (ad G 100)), (1, .int x1)] 0 [] := by
  intro H locs ls hP hD hS hl
  have hx := S.1
  have hb := S.2.1
  refine lv_aload_n hx hb dX12_ends_0 rfl (lv_at hl 0 rfl) ?_
  refine lv_iconst (v := 0) hx hb dX12_ends_1 (by decide) ?_
  obtain ⟨z1, ez1⟩ : ∃ z9, z9 = sI z0 100 (0 : Int32) := ⟨_, rfl⟩
  have hB := hB z1 ez1
  refine xMp_100_thrown S hE hP hD hS lk_X12_89 dX12_ends_2 (fun H locs hP hD hS => ?_)
  rw [← ez1] at hP hD
  refine lv_aload_n hx hb dX12_ends_5 rfl (lv_at hl 0 rfl) ?_
  refine xMg_100_guests S hE hP lk_X12_284 dX12_ends_6 ?_
  refine lv_if_le (tgt := 39) hx hb dX12_ends_9 (by decide) (fun c1 => ?_) (fun c1 => ?_)
  · have hB := hB.1 c1
    refine lv_iconst (v := -1) hx hb dX12_ends_39 (by decide) ?_
    exact hret _ _ _ _ _ _ dX12_ends_40 hB hP hD hS
  · have hB := hB.2 c1
    refine lv_iload_n hx hb dX12_ends_12 rfl (lv_at hl 1 rfl) ?_
    refine lv_i2l hx hb dX12_ends_13 rfl ?_
    refine lv_lconst (v := 0) hx hb dX12_ends_14 (by decide) ?_
    refine lv_lconst (v := 1) hx hb dX12_ends_15 (by decide) ?_
    refine xcSi [.long ((x1).toInt64), .long (0 : Int64), .long (1 : Int64)] S hE hA hP hD hS (c_M_isIn l G z1 H.size ((x1).toInt64) (0 : Int64) (1 : Int64) _) hB (gw_c lk_X12_260 (gw_c wt_X12_isIn (gw_c wn_X12 (gw_c wc_X12_isIn (fun _ h9 => h9))))) hs_X12_isIn rfl rfl (Nat.le_trans (Nat.le_of_ble_eq_true rfl) hRf) (Nat.le_trans (Nat.le_of_ble_eq_true rfl) hRl) ⟨Nat.zero_le _, Nat.zero_le _⟩ rfl hl.1 rfl (Nat.le_of_ble_eq_true rfl) dX12_ends_16 (fun r2 z2 H locs hB hP hD hS => ?_)
    refine lv_if_eq (tgt := 39) hx hb dX12_ends_19 (by decide) (fun c3 => ?_) (fun c3 => ?_)
    · have hB := hB.1 c3
      refine lv_iconst (v := -1) hx hb dX12_ends_39 (by decide) ?_
      exact hret _ _ _ _ _ _ dX12_ends_40 hB hP hD hS
    · have hB := hB.2 c3
      refine lv_aload_n hx hb dX12_ends_22 rfl (lv_at hl 0 rfl) ?_
      refine lv_iconst (v := 1) hx hb dX12_ends_23 (by decide) ?_
      refine lv_iconst (v := 2) hx hb dX12_ends_24 (by decide) ?_
      refine lv_aload_n hx hb dX12_ends_25 rfl (lv_at hl 0 rfl) ?_
      refine xMg_100_now S hE hP lk_X12_61 dX12_ends_26 ?_
      refine lv_bipush (v := 24) hx hb dX12_ends_29 (by decide) ?_
      refine xMk_113 S hE hP 24 (by decide) (by unfold vp_in; decide) dX12_ends_31 ?_
      refine lv_iload_n hx hb dX12_ends_32 rfl (lv_at hl 1 rfl) ?_
      refine xcVi [.int (1 : Int32), .int (2 : Int32), .int (gA z2 113 24), .int x1] S hE hA hP hD hS (c_M_fewest l G z2 H.size (1 : Int32) (2 : Int32) (gA z2 113 24) x1 _) hB (gw_c lk_X12_421 (gw_c wi_X12_fewest (gw_c we_X12_X12_fewest_X12_fewest (gw_c wn_X12 (gw_c wc_X12_fewest (fun _ h9 => h9)))))) hd_X12_fewest rfl rfl (Nat.le_trans (Nat.le_of_ble_eq_true rfl) hRf) (Nat.le_trans (Nat.le_of_ble_eq_true rfl) hRl) ⟨Nat.zero_le _, Nat.zero_le _⟩ (va_recv hE.1 hP (ci := 11) (q0 := 0) rfl rfl) rfl hl.1 rfl (Nat.le_of_ble_eq_true rfl) dX12_ends_33 (fun r4 z3 H locs hB hP hD hS => ?_)
      refine lv_goto (tgt := 40) hx hb dX12_ends_36 (by decide) ?_
      exact hret _ _ _ _ _ _ dX12_ends_40 hB hP hD hS
set_option maxHeartbeats 4000000 in
set_option maxRecDepth 100000 in
theorem c_M_ends (l : Launch) (G : GX) (z0 : St) (sz : Nat) (x1 : Int32) (post : Int32 → St → Prop) : MetI l wM yX12_ends cX12_ends 2 (some .int) ({ frames := 74, cells := 0, slots := 0, locals := 2170 }) [.ref (ad G 100), .int x1] G z0 sz (S_M_ends post x1 z0) post := by
  refine Met.ofW (cc := cX12_ends) (maxL := 2) (ret := (some .int)) (by decide) rfl ?_
  intro p e s m args below meth c s₁ B hml hv
  obtain ⟨rfl, hsz, hP, hD0, hE, hB⟩ := hv
  have S : CallFix p m c cX12_ends 2 s _ GW RX12 := ⟨B.exec, B.bytes, hml, findClass_of_methodNamed B.named, fun w h => atoms_spec (ws := Cond.code yX12_ends cX12_ends 2 (some .int) :: GW) B.pre w (List.mem_cons_of_mem _ h)⟩
  have hlocks := B.notSynchronized
  subst hsz
  have hD := hD0.self (sz := s.heap.size)
  generalize hAe : va_A (wM G z0) s.heap.size = A at hD hE ⊢
  have hA : ∀ q : Nat, s.heap.size ≤ q → A q := fun q h => by rw [← hAe]; exact Or.inr h
  have hS : va_S A s.heap s.heap [] := va_S.rf
  have hl := lv_entry ([.ref (ad G 100), .int x1]) (n := 2) (Nat.le_of_ble_eq_true rfl)
  rw [lg_entry_eq]
  generalize (lg_sl ([.ref (ad G 100), .int x1]) ++ List.replicate (2 - (lg_sl ([.ref (ad G 100), .int x1])).length) Slot.unset).toArray = ls at hl ⊢
  have hl : lv_has ls 2 [(0, .ref (ad G 100)), (1, .int x1)] := hl
  refine w_M_ends_0 S hE hA (Nat.le_refl _) (Nat.le_refl _) ?_ x1 z0 hB _ _ _ hP hD hS hl
  intro pc ls r σ H locs hd hp hP hD hS
  exact W.iret (v := r) B.exec B.bytes B.returns (fun t ht hW => ⟨⟨r, σ, rfl, hp, by rw [ht]; exact hP, hD⟩, hS.F ht⟩) hS.2.2 hd
def B_M_round_35 (post : Int32 → St → Prop) (ih35 : Int32 → Int32 → St → Prop) (x1 : Int32) (x2 : Int32) (z0 : St) : Prop :=
  (((30 : Int32) < x2 → (post (-1 : Int32) z0)) ∧ (¬ (30 : Int32) < x2 → (∀ z1 : St, z1 = sA z0 114 28 (0 : Int32) → (S_M_runs (fun (r2 : Int32) (z2 : St) => (vp_in x1 5 ∧ (((gA z2 112 x1.toNatClampNeg) ≤ r2 → (((gA z2 114 24) = (gA z2 113 24) → (post x2 z2)) ∧ (¬ (gA z2 114 24) = (gA z2 113 24) → (∀ v5 : Int32, v5 = x2 + (1 : Int32) → (ih35 x1 v5 z2))))) ∧ (¬ (gA z2 112 x1.toNatClampNeg) ≤ r2 → (post (-1 : Int32) z2))))) x1 z1))))
set_option maxHeartbeats 4000000 in
set_option maxRecDepth 100000 in
theorem w_M_round_35 {p : Program} {l : Launch} {e : Env} {R : Room} {s : State} {m : MethodId} {args : Array Value} {below : List Frame} {meth : Method} {c : Code} {Q : State → Prop} {G : GX} {A : Nat → Prop} (S : CallFix p m c cX12_round 3 s args GW RX12) (hE : env G A s s.heap) (hA : ∀ q, s.heap.size ≤ q → A q) (hRf : 65 ≤ R.frames) (hRl : 1818 ≤ R.locals) {post : Int32 → St → Prop} (hret : RetI p l e R s m args below meth c Q 0 0 wM G A cX12_round post) {ih35 : Int32 → Int32 → St → Prop} (h35 : ∀ (x1 : Int32) (x2 : Int32) (z0 : St), ih35 x1 x2 z0 → Xw p l e R s m args below meth c Q 0 0 wM G A z0 3 [(0, .ref (ad G 100)), (1, .int x1), (2, .int x2)] 35 []) (x1 : Int32) (x2 : Int32) (z0 : St) (hB : B_M_round_35 post ih35 x1 x2 z0) : Xw p l e R s m args below meth c Q 0 0 wM G A z0 3 [(0, .ref (ad G 100)), (1, .int x1), (2, .int x2)] 35 [] := by
  intro H locs ls hP hD hS hl
  have hx := S.1
  have hb := S.2.1
  refine lv_iload_n hx hb dX12_round_35 rfl (lv_at hl 2 rfl) ?_
  refine lv_bipush (v := 30) hx hb dX12_round_36 (by decide) ?_
  refine lv_icmp_gt (tgt := 90) hx hb dX12_round_38 (by decide) (fun c1 => ?_) (fun c1 => ?_)
  · have hB := hB.1 c1
    refine lv_iconst (v := -1) hx hb dX12_round_90 (by decide) ?_
    exact hret _ _ _ _ _ _ dX12_round_91 hB hP hD hS
  · have hB := hB.2 c1
    refine lv_aload_n hx hb dX12_round_41 rfl (lv_at hl 0 rfl) ?_
    refine xMg_100_trial S hE hP lk_X12_64 dX12_round_42 ?_
    refine lv_bipush (v := 28) hx hb dX12_round_45 (by decide) ?_
    refine lv_iconst (v := 0) hx hb dX12_round_47 (by decide) ?_
    obtain ⟨z1, ez1⟩ : ∃ z9, z9 = sA z0 114 28 (0 : Int32) := ⟨_, rfl⟩
    have hB := hB z1 ez1
    refine xMs_114 S hE hP hD hS 28 (by decide) (by unfold vp_in; decide) dX12_round_48 (fun H locs hP hD hS => ?_)
    rw [← ez1] at hP hD
    refine lv_aload_n hx hb dX12_round_49 rfl (lv_at hl 0 rfl) ?_
    refine lv_iload_n hx hb dX12_round_50 rfl (lv_at hl 1 rfl) ?_
    refine xcVi [.int x1] S hE hA hP hD hS (c_M_runs l G z1 H.size x1 _) hB (gw_c lk_X12_383 (gw_c wi_X12_runs (gw_c we_X12_X12_runs_X12_runs (gw_c wn_X12 (gw_c wc_X12_runs (fun _ h9 => h9)))))) hd_X12_runs rfl rfl (Nat.le_trans (Nat.le_of_ble_eq_true rfl) hRf) (Nat.le_trans (Nat.le_of_ble_eq_true rfl) hRl) ⟨Nat.zero_le _, Nat.zero_le _⟩ (va_recv hE.1 hP (ci := 11) (q0 := 0) rfl rfl) rfl hl.1 rfl (Nat.le_of_ble_eq_true rfl) dX12_round_51 (fun r2 z2 H locs hB hP hD hS => ?_)
    refine lv_aload_n hx hb dX12_round_54 rfl (lv_at hl 0 rfl) ?_
    refine xMg_100_winterLong S hE hP lk_X12_58 dX12_round_55 ?_
    refine lv_iload_n hx hb dX12_round_58 rfl (lv_at hl 1 rfl) ?_
    obtain ⟨hi, hB⟩ := hB
    refine xMl_112 S hE hP hi dX12_round_59 ?_
    refine lv_icmp_ge (tgt := 65) hx hb dX12_round_60 (by decide) (fun c3 => ?_) (fun c3 => ?_)
    · have hB := hB.1 c3
      refine lv_aload_n hx hb dX12_round_65 rfl (lv_at hl 0 rfl) ?_
      refine xMg_100_trial S hE hP lk_X12_64 dX12_round_66 ?_
      refine lv_bipush (v := 24) hx hb dX12_round_69 (by decide) ?_
      refine xMk_114 S hE hP 24 (by decide) (by unfold vp_in; decide) dX12_round_71 ?_
      refine lv_aload_n hx hb dX12_round_72 rfl (lv_at hl 0 rfl) ?_
      refine xMg_100_now S hE hP lk_X12_61 dX12_round_73 ?_
      refine lv_bipush (v := 24) hx hb dX12_round_76 (by decide) ?_
      refine xMk_113 S hE hP 24 (by decide) (by unfold vp_in; decide) dX12_round_78 ?_
      refine lv_icmp_ne (tgt := 84) hx hb dX12_round_79 (by decide) (fun c4 => ?_) (fun c4 => ?_)
      · have hB := hB.2 c4
        obtain ⟨v5, ev5⟩ : ∃ y9, y9 = x2 + (1 : Int32) := ⟨_, rfl⟩
        have hB := hB v5 ev5
        refine lv_iinc (v := v5) (lv' := [(2, .int v5), (0, .ref (ad G 100)), (1, .int x1)]) hx hb dX12_round_84 hl (k := 2) rfl (by rw [ev5]; rfl) (by decide) rfl (fun ls hl => ?_)
        refine lv_goto (tgt := 35) hx hb dX12_round_87 (by decide) ?_
        exact h35 x1 v5 z2 hB _ _ _ hP hD hS (lv_sub hl [1, 2, 0] rfl)
      · have hB := hB.1 c4
        refine lv_iload_n hx hb dX12_round_82 rfl (lv_at hl 2 rfl) ?_
        exact hret _ _ _ _ _ _ dX12_round_83 hB hP hD hS
    · have hB := hB.2 c3
      refine lv_iconst (v := -1) hx hb dX12_round_63 (by decide) ?_
      exact hret _ _ _ _ _ _ dX12_round_64 hB hP hD hS
def L_M_round_35 (post : Int32 → St → Prop) : Nat → Int32 → Int32 → St → Prop
  | 0 => fun _ _ _ => False
  | n + 1 => B_M_round_35 post (L_M_round_35 post n)
theorem wl_M_round_35 {p : Program} {l : Launch} {e : Env} {R : Room} {s : State} {m : MethodId} {args : Array Value} {below : List Frame} {meth : Method} {c : Code} {Q : State → Prop} {G : GX} {A : Nat → Prop} (S : CallFix p m c cX12_round 3 s args GW RX12) (hE : env G A s s.heap) (hA : ∀ q, s.heap.size ≤ q → A q) (hRf : 65 ≤ R.frames) (hRl : 1818 ≤ R.locals) {post : Int32 → St → Prop} (hret : RetI p l e R s m args below meth c Q 0 0 wM G A cX12_round post) : ∀ (n : Nat) (x1 : Int32) (x2 : Int32) (z0 : St), L_M_round_35 post n x1 x2 z0 → Xw p l e R s m args below meth c Q 0 0 wM G A z0 3 [(0, .ref (ad G 100)), (1, .int x1), (2, .int x2)] 35 [] := by
  intro n
  induction n with
  | zero => intro x1 x2 z0 hB; exact absurd hB id
  | succ n ih => exact fun x1 x2 z0 hB => w_M_round_35 S hE hA hRf hRl hret ih x1 x2 z0 hB
def S_M_round (post : Int32 → St → Prop) (x1 : Int32) (z0 : St) : Prop :=
  (∀ z1 : St, z1 = sI z0 100 (0 : Int32) → (S_M_isWinter (fun (r1 : Int32) (z2 : St) => ((r1 = 0 → (post (-1 : Int32) z2)) ∧ (¬ r1 = 0 → (((gI z2 112) = 0 → (post (-1 : Int32) z2)) ∧ (¬ (gI z2 112) = 0 → (S_M_copy_r113_r114 (fun (z3 : St) => (∃ n4, L_M_round_35 post n4 x1 (1 : Int32) z3)) z2)))))) x1 z1))
set_option maxHeartbeats 4000000 in
set_option maxRecDepth 100000 in
theorem w_M_round_0 {p : Program} {l : Launch} {e : Env} {R : Room} {s : State} {m : MethodId} {args : Array Value} {below : List Frame} {meth : Method} {c : Code} {Q : State → Prop} {G : GX} {A : Nat → Prop} (S : CallFix p m c cX12_round 3 s args GW RX12) (hE : env G A s s.heap) (hA : ∀ q, s.heap.size ≤ q → A q) (hRf : 65 ≤ R.frames) (hRl : 1818 ≤ R.locals) {post : Int32 → St → Prop} (hret : RetI p l e R s m args below meth c Q 0 0 wM G A cX12_round post) (x1 : Int32) (z0 : St) (hB : S_M_round post x1 z0) : Xw p l e R s m args below meth c Q 0 0 wM G A z0 3 [(0, .ref (ad G 100)), (1, .int x1)] 0 [] := by
  intro H locs ls hP hD hS hl
  have hx := S.1
  have hb := S.2.1
  refine lv_aload_n hx hb dX12_round_0 rfl (lv_at hl 0 rfl) ?_
  refine lv_iconst (v := 0) hx hb dX12_round_1 (by decide) ?_
  obtain ⟨z1, ez1⟩ : ∃ z9, z9 = sI z0 100 (0 : Int32) := ⟨_, rfl⟩
  have hB := hB z1 ez1
  refine xMp_100_thrown S hE hP hD hS lk_X12_89 dX12_round_2 (fun H locs hP hD hS => ?_)
  rw [← ez1] at hP hD
  refine lv_aload_n hx hb dX12_round_5 rfl (lv_at hl 0 rfl) ?_
  refine lv_iload_n hx hb dX12_round_6 rfl (lv_at hl 1 rfl) ?_
  refine xcVi [.int x1] S hE hA hP hD hS (c_M_isWinter l G z1 H.size x1 _) hB (gw_c lk_X12_367 (gw_c wi_X12_isWinter (gw_c we_X12_X12_isWinter_X12_isWinter (gw_c wn_X12 (gw_c wc_X12_isWinter (fun _ h9 => h9)))))) hd_X12_isWinter rfl rfl (Nat.le_trans (Nat.le_of_ble_eq_true rfl) hRf) (Nat.le_trans (Nat.le_of_ble_eq_true rfl) hRl) ⟨Nat.zero_le _, Nat.zero_le _⟩ (va_recv hE.1 hP (ci := 11) (q0 := 0) rfl rfl) rfl hl.1 rfl (Nat.le_of_ble_eq_true rfl) dX12_round_7 (fun r1 z2 H locs hB hP hD hS => ?_)
  refine lv_if_eq (tgt := 20) hx hb dX12_round_10 (by decide) (fun c2 => ?_) (fun c2 => ?_)
  · have hB := hB.1 c2
    refine lv_iconst (v := -1) hx hb dX12_round_20 (by decide) ?_
    exact hret _ _ _ _ _ _ dX12_round_21 hB hP hD hS
  · have hB := hB.2 c2
    refine lv_aload_n hx hb dX12_round_13 rfl (lv_at hl 0 rfl) ?_
    refine xMg_100_guests S hE hP lk_X12_284 dX12_round_14 ?_
    refine lv_if_ne (tgt := 22) hx hb dX12_round_17 (by decide) (fun c3 => ?_) (fun c3 => ?_)
    · have hB := hB.2 c3
      refine lv_aload_n hx hb dX12_round_22 rfl (lv_at hl 0 rfl) ?_
      refine xMg_100_now S hE hP lk_X12_61 dX12_round_23 ?_
      refine lv_aload_n hx hb dX12_round_26 rfl (lv_at hl 0 rfl) ?_
      refine xMg_100_trial S hE hP lk_X12_64 dX12_round_27 ?_
      refine xcSv [.ref (ad G 113), .ref (ad G 114)] S hE hA hP hD hS (c_M_copy_r113_r114 l G z2 H.size _) hB (gw_c lk_X12_379 (gw_c wt_X12_copy (gw_c wn_X12 (gw_c wc_X12_copy (fun _ h9 => h9))))) hs_X12_copy rfl rfl (Nat.le_trans (Nat.le_of_ble_eq_true rfl) hRf) (Nat.le_trans (Nat.le_of_ble_eq_true rfl) hRl) ⟨Nat.zero_le _, Nat.zero_le _⟩ rfl hl.1 rfl (Nat.le_of_ble_eq_true rfl) dX12_round_30 (fun z3 H locs hB hP hD hS => ?_)
      refine lv_iconst (v := 1) hx hb dX12_round_33 (by decide) ?_
      refine lv_istore_n (lv' := [(2, .int (1 : Int32)), (0, .ref (ad G 100)), (1, .int x1)]) hx hb dX12_round_34 rfl hl (by decide) rfl (fun ls hl => ?_)
      obtain ⟨n4, hB⟩ := hB
      exact wl_M_round_35 S hE hA hRf hRl hret n4 x1 (1 : Int32) z3 hB _ _ _ hP hD hS (lv_sub hl [1, 2, 0] rfl)
    · have hB := hB.1 c3
      refine lv_iconst (v := -1) hx hb dX12_round_20 (by decide) ?_
      exact hret _ _ _ _ _ _ dX12_round_21 hB hP hD hS
set_option maxHeartbeats 4000000 in
set_option maxRecDepth 100000 in
theorem c_M_round (l : Launch) (G : GX) (z0 : St) (sz : Nat) (x1 : Int32) (post : Int32 → St → Prop) : MetI l wM yX12_round cX12_round 3 (some .int) ({ frames := 65, cells := 0, slots := 0, locals := 1818 }) [.ref (ad G 100), .int x1] G z0 sz (S_M_round post x1 z0) post := by
  refine Met.ofW (cc := cX12_round) (maxL := 3) (ret := (some .int)) (by decide) rfl ?_
  intro p e s m args below meth c s₁ B hml hv
  obtain ⟨rfl, hsz, hP, hD0, hE, hB⟩ := hv
  have S : CallFix p m c cX12_round 3 s _ GW RX12 := ⟨B.exec, B.bytes, hml, findClass_of_methodNamed B.named, fun w h => atoms_spec (ws := Cond.code yX12_round cX12_round 3 (some .int) :: GW) B.pre w (List.mem_cons_of_mem _ h)⟩
  have hlocks := B.notSynchronized
  subst hsz
  have hD := hD0.self (sz := s.heap.size)
  generalize hAe : va_A (wM G z0) s.heap.size = A at hD hE ⊢
  have hA : ∀ q : Nat, s.heap.size ≤ q → A q := fun q h => by rw [← hAe]; exact Or.inr h
  have hS : va_S A s.heap s.heap [] := va_S.rf
  have hl := lv_entry ([.ref (ad G 100), .int x1]) (n := 3) (Nat.le_of_ble_eq_true rfl)
  rw [lg_entry_eq]
  generalize (lg_sl ([.ref (ad G 100), .int x1]) ++ List.replicate (3 - (lg_sl ([.ref (ad G 100), .int x1])).length) Slot.unset).toArray = ls at hl ⊢
  have hl : lv_has ls 3 [(0, .ref (ad G 100)), (1, .int x1)] := hl
  refine w_M_round_0 S hE hA (Nat.le_refl _) (Nat.le_refl _) ?_ x1 z0 hB _ _ _ hP hD hS hl
  intro pc ls r σ H locs hd hp hP hD hS
  exact W.iret (v := r) B.exec B.bytes B.returns (fun t ht hW => ⟨⟨r, σ, rfl, hp, by rw [ht]; exact hP, hD⟩, hS.F ht⟩) hS.2.2 hd
def B_M_seen_48 (post : Int32 → St → Prop) (x1 : Int32) (x2 : Int32) (x3 : Int32) (x4 : Int32) (z0 : St) : Prop :=
  (((gI z0 128) = (10 : Int32) → (post (-1 : Int32) z0)) ∧ (¬ (gI z0 128) = (10 : Int32) → (vp_in ((4 : Int32) * (gI z0 128)) 40 ∧ (∀ z1 : St, z1 = sA z0 117 ((4 : Int32) * (gI z0 128)).toNatClampNeg x1 → (vp_in (((4 : Int32) * (gI z1 128)) + (1 : Int32)) 40 ∧ (∀ z2 : St, z2 = sA z1 117 (((4 : Int32) * (gI z1 128)) + (1 : Int32)).toNatClampNeg x2 → (vp_in (((4 : Int32) * (gI z2 128)) + (2 : Int32)) 40 ∧ (∀ z3 : St, z3 = sA z2 117 (((4 : Int32) * (gI z2 128)) + (2 : Int32)).toNatClampNeg x3 → (vp_in (((4 : Int32) * (gI z3 128)) + (3 : Int32)) 40 ∧ (∀ z4 : St, z4 = sA z3 117 (((4 : Int32) * (gI z3 128)) + (3 : Int32)).toNatClampNeg x4 → (∀ z5 : St, z5 = sI z4 128 ((gI z4 128) + (1 : Int32)) → (post (gI z5 128) z5))))))))))))
set_option maxHeartbeats 4000000 in
set_option maxRecDepth 100000 in
theorem w_M_seen_48 {p : Program} {l : Launch} {e : Env} {R : Room} {s : State} {m : MethodId} {args : Array Value} {below : List Frame} {meth : Method} {c : Code} {Q : State → Prop} {G : GX} {A : Nat → Prop} (S : CallFix p m c cX12_seen 5 s args GW RX12) (hE : env G A s s.heap) (hA : ∀ q, s.heap.size ≤ q → A q) (hRf : 1 ≤ R.frames) (hRl : 25 ≤ R.locals) {post : Int32 → St → Prop} (hret : RetI p l e R s m args below meth c Q 0 0 wM G A cX12_seen post) (x1 : Int32) (x2 : Int32) (x3 : Int32) (x4 : Int32) (z0 : St) (hB : B_M_seen_48 post x1 x2 x3 x4 z0) : Xw p l e R s m args below meth c Q 0 0 wM G A z0 5 [(0, .ref (ad G 100)), (1, .int x1), (2, .int x2), (3, .int x3), (4, .int x4)] 48 [] := by
  intro H locs ls hP hD hS hl
  have hx := S.1
  have hb := S.2.1
  refine lv_aload_n hx hb dX12_seen_48 rfl (lv_at hl 0 rfl) ?_
  refine xMg_100_sights S hE hP lk_X12_287 dX12_seen_49 ?_
  refine lv_bipush (v := 10) hx hb dX12_seen_52 (by decide) ?_
  refine lv_icmp_ne (tgt := 59) hx hb dX12_seen_54 (by decide) (fun c1 => ?_) (fun c1 => ?_)
  · have hB := hB.2 c1
    refine lv_aload_n hx hb dX12_seen_59 rfl (lv_at hl 0 rfl) ?_
    refine xMg_100_sight S hE hP lk_X12_80 dX12_seen_60 ?_
    refine lv_iconst (v := 4) hx hb dX12_seen_63 (by decide) ?_
    refine lv_aload_n hx hb dX12_seen_64 rfl (lv_at hl 0 rfl) ?_
    refine xMg_100_sights S hE hP lk_X12_287 dX12_seen_65 ?_
    refine lv_imul hx hb dX12_seen_68 ?_
    refine lv_iload_n hx hb dX12_seen_69 rfl (lv_at hl 1 rfl) ?_
    obtain ⟨hi, hB⟩ := hB
    obtain ⟨z1, ez1⟩ : ∃ z9, z9 = sA z0 117 ((4 : Int32) * (gI z0 128)).toNatClampNeg x1 := ⟨_, rfl⟩
    have hB := hB z1 ez1
    refine xMs_117 S hE hP hD hS _ rfl hi dX12_seen_70 (fun H locs hP hD hS => ?_)
    rw [← ez1] at hP hD
    refine lv_aload_n hx hb dX12_seen_71 rfl (lv_at hl 0 rfl) ?_
    refine xMg_100_sight S hE hP lk_X12_80 dX12_seen_72 ?_
    refine lv_iconst (v := 4) hx hb dX12_seen_75 (by decide) ?_
    refine lv_aload_n hx hb dX12_seen_76 rfl (lv_at hl 0 rfl) ?_
    refine xMg_100_sights S hE hP lk_X12_287 dX12_seen_77 ?_
    refine lv_imul hx hb dX12_seen_80 ?_
    refine lv_iconst (v := 1) hx hb dX12_seen_81 (by decide) ?_
    refine lv_iadd hx hb dX12_seen_82 ?_
    refine lv_iload_n hx hb dX12_seen_83 rfl (lv_at hl 2 rfl) ?_
    obtain ⟨hi, hB⟩ := hB
    obtain ⟨z2, ez2⟩ : ∃ z9, z9 = sA z1 117 (((4 : Int32) * (gI z1 128)) + (1 : Int32)).toNatClampNeg x2 := ⟨_, rfl⟩
    have hB := hB z2 ez2
    refine xMs_117 S hE hP hD hS _ rfl hi dX12_seen_84 (fun H locs hP hD hS => ?_)
    rw [← ez2] at hP hD
    refine lv_aload_n hx hb dX12_seen_85 rfl (lv_at hl 0 rfl) ?_
    refine xMg_100_sight S hE hP lk_X12_80 dX12_seen_86 ?_
    refine lv_iconst (v := 4) hx hb dX12_seen_89 (by decide) ?_
    refine lv_aload_n hx hb dX12_seen_90 rfl (lv_at hl 0 rfl) ?_
    refine xMg_100_sights S hE hP lk_X12_287 dX12_seen_91 ?_
    refine lv_imul hx hb dX12_seen_94 ?_
    refine lv_iconst (v := 2) hx hb dX12_seen_95 (by decide) ?_
    refine lv_iadd hx hb dX12_seen_96 ?_
    refine lv_iload_n hx hb dX12_seen_97 rfl (lv_at hl 3 rfl) ?_
    obtain ⟨hi, hB⟩ := hB
    obtain ⟨z3, ez3⟩ : ∃ z9, z9 = sA z2 117 (((4 : Int32) * (gI z2 128)) + (2 : Int32)).toNatClampNeg x3 := ⟨_, rfl⟩
    have hB := hB z3 ez3
    refine xMs_117 S hE hP hD hS _ rfl hi dX12_seen_98 (fun H locs hP hD hS => ?_)
    rw [← ez3] at hP hD
    refine lv_aload_n hx hb dX12_seen_99 rfl (lv_at hl 0 rfl) ?_
    refine xMg_100_sight S hE hP lk_X12_80 dX12_seen_100 ?_
    refine lv_iconst (v := 4) hx hb dX12_seen_103 (by decide) ?_
    refine lv_aload_n hx hb dX12_seen_104 rfl (lv_at hl 0 rfl) ?_
    refine xMg_100_sights S hE hP lk_X12_287 dX12_seen_105 ?_
    refine lv_imul hx hb dX12_seen_108 ?_
    refine lv_iconst (v := 3) hx hb dX12_seen_109 (by decide) ?_
    refine lv_iadd hx hb dX12_seen_110 ?_
    refine lv_iload hx hb dX12_seen_111 (lv_at hl 4 rfl) ?_
    obtain ⟨hi, hB⟩ := hB
    obtain ⟨z4, ez4⟩ : ∃ z9, z9 = sA z3 117 (((4 : Int32) * (gI z3 128)) + (3 : Int32)).toNatClampNeg x4 := ⟨_, rfl⟩
    have hB := hB z4 ez4
    refine xMs_117 S hE hP hD hS _ rfl hi dX12_seen_113 (fun H locs hP hD hS => ?_)
    rw [← ez4] at hP hD
    refine lv_aload_n hx hb dX12_seen_114 rfl (lv_at hl 0 rfl) ?_
    refine lv_dup hx hb dX12_seen_115 rfl ?_
    refine xMg_100_sights S hE hP lk_X12_287 dX12_seen_116 ?_
    refine lv_iconst (v := 1) hx hb dX12_seen_119 (by decide) ?_
    refine lv_iadd hx hb dX12_seen_120 ?_
    obtain ⟨z5, ez5⟩ : ∃ z9, z9 = sI z4 128 ((gI z4 128) + (1 : Int32)) := ⟨_, rfl⟩
    have hB := hB z5 ez5
    refine xMp_100_sights S hE hP hD hS lk_X12_287 dX12_seen_121 (fun H locs hP hD hS => ?_)
    rw [← ez5] at hP hD
    refine lv_aload_n hx hb dX12_seen_124 rfl (lv_at hl 0 rfl) ?_
    refine xMg_100_sights S hE hP lk_X12_287 dX12_seen_125 ?_
    exact hret _ _ _ _ _ _ dX12_seen_128 hB hP hD hS
  · have hB := hB.1 c1
    refine lv_iconst (v := -1) hx hb dX12_seen_57 (by decide) ?_
    exact hret _ _ _ _ _ _ dX12_seen_58 hB hP hD hS
def S_M_seen (post : Int32 → St → Prop) (x1 : Int32) (x2 : Int32) (x3 : Int32) (x4 : Int32) (z0 : St) : Prop :=
  (∀ z1 : St, z1 = sI z0 100 (0 : Int32) → (S_M_isGuest (fun (r1 : Int32) (z2 : St) => ((r1 = 0 → (post (-1 : Int32) z2)) ∧ (¬ r1 = 0 → (S_M_isDrink (fun (r3 : Int32) (z3 : St) => ((r3 = 0 → (post (-1 : Int32) z3)) ∧ (¬ r3 = 0 → (S_M_isIn (fun (r5 : Int32) (z4 : St) => ((r5 = 0 → (post (-1 : Int32) z4)) ∧ (¬ r5 = 0 → ((x4 = (-1 : Int32) → (B_M_seen_48 post x1 x2 x3 x4 z4)) ∧ (¬ x4 = (-1 : Int32) → (S_M_isDrink (fun (r8 : Int32) (z5 : St) => ((r8 = 0 → (post (-1 : Int32) z5)) ∧ (¬ r8 = 0 → (B_M_seen_48 post x1 x2 x3 x4 z5)))) x4 z4)))))) ((x3).toInt64) (0 : Int64) (99 : Int64) z3)))) x2 z2)))) x1 z1))
set_option maxHeartbeats 4000000 in
set_option maxRecDepth 100000 in
theorem w_M_seen_0 {p : Program} {l : Launch} {e : Env} {R : Room} {s : State} {m : MethodId} {args : Array Value} {below : List Frame} {meth : Method} {c : Code} {Q : State → Prop} {G : GX} {A : Nat → Prop} (S : CallFix p m c cX12_seen 5 s args GW RX12) (hE : env G A s s.heap) (hA : ∀ q, s.heap.size ≤ q → A q) (hRf : 1 ≤ R.frames) (hRl : 25 ≤ R.locals) {post : Int32 → St → Prop} (hret : RetI p l e R s m args below meth c Q 0 0 wM G A cX12_seen post) (x1 : Int32) (x2 : Int32) (x3 : Int32) (x4 : Int32) (z0 : St) (hB : S_M_seen post x1 x2 x3 x4 z0) : Xw p l e R s m args below meth c Q 0 0 wM G A z0 5 [(0, .ref (ad G 100)), (1, .int x1), (2, .int x2), (3, .int x3), (4, .int x4)] 0 [] := by
  intro H locs ls hP hD hS hl
  have hx := S.1
  have hb := S.2.1
  refine lv_aload_n hx hb dX12_seen_0 rfl (lv_at hl 0 rfl) ?_
  refine lv_iconst (v := 0) hx hb dX12_seen_1 (by decide) ?_
  obtain ⟨z1, ez1⟩ : ∃ z9, z9 = sI z0 100 (0 : Int32) := ⟨_, rfl⟩
  have hB := hB z1 ez1
  refine xMp_100_thrown S hE hP hD hS lk_X12_89 dX12_seen_2 (fun H locs hP hD hS => ?_)
  rw [← ez1] at hP hD
  refine lv_aload_n hx hb dX12_seen_5 rfl (lv_at hl 0 rfl) ?_
  refine lv_iload_n hx hb dX12_seen_6 rfl (lv_at hl 1 rfl) ?_
  refine xcVi [.int x1] S hE hA hP hD hS (c_M_isGuest l G z1 H.size x1 _) hB (gw_c lk_X12_322 (gw_c wi_X12_isGuest (gw_c we_X12_X12_isGuest_X12_isGuest (gw_c wn_X12 (gw_c wc_X12_isGuest (fun _ h9 => h9)))))) hd_X12_isGuest rfl rfl (Nat.le_trans (Nat.le_of_ble_eq_true rfl) hRf) (Nat.le_trans (Nat.le_of_ble_eq_true rfl) hRl) ⟨Nat.zero_le _, Nat.zero_le _⟩ (va_recv hE.1 hP (ci := 11) (q0 := 0) rfl rfl) rfl hl.1 rfl (Nat.le_of_ble_eq_true rfl) dX12_seen_7 (fun r1 z2 H locs hB hP hD hS => ?_)
  refine lv_if_eq (tgt := 57) hx hb dX12_seen_10 (by decide) (fun c2 => ?_) (fun c2 => ?_)
  · have hB := hB.1 c2
    refine lv_iconst (v := -1) hx hb dX12_seen_57 (by decide) ?_
    exact hret _ _ _ _ _ _ dX12_seen_58 hB hP hD hS
  · have hB := hB.2 c2
    refine lv_aload_n hx hb dX12_seen_13 rfl (lv_at hl 0 rfl) ?_
    refine lv_iload_n hx hb dX12_seen_14 rfl (lv_at hl 2 rfl) ?_
    refine xcVi [.int x2] S hE hA hP hD hS (c_M_isDrink l G z2 H.size x2 _) hB (gw_c lk_X12_319 (gw_c wi_X12_isDrink (gw_c we_X12_X12_isDrink_X12_isDrink (gw_c wn_X12 (gw_c wc_X12_isDrink (fun _ h9 => h9)))))) hd_X12_isDrink rfl rfl (Nat.le_trans (Nat.le_of_ble_eq_true rfl) hRf) (Nat.le_trans (Nat.le_of_ble_eq_true rfl) hRl) ⟨Nat.zero_le _, Nat.zero_le _⟩ (va_recv hE.1 hP (ci := 11) (q0 := 0) rfl rfl) rfl hl.1 rfl (Nat.le_of_ble_eq_true rfl) dX12_seen_15 (fun r3 z3 H locs hB hP hD hS => ?_)
    refine lv_if_eq (tgt := 57) hx hb dX12_seen_18 (by decide) (fun c4 => ?_) (fun c4 => ?_)
    · have hB := hB.1 c4
      refine lv_iconst (v := -1) hx hb dX12_seen_57 (by decide) ?_
      exact hret _ _ _ _ _ _ dX12_seen_58 hB hP hD hS
    · have hB := hB.2 c4
      refine lv_iload_n hx hb dX12_seen_21 rfl (lv_at hl 3 rfl) ?_
      refine lv_i2l hx hb dX12_seen_22 rfl ?_
      refine lv_lconst (v := 0) hx hb dX12_seen_23 (by decide) ?_
      refine lv_ldc2 hx hb S.2.2.2.1 (S.2.2.2.2 _ lk_X12_425) dX12_seen_24 ?_
      refine xcSi [.long ((x3).toInt64), .long (0 : Int64), .long (99 : Int64)] S hE hA hP hD hS (c_M_isIn l G z3 H.size ((x3).toInt64) (0 : Int64) (99 : Int64) _) hB (gw_c lk_X12_260 (gw_c wt_X12_isIn (gw_c wn_X12 (gw_c wc_X12_isIn (fun _ h9 => h9))))) hs_X12_isIn rfl rfl (Nat.le_trans (Nat.le_of_ble_eq_true rfl) hRf) (Nat.le_trans (Nat.le_of_ble_eq_true rfl) hRl) ⟨Nat.zero_le _, Nat.zero_le _⟩ rfl hl.1 rfl (Nat.le_of_ble_eq_true rfl) dX12_seen_27 (fun r5 z4 H locs hB hP hD hS => ?_)
      refine lv_if_eq (tgt := 57) hx hb dX12_seen_30 (by decide) (fun c6 => ?_) (fun c6 => ?_)
      · have hB := hB.1 c6
        refine lv_iconst (v := -1) hx hb dX12_seen_57 (by decide) ?_
        exact hret _ _ _ _ _ _ dX12_seen_58 hB hP hD hS
      · have hB := hB.2 c6
        refine lv_iload hx hb dX12_seen_33 (lv_at hl 4 rfl) ?_
        refine lv_iconst (v := -1) hx hb dX12_seen_35 (by decide) ?_
        refine lv_icmp_eq (tgt := 48) hx hb dX12_seen_36 (by decide) (fun c7 => ?_) (fun c7 => ?_)
        · have hB := hB.1 c7
          exact w_M_seen_48 S hE hA hRf hRl hret x1 x2 x3 x4 z4 hB _ _ _ hP hD hS (lv_sub hl [0, 1, 2, 3, 4] rfl)
        · have hB := hB.2 c7
          refine lv_aload_n hx hb dX12_seen_39 rfl (lv_at hl 0 rfl) ?_
          refine lv_iload hx hb dX12_seen_40 (lv_at hl 4 rfl) ?_
          refine xcVi [.int x4] S hE hA hP hD hS (c_M_isDrink l G z4 H.size x4 _) hB (gw_c lk_X12_319 (gw_c wi_X12_isDrink (gw_c we_X12_X12_isDrink_X12_isDrink (gw_c wn_X12 (gw_c wc_X12_isDrink (fun _ h9 => h9)))))) hd_X12_isDrink rfl rfl (Nat.le_trans (Nat.le_of_ble_eq_true rfl) hRf) (Nat.le_trans (Nat.le_of_ble_eq_true rfl) hRl) ⟨Nat.zero_le _, Nat.zero_le _⟩ (va_recv hE.1 hP (ci := 11) (q0 := 0) rfl rfl) rfl hl.1 rfl (Nat.le_of_ble_eq_true rfl) dX12_seen_42 (fun r8 z5 H locs hB hP hD hS => ?_)
          refine lv_if_eq (tgt := 57) hx hb dX12_seen_45 (by decide) (fun c9 => ?_) (fun c9 => ?_)
          · have hB := hB.1 c9
            refine lv_iconst (v := -1) hx hb dX12_seen_57 (by decide) ?_
            exact hret _ _ _ _ _ _ dX12_seen_58 hB hP hD hS
          · have hB := hB.2 c9
            exact w_M_seen_48 S hE hA hRf hRl hret x1 x2 x3 x4 z5 hB _ _ _ hP hD hS (lv_sub hl [0, 1, 2, 3, 4] rfl)
set_option maxHeartbeats 4000000 in
set_option maxRecDepth 100000 in
theorem c_M_seen (l : Launch) (G : GX) (z0 : St) (sz : Nat) (x1 : Int32) (x2 : Int32) (x3 : Int32) (x4 : Int32) (post : Int32 → St → Prop) : MetI l wM yX12_seen cX12_seen 5 (some .int) ({ frames := 1, cells := 0, slots := 0, locals := 25 }) [.ref (ad G 100), .int x1, .int x2, .int x3, .int x4] G z0 sz (S_M_seen post x1 x2 x3 x4 z0) post := by
  refine Met.ofW (cc := cX12_seen) (maxL := 5) (ret := (some .int)) (by decide) rfl ?_
  intro p e s m args below meth c s₁ B hml hv
  obtain ⟨rfl, hsz, hP, hD0, hE, hB⟩ := hv
  have S : CallFix p m c cX12_seen 5 s _ GW RX12 := ⟨B.exec, B.bytes, hml, findClass_of_methodNamed B.named, fun w h => atoms_spec (ws := Cond.code yX12_seen cX12_seen 5 (some .int) :: GW) B.pre w (List.mem_cons_of_mem _ h)⟩
  have hlocks := B.notSynchronized
  subst hsz
  have hD := hD0.self (sz := s.heap.size)
  generalize hAe : va_A (wM G z0) s.heap.size = A at hD hE ⊢
  have hA : ∀ q : Nat, s.heap.size ≤ q → A q := fun q h => by rw [← hAe]; exact Or.inr h
  have hS : va_S A s.heap s.heap [] := va_S.rf
  have hl := lv_entry ([.ref (ad G 100), .int x1, .int x2, .int x3, .int x4]) (n := 5) (Nat.le_of_ble_eq_true rfl)
  rw [lg_entry_eq]
  generalize (lg_sl ([.ref (ad G 100), .int x1, .int x2, .int x3, .int x4]) ++ List.replicate (5 - (lg_sl ([.ref (ad G 100), .int x1, .int x2, .int x3, .int x4])).length) Slot.unset).toArray = ls at hl ⊢
  have hl : lv_has ls 5 [(0, .ref (ad G 100)), (1, .int x1), (2, .int x2), (3, .int x3), (4, .int x4)] := hl
  refine w_M_seen_0 S hE hA (Nat.le_refl _) (Nat.le_refl _) ?_ x1 x2 x3 x4 z0 hB _ _ _ hP hD hS hl
  intro pc ls r σ H locs hd hp hP hD hS
  exact W.iret (v := r) B.exec B.bytes B.returns (fun t ht hW => ⟨⟨r, σ, rfl, hp, by rw [ht]; exact hP, hD⟩, hS.F ht⟩) hS.2.2 hd
def B_M_fitsOne_74 (post : Int32 → St → Prop) (ih2 : Int32 → Int32 → Int32 → St → Prop) (x1 : Int32) (x2 : Int32) (x3 : Int32) (z0 : St) : Prop :=
  (∀ v1 : Int32, v1 = x3 + (1 : Int32) → (ih2 x1 x2 v1 z0))
set_option maxHeartbeats 4000000 in
set_option maxRecDepth 100000 in
theorem w_M_fitsOne_74 {p : Program} {l : Launch} {e : Env} {R : Room} {s : State} {m : MethodId} {args : Array Value} {below : List Frame} {meth : Method} {c : Code} {Q : State → Prop} {G : GX} {A : Nat → Prop} (S : CallFix p m c cX12_fitsOne 4 s args GW RX12) (hE : env G A s s.heap) (hA : ∀ q, s.heap.size ≤ q → A q) (hRf : 62 ≤ R.frames) (hRl : 1747 ≤ R.locals) {post : Int32 → St → Prop} (hret : RetZ p l e R s m args below meth c Q 0 0 wM G A cX12_fitsOne post) {ih2 : Int32 → Int32 → Int32 → St → Prop} (h2 : ∀ (x1 : Int32) (x2 : Int32) (x3 : Int32) (z0 : St), ih2 x1 x2 x3 z0 → Xw p l e R s m args below meth c Q 0 0 wM G A z0 4 [(0, .ref (ad G 100)), (1, .int x1), (2, .int x2), (3, .int x3)] 2 []) (x1 : Int32) (x2 : Int32) (x3 : Int32) (z0 : St) (hB : B_M_fitsOne_74 post ih2 x1 x2 x3 z0) : Xw p l e R s m args below meth c Q 0 0 wM G A z0 4 [(0, .ref (ad G 100)), (1, .int x1), (2, .int x2), (3, .int x3)] 74 [] := by
  intro H locs ls hP hD hS hl
  have hx := S.1
  have hb := S.2.1
  obtain ⟨v1, ev1⟩ : ∃ y9, y9 = x3 + (1 : Int32) := ⟨_, rfl⟩
  have hB := hB v1 ev1
  refine lv_iinc (v := v1) (lv' := [(3, .int v1), (0, .ref (ad G 100)), (1, .int x1), (2, .int x2)]) hx hb dX12_fitsOne_74 hl (k := 3) rfl (by rw [ev1]; rfl) (by decide) rfl (fun ls hl => ?_)
  refine lv_goto (tgt := 2) hx hb dX12_fitsOne_77 (by decide) ?_
  exact h2 x1 x2 v1 z0 hB _ _ _ hP hD hS (lv_sub hl [1, 2, 3, 0] rfl)
def B_M_fitsOne_2 (post : Int32 → St → Prop) (ih2 : Int32 → Int32 → Int32 → St → Prop) (x1 : Int32) (x2 : Int32) (x3 : Int32) (z0 : St) : Prop :=
  (((gI z0 128) ≤ x3 → (post (1 : Int32) z0)) ∧ (¬ (gI z0 128) ≤ x3 → (vp_in ((4 : Int32) * x3) 40 ∧ (((gA z0 117 ((4 : Int32) * x3).toNatClampNeg) = x1 → (vp_in (((4 : Int32) * x3) + (2 : Int32)) 40 ∧ (vp_in (((4 : Int32) * x3) + (1 : Int32)) 40 ∧ (S_M_makesOf_r113 (fun (r3 : Int32) (z1 : St) => (vp_in (((4 : Int32) * x3) + (3 : Int32)) 40 ∧ ((r3 = (gA z1 117 (((4 : Int32) * x3) + (3 : Int32)).toNatClampNeg) → (B_M_fitsOne_74 post ih2 x1 x2 x3 z1)) ∧ (¬ r3 = (gA z1 117 (((4 : Int32) * x3) + (3 : Int32)).toNatClampNeg) → (post (0 : Int32) z1))))) (x2 / (10 : Int32)) (x2 - x2 / (10 : Int32) * (10 : Int32)) (gA z0 117 (((4 : Int32) * x3) + (2 : Int32)).toNatClampNeg) (gA z0 117 (((4 : Int32) * x3) + (1 : Int32)).toNatClampNeg) (0 : Int32) z0)))) ∧ (¬ (gA z0 117 ((4 : Int32) * x3).toNatClampNeg) = x1 → (B_M_fitsOne_74 post ih2 x1 x2 x3 z0))))))
set_option maxHeartbeats 4000000 in
set_option maxRecDepth 100000 in
theorem w_M_fitsOne_2 {p : Program} {l : Launch} {e : Env} {R : Room} {s : State} {m : MethodId} {args : Array Value} {below : List Frame} {meth : Method} {c : Code} {Q : State → Prop} {G : GX} {A : Nat → Prop} (S : CallFix p m c cX12_fitsOne 4 s args GW RX12) (hE : env G A s s.heap) (hA : ∀ q, s.heap.size ≤ q → A q) (hRf : 62 ≤ R.frames) (hRl : 1747 ≤ R.locals) {post : Int32 → St → Prop} (hret : RetZ p l e R s m args below meth c Q 0 0 wM G A cX12_fitsOne post) {ih2 : Int32 → Int32 → Int32 → St → Prop} (h2 : ∀ (x1 : Int32) (x2 : Int32) (x3 : Int32) (z0 : St), ih2 x1 x2 x3 z0 → Xw p l e R s m args below meth c Q 0 0 wM G A z0 4 [(0, .ref (ad G 100)), (1, .int x1), (2, .int x2), (3, .int x3)] 2 []) (x1 : Int32) (x2 : Int32) (x3 : Int32) (z0 : St) (hB : B_M_fitsOne_2 post ih2 x1 x2 x3 z0) : Xw p l e R s m args below meth c Q 0 0 wM G A z0 4 [(0, .ref (ad G 100)), (1, .int x1), (2, .int x2), (3, .int x3)] 2 [] := by
  intro H locs ls hP hD hS hl
  have hx := S.1
  have hb := S.2.1
  refine lv_iload_n hx hb dX12_fitsOne_2 rfl (lv_at hl 3 rfl) ?_
  refine lv_aload_n hx hb dX12_fitsOne_3 rfl (lv_at hl 0 rfl) ?_
  refine xMg_100_sights S hE hP lk_X12_287 dX12_fitsOne_4 ?_
  refine lv_icmp_ge (tgt := 80) hx hb dX12_fitsOne_7 (by decide) (fun c1 => ?_) (fun c1 => ?_)
  · have hB := hB.1 c1
    refine lv_iconst (v := 1) hx hb dX12_fitsOne_80 (by decide) ?_
    exact hret _ _ _ _ _ _ dX12_fitsOne_81 ⟨by decide, hB⟩ hP hD hS
  · have hB := hB.2 c1
    refine lv_aload_n hx hb dX12_fitsOne_10 rfl (lv_at hl 0 rfl) ?_
    refine xMg_100_sight S hE hP lk_X12_80 dX12_fitsOne_11 ?_
    refine lv_iconst (v := 4) hx hb dX12_fitsOne_14 (by decide) ?_
    refine lv_iload_n hx hb dX12_fitsOne_15 rfl (lv_at hl 3 rfl) ?_
    refine lv_imul hx hb dX12_fitsOne_16 ?_
    obtain ⟨hi, hB⟩ := hB
    refine xMl_117 S hE hP hi dX12_fitsOne_17 ?_
    refine lv_iload_n hx hb dX12_fitsOne_18 rfl (lv_at hl 1 rfl) ?_
    refine lv_icmp_ne (tgt := 74) hx hb dX12_fitsOne_19 (by decide) (fun c2 => ?_) (fun c2 => ?_)
    · have hB := hB.2 c2
      exact w_M_fitsOne_74 S hE hA hRf hRl hret h2 x1 x2 x3 z0 hB _ _ _ hP hD hS (lv_sub hl [0, 1, 2, 3] rfl)
    · have hB := hB.1 c2
      refine lv_aload_n hx hb dX12_fitsOne_22 rfl (lv_at hl 0 rfl) ?_
      refine lv_aload_n hx hb dX12_fitsOne_23 rfl (lv_at hl 0 rfl) ?_
      refine xMg_100_now S hE hP lk_X12_61 dX12_fitsOne_24 ?_
      refine lv_iload_n hx hb dX12_fitsOne_27 rfl (lv_at hl 2 rfl) ?_
      refine lv_bipush (v := 10) hx hb dX12_fitsOne_28 (by decide) ?_
      refine lv_idiv hx hb dX12_fitsOne_30 (by decide) ?_
      refine lv_iload_n hx hb dX12_fitsOne_31 rfl (lv_at hl 2 rfl) ?_
      refine lv_bipush (v := 10) hx hb dX12_fitsOne_32 (by decide) ?_
      refine lv_irem hx hb dX12_fitsOne_34 (by decide) ?_
      refine lv_aload_n hx hb dX12_fitsOne_35 rfl (lv_at hl 0 rfl) ?_
      refine xMg_100_sight S hE hP lk_X12_80 dX12_fitsOne_36 ?_
      refine lv_iconst (v := 4) hx hb dX12_fitsOne_39 (by decide) ?_
      refine lv_iload_n hx hb dX12_fitsOne_40 rfl (lv_at hl 3 rfl) ?_
      refine lv_imul hx hb dX12_fitsOne_41 ?_
      refine lv_iconst (v := 2) hx hb dX12_fitsOne_42 (by decide) ?_
      refine lv_iadd hx hb dX12_fitsOne_43 ?_
      obtain ⟨hi, hB⟩ := hB
      refine xMl_117 S hE hP hi dX12_fitsOne_44 ?_
      refine lv_aload_n hx hb dX12_fitsOne_45 rfl (lv_at hl 0 rfl) ?_
      refine xMg_100_sight S hE hP lk_X12_80 dX12_fitsOne_46 ?_
      refine lv_iconst (v := 4) hx hb dX12_fitsOne_49 (by decide) ?_
      refine lv_iload_n hx hb dX12_fitsOne_50 rfl (lv_at hl 3 rfl) ?_
      refine lv_imul hx hb dX12_fitsOne_51 ?_
      refine lv_iconst (v := 1) hx hb dX12_fitsOne_52 (by decide) ?_
      refine lv_iadd hx hb dX12_fitsOne_53 ?_
      obtain ⟨hi, hB⟩ := hB
      refine xMl_117 S hE hP hi dX12_fitsOne_54 ?_
      refine lv_iconst (v := 0) hx hb dX12_fitsOne_55 (by decide) ?_
      refine xcVi [.ref (ad G 113), .int (x2 / (10 : Int32)), .int (x2 - x2 / (10 : Int32) * (10 : Int32)), .int (gA z0 117 (((4 : Int32) * x3) + (2 : Int32)).toNatClampNeg), .int (gA z0 117 (((4 : Int32) * x3) + (1 : Int32)).toNatClampNeg), .int (0 : Int32)] S hE hA hP hD hS (c_M_makesOf_r113 l G z0 H.size (x2 / (10 : Int32)) (x2 - x2 / (10 : Int32) * (10 : Int32)) (gA z0 117 (((4 : Int32) * x3) + (2 : Int32)).toNatClampNeg) (gA z0 117 (((4 : Int32) * x3) + (1 : Int32)).toNatClampNeg) (0 : Int32) _) hB (gw_c lk_X12_316 (gw_c wi_X12_makesOf (gw_c we_X12_X12_makesOf_X12_makesOf (gw_c wn_X12 (gw_c wc_X12_makesOf (fun _ h9 => h9)))))) hd_X12_makesOf rfl rfl (Nat.le_trans (Nat.le_of_ble_eq_true rfl) hRf) (Nat.le_trans (Nat.le_of_ble_eq_true rfl) hRl) ⟨Nat.zero_le _, Nat.zero_le _⟩ (va_recv hE.1 hP (ci := 11) (q0 := 0) rfl rfl) rfl hl.1 rfl (Nat.le_of_ble_eq_true rfl) dX12_fitsOne_56 (fun r3 z1 H locs hB hP hD hS => ?_)
      refine lv_aload_n hx hb dX12_fitsOne_59 rfl (lv_at hl 0 rfl) ?_
      refine xMg_100_sight S hE hP lk_X12_80 dX12_fitsOne_60 ?_
      refine lv_iconst (v := 4) hx hb dX12_fitsOne_63 (by decide) ?_
      refine lv_iload_n hx hb dX12_fitsOne_64 rfl (lv_at hl 3 rfl) ?_
      refine lv_imul hx hb dX12_fitsOne_65 ?_
      refine lv_iconst (v := 3) hx hb dX12_fitsOne_66 (by decide) ?_
      refine lv_iadd hx hb dX12_fitsOne_67 ?_
      obtain ⟨hi, hB⟩ := hB
      refine xMl_117 S hE hP hi dX12_fitsOne_68 ?_
      refine lv_icmp_eq (tgt := 74) hx hb dX12_fitsOne_69 (by decide) (fun c4 => ?_) (fun c4 => ?_)
      · have hB := hB.1 c4
        exact w_M_fitsOne_74 S hE hA hRf hRl hret h2 x1 x2 x3 z1 hB _ _ _ hP hD hS (lv_sub hl [0, 1, 2, 3] rfl)
      · have hB := hB.2 c4
        refine lv_iconst (v := 0) hx hb dX12_fitsOne_72 (by decide) ?_
        exact hret _ _ _ _ _ _ dX12_fitsOne_73 ⟨by decide, hB⟩ hP hD hS
def L_M_fitsOne_2 (post : Int32 → St → Prop) : Nat → Int32 → Int32 → Int32 → St → Prop
  | 0 => fun _ _ _ _ => False
  | n + 1 => B_M_fitsOne_2 post (L_M_fitsOne_2 post n)
theorem wl_M_fitsOne_2 {p : Program} {l : Launch} {e : Env} {R : Room} {s : State} {m : MethodId} {args : Array Value} {below : List Frame} {meth : Method} {c : Code} {Q : State → Prop} {G : GX} {A : Nat → Prop} (S : CallFix p m c cX12_fitsOne 4 s args GW RX12) (hE : env G A s s.heap) (hA : ∀ q, s.heap.size ≤ q → A q) (hRf : 62 ≤ R.frames) (hRl : 1747 ≤ R.locals) {post : Int32 → St → Prop} (hret : RetZ p l e R s m args below meth c Q 0 0 wM G A cX12_fitsOne post) : ∀ (n : Nat) (x1 : Int32) (x2 : Int32) (x3 : Int32) (z0 : St), L_M_fitsOne_2 post n x1 x2 x3 z0 → Xw p l e R s m args below meth c Q 0 0 wM G A z0 4 [(0, .ref (ad G 100)), (1, .int x1), (2, .int x2), (3, .int x3)] 2 [] := by
  intro n
  induction n with
  | zero => intro x1 x2 x3 z0 hB; exact absurd hB id
  | succ n ih => exact fun x1 x2 x3 z0 hB => w_M_fitsOne_2 S hE hA hRf hRl hret ih x1 x2 x3 z0 hB
def S_M_fitsOne (post : Int32 → St → Prop) (x1 : Int32) (x2 : Int32) (z0 : St) : Prop :=
  (∃ n1, L_M_fitsOne_2 post n1 x1 x2 (0 : Int32) z0)
set_option maxHeartbeats 4000000 in
set_option maxRecDepth 100000 in
theorem w_M_fitsOne_0 {p : Program} {l : Launch} {e : Env} {R : Room} {s : State} {m : MethodId} {args : Array Value} {below : List Frame} {meth : Method} {c : Code} {Q : State → Prop} {G : GX} {A : Nat → Prop} (S : CallFix p m c cX12_fitsOne 4 s args GW RX12) (hE : env G A s s.heap) (hA : ∀ q, s.heap.size ≤ q → A q) (hRf : 62 ≤ R.frames) (hRl : 1747 ≤ R.locals) {post : Int32 → St → Prop} (hret : RetZ p l e R s m args below meth c Q 0 0 wM G A cX12_fitsOne post) (x1 : Int32) (x2 : Int32) (z0 : St) (hB : S_M_fitsOne post x1 x2 z0) : Xw p l e R s m args below meth c Q 0 0 wM G A z0 4 [(0, .ref (ad G 100)), (1, .int x1), (2, .int x2)] 0 [] := by
  intro H locs ls hP hD hS hl
  have hx := S.1
  have hb := S.2.1
  refine lv_iconst (v := 0) hx hb dX12_fitsOne_0 (by decide) ?_
  refine lv_istore_n (lv' := [(3, .int (0 : Int32)), (0, .ref (ad G 100)), (1, .int x1), (2, .int x2)]) hx hb dX12_fitsOne_1 rfl hl (by decide) rfl (fun ls hl => ?_)
  obtain ⟨n1, hB⟩ := hB
  exact wl_M_fitsOne_2 S hE hA hRf hRl hret n1 x1 x2 (0 : Int32) z0 hB _ _ _ hP hD hS (lv_sub hl [1, 2, 3, 0] rfl)
set_option maxHeartbeats 4000000 in
set_option maxRecDepth 100000 in
theorem c_M_fitsOne (l : Launch) (G : GX) (z0 : St) (sz : Nat) (x1 : Int32) (x2 : Int32) (post : Int32 → St → Prop) : MetI l wM yX12_fitsOne cX12_fitsOne 4 (some .boolean) ({ frames := 62, cells := 0, slots := 0, locals := 1747 }) [.ref (ad G 100), .int x1, .int x2] G z0 sz (S_M_fitsOne post x1 x2 z0) post := by
  refine Met.ofW (cc := cX12_fitsOne) (maxL := 4) (ret := (some .boolean)) (by decide) rfl ?_
  intro p e s m args below meth c s₁ B hml hv
  obtain ⟨rfl, hsz, hP, hD0, hE, hB⟩ := hv
  have S : CallFix p m c cX12_fitsOne 4 s _ GW RX12 := ⟨B.exec, B.bytes, hml, findClass_of_methodNamed B.named, fun w h => atoms_spec (ws := Cond.code yX12_fitsOne cX12_fitsOne 4 (some .boolean) :: GW) B.pre w (List.mem_cons_of_mem _ h)⟩
  have hlocks := B.notSynchronized
  subst hsz
  have hD := hD0.self (sz := s.heap.size)
  generalize hAe : va_A (wM G z0) s.heap.size = A at hD hE ⊢
  have hA : ∀ q : Nat, s.heap.size ≤ q → A q := fun q h => by rw [← hAe]; exact Or.inr h
  have hS : va_S A s.heap s.heap [] := va_S.rf
  have hl := lv_entry ([.ref (ad G 100), .int x1, .int x2]) (n := 4) (Nat.le_of_ble_eq_true rfl)
  rw [lg_entry_eq]
  generalize (lg_sl ([.ref (ad G 100), .int x1, .int x2]) ++ List.replicate (4 - (lg_sl ([.ref (ad G 100), .int x1, .int x2])).length) Slot.unset).toArray = ls at hl ⊢
  have hl : lv_has ls 4 [(0, .ref (ad G 100)), (1, .int x1), (2, .int x2)] := hl
  refine w_M_fitsOne_0 S hE hA (Nat.le_refl _) (Nat.le_refl _) ?_ x1 x2 z0 hB _ _ _ hP hD hS hl
  intro pc ls r σ H locs hd hp hP hD hS
  exact W.zret (v := r) B.exec B.bytes B.returns (xboolc r hp.1) (fun t ht hW => ⟨⟨r, σ, rfl, hp.2, by rw [ht]; exact hP, hD⟩, hS.F ht⟩) hS.2.2 hd
def B_M_fits_61 (post : Int32 → St → Prop) (ih25 : Int32 → Int32 → Int32 → Int32 → St → Prop) (x1 : Int32) (x2 : Int32) (x3 : Int32) (x4 : Int32) (z0 : St) : Prop :=
  (∀ v1 : Int32, v1 = x4 + (1 : Int32) → (ih25 x1 x2 x3 v1 z0))
set_option maxHeartbeats 4000000 in
set_option maxRecDepth 100000 in
theorem w_M_fits_61 {p : Program} {l : Launch} {e : Env} {R : Room} {s : State} {m : MethodId} {args : Array Value} {below : List Frame} {meth : Method} {c : Code} {Q : State → Prop} {G : GX} {A : Nat → Prop} (S : CallFix p m c cX12_fits 5 s args GW RX12) (hE : env G A s s.heap) (hA : ∀ q, s.heap.size ≤ q → A q) (hRf : 63 ≤ R.frames) (hRl : 1770 ≤ R.locals) {post : Int32 → St → Prop} (hret : RetI p l e R s m args below meth c Q 0 0 wM G A cX12_fits post) {ih25 : Int32 → Int32 → Int32 → Int32 → St → Prop} (h25 : ∀ (x1 : Int32) (x2 : Int32) (x3 : Int32) (x4 : Int32) (z0 : St), ih25 x1 x2 x3 x4 z0 → Xw p l e R s m args below meth c Q 0 0 wM G A z0 5 [(0, .ref (ad G 100)), (1, .int x1), (2, .int x2), (3, .int x3), (4, .int x4)] 25 []) (x1 : Int32) (x2 : Int32) (x3 : Int32) (x4 : Int32) (z0 : St) (hB : B_M_fits_61 post ih25 x1 x2 x3 x4 z0) : Xw p l e R s m args below meth c Q 0 0 wM G A z0 5 [(0, .ref (ad G 100)), (1, .int x1), (2, .int x2), (3, .int x3), (4, .int x4)] 61 [] := by
  intro H locs ls hP hD hS hl
  have hx := S.1
  have hb := S.2.1
  obtain ⟨v1, ev1⟩ : ∃ y9, y9 = x4 + (1 : Int32) := ⟨_, rfl⟩
  have hB := hB v1 ev1
  refine lv_iinc (v := v1) (lv' := [(4, .int v1), (0, .ref (ad G 100)), (1, .int x1), (2, .int x2), (3, .int x3)]) hx hb dX12_fits_61 hl (k := 4) rfl (by rw [ev1]; rfl) (by decide) rfl (fun ls hl => ?_)
  refine lv_goto (tgt := 25) hx hb dX12_fits_64 (by decide) ?_
  exact h25 x1 x2 x3 v1 z0 hB _ _ _ hP hD hS (lv_sub hl [1, 2, 3, 4, 0] rfl)
def B_M_fits_25 (post : Int32 → St → Prop) (ih25 : Int32 → Int32 → Int32 → Int32 → St → Prop) (x1 : Int32) (x2 : Int32) (x3 : Int32) (x4 : Int32) (z0 : St) : Prop :=
  ((((10 : Int32) * (gI z0 111)) ≤ x4 → ((x2 = (-1 : Int32) → (post x3 z0)) ∧ (¬ x2 = (-1 : Int32) → (post (-1 : Int32) z0)))) ∧ (¬ ((10 : Int32) * (gI z0 111)) ≤ x4 → (S_M_fitsOne (fun (r3 : Int32) (z1 : St) => ((r3 = 0 → (B_M_fits_61 post ih25 x1 x2 x3 x4 z1)) ∧ (¬ r3 = 0 → ((x3 = x2 → (post x4 z1)) ∧ (¬ x3 = x2 → (∀ v6 : Int32, v6 = x3 + (1 : Int32) → (B_M_fits_61 post ih25 x1 x2 v6 x4 z1))))))) x1 x4 z0)))
set_option maxHeartbeats 4000000 in
set_option maxRecDepth 100000 in
theorem w_M_fits_25 {p : Program} {l : Launch} {e : Env} {R : Room} {s : State} {m : MethodId} {args : Array Value} {below : List Frame} {meth : Method} {c : Code} {Q : State → Prop} {G : GX} {A : Nat → Prop} (S : CallFix p m c cX12_fits 5 s args GW RX12) (hE : env G A s s.heap) (hA : ∀ q, s.heap.size ≤ q → A q) (hRf : 63 ≤ R.frames) (hRl : 1770 ≤ R.locals) {post : Int32 → St → Prop} (hret : RetI p l e R s m args below meth c Q 0 0 wM G A cX12_fits post) {ih25 : Int32 → Int32 → Int32 → Int32 → St → Prop} (h25 : ∀ (x1 : Int32) (x2 : Int32) (x3 : Int32) (x4 : Int32) (z0 : St), ih25 x1 x2 x3 x4 z0 → Xw p l e R s m args below meth c Q 0 0 wM G A z0 5 [(0, .ref (ad G 100)), (1, .int x1), (2, .int x2), (3, .int x3), (4, .int x4)] 25 []) (x1 : Int32) (x2 : Int32) (x3 : Int32) (x4 : Int32) (z0 : St) (hB : B_M_fits_25 post ih25 x1 x2 x3 x4 z0) : Xw p l e R s m args below meth c Q 0 0 wM G A z0 5 [(0, .ref (ad G 100)), (1, .int x1), (2, .int x2), (3, .int x3), (4, .int x4)] 25 [] := by
  intro H locs ls hP hD hS hl
  have hx := S.1
  have hb := S.2.1
  refine lv_iload hx hb dX12_fits_25 (lv_at hl 4 rfl) ?_
  refine lv_bipush (v := 10) hx hb dX12_fits_27 (by decide) ?_
  refine lv_aload_n hx hb dX12_fits_29 rfl (lv_at hl 0 rfl) ?_
  refine xMg_100_drinks S hE hP lk_X12_281 dX12_fits_30 ?_
  refine lv_imul hx hb dX12_fits_33 ?_
  refine lv_icmp_ge (tgt := 67) hx hb dX12_fits_34 (by decide) (fun c1 => ?_) (fun c1 => ?_)
  · have hB := hB.1 c1
    refine lv_iload_n hx hb dX12_fits_67 rfl (lv_at hl 2 rfl) ?_
    refine lv_iconst (v := -1) hx hb dX12_fits_68 (by decide) ?_
    refine lv_icmp_ne (tgt := 76) hx hb dX12_fits_69 (by decide) (fun c2 => ?_) (fun c2 => ?_)
    · have hB := hB.2 c2
      refine lv_iconst (v := -1) hx hb dX12_fits_76 (by decide) ?_
      exact hret _ _ _ _ _ _ dX12_fits_77 hB hP hD hS
    · have hB := hB.1 c2
      refine lv_iload_n hx hb dX12_fits_72 rfl (lv_at hl 3 rfl) ?_
      refine lv_goto (tgt := 77) hx hb dX12_fits_73 (by decide) ?_
      exact hret _ _ _ _ _ _ dX12_fits_77 hB hP hD hS
  · have hB := hB.2 c1
    refine lv_aload_n hx hb dX12_fits_37 rfl (lv_at hl 0 rfl) ?_
    refine lv_iload_n hx hb dX12_fits_38 rfl (lv_at hl 1 rfl) ?_
    refine lv_iload hx hb dX12_fits_39 (lv_at hl 4 rfl) ?_
    refine xcVi [.int x1, .int x4] S hE hA hP hD hS (c_M_fitsOne l G z0 H.size x1 x4 _) hB (gw_c lk_X12_427 (gw_c wi_X12_fitsOne (gw_c we_X12_X12_fitsOne_X12_fitsOne (gw_c wn_X12 (gw_c wc_X12_fitsOne (fun _ h9 => h9)))))) hd_X12_fitsOne rfl rfl (Nat.le_trans (Nat.le_of_ble_eq_true rfl) hRf) (Nat.le_trans (Nat.le_of_ble_eq_true rfl) hRl) ⟨Nat.zero_le _, Nat.zero_le _⟩ (va_recv hE.1 hP (ci := 11) (q0 := 0) rfl rfl) rfl hl.1 rfl (Nat.le_of_ble_eq_true rfl) dX12_fits_41 (fun r3 z1 H locs hB hP hD hS => ?_)
    refine lv_if_ne (tgt := 50) hx hb dX12_fits_44 (by decide) (fun c4 => ?_) (fun c4 => ?_)
    · have hB := hB.2 c4
      refine lv_iload_n hx hb dX12_fits_50 rfl (lv_at hl 3 rfl) ?_
      refine lv_iload_n hx hb dX12_fits_51 rfl (lv_at hl 2 rfl) ?_
      refine lv_icmp_ne (tgt := 58) hx hb dX12_fits_52 (by decide) (fun c5 => ?_) (fun c5 => ?_)
      · have hB := hB.2 c5
        obtain ⟨v6, ev6⟩ : ∃ y9, y9 = x3 + (1 : Int32) := ⟨_, rfl⟩
        have hB := hB v6 ev6
        refine lv_iinc (v := v6) (lv' := [(3, .int v6), (0, .ref (ad G 100)), (1, .int x1), (2, .int x2), (4, .int x4)]) hx hb dX12_fits_58 hl (k := 3) rfl (by rw [ev6]; rfl) (by decide) rfl (fun ls hl => ?_)
        exact w_M_fits_61 S hE hA hRf hRl hret h25 x1 x2 v6 x4 z1 hB _ _ _ hP hD hS (lv_sub hl [1, 2, 3, 0, 4] rfl)
      · have hB := hB.1 c5
        refine lv_iload hx hb dX12_fits_55 (lv_at hl 4 rfl) ?_
        exact hret _ _ _ _ _ _ dX12_fits_57 hB hP hD hS
    · have hB := hB.1 c4
      refine lv_goto (tgt := 61) hx hb dX12_fits_47 (by decide) ?_
      exact w_M_fits_61 S hE hA hRf hRl hret h25 x1 x2 x3 x4 z1 hB _ _ _ hP hD hS (lv_sub hl [0, 1, 2, 3, 4] rfl)
def L_M_fits_25 (post : Int32 → St → Prop) : Nat → Int32 → Int32 → Int32 → Int32 → St → Prop
  | 0 => fun _ _ _ _ _ => False
  | n + 1 => B_M_fits_25 post (L_M_fits_25 post n)
theorem wl_M_fits_25 {p : Program} {l : Launch} {e : Env} {R : Room} {s : State} {m : MethodId} {args : Array Value} {below : List Frame} {meth : Method} {c : Code} {Q : State → Prop} {G : GX} {A : Nat → Prop} (S : CallFix p m c cX12_fits 5 s args GW RX12) (hE : env G A s s.heap) (hA : ∀ q, s.heap.size ≤ q → A q) (hRf : 63 ≤ R.frames) (hRl : 1770 ≤ R.locals) {post : Int32 → St → Prop} (hret : RetI p l e R s m args below meth c Q 0 0 wM G A cX12_fits post) : ∀ (n : Nat) (x1 : Int32) (x2 : Int32) (x3 : Int32) (x4 : Int32) (z0 : St), L_M_fits_25 post n x1 x2 x3 x4 z0 → Xw p l e R s m args below meth c Q 0 0 wM G A z0 5 [(0, .ref (ad G 100)), (1, .int x1), (2, .int x2), (3, .int x3), (4, .int x4)] 25 [] := by
  intro n
  induction n with
  | zero => intro x1 x2 x3 x4 z0 hB; exact absurd hB id
  | succ n ih => exact fun x1 x2 x3 x4 z0 hB => w_M_fits_25 S hE hA hRf hRl hret ih x1 x2 x3 x4 z0 hB
def S_M_fits (post : Int32 → St → Prop) (x1 : Int32) (x2 : Int32) (z0 : St) : Prop :=
  (∀ z1 : St, z1 = sI z0 100 (0 : Int32) → (S_M_isGuest (fun (r1 : Int32) (z2 : St) => ((r1 = 0 → (post (-1 : Int32) z2)) ∧ (¬ r1 = 0 → (((-1 : Int32) ≤ x2 → (∃ n4, L_M_fits_25 post n4 x1 x2 (0 : Int32) (0 : Int32) z2)) ∧ (¬ (-1 : Int32) ≤ x2 → (post (-1 : Int32) z2)))))) x1 z1))
set_option maxHeartbeats 4000000 in
set_option maxRecDepth 100000 in
theorem w_M_fits_0 {p : Program} {l : Launch} {e : Env} {R : Room} {s : State} {m : MethodId} {args : Array Value} {below : List Frame} {meth : Method} {c : Code} {Q : State → Prop} {G : GX} {A : Nat → Prop} (S : CallFix p m c cX12_fits 5 s args GW RX12) (hE : env G A s s.heap) (hA : ∀ q, s.heap.size ≤ q → A q) (hRf : 63 ≤ R.frames) (hRl : 1770 ≤ R.locals) {post : Int32 → St → Prop} (hret : RetI p l e R s m args below meth c Q 0 0 wM G A cX12_fits post) (x1 : Int32) (x2 : Int32) (z0 : St) (hB : S_M_fits post x1 x2 z0) : Xw p l e R s m args below meth c Q 0 0 wM G A z0 5 [(0, .ref (ad G 100)), (1, .int x1), (2, .int x2)] 0 [] := by
  intro H locs ls hP hD hS hl
  have hx := S.1
  have hb := S.2.1
  refine lv_aload_n hx hb dX12_fits_0 rfl (lv_at hl 0 rfl) ?_
  refine lv_iconst (v := 0) hx hb dX12_fits_1 (by decide) ?_
  obtain ⟨z1, ez1⟩ : ∃ z9, z9 = sI z0 100 (0 : Int32) := ⟨_, rfl⟩
  have hB := hB z1 ez1
  refine xMp_100_thrown S hE hP hD hS lk_X12_89 dX12_fits_2 (fun H locs hP hD hS => ?_)
  rw [← ez1] at hP hD
  refine lv_aload_n hx hb dX12_fits_5 rfl (lv_at hl 0 rfl) ?_
  refine lv_iload_n hx hb dX12_fits_6 rfl (lv_at hl 1 rfl) ?_
  refine xcVi [.int x1] S hE hA hP hD hS (c_M_isGuest l G z1 H.size x1 _) hB (gw_c lk_X12_322 (gw_c wi_X12_isGuest (gw_c we_X12_X12_isGuest_X12_isGuest (gw_c wn_X12 (gw_c wc_X12_isGuest (fun _ h9 => h9)))))) hd_X12_isGuest rfl rfl (Nat.le_trans (Nat.le_of_ble_eq_true rfl) hRf) (Nat.le_trans (Nat.le_of_ble_eq_true rfl) hRl) ⟨Nat.zero_le _, Nat.zero_le _⟩ (va_recv hE.1 hP (ci := 11) (q0 := 0) rfl rfl) rfl hl.1 rfl (Nat.le_of_ble_eq_true rfl) dX12_fits_7 (fun r1 z2 H locs hB hP hD hS => ?_)
  refine lv_if_eq (tgt := 18) hx hb dX12_fits_10 (by decide) (fun c2 => ?_) (fun c2 => ?_)
  · have hB := hB.1 c2
    refine lv_iconst (v := -1) hx hb dX12_fits_18 (by decide) ?_
    exact hret _ _ _ _ _ _ dX12_fits_19 hB hP hD hS
  · have hB := hB.2 c2
    refine lv_iload_n hx hb dX12_fits_13 rfl (lv_at hl 2 rfl) ?_
    refine lv_iconst (v := -1) hx hb dX12_fits_14 (by decide) ?_
    refine lv_icmp_ge (tgt := 20) hx hb dX12_fits_15 (by decide) (fun c3 => ?_) (fun c3 => ?_)
    · have hB := hB.1 c3
      refine lv_iconst (v := 0) hx hb dX12_fits_20 (by decide) ?_
      refine lv_istore_n (lv' := [(3, .int (0 : Int32)), (0, .ref (ad G 100)), (1, .int x1), (2, .int x2)]) hx hb dX12_fits_21 rfl hl (by decide) rfl (fun ls hl => ?_)
      refine lv_iconst (v := 0) hx hb dX12_fits_22 (by decide) ?_
      refine lv_istore (lv' := [(4, .int (0 : Int32)), (3, .int (0 : Int32)), (0, .ref (ad G 100)), (1, .int x1), (2, .int x2)]) hx hb dX12_fits_23 hl (by decide) rfl (fun ls hl => ?_)
      obtain ⟨n4, hB⟩ := hB
      exact wl_M_fits_25 S hE hA hRf hRl hret n4 x1 x2 (0 : Int32) (0 : Int32) z2 hB _ _ _ hP hD hS (lv_sub hl [2, 3, 4, 1, 0] rfl)
    · have hB := hB.2 c3
      refine lv_iconst (v := -1) hx hb dX12_fits_18 (by decide) ?_
      exact hret _ _ _ _ _ _ dX12_fits_19 hB hP hD hS
set_option maxHeartbeats 4000000 in
set_option maxRecDepth 100000 in
theorem c_M_fits (l : Launch) (G : GX) (z0 : St) (sz : Nat) (x1 : Int32) (x2 : Int32) (post : Int32 → St → Prop) : MetI l wM yX12_fits cX12_fits 5 (some .int) ({ frames := 63, cells := 0, slots := 0, locals := 1770 }) [.ref (ad G 100), .int x1, .int x2] G z0 sz (S_M_fits post x1 x2 z0) post := by
  refine Met.ofW (cc := cX12_fits) (maxL := 5) (ret := (some .int)) (by decide) rfl ?_
  intro p e s m args below meth c s₁ B hml hv
  obtain ⟨rfl, hsz, hP, hD0, hE, hB⟩ := hv
  have S : CallFix p m c cX12_fits 5 s _ GW RX12 := ⟨B.exec, B.bytes, hml, findClass_of_methodNamed B.named, fun w h => atoms_spec (ws := Cond.code yX12_fits cX12_fits 5 (some .int) :: GW) B.pre w (List.mem_cons_of_mem _ h)⟩
  have hlocks := B.notSynchronized
  subst hsz
  have hD := hD0.self (sz := s.heap.size)
  generalize hAe : va_A (wM G z0) s.heap.size = A at hD hE ⊢
  have hA : ∀ q : Nat, s.heap.size ≤ q → A q := fun q h => by rw [← hAe]; exact Or.inr h
  have hS : va_S A s.heap s.heap [] := va_S.rf
  have hl := lv_entry ([.ref (ad G 100), .int x1, .int x2]) (n := 5) (Nat.le_of_ble_eq_true rfl)
  rw [lg_entry_eq]
  generalize (lg_sl ([.ref (ad G 100), .int x1, .int x2]) ++ List.replicate (5 - (lg_sl ([.ref (ad G 100), .int x1, .int x2])).length) Slot.unset).toArray = ls at hl ⊢
  have hl : lv_has ls 5 [(0, .ref (ad G 100)), (1, .int x1), (2, .int x2)] := hl
  refine w_M_fits_0 S hE hA (Nat.le_refl _) (Nat.le_refl _) ?_ x1 x2 z0 hB _ _ _ hP hD hS hl
  intro pc ls r σ H locs hd hp hP hD hS
  exact W.iret (v := r) B.exec B.bytes B.returns (fun t ht hW => ⟨⟨r, σ, rfl, hp, by rw [ht]; exact hP, hD⟩, hS.F ht⟩) hS.2.2 hd
def B_M_serve_179 (post : Int32 → St → Prop) (ih36 : Int32 → Int32 → Int32 → Int32 → Int32 → St → Prop) (x1 : Int32) (x2 : Int32) (x3 : Int32) (x4 : Int32) (x5 : Int32) (z0 : St) : Prop :=
  (∀ v1 : Int32, v1 = x5 + (1 : Int32) → (ih36 x1 x2 x3 x4 v1 z0))
set_option maxHeartbeats 4000000 in
set_option maxRecDepth 100000 in
theorem w_M_serve_179 {p : Program} {l : Launch} {e : Env} {R : Room} {s : State} {m : MethodId} {args : Array Value} {below : List Frame} {meth : Method} {c : Code} {Q : State → Prop} {G : GX} {A : Nat → Prop} (S : CallFix p m c cX12_serve 9 s args GW RX12) (hE : env G A s s.heap) (hA : ∀ q, s.heap.size ≤ q → A q) (hRf : 64 ≤ R.frames) (hRl : 1794 ≤ R.locals) {post : Int32 → St → Prop} (hret : RetI p l e R s m args below meth c Q 0 0 wM G A cX12_serve post) {ih36 : Int32 → Int32 → Int32 → Int32 → Int32 → St → Prop} (h36 : ∀ (x1 : Int32) (x2 : Int32) (x3 : Int32) (x4 : Int32) (x5 : Int32) (z0 : St), ih36 x1 x2 x3 x4 x5 z0 → Xw p l e R s m args below meth c Q 0 0 wM G A z0 9 [(0, .ref (ad G 100)), (1, .int x1), (2, .int x2), (3, .int x3), (4, .int x4), (5, .int x5)] 36 []) (x1 : Int32) (x2 : Int32) (x3 : Int32) (x4 : Int32) (x5 : Int32) (z0 : St) (hB : B_M_serve_179 post ih36 x1 x2 x3 x4 x5 z0) : Xw p l e R s m args below meth c Q 0 0 wM G A z0 9 [(0, .ref (ad G 100)), (1, .int x1), (2, .int x2), (3, .int x3), (4, .int x4), (5, .int x5)] 179 [] := by
  intro H locs ls hP hD hS hl
  have hx := S.1
  have hb := S.2.1
  obtain ⟨v1, ev1⟩ : ∃ y9, y9 = x5 + (1 : Int32) := ⟨_, rfl⟩
  have hB := hB v1 ev1
  refine lv_iinc (v := v1) (lv' := [(5, .int v1), (0, .ref (ad G 100)), (1, .int x1), (2, .int x2), (3, .int x3), (4, .int x4)]) hx hb dX12_serve_179 hl (k := 5) rfl (by rw [ev1]; rfl) (by decide) rfl (fun ls hl => ?_)
  refine lv_goto (tgt := 36) hx hb dX12_serve_182 (by decide) ?_
  exact h36 x1 x2 x3 x4 v1 z0 hB _ _ _ hP hD hS (lv_sub hl [1, 2, 3, 4, 5, 0] rfl)
def B_M_serve_172 (post : Int32 → St → Prop) (ih36 : Int32 → Int32 → Int32 → Int32 → Int32 → St → Prop) (x1 : Int32) (x2 : Int32) (x5 : Int32) (x6 : Int32) (z0 : St) : Prop :=
  (B_M_serve_179 post ih36 x1 x2 x5 x6 x5 z0)
set_option maxHeartbeats 4000000 in
set_option maxRecDepth 100000 in
theorem w_M_serve_172 {p : Program} {l : Launch} {e : Env} {R : Room} {s : State} {m : MethodId} {args : Array Value} {below : List Frame} {meth : Method} {c : Code} {Q : State → Prop} {G : GX} {A : Nat → Prop} (S : CallFix p m c cX12_serve 9 s args GW RX12) (hE : env G A s s.heap) (hA : ∀ q, s.heap.size ≤ q → A q) (hRf : 64 ≤ R.frames) (hRl : 1794 ≤ R.locals) {post : Int32 → St → Prop} (hret : RetI p l e R s m args below meth c Q 0 0 wM G A cX12_serve post) {ih36 : Int32 → Int32 → Int32 → Int32 → Int32 → St → Prop} (h36 : ∀ (x1 : Int32) (x2 : Int32) (x3 : Int32) (x4 : Int32) (x5 : Int32) (z0 : St), ih36 x1 x2 x3 x4 x5 z0 → Xw p l e R s m args below meth c Q 0 0 wM G A z0 9 [(0, .ref (ad G 100)), (1, .int x1), (2, .int x2), (3, .int x3), (4, .int x4), (5, .int x5)] 36 []) (x1 : Int32) (x2 : Int32) (x5 : Int32) (x6 : Int32) (z0 : St) (hB : B_M_serve_172 post ih36 x1 x2 x5 x6 z0) : Xw p l e R s m args below meth c Q 0 0 wM G A z0 9 [(0, .ref (ad G 100)), (1, .int x1), (2, .int x2), (5, .int x5), (6, .int x6)] 172 [] := by
  intro H locs ls hP hD hS hl
  have hx := S.1
  have hb := S.2.1
  refine lv_iload hx hb dX12_serve_172 (lv_at hl 3 rfl) ?_
  refine lv_istore_n (lv' := [(3, .int x5), (0, .ref (ad G 100)), (1, .int x1), (2, .int x2), (5, .int x5), (6, .int x6)]) hx hb dX12_serve_174 rfl hl (by decide) rfl (fun ls hl => ?_)
  refine lv_iload hx hb dX12_serve_175 (lv_at hl 5 rfl) ?_
  refine lv_istore (lv' := [(4, .int x6), (3, .int x5), (0, .ref (ad G 100)), (1, .int x1), (2, .int x2), (5, .int x5), (6, .int x6)]) hx hb dX12_serve_177 hl (by decide) rfl (fun ls hl => ?_)
  exact w_M_serve_179 S hE hA hRf hRl hret h36 x1 x2 x5 x6 x5 z0 hB _ _ _ hP hD hS (lv_sub hl [2, 3, 4, 1, 0, 5] rfl)
def B_M_serve_151 (post : Int32 → St → Prop) (ih36 : Int32 → Int32 → Int32 → Int32 → Int32 → St → Prop) (ih75 : Int32 → Int32 → Int32 → Int32 → Int32 → Int32 → Int32 → St → Prop) (x1 : Int32) (x2 : Int32) (x3 : Int32) (x4 : Int32) (x5 : Int32) (x6 : Int32) (x7 : Int32) (z0 : St) : Prop :=
  (∀ v1 : Int32, v1 = x7 + (1 : Int32) → (ih75 x1 x2 x3 x4 x5 x6 v1 z0))
set_option maxHeartbeats 4000000 in
set_option maxRecDepth 100000 in
theorem w_M_serve_151 {p : Program} {l : Launch} {e : Env} {R : Room} {s : State} {m : MethodId} {args : Array Value} {below : List Frame} {meth : Method} {c : Code} {Q : State → Prop} {G : GX} {A : Nat → Prop} (S : CallFix p m c cX12_serve 9 s args GW RX12) (hE : env G A s s.heap) (hA : ∀ q, s.heap.size ≤ q → A q) (hRf : 64 ≤ R.frames) (hRl : 1794 ≤ R.locals) {post : Int32 → St → Prop} (hret : RetI p l e R s m args below meth c Q 0 0 wM G A cX12_serve post) {ih36 : Int32 → Int32 → Int32 → Int32 → Int32 → St → Prop} (h36 : ∀ (x1 : Int32) (x2 : Int32) (x3 : Int32) (x4 : Int32) (x5 : Int32) (z0 : St), ih36 x1 x2 x3 x4 x5 z0 → Xw p l e R s m args below meth c Q 0 0 wM G A z0 9 [(0, .ref (ad G 100)), (1, .int x1), (2, .int x2), (3, .int x3), (4, .int x4), (5, .int x5)] 36 []) {ih75 : Int32 → Int32 → Int32 → Int32 → Int32 → Int32 → Int32 → St → Prop} (h75 : ∀ (x1 : Int32) (x2 : Int32) (x3 : Int32) (x4 : Int32) (x5 : Int32) (x6 : Int32) (x7 : Int32) (z0 : St), ih75 x1 x2 x3 x4 x5 x6 x7 z0 → Xw p l e R s m args below meth c Q 0 0 wM G A z0 9 [(0, .ref (ad G 100)), (1, .int x1), (2, .int x2), (3, .int x3), (4, .int x4), (5, .int x5), (6, .int x6), (7, .int x7)] 75 []) (x1 : Int32) (x2 : Int32) (x3 : Int32) (x4 : Int32) (x5 : Int32) (x6 : Int32) (x7 : Int32) (z0 : St) (hB : B_M_serve_151 post ih36 ih75 x1 x2 x3 x4 x5 x6 x7 z0) : Xw p l e R s m args below meth c Q 0 0 wM G A z0 9 [(0, .ref (ad G 100)), (1, .int x1), (2, .int x2), (3, .int x3), (4, .int x4), (5, .int x5), (6, .int x6), (7, .int x7)] 151 [] := by
  intro H locs ls hP hD hS hl
  have hx := S.1
  have hb := S.2.1
  obtain ⟨v1, ev1⟩ : ∃ y9, y9 = x7 + (1 : Int32) := ⟨_, rfl⟩
  have hB := hB v1 ev1
  refine lv_iinc (v := v1) (lv' := [(7, .int v1), (0, .ref (ad G 100)), (1, .int x1), (2, .int x2), (3, .int x3), (4, .int x4), (5, .int x5), (6, .int x6)]) hx hb dX12_serve_151 hl (k := 7) rfl (by rw [ev1]; rfl) (by decide) rfl (fun ls hl => ?_)
  refine lv_goto (tgt := 75) hx hb dX12_serve_154 (by decide) ?_
  exact h75 x1 x2 x3 x4 x5 x6 v1 z0 hB _ _ _ hP hD hS (lv_sub hl [1, 2, 3, 4, 5, 6, 7, 0] rfl)
def B_M_serve_75 (post : Int32 → St → Prop) (ih36 : Int32 → Int32 → Int32 → Int32 → Int32 → St → Prop) (ih75 : Int32 → Int32 → Int32 → Int32 → Int32 → Int32 → Int32 → St → Prop) (x1 : Int32) (x2 : Int32) (x3 : Int32) (x4 : Int32) (x5 : Int32) (x6 : Int32) (x7 : Int32) (z0 : St) : Prop :=
  ((((10 : Int32) * (gI z0 111)) ≤ x7 → ((x3 = (-1 : Int32) → (B_M_serve_172 post ih36 x1 x2 x5 x6 z0)) ∧ (¬ x3 = (-1 : Int32) → ((x6 < x4 → (B_M_serve_172 post ih36 x1 x2 x5 x6 z0)) ∧ (¬ x6 < x4 → (B_M_serve_179 post ih36 x1 x2 x3 x4 x5 z0)))))) ∧ (¬ ((10 : Int32) * (gI z0 111)) ≤ x7 → (S_M_fitsOne (fun (r4 : Int32) (z1 : St) => ((r4 = 0 → (B_M_serve_151 post ih36 ih75 x1 x2 x3 x4 x5 x6 x7 z1)) ∧ (¬ r4 = 0 → (S_M_makesOf_r113 (fun (r6 : Int32) (z2 : St) => (∀ v7 : Int32, v7 = (r6 + (1 : Int32)) → (vp_in v7 7 ∧ (vp_in v7 7 ∧ (∀ z3 : St, z3 = sA z2 118 v7.toNatClampNeg ((gA z2 118 v7.toNatClampNeg) + (1 : Int32)) → (vp_in v7 7 ∧ (S_Math_max_7cf53_M (fun (r8 : Int32) (z4 : St) => (B_M_serve_151 post ih36 ih75 x1 x2 x3 x4 x5 r8 x7 z4)) x6 (gA z3 118 v7.toNatClampNeg) z3))))))) (x7 / (10 : Int32)) (x7 - x7 / (10 : Int32) * (10 : Int32)) x2 x5 (0 : Int32) z1)))) x1 x7 z0)))
set_option maxHeartbeats 4000000 in
set_option maxRecDepth 100000 in
theorem w_M_serve_75 {p : Program} {l : Launch} {e : Env} {R : Room} {s : State} {m : MethodId} {args : Array Value} {below : List Frame} {meth : Method} {c : Code} {Q : State → Prop} {G : GX} {A : Nat → Prop} (S : CallFix p m c cX12_serve 9 s args GW RX12) (hE : env G A s s.heap) (hA : ∀ q, s.heap.size ≤ q → A q) (hRf : 64 ≤ R.frames) (hRl : 1794 ≤ R.locals) {post : Int32 → St → Prop} (hret : RetI p l e R s m args below meth c Q 0 0 wM G A cX12_serve post) {ih36 : Int32 → Int32 → Int32 → Int32 → Int32 → St → Prop} (h36 : ∀ (x1 : Int32) (x2 : Int32) (x3 : Int32) (x4 : Int32) (x5 : Int32) (z0 : St), ih36 x1 x2 x3 x4 x5 z0 → Xw p l e R s m args below meth c Q 0 0 wM G A z0 9 [(0, .ref (ad G 100)), (1, .int x1), (2, .int x2), (3, .int x3), (4, .int x4), (5, .int x5)] 36 []) {ih75 : Int32 → Int32 → Int32 → Int32 → Int32 → Int32 → Int32 → St → Prop} (h75 : ∀ (x1 : Int32) (x2 : Int32) (x3 : Int32) (x4 : Int32) (x5 : Int32) (x6 : Int32) (x7 : Int32) (z0 : St), ih75 x1 x2 x3 x4 x5 x6 x7 z0 → Xw p l e R s m args below meth c Q 0 0 wM G A z0 9 [(0, .ref (ad G 100)), (1, .int x1), (2, .int x2), (3, .int x3), (4, .int x4), (5, .int x5), (6, .int x6), (7, .int x7)] 75 []) (x1 : Int32) (x2 : Int32) (x3 : Int32) (x4 : Int32) (x5 : Int32) (x6 : Int32) (x7 : Int32) (z0 : St) (hB : B_M_serve_75 post ih36 ih75 x1 x2 x3 x4 x5 x6 x7 z0) : Xw p l e R s m args below meth c Q 0 0 wM G A z0 9 [(0, .ref (ad G 100)), (1, .int x1), (2, .int x2), (3, .int x3), (4, .int x4), (5, .int x5), (6, .int x6), (7, .int x7)] 75 [] := by
  intro H locs ls hP hD hS hl
  have hx := S.1
  have hb := S.2.1
  refine lv_iload hx hb dX12_serve_75 (lv_at hl 7 rfl) ?_
  refine lv_bipush (v := 10) hx hb dX12_serve_77 (by decide) ?_
  refine lv_aload_n hx hb dX12_serve_79 rfl (lv_at hl 0 rfl) ?_
  refine xMg_100_drinks S hE hP lk_X12_281 dX12_serve_80 ?_
  refine lv_imul hx hb dX12_serve_83 ?_
  refine lv_icmp_ge (tgt := 157) hx hb dX12_serve_84 (by decide) (fun c1 => ?_) (fun c1 => ?_)
  · have hB := hB.1 c1
    refine lv_iload_n hx hb dX12_serve_157 rfl (lv_at hl 3 rfl) ?_
    refine lv_iconst (v := -1) hx hb dX12_serve_158 (by decide) ?_
    refine lv_icmp_eq (tgt := 172) hx hb dX12_serve_159 (by decide) (fun c2 => ?_) (fun c2 => ?_)
    · have hB := hB.1 c2
      exact w_M_serve_172 S hE hA hRf hRl hret h36 x1 x2 x5 x6 z0 hB _ _ _ hP hD hS (lv_sub hl [0, 1, 2, 5, 6] rfl)
    · have hB := hB.2 c2
      refine lv_iload hx hb dX12_serve_162 (lv_at hl 6 rfl) ?_
      refine lv_iload hx hb dX12_serve_164 (lv_at hl 4 rfl) ?_
      refine lv_icmp_lt (tgt := 172) hx hb dX12_serve_166 (by decide) (fun c3 => ?_) (fun c3 => ?_)
      · have hB := hB.1 c3
        exact w_M_serve_172 S hE hA hRf hRl hret h36 x1 x2 x5 x6 z0 hB _ _ _ hP hD hS (lv_sub hl [0, 1, 2, 5, 6] rfl)
      · have hB := hB.2 c3
        refine lv_goto (tgt := 179) hx hb dX12_serve_169 (by decide) ?_
        exact w_M_serve_179 S hE hA hRf hRl hret h36 x1 x2 x3 x4 x5 z0 hB _ _ _ hP hD hS (lv_sub hl [0, 1, 2, 3, 4, 5] rfl)
  · have hB := hB.2 c1
    refine lv_aload_n hx hb dX12_serve_87 rfl (lv_at hl 0 rfl) ?_
    refine lv_iload_n hx hb dX12_serve_88 rfl (lv_at hl 1 rfl) ?_
    refine lv_iload hx hb dX12_serve_89 (lv_at hl 7 rfl) ?_
    refine xcVi [.int x1, .int x7] S hE hA hP hD hS (c_M_fitsOne l G z0 H.size x1 x7 _) hB (gw_c lk_X12_427 (gw_c wi_X12_fitsOne (gw_c we_X12_X12_fitsOne_X12_fitsOne (gw_c wn_X12 (gw_c wc_X12_fitsOne (fun _ h9 => h9)))))) hd_X12_fitsOne rfl rfl (Nat.le_trans (Nat.le_of_ble_eq_true rfl) hRf) (Nat.le_trans (Nat.le_of_ble_eq_true rfl) hRl) ⟨Nat.zero_le _, Nat.zero_le _⟩ (va_recv hE.1 hP (ci := 11) (q0 := 0) rfl rfl) rfl hl.1 rfl (Nat.le_of_ble_eq_true rfl) dX12_serve_91 (fun r4 z1 H locs hB hP hD hS => ?_)
    refine lv_if_ne (tgt := 100) hx hb dX12_serve_94 (by decide) (fun c5 => ?_) (fun c5 => ?_)
    · have hB := hB.2 c5
      refine lv_aload_n hx hb dX12_serve_100 rfl (lv_at hl 0 rfl) ?_
      refine lv_aload_n hx hb dX12_serve_101 rfl (lv_at hl 0 rfl) ?_
      refine xMg_100_now S hE hP lk_X12_61 dX12_serve_102 ?_
      refine lv_iload hx hb dX12_serve_105 (lv_at hl 7 rfl) ?_
      refine lv_bipush (v := 10) hx hb dX12_serve_107 (by decide) ?_
      refine lv_idiv hx hb dX12_serve_109 (by decide) ?_
      refine lv_iload hx hb dX12_serve_110 (lv_at hl 7 rfl) ?_
      refine lv_bipush (v := 10) hx hb dX12_serve_112 (by decide) ?_
      refine lv_irem hx hb dX12_serve_114 (by decide) ?_
      refine lv_iload_n hx hb dX12_serve_115 rfl (lv_at hl 2 rfl) ?_
      refine lv_iload hx hb dX12_serve_116 (lv_at hl 5 rfl) ?_
      refine lv_iconst (v := 0) hx hb dX12_serve_118 (by decide) ?_
      refine xcVi [.ref (ad G 113), .int (x7 / (10 : Int32)), .int (x7 - x7 / (10 : Int32) * (10 : Int32)), .int x2, .int x5, .int (0 : Int32)] S hE hA hP hD hS (c_M_makesOf_r113 l G z1 H.size (x7 / (10 : Int32)) (x7 - x7 / (10 : Int32) * (10 : Int32)) x2 x5 (0 : Int32) _) hB (gw_c lk_X12_316 (gw_c wi_X12_makesOf (gw_c we_X12_X12_makesOf_X12_makesOf (gw_c wn_X12 (gw_c wc_X12_makesOf (fun _ h9 => h9)))))) hd_X12_makesOf rfl rfl (Nat.le_trans (Nat.le_of_ble_eq_true rfl) hRf) (Nat.le_trans (Nat.le_of_ble_eq_true rfl) hRl) ⟨Nat.zero_le _, Nat.zero_le _⟩ (va_recv hE.1 hP (ci := 11) (q0 := 0) rfl rfl) rfl hl.1 rfl (Nat.le_of_ble_eq_true rfl) dX12_serve_119 (fun r6 z2 H locs hB hP hD hS => ?_)
      refine lv_iconst (v := 1) hx hb dX12_serve_122 (by decide) ?_
      refine lv_iadd hx hb dX12_serve_123 ?_
      refine lv_topi (fun v7 ev7 => ?_)
      have hB := hB v7 ev7
      refine lv_istore (lv' := [(8, .int v7), (0, .ref (ad G 100)), (1, .int x1), (2, .int x2), (3, .int x3), (4, .int x4), (5, .int x5), (6, .int x6), (7, .int x7)]) hx hb dX12_serve_124 hl (by decide) rfl (fun ls hl => ?_)
      refine lv_aload_n hx hb dX12_serve_126 rfl (lv_at hl 1 rfl) ?_
      refine xMg_100_tally S hE hP lk_X12_83 dX12_serve_127 ?_
      refine lv_iload hx hb dX12_serve_130 (lv_at hl 0 rfl) ?_
      refine lv_dup2_11 hx hb dX12_serve_132 rfl rfl ?_
      obtain ⟨hi, hB⟩ := hB
      refine xMl_118 S hE hP hi dX12_serve_133 ?_
      refine lv_iconst (v := 1) hx hb dX12_serve_134 (by decide) ?_
      refine lv_iadd hx hb dX12_serve_135 ?_
      obtain ⟨hi, hB⟩ := hB
      obtain ⟨z3, ez3⟩ : ∃ z9, z9 = sA z2 118 v7.toNatClampNeg ((gA z2 118 v7.toNatClampNeg) + (1 : Int32)) := ⟨_, rfl⟩
      have hB := hB z3 ez3
      refine xMs_118 S hE hP hD hS _ rfl hi dX12_serve_136 (fun H locs hP hD hS => ?_)
      rw [← ez3] at hP hD
      refine lv_iload hx hb dX12_serve_137 (lv_at hl 7 rfl) ?_
      refine lv_aload_n hx hb dX12_serve_139 rfl (lv_at hl 1 rfl) ?_
      refine xMg_100_tally S hE hP lk_X12_83 dX12_serve_140 ?_
      refine lv_iload hx hb dX12_serve_143 (lv_at hl 0 rfl) ?_
      obtain ⟨hi, hB⟩ := hB
      refine xMl_118 S hE hP hi dX12_serve_145 ?_
      refine xcSi [.int x6, .int (gA z3 118 v7.toNatClampNeg)] S hE hA hP hD hS (c_Math_max_7cf53_M l G z3 H.size x6 (gA z3 118 v7.toNatClampNeg) _) hB (gw_c lk_X12_301 (gw_c wt_J9_max_7cf53 (gw_c wn_J9 (gw_c wc_J9_max_7cf53 (fun _ h9 => h9))))) hs_J9_max_7cf53 rfl rfl (Nat.le_trans (Nat.le_of_ble_eq_true rfl) hRf) (Nat.le_trans (Nat.le_of_ble_eq_true rfl) hRl) ⟨Nat.zero_le _, Nat.zero_le _⟩ rfl hl.1 rfl (Nat.le_of_ble_eq_true rfl) dX12_serve_146 (fun r8 z4 H locs hB hP hD hS => ?_)
      refine lv_istore (lv' := [(6, .int r8), (8, .int v7), (0, .ref (ad G 100)), (1, .int x1), (2, .int x2), (3, .int x3), (4, .int x4), (5, .int x5), (7, .int x7)]) hx hb dX12_serve_149 hl (by decide) rfl (fun ls hl => ?_)
      exact w_M_serve_151 S hE hA hRf hRl hret h36 h75 x1 x2 x3 x4 x5 r8 x7 z4 hB _ _ _ hP hD hS (lv_sub hl [2, 3, 4, 5, 6, 7, 0, 8] rfl)
    · have hB := hB.1 c5
      refine lv_goto (tgt := 151) hx hb dX12_serve_97 (by decide) ?_
      exact w_M_serve_151 S hE hA hRf hRl hret h36 h75 x1 x2 x3 x4 x5 x6 x7 z1 hB _ _ _ hP hD hS (lv_sub hl [0, 1, 2, 3, 4, 5, 6, 7] rfl)
def L_M_serve_75 (post : Int32 → St → Prop) (ih36 : Int32 → Int32 → Int32 → Int32 → Int32 → St → Prop) : Nat → Int32 → Int32 → Int32 → Int32 → Int32 → Int32 → Int32 → St → Prop
  | 0 => fun _ _ _ _ _ _ _ _ => False
  | n + 1 => B_M_serve_75 post ih36 (L_M_serve_75 post ih36 n)
theorem wl_M_serve_75 {p : Program} {l : Launch} {e : Env} {R : Room} {s : State} {m : MethodId} {args : Array Value} {below : List Frame} {meth : Method} {c : Code} {Q : State → Prop} {G : GX} {A : Nat → Prop} (S : CallFix p m c cX12_serve 9 s args GW RX12) (hE : env G A s s.heap) (hA : ∀ q, s.heap.size ≤ q → A q) (hRf : 64 ≤ R.frames) (hRl : 1794 ≤ R.locals) {post : Int32 → St → Prop} (hret : RetI p l e R s m args below meth c Q 0 0 wM G A cX12_serve post) {ih36 : Int32 → Int32 → Int32 → Int32 → Int32 → St → Prop} (h36 : ∀ (x1 : Int32) (x2 : Int32) (x3 : Int32) (x4 : Int32) (x5 : Int32) (z0 : St), ih36 x1 x2 x3 x4 x5 z0 → Xw p l e R s m args below meth c Q 0 0 wM G A z0 9 [(0, .ref (ad G 100)), (1, .int x1), (2, .int x2), (3, .int x3), (4, .int x4), (5, .int x5)] 36 []) : ∀ (n : Nat) (x1 : Int32) (x2 : Int32) (x3 : Int32) (x4 : Int32) (x5 : Int32) (x6 : Int32) (x7 : Int32) (z0 : St), L_M_serve_75 post ih36 n x1 x2 x3 x4 x5 x6 x7 z0 → Xw p l e R s m args below meth c Q 0 0 wM G A z0 9 [(0, .ref (ad G 100)), (1, .int x1), (2, .int x2), (3, .int x3), (4, .int x4), (5, .int x5), (6, .int x6), (7, .int x7)] 75 [] := by
  intro n
  induction n with
  | zero => intro x1 x2 x3 x4 x5 x6 x7 z0 hB; exact absurd hB id
  | succ n ih => exact fun x1 x2 x3 x4 x5 x6 x7 z0 hB => w_M_serve_75 S hE hA hRf hRl hret h36 ih x1 x2 x3 x4 x5 x6 x7 z0 hB
def B_M_serve_48 (post : Int32 → St → Prop) (ih36 : Int32 → Int32 → Int32 → Int32 → Int32 → St → Prop) (ih48 : Int32 → Int32 → Int32 → Int32 → Int32 → Int32 → St → Prop) (x1 : Int32) (x2 : Int32) (x3 : Int32) (x4 : Int32) (x5 : Int32) (x6 : Int32) (z0 : St) : Prop :=
  (((6 : Int32) < x6 → (∃ n2, L_M_serve_75 post ih36 n2 x1 x2 x3 x4 x5 (0 : Int32) (0 : Int32) z0)) ∧ (¬ (6 : Int32) < x6 → (vp_in x6 7 ∧ (∀ z1 : St, z1 = sA z0 118 x6.toNatClampNeg (0 : Int32) → (∀ v3 : Int32, v3 = x6 + (1 : Int32) → (ih48 x1 x2 x3 x4 x5 v3 z1))))))
set_option maxHeartbeats 4000000 in
set_option maxRecDepth 100000 in
theorem w_M_serve_48 {p : Program} {l : Launch} {e : Env} {R : Room} {s : State} {m : MethodId} {args : Array Value} {below : List Frame} {meth : Method} {c : Code} {Q : State → Prop} {G : GX} {A : Nat → Prop} (S : CallFix p m c cX12_serve 9 s args GW RX12) (hE : env G A s s.heap) (hA : ∀ q, s.heap.size ≤ q → A q) (hRf : 64 ≤ R.frames) (hRl : 1794 ≤ R.locals) {post : Int32 → St → Prop} (hret : RetI p l e R s m args below meth c Q 0 0 wM G A cX12_serve post) {ih36 : Int32 → Int32 → Int32 → Int32 → Int32 → St → Prop} (h36 : ∀ (x1 : Int32) (x2 : Int32) (x3 : Int32) (x4 : Int32) (x5 : Int32) (z0 : St), ih36 x1 x2 x3 x4 x5 z0 → Xw p l e R s m args below meth c Q 0 0 wM G A z0 9 [(0, .ref (ad G 100)), (1, .int x1), (2, .int x2), (3, .int x3), (4, .int x4), (5, .int x5)] 36 []) {ih48 : Int32 → Int32 → Int32 → Int32 → Int32 → Int32 → St → Prop} (h48 : ∀ (x1 : Int32) (x2 : Int32) (x3 : Int32) (x4 : Int32) (x5 : Int32) (x6 : Int32) (z0 : St), ih48 x1 x2 x3 x4 x5 x6 z0 → Xw p l e R s m args below meth c Q 0 0 wM G A z0 9 [(0, .ref (ad G 100)), (1, .int x1), (2, .int x2), (3, .int x3), (4, .int x4), (5, .int x5), (6, .int x6)] 48 []) (x1 : Int32) (x2 : Int32) (x3 : Int32) (x4 : Int32) (x5 : Int32) (x6 : Int32) (z0 : St) (hB : B_M_serve_48 post ih36 ih48 x1 x2 x3 x4 x5 x6 z0) : Xw p l e R s m args below meth c Q 0 0 wM G A z0 9 [(0, .ref (ad G 100)), (1, .int x1), (2, .int x2), (3, .int x3), (4, .int x4), (5, .int x5), (6, .int x6)] 48 [] := by
  intro H locs ls hP hD hS hl
  have hx := S.1
  have hb := S.2.1
  refine lv_iload hx hb dX12_serve_48 (lv_at hl 6 rfl) ?_
  refine lv_bipush (v := 6) hx hb dX12_serve_50 (by decide) ?_
  refine lv_icmp_gt (tgt := 69) hx hb dX12_serve_52 (by decide) (fun c1 => ?_) (fun c1 => ?_)
  · have hB := hB.1 c1
    refine lv_iconst (v := 0) hx hb dX12_serve_69 (by decide) ?_
    refine lv_istore (lv' := [(6, .int (0 : Int32)), (0, .ref (ad G 100)), (1, .int x1), (2, .int x2), (3, .int x3), (4, .int x4), (5, .int x5)]) hx hb dX12_serve_70 hl (by decide) rfl (fun ls hl => ?_)
    refine lv_iconst (v := 0) hx hb dX12_serve_72 (by decide) ?_
    refine lv_istore (lv' := [(7, .int (0 : Int32)), (6, .int (0 : Int32)), (0, .ref (ad G 100)), (1, .int x1), (2, .int x2), (3, .int x3), (4, .int x4), (5, .int x5)]) hx hb dX12_serve_73 hl (by decide) rfl (fun ls hl => ?_)
    obtain ⟨n2, hB⟩ := hB
    exact wl_M_serve_75 S hE hA hRf hRl hret h36 n2 x1 x2 x3 x4 x5 (0 : Int32) (0 : Int32) z0 hB _ _ _ hP hD hS (lv_sub hl [2, 3, 4, 5, 6, 7, 1, 0] rfl)
  · have hB := hB.2 c1
    refine lv_aload_n hx hb dX12_serve_55 rfl (lv_at hl 0 rfl) ?_
    refine xMg_100_tally S hE hP lk_X12_83 dX12_serve_56 ?_
    refine lv_iload hx hb dX12_serve_59 (lv_at hl 6 rfl) ?_
    refine lv_iconst (v := 0) hx hb dX12_serve_61 (by decide) ?_
    obtain ⟨hi, hB⟩ := hB
    obtain ⟨z1, ez1⟩ : ∃ z9, z9 = sA z0 118 x6.toNatClampNeg (0 : Int32) := ⟨_, rfl⟩
    have hB := hB z1 ez1
    refine xMs_118 S hE hP hD hS _ rfl hi dX12_serve_62 (fun H locs hP hD hS => ?_)
    rw [← ez1] at hP hD
    obtain ⟨v3, ev3⟩ : ∃ y9, y9 = x6 + (1 : Int32) := ⟨_, rfl⟩
    have hB := hB v3 ev3
    refine lv_iinc (v := v3) (lv' := [(6, .int v3), (0, .ref (ad G 100)), (1, .int x1), (2, .int x2), (3, .int x3), (4, .int x4), (5, .int x5)]) hx hb dX12_serve_63 hl (k := 6) rfl (by rw [ev3]; rfl) (by decide) rfl (fun ls hl => ?_)
    refine lv_goto (tgt := 48) hx hb dX12_serve_66 (by decide) ?_
    exact h48 x1 x2 x3 x4 x5 v3 z1 hB _ _ _ hP hD hS (lv_sub hl [1, 2, 3, 4, 5, 6, 0] rfl)
def L_M_serve_48 (post : Int32 → St → Prop) (ih36 : Int32 → Int32 → Int32 → Int32 → Int32 → St → Prop) : Nat → Int32 → Int32 → Int32 → Int32 → Int32 → Int32 → St → Prop
  | 0 => fun _ _ _ _ _ _ _ => False
  | n + 1 => B_M_serve_48 post ih36 (L_M_serve_48 post ih36 n)
theorem wl_M_serve_48 {p : Program} {l : Launch} {e : Env} {R : Room} {s : State} {m : MethodId} {args : Array Value} {below : List Frame} {meth : Method} {c : Code} {Q : State → Prop} {G : GX} {A : Nat → Prop} (S : CallFix p m c cX12_serve 9 s args GW RX12) (hE : env G A s s.heap) (hA : ∀ q, s.heap.size ≤ q → A q) (hRf : 64 ≤ R.frames) (hRl : 1794 ≤ R.locals) {post : Int32 → St → Prop} (hret : RetI p l e R s m args below meth c Q 0 0 wM G A cX12_serve post) {ih36 : Int32 → Int32 → Int32 → Int32 → Int32 → St → Prop} (h36 : ∀ (x1 : Int32) (x2 : Int32) (x3 : Int32) (x4 : Int32) (x5 : Int32) (z0 : St), ih36 x1 x2 x3 x4 x5 z0 → Xw p l e R s m args below meth c Q 0 0 wM G A z0 9 [(0, .ref (ad G 100)), (1, .int x1), (2, .int x2), (3, .int x3), (4, .int x4), (5, .int x5)] 36 []) : ∀ (n : Nat) (x1 : Int32) (x2 : Int32) (x3 : Int32) (x4 : Int32) (x5 : Int32) (x6 : Int32) (z0 : St), L_M_serve_48 post ih36 n x1 x2 x3 x4 x5 x6 z0 → Xw p l e R s m args below meth c Q 0 0 wM G A z0 9 [(0, .ref (ad G 100)), (1, .int x1), (2, .int x2), (3, .int x3), (4, .int x4), (5, .int x5), (6, .int x6)] 48 [] := by
  intro n
  induction n with
  | zero => intro x1 x2 x3 x4 x5 x6 z0 hB; exact absurd hB id
  | succ n ih => exact fun x1 x2 x3 x4 x5 x6 z0 hB => w_M_serve_48 S hE hA hRf hRl hret h36 ih x1 x2 x3 x4 x5 x6 z0 hB
def B_M_serve_36 (post : Int32 → St → Prop) (ih36 : Int32 → Int32 → Int32 → Int32 → Int32 → St → Prop) (x1 : Int32) (x2 : Int32) (x3 : Int32) (x4 : Int32) (x5 : Int32) (z0 : St) : Prop :=
  (((gI z0 111) ≤ x5 → (post x3 z0)) ∧ (¬ (gI z0 111) ≤ x5 → (∃ n2, L_M_serve_48 post ih36 n2 x1 x2 x3 x4 x5 (0 : Int32) z0)))
set_option maxHeartbeats 4000000 in
set_option maxRecDepth 100000 in
theorem w_M_serve_36 {p : Program} {l : Launch} {e : Env} {R : Room} {s : State} {m : MethodId} {args : Array Value} {below : List Frame} {meth : Method} {c : Code} {Q : State → Prop} {G : GX} {A : Nat → Prop} (S : CallFix p m c cX12_serve 9 s args GW RX12) (hE : env G A s s.heap) (hA : ∀ q, s.heap.size ≤ q → A q) (hRf : 64 ≤ R.frames) (hRl : 1794 ≤ R.locals) {post : Int32 → St → Prop} (hret : RetI p l e R s m args below meth c Q 0 0 wM G A cX12_serve post) {ih36 : Int32 → Int32 → Int32 → Int32 → Int32 → St → Prop} (h36 : ∀ (x1 : Int32) (x2 : Int32) (x3 : Int32) (x4 : Int32) (x5 : Int32) (z0 : St), ih36 x1 x2 x3 x4 x5 z0 → Xw p l e R s m args below meth c Q 0 0 wM G A z0 9 [(0, .ref (ad G 100)), (1, .int x1), (2, .int x2), (3, .int x3), (4, .int x4), (5, .int x5)] 36 []) (x1 : Int32) (x2 : Int32) (x3 : Int32) (x4 : Int32) (x5 : Int32) (z0 : St) (hB : B_M_serve_36 post ih36 x1 x2 x3 x4 x5 z0) : Xw p l e R s m args below meth c Q 0 0 wM G A z0 9 [(0, .ref (ad G 100)), (1, .int x1), (2, .int x2), (3, .int x3), (4, .int x4), (5, .int x5)] 36 [] := by
  intro H locs ls hP hD hS hl
  have hx := S.1
  have hb := S.2.1
  refine lv_iload hx hb dX12_serve_36 (lv_at hl 5 rfl) ?_
  refine lv_aload_n hx hb dX12_serve_38 rfl (lv_at hl 0 rfl) ?_
  refine xMg_100_drinks S hE hP lk_X12_281 dX12_serve_39 ?_
  refine lv_icmp_ge (tgt := 185) hx hb dX12_serve_42 (by decide) (fun c1 => ?_) (fun c1 => ?_)
  · have hB := hB.1 c1
    refine lv_iload_n hx hb dX12_serve_185 rfl (lv_at hl 3 rfl) ?_
    exact hret _ _ _ _ _ _ dX12_serve_186 hB hP hD hS
  · have hB := hB.2 c1
    refine lv_iconst (v := 0) hx hb dX12_serve_45 (by decide) ?_
    refine lv_istore (lv' := [(6, .int (0 : Int32)), (0, .ref (ad G 100)), (1, .int x1), (2, .int x2), (3, .int x3), (4, .int x4), (5, .int x5)]) hx hb dX12_serve_46 hl (by decide) rfl (fun ls hl => ?_)
    obtain ⟨n2, hB⟩ := hB
    exact wl_M_serve_48 S hE hA hRf hRl hret h36 n2 x1 x2 x3 x4 x5 (0 : Int32) z0 hB _ _ _ hP hD hS (lv_sub hl [1, 2, 3, 4, 5, 6, 0] rfl)
def L_M_serve_36 (post : Int32 → St → Prop) : Nat → Int32 → Int32 → Int32 → Int32 → Int32 → St → Prop
  | 0 => fun _ _ _ _ _ _ => False
  | n + 1 => B_M_serve_36 post (L_M_serve_36 post n)
theorem wl_M_serve_36 {p : Program} {l : Launch} {e : Env} {R : Room} {s : State} {m : MethodId} {args : Array Value} {below : List Frame} {meth : Method} {c : Code} {Q : State → Prop} {G : GX} {A : Nat → Prop} (S : CallFix p m c cX12_serve 9 s args GW RX12) (hE : env G A s s.heap) (hA : ∀ q, s.heap.size ≤ q → A q) (hRf : 64 ≤ R.frames) (hRl : 1794 ≤ R.locals) {post : Int32 → St → Prop} (hret : RetI p l e R s m args below meth c Q 0 0 wM G A cX12_serve post) : ∀ (n : Nat) (x1 : Int32) (x2 : Int32) (x3 : Int32) (x4 : Int32) (x5 : Int32) (z0 : St), L_M_serve_36 post n x1 x2 x3 x4 x5 z0 → Xw p l e R s m args below meth c Q 0 0 wM G A z0 9 [(0, .ref (ad G 100)), (1, .int x1), (2, .int x2), (3, .int x3), (4, .int x4), (5, .int x5)] 36 [] := by
  intro n
  induction n with
  | zero => intro x1 x2 x3 x4 x5 z0 hB; exact absurd hB id
  | succ n ih => exact fun x1 x2 x3 x4 x5 z0 hB => w_M_serve_36 S hE hA hRf hRl hret ih x1 x2 x3 x4 x5 z0 hB
def S_M_serve (post : Int32 → St → Prop) (x1 : Int32) (x2 : Int32) (z0 : St) : Prop :=
  (∀ z1 : St, z1 = sI z0 100 (0 : Int32) → (S_M_isIn (fun (r1 : Int32) (z2 : St) => ((r1 = 0 → (post (-1 : Int32) z2)) ∧ (¬ r1 = 0 → (S_M_fits (fun (r3 : Int32) (z3 : St) => ((0 < r3 → (∃ n5, L_M_serve_36 post n5 x1 x2 (-1 : Int32) (0 : Int32) (0 : Int32) z3)) ∧ (¬ 0 < r3 → (post (-1 : Int32) z3)))) x1 (-1 : Int32) z2)))) ((x2).toInt64) (0 : Int64) (99 : Int64) z1))
set_option maxHeartbeats 4000000 in
set_option maxRecDepth 100000 in
theorem w_M_serve_0 {p : Program} {l : Launch} {e : Env} {R : Room} {s : State} {m : MethodId} {args : Array Value} {below : List Frame} {meth : Method} {c : Code} {Q : State → Prop} {G : GX} {A : Nat → Prop} (S : CallFix p m c cX12_serve 9 s args GW RX12) (hE : env G A s s.heap) (hA : ∀ q, s.heap.size ≤ q → A q) (hRf : 64 ≤ R.frames) (hRl : 1794 ≤ R.locals) {post : Int32 → St → Prop} (hret : RetI p l e R s m args below meth c Q 0 0 wM G A cX12_serve post) (x1 : Int32) (x2 : Int32) (z0 : St) (hB : S_M_serve post x1 x2 z0) : Xw p l e R s m args below meth c Q 0 0 wM G A z0 9 [(0, .ref (ad G 100)), (1, .int x1), (2, .int x2)] 0 [] := by
  intro H locs ls hP hD hS hl
  have hx := S.1
  have hb := S.2.1
  refine lv_aload_n hx hb dX12_serve_0 rfl (lv_at hl 0 rfl) ?_
  refine lv_iconst (v := 0) hx hb dX12_serve_1 (by decide) ?_
  obtain ⟨z1, ez1⟩ : ∃ z9, z9 = sI z0 100 (0 : Int32) := ⟨_, rfl⟩
  have hB := hB z1 ez1
  refine xMp_100_thrown S hE hP hD hS lk_X12_89 dX12_serve_2 (fun H locs hP hD hS => ?_)
  rw [← ez1] at hP hD
  refine lv_iload_n hx hb dX12_serve_5 rfl (lv_at hl 2 rfl) ?_
  refine lv_i2l hx hb dX12_serve_6 rfl ?_
  refine lv_lconst (v := 0) hx hb dX12_serve_7 (by decide) ?_
  refine lv_ldc2 hx hb S.2.2.2.1 (S.2.2.2.2 _ lk_X12_425) dX12_serve_8 ?_
  refine xcSi [.long ((x2).toInt64), .long (0 : Int64), .long (99 : Int64)] S hE hA hP hD hS (c_M_isIn l G z1 H.size ((x2).toInt64) (0 : Int64) (99 : Int64) _) hB (gw_c lk_X12_260 (gw_c wt_X12_isIn (gw_c wn_X12 (gw_c wc_X12_isIn (fun _ h9 => h9))))) hs_X12_isIn rfl rfl (Nat.le_trans (Nat.le_of_ble_eq_true rfl) hRf) (Nat.le_trans (Nat.le_of_ble_eq_true rfl) hRl) ⟨Nat.zero_le _, Nat.zero_le _⟩ rfl hl.1 rfl (Nat.le_of_ble_eq_true rfl) dX12_serve_11 (fun r1 z2 H locs hB hP hD hS => ?_)
  refine lv_if_eq (tgt := 26) hx hb dX12_serve_14 (by decide) (fun c2 => ?_) (fun c2 => ?_)
  · have hB := hB.1 c2
    refine lv_iconst (v := -1) hx hb dX12_serve_26 (by decide) ?_
    exact hret _ _ _ _ _ _ dX12_serve_27 hB hP hD hS
  · have hB := hB.2 c2
    refine lv_aload_n hx hb dX12_serve_17 rfl (lv_at hl 0 rfl) ?_
    refine lv_iload_n hx hb dX12_serve_18 rfl (lv_at hl 1 rfl) ?_
    refine lv_iconst (v := -1) hx hb dX12_serve_19 (by decide) ?_
    refine xcVi [.int x1, .int (-1 : Int32)] S hE hA hP hD hS (c_M_fits l G z2 H.size x1 (-1 : Int32) _) hB (gw_c lk_X12_430 (gw_c wi_X12_fits (gw_c we_X12_X12_fits_X12_fits (gw_c wn_X12 (gw_c wc_X12_fits (fun _ h9 => h9)))))) hd_X12_fits rfl rfl (Nat.le_trans (Nat.le_of_ble_eq_true rfl) hRf) (Nat.le_trans (Nat.le_of_ble_eq_true rfl) hRl) ⟨Nat.zero_le _, Nat.zero_le _⟩ (va_recv hE.1 hP (ci := 11) (q0 := 0) rfl rfl) rfl hl.1 rfl (Nat.le_of_ble_eq_true rfl) dX12_serve_20 (fun r3 z3 H locs hB hP hD hS => ?_)
    refine lv_if_gt (tgt := 28) hx hb dX12_serve_23 (by decide) (fun c4 => ?_) (fun c4 => ?_)
    · have hB := hB.1 c4
      refine lv_iconst (v := -1) hx hb dX12_serve_28 (by decide) ?_
      refine lv_istore_n (lv' := [(3, .int (-1 : Int32)), (0, .ref (ad G 100)), (1, .int x1), (2, .int x2)]) hx hb dX12_serve_29 rfl hl (by decide) rfl (fun ls hl => ?_)
      refine lv_iconst (v := 0) hx hb dX12_serve_30 (by decide) ?_
      refine lv_istore (lv' := [(4, .int (0 : Int32)), (3, .int (-1 : Int32)), (0, .ref (ad G 100)), (1, .int x1), (2, .int x2)]) hx hb dX12_serve_31 hl (by decide) rfl (fun ls hl => ?_)
      refine lv_iconst (v := 0) hx hb dX12_serve_33 (by decide) ?_
      refine lv_istore (lv' := [(5, .int (0 : Int32)), (4, .int (0 : Int32)), (3, .int (-1 : Int32)), (0, .ref (ad G 100)), (1, .int x1), (2, .int x2)]) hx hb dX12_serve_34 hl (by decide) rfl (fun ls hl => ?_)
      obtain ⟨n5, hB⟩ := hB
      exact wl_M_serve_36 S hE hA hRf hRl hret n5 x1 x2 (-1 : Int32) (0 : Int32) (0 : Int32) z3 hB _ _ _ hP hD hS (lv_sub hl [3, 4, 5, 2, 1, 0] rfl)
    · have hB := hB.2 c4
      refine lv_iconst (v := -1) hx hb dX12_serve_26 (by decide) ?_
      exact hret _ _ _ _ _ _ dX12_serve_27 hB hP hD hS
set_option maxHeartbeats 4000000 in
set_option maxRecDepth 100000 in
theorem c_M_serve (l : Launch) (G : GX) (z0 : St) (sz : Nat) (x1 : Int32) (x2 : Int32) (post : Int32 → St → Prop) : MetI l wM yX12_serve cX12_serve 9 (some .int) ({ frames := 64, cells := 0, slots := 0, locals := 1794 }) [.ref (ad G 100), .int x1, .int x2] G z0 sz (S_M_serve post x1 x2 z0) post := by
  refine Met.ofW (cc := cX12_serve) (maxL := 9) (ret := (some .int)) (by decide) rfl ?_
  intro p e s m args below meth c s₁ B hml hv
  obtain ⟨rfl, hsz, hP, hD0, hE, hB⟩ := hv
  have S : CallFix p m c cX12_serve 9 s _ GW RX12 := ⟨B.exec, B.bytes, hml, findClass_of_methodNamed B.named, fun w h => atoms_spec (ws := Cond.code yX12_serve cX12_serve 9 (some .int) :: GW) B.pre w (List.mem_cons_of_mem _ h)⟩
  have hlocks := B.notSynchronized
  subst hsz
  have hD := hD0.self (sz := s.heap.size)
  generalize hAe : va_A (wM G z0) s.heap.size = A at hD hE ⊢
  have hA : ∀ q : Nat, s.heap.size ≤ q → A q := fun q h => by rw [← hAe]; exact Or.inr h
  have hS : va_S A s.heap s.heap [] := va_S.rf
  have hl := lv_entry ([.ref (ad G 100), .int x1, .int x2]) (n := 9) (Nat.le_of_ble_eq_true rfl)
  rw [lg_entry_eq]
  generalize (lg_sl ([.ref (ad G 100), .int x1, .int x2]) ++ List.replicate (9 - (lg_sl ([.ref (ad G 100), .int x1, .int x2])).length) Slot.unset).toArray = ls at hl ⊢
  have hl : lv_has ls 9 [(0, .ref (ad G 100)), (1, .int x1), (2, .int x2)] := hl
  refine w_M_serve_0 S hE hA (Nat.le_refl _) (Nat.le_refl _) ?_ x1 x2 z0 hB _ _ _ hP hD hS hl
  intro pc ls r σ H locs hd hp hP hD hS
  exact W.iret (v := r) B.exec B.bytes B.returns (fun t ht hW => ⟨⟨r, σ, rfl, hp, by rw [ht]; exact hP, hD⟩, hS.F ht⟩) hS.2.2 hd
def S_M_who (post : Int32 → St → Prop) (x1 : Int32) (x2 : Int32) (x3 : Int32) (z0 : St) : Prop :=
  (∀ z1 : St, z1 = sI z0 100 (0 : Int32) → (S_M_isDrink (fun (r1 : Int32) (z2 : St) => ((r1 = 0 → (post (-1 : Int32) z2)) ∧ (¬ r1 = 0 → (S_M_isIn (fun (r3 : Int32) (z3 : St) => ((r3 = 0 → (post (-1 : Int32) z3)) ∧ (¬ r3 = 0 → (((-1 : Int32) ≤ x3 → ((x2 ≤ (gI z3 112) → (S_M_lays (fun (z4 : St) => ((x3 = (-1 : Int32) → (post (gI z4 125) z4)) ∧ (¬ x3 = (-1 : Int32) → (post (gI z4 124) z4)))) x2 (1 : Int32) x1 x3 (0 : Int32) z3)) ∧ (¬ x2 ≤ (gI z3 112) → ((x3 = (-1 : Int32) → (post (0 : Int32) z3)) ∧ (¬ x3 = (-1 : Int32) → (post (-1 : Int32) z3)))))) ∧ (¬ (-1 : Int32) ≤ x3 → (post (-1 : Int32) z3)))))) ((x2).toInt64) (1 : Int64) (3 : Int64) z2)))) x1 z1))
set_option maxHeartbeats 4000000 in
set_option maxRecDepth 100000 in
theorem w_M_who_0 {p : Program} {l : Launch} {e : Env} {R : Room} {s : State} {m : MethodId} {args : Array Value} {below : List Frame} {meth : Method} {c : Code} {Q : State → Prop} {G : GX} {A : Nat → Prop} (S : CallFix p m c cX12_who 4 s args GW RX12) (hE : env G A s s.heap) (hA : ∀ q, s.heap.size ≤ q → A q) (hRf : 73 ≤ R.frames) (hRl : 2145 ≤ R.locals) {post : Int32 → St → Prop} (hret : RetI p l e R s m args below meth c Q 0 0 wM G A cX12_who post) (x1 : Int32) (x2 : Int32) (x3 : Int32) (z0 : St) (hB : S_M_who post x1 x2 x3 z0) : Xw p l e R s m args below meth c Q 0 0 wM G A z0 4 [(0, .ref (ad G 100)), (1, .int x1), (2, .int x2), (3, .int x3)] 0 [] := by
  intro H locs ls hP hD hS hl
  have hx := S.1
  have hb := S.2.1
  refine lv_aload_n hx hb dX12_who_0 rfl (lv_at hl 0 rfl) ?_
  refine lv_iconst (v := 0) hx hb dX12_who_1 (by decide) ?_
  obtain ⟨z1, ez1⟩ : ∃ z9, z9 = sI z0 100 (0 : Int32) := ⟨_, rfl⟩
  have hB := hB z1 ez1
  refine xMp_100_thrown S hE hP hD hS lk_X12_89 dX12_who_2 (fun H locs hP hD hS => ?_)
  rw [← ez1] at hP hD
  refine lv_aload_n hx hb dX12_who_5 rfl (lv_at hl 0 rfl) ?_
  refine lv_iload_n hx hb dX12_who_6 rfl (lv_at hl 1 rfl) ?_
  refine xcVi [.int x1] S hE hA hP hD hS (c_M_isDrink l G z1 H.size x1 _) hB (gw_c lk_X12_319 (gw_c wi_X12_isDrink (gw_c we_X12_X12_isDrink_X12_isDrink (gw_c wn_X12 (gw_c wc_X12_isDrink (fun _ h9 => h9)))))) hd_X12_isDrink rfl rfl (Nat.le_trans (Nat.le_of_ble_eq_true rfl) hRf) (Nat.le_trans (Nat.le_of_ble_eq_true rfl) hRl) ⟨Nat.zero_le _, Nat.zero_le _⟩ (va_recv hE.1 hP (ci := 11) (q0 := 0) rfl rfl) rfl hl.1 rfl (Nat.le_of_ble_eq_true rfl) dX12_who_7 (fun r1 z2 H locs hB hP hD hS => ?_)
  refine lv_if_eq (tgt := 30) hx hb dX12_who_10 (by decide) (fun c2 => ?_) (fun c2 => ?_)
  · have hB := hB.1 c2
    refine lv_iconst (v := -1) hx hb dX12_who_30 (by decide) ?_
    exact hret _ _ _ _ _ _ dX12_who_31 hB hP hD hS
  · have hB := hB.2 c2
    refine lv_iload_n hx hb dX12_who_13 rfl (lv_at hl 2 rfl) ?_
    refine lv_i2l hx hb dX12_who_14 rfl ?_
    refine lv_lconst (v := 1) hx hb dX12_who_15 (by decide) ?_
    refine lv_ldc2 hx hb S.2.2.2.1 (S.2.2.2.2 _ lk_X12_325) dX12_who_16 ?_
    refine xcSi [.long ((x2).toInt64), .long (1 : Int64), .long (3 : Int64)] S hE hA hP hD hS (c_M_isIn l G z2 H.size ((x2).toInt64) (1 : Int64) (3 : Int64) _) hB (gw_c lk_X12_260 (gw_c wt_X12_isIn (gw_c wn_X12 (gw_c wc_X12_isIn (fun _ h9 => h9))))) hs_X12_isIn rfl rfl (Nat.le_trans (Nat.le_of_ble_eq_true rfl) hRf) (Nat.le_trans (Nat.le_of_ble_eq_true rfl) hRl) ⟨Nat.zero_le _, Nat.zero_le _⟩ rfl hl.1 rfl (Nat.le_of_ble_eq_true rfl) dX12_who_19 (fun r3 z3 H locs hB hP hD hS => ?_)
    refine lv_if_eq (tgt := 30) hx hb dX12_who_22 (by decide) (fun c4 => ?_) (fun c4 => ?_)
    · have hB := hB.1 c4
      refine lv_iconst (v := -1) hx hb dX12_who_30 (by decide) ?_
      exact hret _ _ _ _ _ _ dX12_who_31 hB hP hD hS
    · have hB := hB.2 c4
      refine lv_iload_n hx hb dX12_who_25 rfl (lv_at hl 3 rfl) ?_
      refine lv_iconst (v := -1) hx hb dX12_who_26 (by decide) ?_
      refine lv_icmp_ge (tgt := 32) hx hb dX12_who_27 (by decide) (fun c5 => ?_) (fun c5 => ?_)
      · have hB := hB.1 c5
        refine lv_iload_n hx hb dX12_who_32 rfl (lv_at hl 2 rfl) ?_
        refine lv_aload_n hx hb dX12_who_33 rfl (lv_at hl 0 rfl) ?_
        refine xMg_100_guests S hE hP lk_X12_284 dX12_who_34 ?_
        refine lv_icmp_le (tgt := 51) hx hb dX12_who_37 (by decide) (fun c6 => ?_) (fun c6 => ?_)
        · have hB := hB.1 c6
          refine lv_aload_n hx hb dX12_who_51 rfl (lv_at hl 0 rfl) ?_
          refine lv_iload_n hx hb dX12_who_52 rfl (lv_at hl 2 rfl) ?_
          refine lv_iconst (v := 1) hx hb dX12_who_53 (by decide) ?_
          refine lv_iload_n hx hb dX12_who_54 rfl (lv_at hl 1 rfl) ?_
          refine lv_iload_n hx hb dX12_who_55 rfl (lv_at hl 3 rfl) ?_
          refine lv_iconst (v := 0) hx hb dX12_who_56 (by decide) ?_
          refine xcVv [.int x2, .int (1 : Int32), .int x1, .int x3, .int (0 : Int32)] S hE hA hP hD hS (c_M_lays l G z3 H.size x2 (1 : Int32) x1 x3 (0 : Int32) _) hB (gw_c lk_X12_415 (gw_c wi_X12_lays (gw_c we_X12_X12_lays_X12_lays (gw_c wn_X12 (gw_c wc_X12_lays (fun _ h9 => h9)))))) hd_X12_lays rfl rfl (Nat.le_trans (Nat.le_of_ble_eq_true rfl) hRf) (Nat.le_trans (Nat.le_of_ble_eq_true rfl) hRl) ⟨Nat.zero_le _, Nat.zero_le _⟩ (va_recv hE.1 hP (ci := 11) (q0 := 0) rfl rfl) rfl hl.1 rfl (Nat.le_of_ble_eq_true rfl) dX12_who_57 (fun z4 H locs hB hP hD hS => ?_)
          refine lv_iload_n hx hb dX12_who_60 rfl (lv_at hl 3 rfl) ?_
          refine lv_iconst (v := -1) hx hb dX12_who_61 (by decide) ?_
          refine lv_icmp_ne (tgt := 72) hx hb dX12_who_62 (by decide) (fun c7 => ?_) (fun c7 => ?_)
          · have hB := hB.2 c7
            refine lv_aload_n hx hb dX12_who_72 rfl (lv_at hl 0 rfl) ?_
            refine xMg_100_bestRow S hE hP lk_X12_392 dX12_who_73 ?_
            exact hret _ _ _ _ _ _ dX12_who_76 hB hP hD hS
          · have hB := hB.1 c7
            refine lv_aload_n hx hb dX12_who_65 rfl (lv_at hl 0 rfl) ?_
            refine xMg_100_counted S hE hP lk_X12_398 dX12_who_66 ?_
            refine lv_goto (tgt := 76) hx hb dX12_who_69 (by decide) ?_
            exact hret _ _ _ _ _ _ dX12_who_76 hB hP hD hS
        · have hB := hB.2 c6
          refine lv_iload_n hx hb dX12_who_40 rfl (lv_at hl 3 rfl) ?_
          refine lv_iconst (v := -1) hx hb dX12_who_41 (by decide) ?_
          refine lv_icmp_ne (tgt := 49) hx hb dX12_who_42 (by decide) (fun c8 => ?_) (fun c8 => ?_)
          · have hB := hB.2 c8
            refine lv_iconst (v := -1) hx hb dX12_who_49 (by decide) ?_
            exact hret _ _ _ _ _ _ dX12_who_50 hB hP hD hS
          · have hB := hB.1 c8
            refine lv_iconst (v := 0) hx hb dX12_who_45 (by decide) ?_
            refine lv_goto (tgt := 50) hx hb dX12_who_46 (by decide) ?_
            exact hret _ _ _ _ _ _ dX12_who_50 hB hP hD hS
      · have hB := hB.2 c5
        refine lv_iconst (v := -1) hx hb dX12_who_30 (by decide) ?_
        exact hret _ _ _ _ _ _ dX12_who_31 hB hP hD hS
set_option maxHeartbeats 4000000 in
set_option maxRecDepth 100000 in
theorem c_M_who (l : Launch) (G : GX) (z0 : St) (sz : Nat) (x1 : Int32) (x2 : Int32) (x3 : Int32) (post : Int32 → St → Prop) : MetI l wM yX12_who cX12_who 4 (some .int) ({ frames := 73, cells := 0, slots := 0, locals := 2145 }) [.ref (ad G 100), .int x1, .int x2, .int x3] G z0 sz (S_M_who post x1 x2 x3 z0) post := by
  refine Met.ofW (cc := cX12_who) (maxL := 4) (ret := (some .int)) (by decide) rfl ?_
  intro p e s m args below meth c s₁ B hml hv
  obtain ⟨rfl, hsz, hP, hD0, hE, hB⟩ := hv
  have S : CallFix p m c cX12_who 4 s _ GW RX12 := ⟨B.exec, B.bytes, hml, findClass_of_methodNamed B.named, fun w h => atoms_spec (ws := Cond.code yX12_who cX12_who 4 (some .int) :: GW) B.pre w (List.mem_cons_of_mem _ h)⟩
  have hlocks := B.notSynchronized
  subst hsz
  have hD := hD0.self (sz := s.heap.size)
  generalize hAe : va_A (wM G z0) s.heap.size = A at hD hE ⊢
  have hA : ∀ q : Nat, s.heap.size ≤ q → A q := fun q h => by rw [← hAe]; exact Or.inr h
  have hS : va_S A s.heap s.heap [] := va_S.rf
  have hl := lv_entry ([.ref (ad G 100), .int x1, .int x2, .int x3]) (n := 4) (Nat.le_of_ble_eq_true rfl)
  rw [lg_entry_eq]
  generalize (lg_sl ([.ref (ad G 100), .int x1, .int x2, .int x3]) ++ List.replicate (4 - (lg_sl ([.ref (ad G 100), .int x1, .int x2, .int x3])).length) Slot.unset).toArray = ls at hl ⊢
  have hl : lv_has ls 4 [(0, .ref (ad G 100)), (1, .int x1), (2, .int x2), (3, .int x3)] := hl
  refine w_M_who_0 S hE hA (Nat.le_refl _) (Nat.le_refl _) ?_ x1 x2 x3 z0 hB _ _ _ hP hD hS hl
  intro pc ls r σ H locs hd hp hP hD hS
  exact W.iret (v := r) B.exec B.bytes B.returns (fun t ht hW => ⟨⟨r, σ, rfl, hp, by rw [ht]; exact hP, hD⟩, hS.F ht⟩) hS.2.2 hd
def S_M_isGame (post : Int32 → St → Prop) (x1 : Int32) (x2 : Int32) (z0 : St) : Prop :=
  (S_M_isGuest (fun (r1 : Int32) (z1 : St) => ((r1 = 0 → (post (0 : Int32) z1)) ∧ (¬ r1 = 0 → (S_M_isGuest (fun (r3 : Int32) (z2 : St) => ((r3 = 0 → (post (0 : Int32) z2)) ∧ (¬ r3 = 0 → ((x1 = x2 → (post (0 : Int32) z2)) ∧ (¬ x1 = x2 → (post (1 : Int32) z2)))))) x2 z1)))) x1 z0)
set_option maxHeartbeats 4000000 in
set_option maxRecDepth 100000 in
theorem w_M_isGame_0 {p : Program} {l : Launch} {e : Env} {R : Room} {s : State} {m : MethodId} {args : Array Value} {below : List Frame} {meth : Method} {c : Code} {Q : State → Prop} {G : GX} {A : Nat → Prop} (S : CallFix p m c cX12_isGame 3 s args GW RX12) (hE : env G A s s.heap) (hA : ∀ q, s.heap.size ≤ q → A q) (hRf : 1 ≤ R.frames) (hRl : 21 ≤ R.locals) {post : Int32 → St → Prop} (hret : RetZ p l e R s m args below meth c Q 0 0 wM G A cX12_isGame post) (x1 : Int32) (x2 : Int32) (z0 : St) (hB : S_M_isGame post x1 x2 z0) : Xw p l e R s m args below meth c Q 0 0 wM G A z0 3 [(0, .ref (ad G 100)), (1, .int x1), (2, .int x2)] 0 [] := by
  intro H locs ls hP hD hS hl
  have hx := S.1
  have hb := S.2.1
  refine lv_aload_n hx hb dX12_isGame_0 rfl (lv_at hl 0 rfl) ?_
  refine lv_iload_n hx hb dX12_isGame_1 rfl (lv_at hl 1 rfl) ?_
  refine xcVi [.int x1] S hE hA hP hD hS (c_M_isGuest l G z0 H.size x1 _) hB (gw_c lk_X12_322 (gw_c wi_X12_isGuest (gw_c we_X12_X12_isGuest_X12_isGuest (gw_c wn_X12 (gw_c wc_X12_isGuest (fun _ h9 => h9)))))) hd_X12_isGuest rfl rfl (Nat.le_trans (Nat.le_of_ble_eq_true rfl) hRf) (Nat.le_trans (Nat.le_of_ble_eq_true rfl) hRl) ⟨Nat.zero_le _, Nat.zero_le _⟩ (va_recv hE.1 hP (ci := 11) (q0 := 0) rfl rfl) rfl hl.1 rfl (Nat.le_of_ble_eq_true rfl) dX12_isGame_2 (fun r1 z1 H locs hB hP hD hS => ?_)
  refine lv_if_eq (tgt := 25) hx hb dX12_isGame_5 (by decide) (fun c2 => ?_) (fun c2 => ?_)
  · have hB := hB.1 c2
    refine lv_iconst (v := 0) hx hb dX12_isGame_25 (by decide) ?_
    exact hret _ _ _ _ _ _ dX12_isGame_26 ⟨by decide, hB⟩ hP hD hS
  · have hB := hB.2 c2
    refine lv_aload_n hx hb dX12_isGame_8 rfl (lv_at hl 0 rfl) ?_
    refine lv_iload_n hx hb dX12_isGame_9 rfl (lv_at hl 2 rfl) ?_
    refine xcVi [.int x2] S hE hA hP hD hS (c_M_isGuest l G z1 H.size x2 _) hB (gw_c lk_X12_322 (gw_c wi_X12_isGuest (gw_c we_X12_X12_isGuest_X12_isGuest (gw_c wn_X12 (gw_c wc_X12_isGuest (fun _ h9 => h9)))))) hd_X12_isGuest rfl rfl (Nat.le_trans (Nat.le_of_ble_eq_true rfl) hRf) (Nat.le_trans (Nat.le_of_ble_eq_true rfl) hRl) ⟨Nat.zero_le _, Nat.zero_le _⟩ (va_recv hE.1 hP (ci := 11) (q0 := 0) rfl rfl) rfl hl.1 rfl (Nat.le_of_ble_eq_true rfl) dX12_isGame_10 (fun r3 z2 H locs hB hP hD hS => ?_)
    refine lv_if_eq (tgt := 25) hx hb dX12_isGame_13 (by decide) (fun c4 => ?_) (fun c4 => ?_)
    · have hB := hB.1 c4
      refine lv_iconst (v := 0) hx hb dX12_isGame_25 (by decide) ?_
      exact hret _ _ _ _ _ _ dX12_isGame_26 ⟨by decide, hB⟩ hP hD hS
    · have hB := hB.2 c4
      refine lv_iload_n hx hb dX12_isGame_16 rfl (lv_at hl 1 rfl) ?_
      refine lv_iload_n hx hb dX12_isGame_17 rfl (lv_at hl 2 rfl) ?_
      refine lv_icmp_eq (tgt := 25) hx hb dX12_isGame_18 (by decide) (fun c5 => ?_) (fun c5 => ?_)
      · have hB := hB.1 c5
        refine lv_iconst (v := 0) hx hb dX12_isGame_25 (by decide) ?_
        exact hret _ _ _ _ _ _ dX12_isGame_26 ⟨by decide, hB⟩ hP hD hS
      · have hB := hB.2 c5
        refine lv_iconst (v := 1) hx hb dX12_isGame_21 (by decide) ?_
        refine lv_goto (tgt := 26) hx hb dX12_isGame_22 (by decide) ?_
        exact hret _ _ _ _ _ _ dX12_isGame_26 ⟨by decide, hB⟩ hP hD hS
set_option maxHeartbeats 4000000 in
set_option maxRecDepth 100000 in
theorem c_M_isGame (l : Launch) (G : GX) (z0 : St) (sz : Nat) (x1 : Int32) (x2 : Int32) (post : Int32 → St → Prop) : MetI l wM yX12_isGame cX12_isGame 3 (some .boolean) ({ frames := 1, cells := 0, slots := 0, locals := 21 }) [.ref (ad G 100), .int x1, .int x2] G z0 sz (S_M_isGame post x1 x2 z0) post := by
  refine Met.ofW (cc := cX12_isGame) (maxL := 3) (ret := (some .boolean)) (by decide) rfl ?_
  intro p e s m args below meth c s₁ B hml hv
  obtain ⟨rfl, hsz, hP, hD0, hE, hB⟩ := hv
  have S : CallFix p m c cX12_isGame 3 s _ GW RX12 := ⟨B.exec, B.bytes, hml, findClass_of_methodNamed B.named, fun w h => atoms_spec (ws := Cond.code yX12_isGame cX12_isGame 3 (some .boolean) :: GW) B.pre w (List.mem_cons_of_mem _ h)⟩
  have hlocks := B.notSynchronized
  subst hsz
  have hD := hD0.self (sz := s.heap.size)
  generalize hAe : va_A (wM G z0) s.heap.size = A at hD hE ⊢
  have hA : ∀ q : Nat, s.heap.size ≤ q → A q := fun q h => by rw [← hAe]; exact Or.inr h
  have hS : va_S A s.heap s.heap [] := va_S.rf
  have hl := lv_entry ([.ref (ad G 100), .int x1, .int x2]) (n := 3) (Nat.le_of_ble_eq_true rfl)
  rw [lg_entry_eq]
  generalize (lg_sl ([.ref (ad G 100), .int x1, .int x2]) ++ List.replicate (3 - (lg_sl ([.ref (ad G 100), .int x1, .int x2])).length) Slot.unset).toArray = ls at hl ⊢
  have hl : lv_has ls 3 [(0, .ref (ad G 100)), (1, .int x1), (2, .int x2)] := hl
  refine w_M_isGame_0 S hE hA (Nat.le_refl _) (Nat.le_refl _) ?_ x1 x2 z0 hB _ _ _ hP hD hS hl
  intro pc ls r σ H locs hd hp hP hD hS
  exact W.zret (v := r) B.exec B.bytes B.returns (xboolc r hp.1) (fun t ht hW => ⟨⟨r, σ, rfl, hp.2, by rw [ht]; exact hP, hD⟩, hS.F ht⟩) hS.2.2 hd
def S_M_gameOf (post : Int32 → St → Prop) (x1 : Int32) (x2 : Int32) (x3 : Int32) (z0 : St) : Prop :=
  (vp_in ((3 : Int32) * x1) 18 ∧ (S_M_joyOf (fun (r1 : Int32) (z1 : St) => (vp_in ((18 : Int32) + x2) 269 ∧ (post (r1 - ((gA z1 113 ((18 : Int32) + x2).toNatClampNeg) / (3 : Int32))) z1))) (gA z0 109 ((3 : Int32) * x1).toNatClampNeg) x3 z0))
set_option maxHeartbeats 4000000 in
set_option maxRecDepth 100000 in
theorem w_M_gameOf_0 {p : Program} {l : Launch} {e : Env} {R : Room} {s : State} {m : MethodId} {args : Array Value} {below : List Frame} {meth : Method} {c : Code} {Q : State → Prop} {G : GX} {A : Nat → Prop} (S : CallFix p m c cX12_gameOf 4 s args GW RX12) (hE : env G A s s.heap) (hA : ∀ q, s.heap.size ≤ q → A q) (hRf : 2 ≤ R.frames) (hRl : 43 ≤ R.locals) {post : Int32 → St → Prop} (hret : RetI p l e R s m args below meth c Q 0 0 wM G A cX12_gameOf post) (x1 : Int32) (x2 : Int32) (x3 : Int32) (z0 : St) (hB : S_M_gameOf post x1 x2 x3 z0) : Xw p l e R s m args below meth c Q 0 0 wM G A z0 4 [(0, .ref (ad G 100)), (1, .int x1), (2, .int x2), (3, .int x3)] 0 [] := by
  intro H locs ls hP hD hS hl
  have hx := S.1
  have hb := S.2.1
  refine lv_aload_n hx hb dX12_gameOf_0 rfl (lv_at hl 0 rfl) ?_
  refine lv_aload_n hx hb dX12_gameOf_1 rfl (lv_at hl 0 rfl) ?_
  refine xMg_100_guest S hE hP lk_X12_49 dX12_gameOf_2 ?_
  refine lv_iconst (v := 3) hx hb dX12_gameOf_5 (by decide) ?_
  refine lv_iload_n hx hb dX12_gameOf_6 rfl (lv_at hl 1 rfl) ?_
  refine lv_imul hx hb dX12_gameOf_7 ?_
  obtain ⟨hi, hB⟩ := hB
  refine xMl_109 S hE hP hi dX12_gameOf_8 ?_
  refine lv_iload_n hx hb dX12_gameOf_9 rfl (lv_at hl 3 rfl) ?_
  refine xcVi [.int (gA z0 109 ((3 : Int32) * x1).toNatClampNeg), .int x3] S hE hA hP hD hS (c_M_joyOf l G z0 H.size (gA z0 109 ((3 : Int32) * x1).toNatClampNeg) x3 _) hB (gw_c lk_X12_306 (gw_c wi_X12_joyOf (gw_c we_X12_X12_joyOf_X12_joyOf (gw_c wn_X12 (gw_c wc_X12_joyOf (fun _ h9 => h9)))))) hd_X12_joyOf rfl rfl (Nat.le_trans (Nat.le_of_ble_eq_true rfl) hRf) (Nat.le_trans (Nat.le_of_ble_eq_true rfl) hRl) ⟨Nat.zero_le _, Nat.zero_le _⟩ (va_recv hE.1 hP (ci := 11) (q0 := 0) rfl rfl) rfl hl.1 rfl (Nat.le_of_ble_eq_true rfl) dX12_gameOf_10 (fun r1 z1 H locs hB hP hD hS => ?_)
  refine lv_aload_n hx hb dX12_gameOf_13 rfl (lv_at hl 0 rfl) ?_
  refine xMg_100_now S hE hP lk_X12_61 dX12_gameOf_14 ?_
  refine lv_bipush (v := 18) hx hb dX12_gameOf_17 (by decide) ?_
  refine lv_iload_n hx hb dX12_gameOf_19 rfl (lv_at hl 2 rfl) ?_
  refine lv_iadd hx hb dX12_gameOf_20 ?_
  obtain ⟨hi, hB⟩ := hB
  refine xMl_113 S hE hP hi dX12_gameOf_21 ?_
  refine lv_iconst (v := 3) hx hb dX12_gameOf_22 (by decide) ?_
  refine lv_idiv hx hb dX12_gameOf_23 (by decide) ?_
  refine lv_isub hx hb dX12_gameOf_24 ?_
  exact hret _ _ _ _ _ _ dX12_gameOf_25 hB hP hD hS
set_option maxHeartbeats 4000000 in
set_option maxRecDepth 100000 in
theorem c_M_gameOf (l : Launch) (G : GX) (z0 : St) (sz : Nat) (x1 : Int32) (x2 : Int32) (x3 : Int32) (post : Int32 → St → Prop) : MetI l wM yX12_gameOf cX12_gameOf 4 (some .int) ({ frames := 2, cells := 0, slots := 0, locals := 43 }) [.ref (ad G 100), .int x1, .int x2, .int x3] G z0 sz (S_M_gameOf post x1 x2 x3 z0) post := by
  refine Met.ofW (cc := cX12_gameOf) (maxL := 4) (ret := (some .int)) (by decide) rfl ?_
  intro p e s m args below meth c s₁ B hml hv
  obtain ⟨rfl, hsz, hP, hD0, hE, hB⟩ := hv
  have S : CallFix p m c cX12_gameOf 4 s _ GW RX12 := ⟨B.exec, B.bytes, hml, findClass_of_methodNamed B.named, fun w h => atoms_spec (ws := Cond.code yX12_gameOf cX12_gameOf 4 (some .int) :: GW) B.pre w (List.mem_cons_of_mem _ h)⟩
  have hlocks := B.notSynchronized
  subst hsz
  have hD := hD0.self (sz := s.heap.size)
  generalize hAe : va_A (wM G z0) s.heap.size = A at hD hE ⊢
  have hA : ∀ q : Nat, s.heap.size ≤ q → A q := fun q h => by rw [← hAe]; exact Or.inr h
  have hS : va_S A s.heap s.heap [] := va_S.rf
  have hl := lv_entry ([.ref (ad G 100), .int x1, .int x2, .int x3]) (n := 4) (Nat.le_of_ble_eq_true rfl)
  rw [lg_entry_eq]
  generalize (lg_sl ([.ref (ad G 100), .int x1, .int x2, .int x3]) ++ List.replicate (4 - (lg_sl ([.ref (ad G 100), .int x1, .int x2, .int x3])).length) Slot.unset).toArray = ls at hl ⊢
  have hl : lv_has ls 4 [(0, .ref (ad G 100)), (1, .int x1), (2, .int x2), (3, .int x3)] := hl
  refine w_M_gameOf_0 S hE hA (Nat.le_refl _) (Nat.le_refl _) ?_ x1 x2 x3 z0 hB _ _ _ hP hD hS hl
  intro pc ls r σ H locs hd hp hP hD hS
  exact W.iret (v := r) B.exec B.bytes B.returns (fun t ht hW => ⟨⟨r, σ, rfl, hp, by rw [ht]; exact hP, hD⟩, hS.F ht⟩) hS.2.2 hd
def S_M_game (post : Int32 → St → Prop) (x1 : Int32) (x2 : Int32) (x3 : Int32) (x4 : Int32) (x5 : Int32) (z0 : St) : Prop :=
  (∀ z1 : St, z1 = sI z0 100 (0 : Int32) → (S_M_isGame (fun (r1 : Int32) (z2 : St) => ((r1 = 0 → (post (-1000000 : Int32) z2)) ∧ (¬ r1 = 0 → (S_M_isDrink (fun (r3 : Int32) (z3 : St) => ((r3 = 0 → (post (-1000000 : Int32) z3)) ∧ (¬ r3 = 0 → (S_M_isDrink (fun (r5 : Int32) (z4 : St) => ((r5 = 0 → (post (-1000000 : Int32) z4)) ∧ (¬ r5 = 0 → (S_M_isIn (fun (r7 : Int32) (z5 : St) => ((r7 = 0 → (post (-1000000 : Int32) z5)) ∧ (¬ r7 = 0 → ((x5 = 0 → (S_M_gameOf (fun (r11 : Int32) (z7 : St) => (post r11 z7)) x1 x3 x4 z5)) ∧ (¬ x5 = 0 → (S_M_gameOf (fun (r10 : Int32) (z6 : St) => (post r10 z6)) x2 x4 x3 z5)))))) ((x5).toInt64) (0 : Int64) (1 : Int64) z4)))) x4 z3)))) x3 z2)))) x1 x2 z1))
set_option maxHeartbeats 4000000 in
set_option maxRecDepth 100000 in
theorem w_M_game_0 {p : Program} {l : Launch} {e : Env} {R : Room} {s : State} {m : MethodId} {args : Array Value} {below : List Frame} {meth : Method} {c : Code} {Q : State → Prop} {G : GX} {A : Nat → Prop} (S : CallFix p m c cX12_game 6 s args GW RX12) (hE : env G A s s.heap) (hA : ∀ q, s.heap.size ≤ q → A q) (hRf : 3 ≤ R.frames) (hRl : 66 ≤ R.locals) {post : Int32 → St → Prop} (hret : RetI p l e R s m args below meth c Q 0 0 wM G A cX12_game post) (x1 : Int32) (x2 : Int32) (x3 : Int32) (x4 : Int32) (x5 : Int32) (z0 : St) (hB : S_M_game post x1 x2 x3 x4 x5 z0) : Xw p l e R s m args below meth c Q 0 0 wM G A z0 6 [(0, .ref (ad G 100)), (1, .int x1), (2, .int x2), (3, .int x3), (4, .int x4), (5, .int x5)] 0 [] := by
  intro H locs ls hP hD hS hl
  have hx := S.1
  have hb := S.2.1
  refine lv_aload_n hx hb dX12_game_0 rfl (lv_at hl 0 rfl) ?_
  refine lv_iconst (v := 0) hx hb dX12_game_1 (by decide) ?_
  obtain ⟨z1, ez1⟩ : ∃ z9, z9 = sI z0 100 (0 : Int32) := ⟨_, rfl⟩
  have hB := hB z1 ez1
  refine xMp_100_thrown S hE hP hD hS lk_X12_89 dX12_game_2 (fun H locs hP hD hS => ?_)
  rw [← ez1] at hP hD
  refine lv_aload_n hx hb dX12_game_5 rfl (lv_at hl 0 rfl) ?_
  refine lv_iload_n hx hb dX12_game_6 rfl (lv_at hl 1 rfl) ?_
  refine lv_iload_n hx hb dX12_game_7 rfl (lv_at hl 2 rfl) ?_
  refine xcVi [.int x1, .int x2] S hE hA hP hD hS (c_M_isGame l G z1 H.size x1 x2 _) hB (gw_c lk_X12_433 (gw_c wi_X12_isGame (gw_c we_X12_X12_isGame_X12_isGame (gw_c wn_X12 (gw_c wc_X12_isGame (fun _ h9 => h9)))))) hd_X12_isGame rfl rfl (Nat.le_trans (Nat.le_of_ble_eq_true rfl) hRf) (Nat.le_trans (Nat.le_of_ble_eq_true rfl) hRl) ⟨Nat.zero_le _, Nat.zero_le _⟩ (va_recv hE.1 hP (ci := 11) (q0 := 0) rfl rfl) rfl hl.1 rfl (Nat.le_of_ble_eq_true rfl) dX12_game_8 (fun r1 z2 H locs hB hP hD hS => ?_)
  refine lv_if_eq (tgt := 42) hx hb dX12_game_11 (by decide) (fun c2 => ?_) (fun c2 => ?_)
  · have hB := hB.1 c2
    refine lv_ldcw hx hb S.2.2.2.1 (S.2.2.2.2 _ lk_X12_366) dX12_game_42 ?_
    exact hret _ _ _ _ _ _ dX12_game_45 hB hP hD hS
  · have hB := hB.2 c2
    refine lv_aload_n hx hb dX12_game_14 rfl (lv_at hl 0 rfl) ?_
    refine lv_iload_n hx hb dX12_game_15 rfl (lv_at hl 3 rfl) ?_
    refine xcVi [.int x3] S hE hA hP hD hS (c_M_isDrink l G z2 H.size x3 _) hB (gw_c lk_X12_319 (gw_c wi_X12_isDrink (gw_c we_X12_X12_isDrink_X12_isDrink (gw_c wn_X12 (gw_c wc_X12_isDrink (fun _ h9 => h9)))))) hd_X12_isDrink rfl rfl (Nat.le_trans (Nat.le_of_ble_eq_true rfl) hRf) (Nat.le_trans (Nat.le_of_ble_eq_true rfl) hRl) ⟨Nat.zero_le _, Nat.zero_le _⟩ (va_recv hE.1 hP (ci := 11) (q0 := 0) rfl rfl) rfl hl.1 rfl (Nat.le_of_ble_eq_true rfl) dX12_game_16 (fun r3 z3 H locs hB hP hD hS => ?_)
    refine lv_if_eq (tgt := 42) hx hb dX12_game_19 (by decide) (fun c4 => ?_) (fun c4 => ?_)
    · have hB := hB.1 c4
      refine lv_ldcw hx hb S.2.2.2.1 (S.2.2.2.2 _ lk_X12_366) dX12_game_42 ?_
      exact hret _ _ _ _ _ _ dX12_game_45 hB hP hD hS
    · have hB := hB.2 c4
      refine lv_aload_n hx hb dX12_game_22 rfl (lv_at hl 0 rfl) ?_
      refine lv_iload hx hb dX12_game_23 (lv_at hl 4 rfl) ?_
      refine xcVi [.int x4] S hE hA hP hD hS (c_M_isDrink l G z3 H.size x4 _) hB (gw_c lk_X12_319 (gw_c wi_X12_isDrink (gw_c we_X12_X12_isDrink_X12_isDrink (gw_c wn_X12 (gw_c wc_X12_isDrink (fun _ h9 => h9)))))) hd_X12_isDrink rfl rfl (Nat.le_trans (Nat.le_of_ble_eq_true rfl) hRf) (Nat.le_trans (Nat.le_of_ble_eq_true rfl) hRl) ⟨Nat.zero_le _, Nat.zero_le _⟩ (va_recv hE.1 hP (ci := 11) (q0 := 0) rfl rfl) rfl hl.1 rfl (Nat.le_of_ble_eq_true rfl) dX12_game_25 (fun r5 z4 H locs hB hP hD hS => ?_)
      refine lv_if_eq (tgt := 42) hx hb dX12_game_28 (by decide) (fun c6 => ?_) (fun c6 => ?_)
      · have hB := hB.1 c6
        refine lv_ldcw hx hb S.2.2.2.1 (S.2.2.2.2 _ lk_X12_366) dX12_game_42 ?_
        exact hret _ _ _ _ _ _ dX12_game_45 hB hP hD hS
      · have hB := hB.2 c6
        refine lv_iload hx hb dX12_game_31 (lv_at hl 5 rfl) ?_
        refine lv_i2l hx hb dX12_game_33 rfl ?_
        refine lv_lconst (v := 0) hx hb dX12_game_34 (by decide) ?_
        refine lv_lconst (v := 1) hx hb dX12_game_35 (by decide) ?_
        refine xcSi [.long ((x5).toInt64), .long (0 : Int64), .long (1 : Int64)] S hE hA hP hD hS (c_M_isIn l G z4 H.size ((x5).toInt64) (0 : Int64) (1 : Int64) _) hB (gw_c lk_X12_260 (gw_c wt_X12_isIn (gw_c wn_X12 (gw_c wc_X12_isIn (fun _ h9 => h9))))) hs_X12_isIn rfl rfl (Nat.le_trans (Nat.le_of_ble_eq_true rfl) hRf) (Nat.le_trans (Nat.le_of_ble_eq_true rfl) hRl) ⟨Nat.zero_le _, Nat.zero_le _⟩ rfl hl.1 rfl (Nat.le_of_ble_eq_true rfl) dX12_game_36 (fun r7 z5 H locs hB hP hD hS => ?_)
        refine lv_if_ne (tgt := 46) hx hb dX12_game_39 (by decide) (fun c8 => ?_) (fun c8 => ?_)
        · have hB := hB.2 c8
          refine lv_iload hx hb dX12_game_46 (lv_at hl 5 rfl) ?_
          refine lv_if_ne (tgt := 62) hx hb dX12_game_48 (by decide) (fun c9 => ?_) (fun c9 => ?_)
          · have hB := hB.2 c9
            refine lv_aload_n hx hb dX12_game_62 rfl (lv_at hl 0 rfl) ?_
            refine lv_iload_n hx hb dX12_game_63 rfl (lv_at hl 2 rfl) ?_
            refine lv_iload hx hb dX12_game_64 (lv_at hl 4 rfl) ?_
            refine lv_iload_n hx hb dX12_game_66 rfl (lv_at hl 3 rfl) ?_
            refine xcVi [.int x2, .int x4, .int x3] S hE hA hP hD hS (c_M_gameOf l G z5 H.size x2 x4 x3 _) hB (gw_c lk_X12_436 (gw_c wi_X12_gameOf (gw_c we_X12_X12_gameOf_X12_gameOf (gw_c wn_X12 (gw_c wc_X12_gameOf (fun _ h9 => h9)))))) hd_X12_gameOf rfl rfl (Nat.le_trans (Nat.le_of_ble_eq_true rfl) hRf) (Nat.le_trans (Nat.le_of_ble_eq_true rfl) hRl) ⟨Nat.zero_le _, Nat.zero_le _⟩ (va_recv hE.1 hP (ci := 11) (q0 := 0) rfl rfl) rfl hl.1 rfl (Nat.le_of_ble_eq_true rfl) dX12_game_67 (fun r10 z6 H locs hB hP hD hS => ?_)
            exact hret _ _ _ _ _ _ dX12_game_70 hB hP hD hS
          · have hB := hB.1 c9
            refine lv_aload_n hx hb dX12_game_51 rfl (lv_at hl 0 rfl) ?_
            refine lv_iload_n hx hb dX12_game_52 rfl (lv_at hl 1 rfl) ?_
            refine lv_iload_n hx hb dX12_game_53 rfl (lv_at hl 3 rfl) ?_
            refine lv_iload hx hb dX12_game_54 (lv_at hl 4 rfl) ?_
            refine xcVi [.int x1, .int x3, .int x4] S hE hA hP hD hS (c_M_gameOf l G z5 H.size x1 x3 x4 _) hB (gw_c lk_X12_436 (gw_c wi_X12_gameOf (gw_c we_X12_X12_gameOf_X12_gameOf (gw_c wn_X12 (gw_c wc_X12_gameOf (fun _ h9 => h9)))))) hd_X12_gameOf rfl rfl (Nat.le_trans (Nat.le_of_ble_eq_true rfl) hRf) (Nat.le_trans (Nat.le_of_ble_eq_true rfl) hRl) ⟨Nat.zero_le _, Nat.zero_le _⟩ (va_recv hE.1 hP (ci := 11) (q0 := 0) rfl rfl) rfl hl.1 rfl (Nat.le_of_ble_eq_true rfl) dX12_game_56 (fun r11 z7 H locs hB hP hD hS => ?_)
            refine lv_goto (tgt := 70) hx hb dX12_game_59 (by decide) ?_
            exact hret _ _ _ _ _ _ dX12_game_70 hB hP hD hS
        · have hB := hB.1 c8
          refine lv_ldcw hx hb S.2.2.2.1 (S.2.2.2.2 _ lk_X12_366) dX12_game_42 ?_
          exact hret _ _ _ _ _ _ dX12_game_45 hB hP hD hS
set_option maxHeartbeats 4000000 in
set_option maxRecDepth 100000 in
theorem c_M_game (l : Launch) (G : GX) (z0 : St) (sz : Nat) (x1 : Int32) (x2 : Int32) (x3 : Int32) (x4 : Int32) (x5 : Int32) (post : Int32 → St → Prop) : MetI l wM yX12_game cX12_game 6 (some .int) ({ frames := 3, cells := 0, slots := 0, locals := 66 }) [.ref (ad G 100), .int x1, .int x2, .int x3, .int x4, .int x5] G z0 sz (S_M_game post x1 x2 x3 x4 x5 z0) post := by
  refine Met.ofW (cc := cX12_game) (maxL := 6) (ret := (some .int)) (by decide) rfl ?_
  intro p e s m args below meth c s₁ B hml hv
  obtain ⟨rfl, hsz, hP, hD0, hE, hB⟩ := hv
  have S : CallFix p m c cX12_game 6 s _ GW RX12 := ⟨B.exec, B.bytes, hml, findClass_of_methodNamed B.named, fun w h => atoms_spec (ws := Cond.code yX12_game cX12_game 6 (some .int) :: GW) B.pre w (List.mem_cons_of_mem _ h)⟩
  have hlocks := B.notSynchronized
  subst hsz
  have hD := hD0.self (sz := s.heap.size)
  generalize hAe : va_A (wM G z0) s.heap.size = A at hD hE ⊢
  have hA : ∀ q : Nat, s.heap.size ≤ q → A q := fun q h => by rw [← hAe]; exact Or.inr h
  have hS : va_S A s.heap s.heap [] := va_S.rf
  have hl := lv_entry ([.ref (ad G 100), .int x1, .int x2, .int x3, .int x4, .int x5]) (n := 6) (Nat.le_of_ble_eq_true rfl)
  rw [lg_entry_eq]
  generalize (lg_sl ([.ref (ad G 100), .int x1, .int x2, .int x3, .int x4, .int x5]) ++ List.replicate (6 - (lg_sl ([.ref (ad G 100), .int x1, .int x2, .int x3, .int x4, .int x5])).length) Slot.unset).toArray = ls at hl ⊢
  have hl : lv_has ls 6 [(0, .ref (ad G 100)), (1, .int x1), (2, .int x2), (3, .int x3), (4, .int x4), (5, .int x5)] := hl
  refine w_M_game_0 S hE hA (Nat.le_refl _) (Nat.le_refl _) ?_ x1 x2 x3 x4 x5 z0 hB _ _ _ hP hD hS hl
  intro pc ls r σ H locs hd hp hP hD hS
  exact W.iret (v := r) B.exec B.bytes B.returns (fun t ht hW => ⟨⟨r, σ, rfl, hp, by rw [ht]; exact hP, hD⟩, hS.F ht⟩) hS.2.2 hd
def B_M_rests_149 (post : Int32 → St → Prop) (ih27 : Int32 → Int32 → Int32 → Int32 → Int32 → St → Prop) (ih39 : Int32 → Int32 → Int32 → Int32 → Int32 → Int32 → St → Prop) (x1 : Int32) (x2 : Int32) (x3 : Int32) (x4 : Int32) (x5 : Int32) (x6 : Int32) (z0 : St) : Prop :=
  (∀ v1 : Int32, v1 = x6 + (1 : Int32) → (ih39 x1 x2 x3 x4 x5 v1 z0))
set_option maxHeartbeats 4000000 in
set_option maxRecDepth 100000 in
theorem w_M_rests_149 {p : Program} {l : Launch} {e : Env} {R : Room} {s : State} {m : MethodId} {args : Array Value} {below : List Frame} {meth : Method} {c : Code} {Q : State → Prop} {G : GX} {A : Nat → Prop} (S : CallFix p m c cX12_rests 9 s args GW RX12) (hE : env G A s s.heap) (hA : ∀ q, s.heap.size ≤ q → A q) (hRf : 3 ≤ R.frames) (hRl : 66 ≤ R.locals) {post : Int32 → St → Prop} (hret : RetI p l e R s m args below meth c Q 0 0 wM G A cX12_rests post) {ih27 : Int32 → Int32 → Int32 → Int32 → Int32 → St → Prop} (h27 : ∀ (x1 : Int32) (x2 : Int32) (x3 : Int32) (x4 : Int32) (x5 : Int32) (z0 : St), ih27 x1 x2 x3 x4 x5 z0 → Xw p l e R s m args below meth c Q 0 0 wM G A z0 9 [(0, .ref (ad G 100)), (1, .int x1), (2, .int x2), (3, .int x3), (4, .int x4), (5, .int x5)] 27 []) {ih39 : Int32 → Int32 → Int32 → Int32 → Int32 → Int32 → St → Prop} (h39 : ∀ (x1 : Int32) (x2 : Int32) (x3 : Int32) (x4 : Int32) (x5 : Int32) (x6 : Int32) (z0 : St), ih39 x1 x2 x3 x4 x5 x6 z0 → Xw p l e R s m args below meth c Q 0 0 wM G A z0 9 [(0, .ref (ad G 100)), (1, .int x1), (2, .int x2), (3, .int x3), (4, .int x4), (5, .int x5), (6, .int x6)] 39 []) (x1 : Int32) (x2 : Int32) (x3 : Int32) (x4 : Int32) (x5 : Int32) (x6 : Int32) (z0 : St) (hB : B_M_rests_149 post ih27 ih39 x1 x2 x3 x4 x5 x6 z0) : Xw p l e R s m args below meth c Q 0 0 wM G A z0 9 [(0, .ref (ad G 100)), (1, .int x1), (2, .int x2), (3, .int x3), (4, .int x4), (5, .int x5), (6, .int x6)] 149 [] := by
  intro H locs ls hP hD hS hl
  have hx := S.1
  have hb := S.2.1
  obtain ⟨v1, ev1⟩ : ∃ y9, y9 = x6 + (1 : Int32) := ⟨_, rfl⟩
  have hB := hB v1 ev1
  refine lv_iinc (v := v1) (lv' := [(6, .int v1), (0, .ref (ad G 100)), (1, .int x1), (2, .int x2), (3, .int x3), (4, .int x4), (5, .int x5)]) hx hb dX12_rests_149 hl (k := 6) rfl (by rw [ev1]; rfl) (by decide) rfl (fun ls hl => ?_)
  refine lv_goto (tgt := 39) hx hb dX12_rests_152 (by decide) ?_
  exact h39 x1 x2 x3 x4 x5 v1 z0 hB _ _ _ hP hD hS (lv_sub hl [1, 2, 3, 4, 5, 6, 0] rfl)
def B_M_rests_115 (post : Int32 → St → Prop) (ih27 : Int32 → Int32 → Int32 → Int32 → Int32 → St → Prop) (ih39 : Int32 → Int32 → Int32 → Int32 → Int32 → Int32 → St → Prop) (ih54 : Int32 → Int32 → Int32 → Int32 → Int32 → Int32 → Int32 → Int32 → St → Prop) (x1 : Int32) (x2 : Int32) (x3 : Int32) (x4 : Int32) (x5 : Int32) (x6 : Int32) (x8 : Int32) (s0 : Int32) (z0 : St) : Prop :=
  (∀ v1 : Int32, v1 = x8 + (1 : Int32) → (ih54 x1 x2 x3 x4 x5 x6 s0 v1 z0))
set_option maxHeartbeats 4000000 in
set_option maxRecDepth 100000 in
theorem w_M_rests_115 {p : Program} {l : Launch} {e : Env} {R : Room} {s : State} {m : MethodId} {args : Array Value} {below : List Frame} {meth : Method} {c : Code} {Q : State → Prop} {G : GX} {A : Nat → Prop} (S : CallFix p m c cX12_rests 9 s args GW RX12) (hE : env G A s s.heap) (hA : ∀ q, s.heap.size ≤ q → A q) (hRf : 3 ≤ R.frames) (hRl : 66 ≤ R.locals) {post : Int32 → St → Prop} (hret : RetI p l e R s m args below meth c Q 0 0 wM G A cX12_rests post) {ih27 : Int32 → Int32 → Int32 → Int32 → Int32 → St → Prop} (h27 : ∀ (x1 : Int32) (x2 : Int32) (x3 : Int32) (x4 : Int32) (x5 : Int32) (z0 : St), ih27 x1 x2 x3 x4 x5 z0 → Xw p l e R s m args below meth c Q 0 0 wM G A z0 9 [(0, .ref (ad G 100)), (1, .int x1), (2, .int x2), (3, .int x3), (4, .int x4), (5, .int x5)] 27 []) {ih39 : Int32 → Int32 → Int32 → Int32 → Int32 → Int32 → St → Prop} (h39 : ∀ (x1 : Int32) (x2 : Int32) (x3 : Int32) (x4 : Int32) (x5 : Int32) (x6 : Int32) (z0 : St), ih39 x1 x2 x3 x4 x5 x6 z0 → Xw p l e R s m args below meth c Q 0 0 wM G A z0 9 [(0, .ref (ad G 100)), (1, .int x1), (2, .int x2), (3, .int x3), (4, .int x4), (5, .int x5), (6, .int x6)] 39 []) {ih54 : Int32 → Int32 → Int32 → Int32 → Int32 → Int32 → Int32 → Int32 → St → Prop} (h54 : ∀ (x1 : Int32) (x2 : Int32) (x3 : Int32) (x4 : Int32) (x5 : Int32) (x6 : Int32) (x7 : Int32) (x8 : Int32) (z0 : St), ih54 x1 x2 x3 x4 x5 x6 x7 x8 z0 → Xw p l e R s m args below meth c Q 0 0 wM G A z0 9 [(0, .ref (ad G 100)), (1, .int x1), (2, .int x2), (3, .int x3), (4, .int x4), (5, .int x5), (6, .int x6), (7, .int x7), (8, .int x8)] 54 []) (x1 : Int32) (x2 : Int32) (x3 : Int32) (x4 : Int32) (x5 : Int32) (x6 : Int32) (x8 : Int32) (s0 : Int32) (z0 : St) (hB : B_M_rests_115 post ih27 ih39 ih54 x1 x2 x3 x4 x5 x6 x8 s0 z0) : Xw p l e R s m args below meth c Q 0 0 wM G A z0 9 [(0, .ref (ad G 100)), (1, .int x1), (2, .int x2), (3, .int x3), (4, .int x4), (5, .int x5), (6, .int x6), (8, .int x8)] 115 [.int s0] := by
  intro H locs ls hP hD hS hl
  have hx := S.1
  have hb := S.2.1
  refine lv_istore (lv' := [(7, .int s0), (0, .ref (ad G 100)), (1, .int x1), (2, .int x2), (3, .int x3), (4, .int x4), (5, .int x5), (6, .int x6), (8, .int x8)]) hx hb dX12_rests_115 hl (by decide) rfl (fun ls hl => ?_)
  obtain ⟨v1, ev1⟩ : ∃ y9, y9 = x8 + (1 : Int32) := ⟨_, rfl⟩
  have hB := hB v1 ev1
  refine lv_iinc (v := v1) (lv' := [(8, .int v1), (7, .int s0), (0, .ref (ad G 100)), (1, .int x1), (2, .int x2), (3, .int x3), (4, .int x4), (5, .int x5), (6, .int x6)]) hx hb dX12_rests_117 hl (k := 8) rfl (by rw [ev1]; rfl) (by decide) rfl (fun ls hl => ?_)
  refine lv_goto (tgt := 54) hx hb dX12_rests_120 (by decide) ?_
  exact h54 x1 x2 x3 x4 x5 x6 s0 v1 z0 hB _ _ _ hP hD hS (lv_sub hl [2, 3, 4, 5, 6, 7, 8, 1, 0] rfl)
def B_M_rests_114 (post : Int32 → St → Prop) (ih27 : Int32 → Int32 → Int32 → Int32 → Int32 → St → Prop) (ih39 : Int32 → Int32 → Int32 → Int32 → Int32 → Int32 → St → Prop) (ih54 : Int32 → Int32 → Int32 → Int32 → Int32 → Int32 → Int32 → Int32 → St → Prop) (x1 : Int32) (x2 : Int32) (x3 : Int32) (x4 : Int32) (x5 : Int32) (x6 : Int32) (x8 : Int32) (z0 : St) : Prop :=
  (B_M_rests_115 post ih27 ih39 ih54 x1 x2 x3 x4 x5 x6 x8 (0 : Int32) z0)
set_option maxHeartbeats 4000000 in
set_option maxRecDepth 100000 in
theorem w_M_rests_114 {p : Program} {l : Launch} {e : Env} {R : Room} {s : State} {m : MethodId} {args : Array Value} {below : List Frame} {meth : Method} {c : Code} {Q : State → Prop} {G : GX} {A : Nat → Prop} (S : CallFix p m c cX12_rests 9 s args GW RX12) (hE : env G A s s.heap) (hA : ∀ q, s.heap.size ≤ q → A q) (hRf : 3 ≤ R.frames) (hRl : 66 ≤ R.locals) {post : Int32 → St → Prop} (hret : RetI p l e R s m args below meth c Q 0 0 wM G A cX12_rests post) {ih27 : Int32 → Int32 → Int32 → Int32 → Int32 → St → Prop} (h27 : ∀ (x1 : Int32) (x2 : Int32) (x3 : Int32) (x4 : Int32) (x5 : Int32) (z0 : St), ih27 x1 x2 x3 x4 x5 z0 → Xw p l e R s m args below meth c Q 0 0 wM G A z0 9 [(0, .ref (ad G 100)), (1, .int x1), (2, .int x2), (3, .int x3), (4, .int x4), (5, .int x5)] 27 []) {ih39 : Int32 → Int32 → Int32 → Int32 → Int32 → Int32 → St → Prop} (h39 : ∀ (x1 : Int32) (x2 : Int32) (x3 : Int32) (x4 : Int32) (x5 : Int32) (x6 : Int32) (z0 : St), ih39 x1 x2 x3 x4 x5 x6 z0 → Xw p l e R s m args below meth c Q 0 0 wM G A z0 9 [(0, .ref (ad G 100)), (1, .int x1), (2, .int x2), (3, .int x3), (4, .int x4), (5, .int x5), (6, .int x6)] 39 []) {ih54 : Int32 → Int32 → Int32 → Int32 → Int32 → Int32 → Int32 → Int32 → St → Prop} (h54 : ∀ (x1 : Int32) (x2 : Int32) (x3 : Int32) (x4 : Int32) (x5 : Int32) (x6 : Int32) (x7 : Int32) (x8 : Int32) (z0 : St), ih54 x1 x2 x3 x4 x5 x6 x7 x8 z0 → Xw p l e R s m args below meth c Q 0 0 wM G A z0 9 [(0, .ref (ad G 100)), (1, .int x1), (2, .int x2), (3, .int x3), (4, .int x4), (5, .int x5), (6, .int x6), (7, .int x7), (8, .int x8)] 54 []) (x1 : Int32) (x2 : Int32) (x3 : Int32) (x4 : Int32) (x5 : Int32) (x6 : Int32) (x8 : Int32) (z0 : St) (hB : B_M_rests_114 post ih27 ih39 ih54 x1 x2 x3 x4 x5 x6 x8 z0) : Xw p l e R s m args below meth c Q 0 0 wM G A z0 9 [(0, .ref (ad G 100)), (1, .int x1), (2, .int x2), (3, .int x3), (4, .int x4), (5, .int x5), (6, .int x6), (8, .int x8)] 114 [] := by
  intro H locs ls hP hD hS hl
  have hx := S.1
  have hb := S.2.1
  refine lv_iconst (v := 0) hx hb dX12_rests_114 (by decide) ?_
  exact w_M_rests_115 S hE hA hRf hRl hret h27 h39 h54 x1 x2 x3 x4 x5 x6 x8 (0 : Int32) z0 hB _ _ _ hP hD hS (lv_sub hl [0, 1, 2, 3, 4, 5, 6, 7] rfl)
def B_M_rests_54 (post : Int32 → St → Prop) (ih27 : Int32 → Int32 → Int32 → Int32 → Int32 → St → Prop) (ih39 : Int32 → Int32 → Int32 → Int32 → Int32 → Int32 → St → Prop) (ih54 : Int32 → Int32 → Int32 → Int32 → Int32 → Int32 → Int32 → Int32 → St → Prop) (x1 : Int32) (x2 : Int32) (x3 : Int32) (x4 : Int32) (x5 : Int32) (x6 : Int32) (x7 : Int32) (x8 : Int32) (z0 : St) : Prop :=
  (((gI z0 111) ≤ x8 → ((x7 = 0 → (B_M_rests_149 post ih27 ih39 x1 x2 x3 x4 x5 x6 z0)) ∧ (¬ x7 = 0 → ((x4 = x3 → (post (((10 : Int32) * x5) + x6) z0)) ∧ (¬ x4 = x3 → (∀ v4 : Int32, v4 = x4 + (1 : Int32) → (B_M_rests_149 post ih27 ih39 x1 x2 x3 v4 x5 x6 z0))))))) ∧ (¬ (gI z0 111) ≤ x8 → ((x7 = 0 → (B_M_rests_114 post ih27 ih39 ih54 x1 x2 x3 x4 x5 x6 x8 z0)) ∧ (¬ x7 = 0 → (S_M_gameOf (fun (r6 : Int32) (z1 : St) => (S_M_gameOf (fun (r7 : Int32) (z2 : St) => ((r7 < r6 → (B_M_rests_114 post ih27 ih39 ih54 x1 x2 x3 x4 x5 x6 x8 z2)) ∧ (¬ r7 < r6 → (S_M_gameOf (fun (r9 : Int32) (z3 : St) => (S_M_gameOf (fun (r10 : Int32) (z4 : St) => ((r10 < r9 → (B_M_rests_114 post ih27 ih39 ih54 x1 x2 x3 x4 x5 x6 x8 z4)) ∧ (¬ r10 < r9 → (B_M_rests_115 post ih27 ih39 ih54 x1 x2 x3 x4 x5 x6 x8 (1 : Int32) z4)))) x2 x6 x5 z3)) x2 x8 x5 z2)))) x1 x5 x6 z1)) x1 x8 x6 z0)))))
set_option maxHeartbeats 4000000 in
set_option maxRecDepth 100000 in
theorem w_M_rests_54 {p : Program} {l : Launch} {e : Env} {R : Room} {s : State} {m : MethodId} {args : Array Value} {below : List Frame} {meth : Method} {c : Code} {Q : State → Prop} {G : GX} {A : Nat → Prop} (S : CallFix p m c cX12_rests 9 s args GW RX12) (hE : env G A s s.heap) (hA : ∀ q, s.heap.size ≤ q → A q) (hRf : 3 ≤ R.frames) (hRl : 66 ≤ R.locals) {post : Int32 → St → Prop} (hret : RetI p l e R s m args below meth c Q 0 0 wM G A cX12_rests post) {ih27 : Int32 → Int32 → Int32 → Int32 → Int32 → St → Prop} (h27 : ∀ (x1 : Int32) (x2 : Int32) (x3 : Int32) (x4 : Int32) (x5 : Int32) (z0 : St), ih27 x1 x2 x3 x4 x5 z0 → Xw p l e R s m args below meth c Q 0 0 wM G A z0 9 [(0, .ref (ad G 100)), (1, .int x1), (2, .int x2), (3, .int x3), (4, .int x4), (5, .int x5)] 27 []) {ih39 : Int32 → Int32 → Int32 → Int32 → Int32 → Int32 → St → Prop} (h39 : ∀ (x1 : Int32) (x2 : Int32) (x3 : Int32) (x4 : Int32) (x5 : Int32) (x6 : Int32) (z0 : St), ih39 x1 x2 x3 x4 x5 x6 z0 → Xw p l e R s m args below meth c Q 0 0 wM G A z0 9 [(0, .ref (ad G 100)), (1, .int x1), (2, .int x2), (3, .int x3), (4, .int x4), (5, .int x5), (6, .int x6)] 39 []) {ih54 : Int32 → Int32 → Int32 → Int32 → Int32 → Int32 → Int32 → Int32 → St → Prop} (h54 : ∀ (x1 : Int32) (x2 : Int32) (x3 : Int32) (x4 : Int32) (x5 : Int32) (x6 : Int32) (x7 : Int32) (x8 : Int32) (z0 : St), ih54 x1 x2 x3 x4 x5 x6 x7 x8 z0 → Xw p l e R s m args below meth c Q 0 0 wM G A z0 9 [(0, .ref (ad G 100)), (1, .int x1), (2, .int x2), (3, .int x3), (4, .int x4), (5, .int x5), (6, .int x6), (7, .int x7), (8, .int x8)] 54 []) (x1 : Int32) (x2 : Int32) (x3 : Int32) (x4 : Int32) (x5 : Int32) (x6 : Int32) (x7 : Int32) (x8 : Int32) (z0 : St) (hB : B_M_rests_54 post ih27 ih39 ih54 x1 x2 x3 x4 x5 x6 x7 x8 z0) : Xw p l e R s m args below meth c Q 0 0 wM G A z0 9 [(0, .ref (ad G 100)), (1, .int x1), (2, .int x2), (3, .int x3), (4, .int x4), (5, .int x5), (6, .int x6), (7, .int x7), (8, .int x8)] 54 [] := by
  intro H locs ls hP hD hS hl
  have hx := S.1
  have hb := S.2.1
  refine lv_iload hx hb dX12_rests_54 (lv_at hl 8 rfl) ?_
  refine lv_aload_n hx hb dX12_rests_56 rfl (lv_at hl 0 rfl) ?_
  refine xMg_100_drinks S hE hP lk_X12_281 dX12_rests_57 ?_
  refine lv_icmp_ge (tgt := 123) hx hb dX12_rests_60 (by decide) (fun c1 => ?_) (fun c1 => ?_)
  · have hB := hB.1 c1
    refine lv_iload hx hb dX12_rests_123 (lv_at hl 7 rfl) ?_
    refine lv_if_ne (tgt := 131) hx hb dX12_rests_125 (by decide) (fun c2 => ?_) (fun c2 => ?_)
    · have hB := hB.2 c2
      refine lv_iload hx hb dX12_rests_131 (lv_at hl 4 rfl) ?_
      refine lv_iload_n hx hb dX12_rests_133 rfl (lv_at hl 3 rfl) ?_
      refine lv_icmp_ne (tgt := 146) hx hb dX12_rests_134 (by decide) (fun c3 => ?_) (fun c3 => ?_)
      · have hB := hB.2 c3
        obtain ⟨v4, ev4⟩ : ∃ y9, y9 = x4 + (1 : Int32) := ⟨_, rfl⟩
        have hB := hB v4 ev4
        refine lv_iinc (v := v4) (lv' := [(4, .int v4), (0, .ref (ad G 100)), (1, .int x1), (2, .int x2), (3, .int x3), (5, .int x5), (6, .int x6), (7, .int x7), (8, .int x8)]) hx hb dX12_rests_146 hl (k := 4) rfl (by rw [ev4]; rfl) (by decide) rfl (fun ls hl => ?_)
        exact w_M_rests_149 S hE hA hRf hRl hret h27 h39 x1 x2 x3 v4 x5 x6 z0 hB _ _ _ hP hD hS (lv_sub hl [1, 2, 3, 4, 0, 5, 6] rfl)
      · have hB := hB.1 c3
        refine lv_bipush (v := 10) hx hb dX12_rests_137 (by decide) ?_
        refine lv_iload hx hb dX12_rests_139 (lv_at hl 5 rfl) ?_
        refine lv_imul hx hb dX12_rests_141 ?_
        refine lv_iload hx hb dX12_rests_142 (lv_at hl 6 rfl) ?_
        refine lv_iadd hx hb dX12_rests_144 ?_
        exact hret _ _ _ _ _ _ dX12_rests_145 hB hP hD hS
    · have hB := hB.1 c2
      refine lv_goto (tgt := 149) hx hb dX12_rests_128 (by decide) ?_
      exact w_M_rests_149 S hE hA hRf hRl hret h27 h39 x1 x2 x3 x4 x5 x6 z0 hB _ _ _ hP hD hS (lv_sub hl [0, 1, 2, 3, 4, 5, 6] rfl)
  · have hB := hB.2 c1
    refine lv_iload hx hb dX12_rests_63 (lv_at hl 7 rfl) ?_
    refine lv_if_eq (tgt := 114) hx hb dX12_rests_65 (by decide) (fun c5 => ?_) (fun c5 => ?_)
    · have hB := hB.1 c5
      exact w_M_rests_114 S hE hA hRf hRl hret h27 h39 h54 x1 x2 x3 x4 x5 x6 x8 z0 hB _ _ _ hP hD hS (lv_sub hl [0, 1, 2, 3, 4, 5, 6, 8] rfl)
    · have hB := hB.2 c5
      refine lv_aload_n hx hb dX12_rests_68 rfl (lv_at hl 0 rfl) ?_
      refine lv_iload_n hx hb dX12_rests_69 rfl (lv_at hl 1 rfl) ?_
      refine lv_iload hx hb dX12_rests_70 (lv_at hl 8 rfl) ?_
      refine lv_iload hx hb dX12_rests_72 (lv_at hl 6 rfl) ?_
      refine xcVi [.int x1, .int x8, .int x6] S hE hA hP hD hS (c_M_gameOf l G z0 H.size x1 x8 x6 _) hB (gw_c lk_X12_436 (gw_c wi_X12_gameOf (gw_c we_X12_X12_gameOf_X12_gameOf (gw_c wn_X12 (gw_c wc_X12_gameOf (fun _ h9 => h9)))))) hd_X12_gameOf rfl rfl (Nat.le_trans (Nat.le_of_ble_eq_true rfl) hRf) (Nat.le_trans (Nat.le_of_ble_eq_true rfl) hRl) ⟨Nat.zero_le _, Nat.zero_le _⟩ (va_recv hE.1 hP (ci := 11) (q0 := 0) rfl rfl) rfl hl.1 rfl (Nat.le_of_ble_eq_true rfl) dX12_rests_74 (fun r6 z1 H locs hB hP hD hS => ?_)
      refine lv_aload_n hx hb dX12_rests_77 rfl (lv_at hl 0 rfl) ?_
      refine lv_iload_n hx hb dX12_rests_78 rfl (lv_at hl 1 rfl) ?_
      refine lv_iload hx hb dX12_rests_79 (lv_at hl 5 rfl) ?_
      refine lv_iload hx hb dX12_rests_81 (lv_at hl 6 rfl) ?_
      refine xcVi [.int x1, .int x5, .int x6] S hE hA hP hD hS (c_M_gameOf l G z1 H.size x1 x5 x6 _) hB (gw_c lk_X12_436 (gw_c wi_X12_gameOf (gw_c we_X12_X12_gameOf_X12_gameOf (gw_c wn_X12 (gw_c wc_X12_gameOf (fun _ h9 => h9)))))) hd_X12_gameOf rfl rfl (Nat.le_trans (Nat.le_of_ble_eq_true rfl) hRf) (Nat.le_trans (Nat.le_of_ble_eq_true rfl) hRl) ⟨Nat.zero_le _, Nat.zero_le _⟩ (va_recv hE.1 hP (ci := 11) (q0 := 0) rfl rfl) rfl hl.1 rfl (Nat.le_of_ble_eq_true rfl) dX12_rests_83 (fun r7 z2 H locs hB hP hD hS => ?_)
      refine lv_icmp_gt (tgt := 114) hx hb dX12_rests_86 (by decide) (fun c8 => ?_) (fun c8 => ?_)
      · have hB := hB.1 c8
        exact w_M_rests_114 S hE hA hRf hRl hret h27 h39 h54 x1 x2 x3 x4 x5 x6 x8 z2 hB _ _ _ hP hD hS (lv_sub hl [0, 1, 2, 3, 4, 5, 6, 8] rfl)
      · have hB := hB.2 c8
        refine lv_aload_n hx hb dX12_rests_89 rfl (lv_at hl 0 rfl) ?_
        refine lv_iload_n hx hb dX12_rests_90 rfl (lv_at hl 2 rfl) ?_
        refine lv_iload hx hb dX12_rests_91 (lv_at hl 8 rfl) ?_
        refine lv_iload hx hb dX12_rests_93 (lv_at hl 5 rfl) ?_
        refine xcVi [.int x2, .int x8, .int x5] S hE hA hP hD hS (c_M_gameOf l G z2 H.size x2 x8 x5 _) hB (gw_c lk_X12_436 (gw_c wi_X12_gameOf (gw_c we_X12_X12_gameOf_X12_gameOf (gw_c wn_X12 (gw_c wc_X12_gameOf (fun _ h9 => h9)))))) hd_X12_gameOf rfl rfl (Nat.le_trans (Nat.le_of_ble_eq_true rfl) hRf) (Nat.le_trans (Nat.le_of_ble_eq_true rfl) hRl) ⟨Nat.zero_le _, Nat.zero_le _⟩ (va_recv hE.1 hP (ci := 11) (q0 := 0) rfl rfl) rfl hl.1 rfl (Nat.le_of_ble_eq_true rfl) dX12_rests_95 (fun r9 z3 H locs hB hP hD hS => ?_)
        refine lv_aload_n hx hb dX12_rests_98 rfl (lv_at hl 0 rfl) ?_
        refine lv_iload_n hx hb dX12_rests_99 rfl (lv_at hl 2 rfl) ?_
        refine lv_iload hx hb dX12_rests_100 (lv_at hl 6 rfl) ?_
        refine lv_iload hx hb dX12_rests_102 (lv_at hl 5 rfl) ?_
        refine xcVi [.int x2, .int x6, .int x5] S hE hA hP hD hS (c_M_gameOf l G z3 H.size x2 x6 x5 _) hB (gw_c lk_X12_436 (gw_c wi_X12_gameOf (gw_c we_X12_X12_gameOf_X12_gameOf (gw_c wn_X12 (gw_c wc_X12_gameOf (fun _ h9 => h9)))))) hd_X12_gameOf rfl rfl (Nat.le_trans (Nat.le_of_ble_eq_true rfl) hRf) (Nat.le_trans (Nat.le_of_ble_eq_true rfl) hRl) ⟨Nat.zero_le _, Nat.zero_le _⟩ (va_recv hE.1 hP (ci := 11) (q0 := 0) rfl rfl) rfl hl.1 rfl (Nat.le_of_ble_eq_true rfl) dX12_rests_104 (fun r10 z4 H locs hB hP hD hS => ?_)
        refine lv_icmp_gt (tgt := 114) hx hb dX12_rests_107 (by decide) (fun c11 => ?_) (fun c11 => ?_)
        · have hB := hB.1 c11
          exact w_M_rests_114 S hE hA hRf hRl hret h27 h39 h54 x1 x2 x3 x4 x5 x6 x8 z4 hB _ _ _ hP hD hS (lv_sub hl [0, 1, 2, 3, 4, 5, 6, 8] rfl)
        · have hB := hB.2 c11
          refine lv_iconst (v := 1) hx hb dX12_rests_110 (by decide) ?_
          refine lv_goto (tgt := 115) hx hb dX12_rests_111 (by decide) ?_
          exact w_M_rests_115 S hE hA hRf hRl hret h27 h39 h54 x1 x2 x3 x4 x5 x6 x8 (1 : Int32) z4 hB _ _ _ hP hD hS (lv_sub hl [0, 1, 2, 3, 4, 5, 6, 8] rfl)
def L_M_rests_54 (post : Int32 → St → Prop) (ih27 : Int32 → Int32 → Int32 → Int32 → Int32 → St → Prop) (ih39 : Int32 → Int32 → Int32 → Int32 → Int32 → Int32 → St → Prop) : Nat → Int32 → Int32 → Int32 → Int32 → Int32 → Int32 → Int32 → Int32 → St → Prop
  | 0 => fun _ _ _ _ _ _ _ _ _ => False
  | n + 1 => B_M_rests_54 post ih27 ih39 (L_M_rests_54 post ih27 ih39 n)
theorem wl_M_rests_54 {p : Program} {l : Launch} {e : Env} {R : Room} {s : State} {m : MethodId} {args : Array Value} {below : List Frame} {meth : Method} {c : Code} {Q : State → Prop} {G : GX} {A : Nat → Prop} (S : CallFix p m c cX12_rests 9 s args GW RX12) (hE : env G A s s.heap) (hA : ∀ q, s.heap.size ≤ q → A q) (hRf : 3 ≤ R.frames) (hRl : 66 ≤ R.locals) {post : Int32 → St → Prop} (hret : RetI p l e R s m args below meth c Q 0 0 wM G A cX12_rests post) {ih27 : Int32 → Int32 → Int32 → Int32 → Int32 → St → Prop} (h27 : ∀ (x1 : Int32) (x2 : Int32) (x3 : Int32) (x4 : Int32) (x5 : Int32) (z0 : St), ih27 x1 x2 x3 x4 x5 z0 → Xw p l e R s m args below meth c Q 0 0 wM G A z0 9 [(0, .ref (ad G 100)), (1, .int x1), (2, .int x2), (3, .int x3), (4, .int x4), (5, .int x5)] 27 []) {ih39 : Int32 → Int32 → Int32 → Int32 → Int32 → Int32 → St → Prop} (h39 : ∀ (x1 : Int32) (x2 : Int32) (x3 : Int32) (x4 : Int32) (x5 : Int32) (x6 : Int32) (z0 : St), ih39 x1 x2 x3 x4 x5 x6 z0 → Xw p l e R s m args below meth c Q 0 0 wM G A z0 9 [(0, .ref (ad G 100)), (1, .int x1), (2, .int x2), (3, .int x3), (4, .int x4), (5, .int x5), (6, .int x6)] 39 []) : ∀ (n : Nat) (x1 : Int32) (x2 : Int32) (x3 : Int32) (x4 : Int32) (x5 : Int32) (x6 : Int32) (x7 : Int32) (x8 : Int32) (z0 : St), L_M_rests_54 post ih27 ih39 n x1 x2 x3 x4 x5 x6 x7 x8 z0 → Xw p l e R s m args below meth c Q 0 0 wM G A z0 9 [(0, .ref (ad G 100)), (1, .int x1), (2, .int x2), (3, .int x3), (4, .int x4), (5, .int x5), (6, .int x6), (7, .int x7), (8, .int x8)] 54 [] := by
  intro n
  induction n with
  | zero => intro x1 x2 x3 x4 x5 x6 x7 x8 z0 hB; exact absurd hB id
  | succ n ih => exact fun x1 x2 x3 x4 x5 x6 x7 x8 z0 hB => w_M_rests_54 S hE hA hRf hRl hret h27 h39 ih x1 x2 x3 x4 x5 x6 x7 x8 z0 hB
def B_M_rests_39 (post : Int32 → St → Prop) (ih27 : Int32 → Int32 → Int32 → Int32 → Int32 → St → Prop) (ih39 : Int32 → Int32 → Int32 → Int32 → Int32 → Int32 → St → Prop) (x1 : Int32) (x2 : Int32) (x3 : Int32) (x4 : Int32) (x5 : Int32) (x6 : Int32) (z0 : St) : Prop :=
  (((gI z0 111) ≤ x6 → (∀ v2 : Int32, v2 = x5 + (1 : Int32) → (ih27 x1 x2 x3 x4 v2 z0))) ∧ (¬ (gI z0 111) ≤ x6 → (∃ n3, L_M_rests_54 post ih27 ih39 n3 x1 x2 x3 x4 x5 x6 (1 : Int32) (0 : Int32) z0)))
set_option maxHeartbeats 4000000 in
set_option maxRecDepth 100000 in
theorem w_M_rests_39 {p : Program} {l : Launch} {e : Env} {R : Room} {s : State} {m : MethodId} {args : Array Value} {below : List Frame} {meth : Method} {c : Code} {Q : State → Prop} {G : GX} {A : Nat → Prop} (S : CallFix p m c cX12_rests 9 s args GW RX12) (hE : env G A s s.heap) (hA : ∀ q, s.heap.size ≤ q → A q) (hRf : 3 ≤ R.frames) (hRl : 66 ≤ R.locals) {post : Int32 → St → Prop} (hret : RetI p l e R s m args below meth c Q 0 0 wM G A cX12_rests post) {ih27 : Int32 → Int32 → Int32 → Int32 → Int32 → St → Prop} (h27 : ∀ (x1 : Int32) (x2 : Int32) (x3 : Int32) (x4 : Int32) (x5 : Int32) (z0 : St), ih27 x1 x2 x3 x4 x5 z0 → Xw p l e R s m args below meth c Q 0 0 wM G A z0 9 [(0, .ref (ad G 100)), (1, .int x1), (2, .int x2), (3, .int x3), (4, .int x4), (5, .int x5)] 27 []) {ih39 : Int32 → Int32 → Int32 → Int32 → Int32 → Int32 → St → Prop} (h39 : ∀ (x1 : Int32) (x2 : Int32) (x3 : Int32) (x4 : Int32) (x5 : Int32) (x6 : Int32) (z0 : St), ih39 x1 x2 x3 x4 x5 x6 z0 → Xw p l e R s m args below meth c Q 0 0 wM G A z0 9 [(0, .ref (ad G 100)), (1, .int x1), (2, .int x2), (3, .int x3), (4, .int x4), (5, .int x5), (6, .int x6)] 39 []) (x1 : Int32) (x2 : Int32) (x3 : Int32) (x4 : Int32) (x5 : Int32) (x6 : Int32) (z0 : St) (hB : B_M_rests_39 post ih27 ih39 x1 x2 x3 x4 x5 x6 z0) : Xw p l e R s m args below meth c Q 0 0 wM G A z0 9 [(0, .ref (ad G 100)), (1, .int x1), (2, .int x2), (3, .int x3), (4, .int x4), (5, .int x5), (6, .int x6)] 39 [] := by
  intro H locs ls hP hD hS hl
  have hx := S.1
  have hb := S.2.1
  refine lv_iload hx hb dX12_rests_39 (lv_at hl 6 rfl) ?_
  refine lv_aload_n hx hb dX12_rests_41 rfl (lv_at hl 0 rfl) ?_
  refine xMg_100_drinks S hE hP lk_X12_281 dX12_rests_42 ?_
  refine lv_icmp_ge (tgt := 155) hx hb dX12_rests_45 (by decide) (fun c1 => ?_) (fun c1 => ?_)
  · have hB := hB.1 c1
    obtain ⟨v2, ev2⟩ : ∃ y9, y9 = x5 + (1 : Int32) := ⟨_, rfl⟩
    have hB := hB v2 ev2
    refine lv_iinc (v := v2) (lv' := [(5, .int v2), (0, .ref (ad G 100)), (1, .int x1), (2, .int x2), (3, .int x3), (4, .int x4), (6, .int x6)]) hx hb dX12_rests_155 hl (k := 5) rfl (by rw [ev2]; rfl) (by decide) rfl (fun ls hl => ?_)
    refine lv_goto (tgt := 27) hx hb dX12_rests_158 (by decide) ?_
    exact h27 x1 x2 x3 x4 v2 z0 hB _ _ _ hP hD hS (lv_sub hl [1, 2, 3, 4, 5, 0] rfl)
  · have hB := hB.2 c1
    refine lv_iconst (v := 1) hx hb dX12_rests_48 (by decide) ?_
    refine lv_istore (lv' := [(7, .int (1 : Int32)), (0, .ref (ad G 100)), (1, .int x1), (2, .int x2), (3, .int x3), (4, .int x4), (5, .int x5), (6, .int x6)]) hx hb dX12_rests_49 hl (by decide) rfl (fun ls hl => ?_)
    refine lv_iconst (v := 0) hx hb dX12_rests_51 (by decide) ?_
    refine lv_istore (lv' := [(8, .int (0 : Int32)), (7, .int (1 : Int32)), (0, .ref (ad G 100)), (1, .int x1), (2, .int x2), (3, .int x3), (4, .int x4), (5, .int x5), (6, .int x6)]) hx hb dX12_rests_52 hl (by decide) rfl (fun ls hl => ?_)
    obtain ⟨n3, hB⟩ := hB
    exact wl_M_rests_54 S hE hA hRf hRl hret h27 h39 n3 x1 x2 x3 x4 x5 x6 (1 : Int32) (0 : Int32) z0 hB _ _ _ hP hD hS (lv_sub hl [2, 3, 4, 5, 6, 7, 8, 1, 0] rfl)
def L_M_rests_39 (post : Int32 → St → Prop) (ih27 : Int32 → Int32 → Int32 → Int32 → Int32 → St → Prop) : Nat → Int32 → Int32 → Int32 → Int32 → Int32 → Int32 → St → Prop
  | 0 => fun _ _ _ _ _ _ _ => False
  | n + 1 => B_M_rests_39 post ih27 (L_M_rests_39 post ih27 n)
theorem wl_M_rests_39 {p : Program} {l : Launch} {e : Env} {R : Room} {s : State} {m : MethodId} {args : Array Value} {below : List Frame} {meth : Method} {c : Code} {Q : State → Prop} {G : GX} {A : Nat → Prop} (S : CallFix p m c cX12_rests 9 s args GW RX12) (hE : env G A s s.heap) (hA : ∀ q, s.heap.size ≤ q → A q) (hRf : 3 ≤ R.frames) (hRl : 66 ≤ R.locals) {post : Int32 → St → Prop} (hret : RetI p l e R s m args below meth c Q 0 0 wM G A cX12_rests post) {ih27 : Int32 → Int32 → Int32 → Int32 → Int32 → St → Prop} (h27 : ∀ (x1 : Int32) (x2 : Int32) (x3 : Int32) (x4 : Int32) (x5 : Int32) (z0 : St), ih27 x1 x2 x3 x4 x5 z0 → Xw p l e R s m args below meth c Q 0 0 wM G A z0 9 [(0, .ref (ad G 100)), (1, .int x1), (2, .int x2), (3, .int x3), (4, .int x4), (5, .int x5)] 27 []) : ∀ (n : Nat) (x1 : Int32) (x2 : Int32) (x3 : Int32) (x4 : Int32) (x5 : Int32) (x6 : Int32) (z0 : St), L_M_rests_39 post ih27 n x1 x2 x3 x4 x5 x6 z0 → Xw p l e R s m args below meth c Q 0 0 wM G A z0 9 [(0, .ref (ad G 100)), (1, .int x1), (2, .int x2), (3, .int x3), (4, .int x4), (5, .int x5), (6, .int x6)] 39 [] := by
  intro n
  induction n with
  | zero => intro x1 x2 x3 x4 x5 x6 z0 hB; exact absurd hB id
  | succ n ih => exact fun x1 x2 x3 x4 x5 x6 z0 hB => w_M_rests_39 S hE hA hRf hRl hret h27 ih x1 x2 x3 x4 x5 x6 z0 hB
def B_M_rests_27 (post : Int32 → St → Prop) (ih27 : Int32 → Int32 → Int32 → Int32 → Int32 → St → Prop) (x1 : Int32) (x2 : Int32) (x3 : Int32) (x4 : Int32) (x5 : Int32) (z0 : St) : Prop :=
  (((gI z0 111) ≤ x5 → ((x3 = (-1 : Int32) → (post x4 z0)) ∧ (¬ x3 = (-1 : Int32) → (post (-1 : Int32) z0)))) ∧ (¬ (gI z0 111) ≤ x5 → (∃ n3, L_M_rests_39 post ih27 n3 x1 x2 x3 x4 x5 (0 : Int32) z0)))
set_option maxHeartbeats 4000000 in
set_option maxRecDepth 100000 in
theorem w_M_rests_27 {p : Program} {l : Launch} {e : Env} {R : Room} {s : State} {m : MethodId} {args : Array Value} {below : List Frame} {meth : Method} {c : Code} {Q : State → Prop} {G : GX} {A : Nat → Prop} (S : CallFix p m c cX12_rests 9 s args GW RX12) (hE : env G A s s.heap) (hA : ∀ q, s.heap.size ≤ q → A q) (hRf : 3 ≤ R.frames) (hRl : 66 ≤ R.locals) {post : Int32 → St → Prop} (hret : RetI p l e R s m args below meth c Q 0 0 wM G A cX12_rests post) {ih27 : Int32 → Int32 → Int32 → Int32 → Int32 → St → Prop} (h27 : ∀ (x1 : Int32) (x2 : Int32) (x3 : Int32) (x4 : Int32) (x5 : Int32) (z0 : St), ih27 x1 x2 x3 x4 x5 z0 → Xw p l e R s m args below meth c Q 0 0 wM G A z0 9 [(0, .ref (ad G 100)), (1, .int x1), (2, .int x2), (3, .int x3), (4, .int x4), (5, .int x5)] 27 []) (x1 : Int32) (x2 : Int32) (x3 : Int32) (x4 : Int32) (x5 : Int32) (z0 : St) (hB : B_M_rests_27 post ih27 x1 x2 x3 x4 x5 z0) : Xw p l e R s m args below meth c Q 0 0 wM G A z0 9 [(0, .ref (ad G 100)), (1, .int x1), (2, .int x2), (3, .int x3), (4, .int x4), (5, .int x5)] 27 [] := by
  intro H locs ls hP hD hS hl
  have hx := S.1
  have hb := S.2.1
  refine lv_iload hx hb dX12_rests_27 (lv_at hl 5 rfl) ?_
  refine lv_aload_n hx hb dX12_rests_29 rfl (lv_at hl 0 rfl) ?_
  refine xMg_100_drinks S hE hP lk_X12_281 dX12_rests_30 ?_
  refine lv_icmp_ge (tgt := 161) hx hb dX12_rests_33 (by decide) (fun c1 => ?_) (fun c1 => ?_)
  · have hB := hB.1 c1
    refine lv_iload_n hx hb dX12_rests_161 rfl (lv_at hl 3 rfl) ?_
    refine lv_iconst (v := -1) hx hb dX12_rests_162 (by decide) ?_
    refine lv_icmp_ne (tgt := 171) hx hb dX12_rests_163 (by decide) (fun c2 => ?_) (fun c2 => ?_)
    · have hB := hB.2 c2
      refine lv_iconst (v := -1) hx hb dX12_rests_171 (by decide) ?_
      exact hret _ _ _ _ _ _ dX12_rests_172 hB hP hD hS
    · have hB := hB.1 c2
      refine lv_iload hx hb dX12_rests_166 (lv_at hl 4 rfl) ?_
      refine lv_goto (tgt := 172) hx hb dX12_rests_168 (by decide) ?_
      exact hret _ _ _ _ _ _ dX12_rests_172 hB hP hD hS
  · have hB := hB.2 c1
    refine lv_iconst (v := 0) hx hb dX12_rests_36 (by decide) ?_
    refine lv_istore (lv' := [(6, .int (0 : Int32)), (0, .ref (ad G 100)), (1, .int x1), (2, .int x2), (3, .int x3), (4, .int x4), (5, .int x5)]) hx hb dX12_rests_37 hl (by decide) rfl (fun ls hl => ?_)
    obtain ⟨n3, hB⟩ := hB
    exact wl_M_rests_39 S hE hA hRf hRl hret h27 n3 x1 x2 x3 x4 x5 (0 : Int32) z0 hB _ _ _ hP hD hS (lv_sub hl [1, 2, 3, 4, 5, 6, 0] rfl)
def L_M_rests_27 (post : Int32 → St → Prop) : Nat → Int32 → Int32 → Int32 → Int32 → Int32 → St → Prop
  | 0 => fun _ _ _ _ _ _ => False
  | n + 1 => B_M_rests_27 post (L_M_rests_27 post n)
theorem wl_M_rests_27 {p : Program} {l : Launch} {e : Env} {R : Room} {s : State} {m : MethodId} {args : Array Value} {below : List Frame} {meth : Method} {c : Code} {Q : State → Prop} {G : GX} {A : Nat → Prop} (S : CallFix p m c cX12_rests 9 s args GW RX12) (hE : env G A s s.heap) (hA : ∀ q, s.heap.size ≤ q → A q) (hRf : 3 ≤ R.frames) (hRl : 66 ≤ R.locals) {post : Int32 → St → Prop} (hret : RetI p l e R s m args below meth c Q 0 0 wM G A cX12_rests post) : ∀ (n : Nat) (x1 : Int32) (x2 : Int32) (x3 : Int32) (x4 : Int32) (x5 : Int32) (z0 : St), L_M_rests_27 post n x1 x2 x3 x4 x5 z0 → Xw p l e R s m args below meth c Q 0 0 wM G A z0 9 [(0, .ref (ad G 100)), (1, .int x1), (2, .int x2), (3, .int x3), (4, .int x4), (5, .int x5)] 27 [] := by
  intro n
  induction n with
  | zero => intro x1 x2 x3 x4 x5 z0 hB; exact absurd hB id
  | succ n ih => exact fun x1 x2 x3 x4 x5 z0 hB => w_M_rests_27 S hE hA hRf hRl hret ih x1 x2 x3 x4 x5 z0 hB
def S_M_rests (post : Int32 → St → Prop) (x1 : Int32) (x2 : Int32) (x3 : Int32) (z0 : St) : Prop :=
  (∀ z1 : St, z1 = sI z0 100 (0 : Int32) → (S_M_isGame (fun (r1 : Int32) (z2 : St) => ((r1 = 0 → (post (-1 : Int32) z2)) ∧ (¬ r1 = 0 → (((-1 : Int32) ≤ x3 → (∃ n4, L_M_rests_27 post n4 x1 x2 x3 (0 : Int32) (0 : Int32) z2)) ∧ (¬ (-1 : Int32) ≤ x3 → (post (-1 : Int32) z2)))))) x1 x2 z1))
set_option maxHeartbeats 4000000 in
set_option maxRecDepth 100000 in
theorem w_M_rests_0 {p : Program} {l : Launch} {e : Env} {R : Room} {s : State} {m : MethodId} {args : Array Value} {below : List Frame} {meth : Method} {c : Code} {Q : State → Prop} {G : GX} {A : Nat → Prop} (S : CallFix p m c cX12_rests 9 s args GW RX12) (hE : env G A s s.heap) (hA : ∀ q, s.heap.size ≤ q → A q) (hRf : 3 ≤ R.frames) (hRl : 66 ≤ R.locals) {post : Int32 → St → Prop} (hret : RetI p l e R s m args below meth c Q 0 0 wM G A cX12_rests post) (x1 : Int32) (x2 : Int32) (x3 : Int32) (z0 : St) (hB : S_M_rests post x1 x2 x3 z0) : Xw p l e R s m args below meth c Q 0 0 wM G A z0 9 [(0, .ref (ad G 100)), (1, .int x1), (2, .int x2), (3, .int x3)] 0 [] := by
  intro H locs ls hP hD hS hl
  have hx := S.1
  have hb := S.2.1
  refine lv_aload_n hx hb dX12_rests_0 rfl (lv_at hl 0 rfl) ?_
  refine lv_iconst (v := 0) hx hb dX12_rests_1 (by decide) ?_
  obtain ⟨z1, ez1⟩ : ∃ z9, z9 = sI z0 100 (0 : Int32) := ⟨_, rfl⟩
  have hB := hB z1 ez1
  refine xMp_100_thrown S hE hP hD hS lk_X12_89 dX12_rests_2 (fun H locs hP hD hS => ?_)
  rw [← ez1] at hP hD
  refine lv_aload_n hx hb dX12_rests_5 rfl (lv_at hl 0 rfl) ?_
  refine lv_iload_n hx hb dX12_rests_6 rfl (lv_at hl 1 rfl) ?_
  refine lv_iload_n hx hb dX12_rests_7 rfl (lv_at hl 2 rfl) ?_
  refine xcVi [.int x1, .int x2] S hE hA hP hD hS (c_M_isGame l G z1 H.size x1 x2 _) hB (gw_c lk_X12_433 (gw_c wi_X12_isGame (gw_c we_X12_X12_isGame_X12_isGame (gw_c wn_X12 (gw_c wc_X12_isGame (fun _ h9 => h9)))))) hd_X12_isGame rfl rfl (Nat.le_trans (Nat.le_of_ble_eq_true rfl) hRf) (Nat.le_trans (Nat.le_of_ble_eq_true rfl) hRl) ⟨Nat.zero_le _, Nat.zero_le _⟩ (va_recv hE.1 hP (ci := 11) (q0 := 0) rfl rfl) rfl hl.1 rfl (Nat.le_of_ble_eq_true rfl) dX12_rests_8 (fun r1 z2 H locs hB hP hD hS => ?_)
  refine lv_if_eq (tgt := 19) hx hb dX12_rests_11 (by decide) (fun c2 => ?_) (fun c2 => ?_)
  · have hB := hB.1 c2
    refine lv_iconst (v := -1) hx hb dX12_rests_19 (by decide) ?_
    exact hret _ _ _ _ _ _ dX12_rests_20 hB hP hD hS
  · have hB := hB.2 c2
    refine lv_iload_n hx hb dX12_rests_14 rfl (lv_at hl 3 rfl) ?_
    refine lv_iconst (v := -1) hx hb dX12_rests_15 (by decide) ?_
    refine lv_icmp_ge (tgt := 21) hx hb dX12_rests_16 (by decide) (fun c3 => ?_) (fun c3 => ?_)
    · have hB := hB.1 c3
      refine lv_iconst (v := 0) hx hb dX12_rests_21 (by decide) ?_
      refine lv_istore (lv' := [(4, .int (0 : Int32)), (0, .ref (ad G 100)), (1, .int x1), (2, .int x2), (3, .int x3)]) hx hb dX12_rests_22 hl (by decide) rfl (fun ls hl => ?_)
      refine lv_iconst (v := 0) hx hb dX12_rests_24 (by decide) ?_
      refine lv_istore (lv' := [(5, .int (0 : Int32)), (4, .int (0 : Int32)), (0, .ref (ad G 100)), (1, .int x1), (2, .int x2), (3, .int x3)]) hx hb dX12_rests_25 hl (by decide) rfl (fun ls hl => ?_)
      obtain ⟨n4, hB⟩ := hB
      exact wl_M_rests_27 S hE hA hRf hRl hret n4 x1 x2 x3 (0 : Int32) (0 : Int32) z2 hB _ _ _ hP hD hS (lv_sub hl [2, 3, 4, 5, 1, 0] rfl)
    · have hB := hB.2 c3
      refine lv_iconst (v := -1) hx hb dX12_rests_19 (by decide) ?_
      exact hret _ _ _ _ _ _ dX12_rests_20 hB hP hD hS
set_option maxHeartbeats 4000000 in
set_option maxRecDepth 100000 in
theorem c_M_rests (l : Launch) (G : GX) (z0 : St) (sz : Nat) (x1 : Int32) (x2 : Int32) (x3 : Int32) (post : Int32 → St → Prop) : MetI l wM yX12_rests cX12_rests 9 (some .int) ({ frames := 3, cells := 0, slots := 0, locals := 66 }) [.ref (ad G 100), .int x1, .int x2, .int x3] G z0 sz (S_M_rests post x1 x2 x3 z0) post := by
  refine Met.ofW (cc := cX12_rests) (maxL := 9) (ret := (some .int)) (by decide) rfl ?_
  intro p e s m args below meth c s₁ B hml hv
  obtain ⟨rfl, hsz, hP, hD0, hE, hB⟩ := hv
  have S : CallFix p m c cX12_rests 9 s _ GW RX12 := ⟨B.exec, B.bytes, hml, findClass_of_methodNamed B.named, fun w h => atoms_spec (ws := Cond.code yX12_rests cX12_rests 9 (some .int) :: GW) B.pre w (List.mem_cons_of_mem _ h)⟩
  have hlocks := B.notSynchronized
  subst hsz
  have hD := hD0.self (sz := s.heap.size)
  generalize hAe : va_A (wM G z0) s.heap.size = A at hD hE ⊢
  have hA : ∀ q : Nat, s.heap.size ≤ q → A q := fun q h => by rw [← hAe]; exact Or.inr h
  have hS : va_S A s.heap s.heap [] := va_S.rf
  have hl := lv_entry ([.ref (ad G 100), .int x1, .int x2, .int x3]) (n := 9) (Nat.le_of_ble_eq_true rfl)
  rw [lg_entry_eq]
  generalize (lg_sl ([.ref (ad G 100), .int x1, .int x2, .int x3]) ++ List.replicate (9 - (lg_sl ([.ref (ad G 100), .int x1, .int x2, .int x3])).length) Slot.unset).toArray = ls at hl ⊢
  have hl : lv_has ls 9 [(0, .ref (ad G 100)), (1, .int x1), (2, .int x2), (3, .int x3)] := hl
  refine w_M_rests_0 S hE hA (Nat.le_refl _) (Nat.le_refl _) ?_ x1 x2 x3 z0 hB _ _ _ hP hD hS hl
  intro pc ls r σ H locs hd hp hP hD hS
  exact W.iret (v := r) B.exec B.bytes B.returns (fun t ht hW => ⟨⟨r, σ, rfl, hp, by rw [ht]; exact hP, hD⟩, hS.F ht⟩) hS.2.2 hd
def B_M_goDealt_87 (rq : (St → Prop) → Int32 → Int32 → Int32 → Int32 → St → Prop) (post : St → Prop) (ih32 : Int32 → Int32 → Int32 → Int32 → Int32 → St → Prop) (x1 : Int32) (x2 : Int32) (x3 : Int32) (x4 : Int32) (x5 : Int32) (z0 : St) : Prop :=
  (∀ v1 : Int32, v1 = x5 + (1 : Int32) → (ih32 x1 x2 x3 x4 v1 z0))
set_option maxHeartbeats 4000000 in
set_option maxRecDepth 100000 in
theorem w_M_goDealt_87 {p : Program} {l : Launch} {e : Env} {R : Room} {s : State} {m : MethodId} {args : Array Value} {below : List Frame} {meth : Method} {c : Code} {Q : State → Prop} {G : GX} {A : Nat → Prop} {rq : (St → Prop) → Int32 → Int32 → Int32 → Int32 → St → Prop} {frec lrec : Nat} (S : CallFix p m c cX12_goDealt 6 s args GW RX12) (hE : env G A s s.heap) (hA : ∀ q, s.heap.size ≤ q → A q) (hRf : frec + 1 ≤ R.frames) (hRl : lrec + 40 ≤ R.locals) (hq : ∀ (G : GX) (z0 : St) (sz : Nat) (x1 : Int32) (x2 : Int32) (x3 : Int32) (x4 : Int32) (post : St → Prop), MetV l wM yX12_goDealt cX12_goDealt 6 none { frames := frec, cells := 0, slots := 0, locals := lrec } [.ref (ad G 100), .int x1, .int x2, .int x3, .int x4] G z0 sz (rq post x1 x2 x3 x4 z0) post) (hfb : 2 ≤ frec ∧ 43 ≤ lrec) {post : St → Prop} (hret : RetV p l e R s m args below meth c Q 0 0 wM G A cX12_goDealt post) {ih32 : Int32 → Int32 → Int32 → Int32 → Int32 → St → Prop} (h32 : ∀ (x1 : Int32) (x2 : Int32) (x3 : Int32) (x4 : Int32) (x5 : Int32) (z0 : St), ih32 x1 x2 x3 x4 x5 z0 → Xw p l e R s m args below meth c Q 0 0 wM G A z0 6 [(0, .ref (ad G 100)), (1, .int x1), (2, .int x2), (3, .int x3), (4, .int x4), (5, .int x5)] 32 []) (x1 : Int32) (x2 : Int32) (x3 : Int32) (x4 : Int32) (x5 : Int32) (z0 : St) (hB : B_M_goDealt_87 rq post ih32 x1 x2 x3 x4 x5 z0) : Xw p l e R s m args below meth c Q 0 0 wM G A z0 6 [(0, .ref (ad G 100)), (1, .int x1), (2, .int x2), (3, .int x3), (4, .int x4), (5, .int x5)] 87 [] := by
  intro H locs ls hP hD hS hl
  have hx := S.1
  have hb := S.2.1
  obtain ⟨v1, ev1⟩ : ∃ y9, y9 = x5 + (1 : Int32) := ⟨_, rfl⟩
  have hB := hB v1 ev1
  refine lv_iinc (v := v1) (lv' := [(5, .int v1), (0, .ref (ad G 100)), (1, .int x1), (2, .int x2), (3, .int x3), (4, .int x4)]) hx hb dX12_goDealt_87 hl (k := 5) rfl (by rw [ev1]; rfl) (by decide) rfl (fun ls hl => ?_)
  refine lv_goto (tgt := 32) hx hb dX12_goDealt_90 (by decide) ?_
  exact h32 x1 x2 x3 x4 v1 z0 hB _ _ _ hP hD hS (lv_sub hl [1, 2, 3, 4, 5, 0] rfl)
def B_M_goDealt_32 (rq : (St → Prop) → Int32 → Int32 → Int32 → Int32 → St → Prop) (post : St → Prop) (ih32 : Int32 → Int32 → Int32 → Int32 → Int32 → St → Prop) (x1 : Int32) (x2 : Int32) (x3 : Int32) (x4 : Int32) (x5 : Int32) (z0 : St) : Prop :=
  (((gI z0 111) ≤ x5 → (post z0)) ∧ (¬ (gI z0 111) ≤ x5 → (S_M_has (fun (r2 : Int32) (z1 : St) => ((r2 = 0 → (vp_in ((3 : Int32) * x1) 18 ∧ (S_M_joyOf (fun (r4 : Int32) (z2 : St) => (rq (fun (z3 : St) => (B_M_goDealt_87 rq post ih32 x1 x2 x3 x4 x5 z3)) (x1 + (1 : Int32)) (x2 ||| ((1 : Int32) <<< (x5 &&& 31))) (x3 + r4) (((10 : Int32) * x4) + x5) z2)) (gA z1 109 ((3 : Int32) * x1).toNatClampNeg) x5 z1))) ∧ (¬ r2 = 0 → (B_M_goDealt_87 rq post ih32 x1 x2 x3 x4 x5 z1)))) x2 x5 z0)))
set_option maxHeartbeats 4000000 in
set_option maxRecDepth 100000 in
theorem w_M_goDealt_32 {p : Program} {l : Launch} {e : Env} {R : Room} {s : State} {m : MethodId} {args : Array Value} {below : List Frame} {meth : Method} {c : Code} {Q : State → Prop} {G : GX} {A : Nat → Prop} {rq : (St → Prop) → Int32 → Int32 → Int32 → Int32 → St → Prop} {frec lrec : Nat} (S : CallFix p m c cX12_goDealt 6 s args GW RX12) (hE : env G A s s.heap) (hA : ∀ q, s.heap.size ≤ q → A q) (hRf : frec + 1 ≤ R.frames) (hRl : lrec + 40 ≤ R.locals) (hq : ∀ (G : GX) (z0 : St) (sz : Nat) (x1 : Int32) (x2 : Int32) (x3 : Int32) (x4 : Int32) (post : St → Prop), MetV l wM yX12_goDealt cX12_goDealt 6 none { frames := frec, cells := 0, slots := 0, locals := lrec } [.ref (ad G 100), .int x1, .int x2, .int x3, .int x4] G z0 sz (rq post x1 x2 x3 x4 z0) post) (hfb : 2 ≤ frec ∧ 43 ≤ lrec) {post : St → Prop} (hret : RetV p l e R s m args below meth c Q 0 0 wM G A cX12_goDealt post) {ih32 : Int32 → Int32 → Int32 → Int32 → Int32 → St → Prop} (h32 : ∀ (x1 : Int32) (x2 : Int32) (x3 : Int32) (x4 : Int32) (x5 : Int32) (z0 : St), ih32 x1 x2 x3 x4 x5 z0 → Xw p l e R s m args below meth c Q 0 0 wM G A z0 6 [(0, .ref (ad G 100)), (1, .int x1), (2, .int x2), (3, .int x3), (4, .int x4), (5, .int x5)] 32 []) (x1 : Int32) (x2 : Int32) (x3 : Int32) (x4 : Int32) (x5 : Int32) (z0 : St) (hB : B_M_goDealt_32 rq post ih32 x1 x2 x3 x4 x5 z0) : Xw p l e R s m args below meth c Q 0 0 wM G A z0 6 [(0, .ref (ad G 100)), (1, .int x1), (2, .int x2), (3, .int x3), (4, .int x4), (5, .int x5)] 32 [] := by
  intro H locs ls hP hD hS hl
  have hx := S.1
  have hb := S.2.1
  refine lv_iload hx hb dX12_goDealt_32 (lv_at hl 5 rfl) ?_
  refine lv_aload_n hx hb dX12_goDealt_34 rfl (lv_at hl 0 rfl) ?_
  refine xMg_100_drinks S hE hP lk_X12_281 dX12_goDealt_35 ?_
  refine lv_icmp_ge (tgt := 93) hx hb dX12_goDealt_38 (by decide) (fun c1 => ?_) (fun c1 => ?_)
  · have hB := hB.1 c1
    exact hret _ _ _ _ _ dX12_goDealt_93 hB hP hD hS
  · have hB := hB.2 c1
    refine lv_iload_n hx hb dX12_goDealt_41 rfl (lv_at hl 2 rfl) ?_
    refine lv_iload hx hb dX12_goDealt_42 (lv_at hl 5 rfl) ?_
    refine xcSi [.int x2, .int x5] S hE hA hP hD hS (c_M_has l G z0 H.size x2 x5 _) hB (gw_c lk_X12_218 (gw_c wt_X12_has (gw_c wn_X12 (gw_c wc_X12_has (fun _ h9 => h9))))) hs_X12_has rfl rfl (Nat.le_trans (show 0 + 1 ≤ frec + 1 by omega) hRf) (Nat.le_trans (show 8 + (2 + 11) + (0) ≤ lrec + 40 by omega) hRl) ⟨Nat.zero_le _, Nat.zero_le _⟩ rfl hl.1 rfl (Nat.le_of_ble_eq_true rfl) dX12_goDealt_44 (fun r2 z1 H locs hB hP hD hS => ?_)
    refine lv_if_ne (tgt := 87) hx hb dX12_goDealt_47 (by decide) (fun c3 => ?_) (fun c3 => ?_)
    · have hB := hB.2 c3
      exact w_M_goDealt_87 S hE hA hRf hRl hq hfb hret h32 x1 x2 x3 x4 x5 z1 hB _ _ _ hP hD hS (lv_sub hl [0, 1, 2, 3, 4, 5] rfl)
    · have hB := hB.1 c3
      refine lv_aload_n hx hb dX12_goDealt_50 rfl (lv_at hl 0 rfl) ?_
      refine lv_iload_n hx hb dX12_goDealt_51 rfl (lv_at hl 1 rfl) ?_
      refine lv_iconst (v := 1) hx hb dX12_goDealt_52 (by decide) ?_
      refine lv_iadd hx hb dX12_goDealt_53 ?_
      refine lv_iload_n hx hb dX12_goDealt_54 rfl (lv_at hl 2 rfl) ?_
      refine lv_iconst (v := 1) hx hb dX12_goDealt_55 (by decide) ?_
      refine lv_iload hx hb dX12_goDealt_56 (lv_at hl 5 rfl) ?_
      refine lv_ishl hx hb dX12_goDealt_58 ?_
      refine lv_ior hx hb dX12_goDealt_59 ?_
      refine lv_iload_n hx hb dX12_goDealt_60 rfl (lv_at hl 3 rfl) ?_
      refine lv_aload_n hx hb dX12_goDealt_61 rfl (lv_at hl 0 rfl) ?_
      refine lv_aload_n hx hb dX12_goDealt_62 rfl (lv_at hl 0 rfl) ?_
      refine xMg_100_guest S hE hP lk_X12_49 dX12_goDealt_63 ?_
      refine lv_iconst (v := 3) hx hb dX12_goDealt_66 (by decide) ?_
      refine lv_iload_n hx hb dX12_goDealt_67 rfl (lv_at hl 1 rfl) ?_
      refine lv_imul hx hb dX12_goDealt_68 ?_
      obtain ⟨hi, hB⟩ := hB
      refine xMl_109 S hE hP hi dX12_goDealt_69 ?_
      refine lv_iload hx hb dX12_goDealt_70 (lv_at hl 5 rfl) ?_
      refine xcVi [.int (gA z1 109 ((3 : Int32) * x1).toNatClampNeg), .int x5] S hE hA hP hD hS (c_M_joyOf l G z1 H.size (gA z1 109 ((3 : Int32) * x1).toNatClampNeg) x5 _) hB (gw_c lk_X12_306 (gw_c wi_X12_joyOf (gw_c we_X12_X12_joyOf_X12_joyOf (gw_c wn_X12 (gw_c wc_X12_joyOf (fun _ h9 => h9)))))) hd_X12_joyOf rfl rfl (Nat.le_trans (show 1 + 1 ≤ frec + 1 by omega) hRf) (Nat.le_trans (show 8 + (3 + 11) + (21) ≤ lrec + 40 by omega) hRl) ⟨Nat.zero_le _, Nat.zero_le _⟩ (va_recv hE.1 hP (ci := 11) (q0 := 0) rfl rfl) rfl hl.1 rfl (Nat.le_of_ble_eq_true rfl) dX12_goDealt_72 (fun r4 z2 H locs hB hP hD hS => ?_)
      refine lv_iadd hx hb dX12_goDealt_75 ?_
      refine lv_bipush (v := 10) hx hb dX12_goDealt_76 (by decide) ?_
      refine lv_iload hx hb dX12_goDealt_78 (lv_at hl 4 rfl) ?_
      refine lv_imul hx hb dX12_goDealt_80 ?_
      refine lv_iload hx hb dX12_goDealt_81 (lv_at hl 5 rfl) ?_
      refine lv_iadd hx hb dX12_goDealt_83 ?_
      refine xcVv [.int (x1 + (1 : Int32)), .int (x2 ||| ((1 : Int32) <<< (x5 &&& 31))), .int (x3 + r4), .int (((10 : Int32) * x4) + x5)] S hE hA hP hD hS (hq G z2 H.size (x1 + (1 : Int32)) (x2 ||| ((1 : Int32) <<< (x5 &&& 31))) (x3 + r4) (((10 : Int32) * x4) + x5) _) hB (gw_c lk_X12_440 (gw_c wi_X12_goDealt (gw_c we_X12_X12_goDealt_X12_goDealt (gw_c wn_X12 (gw_c wc_X12_goDealt (fun _ h9 => h9)))))) hd_X12_goDealt rfl rfl (Nat.le_trans (show frec + 1 ≤ frec + 1 by omega) hRf) (Nat.le_trans (show 8 + (6 + 11) + (lrec) ≤ lrec + 40 by omega) hRl) ⟨Nat.zero_le _, Nat.zero_le _⟩ (va_recv hE.1 hP (ci := 11) (q0 := 0) rfl rfl) rfl hl.1 rfl (Nat.le_of_ble_eq_true rfl) dX12_goDealt_84 (fun z3 H locs hB hP hD hS => ?_)
      exact w_M_goDealt_87 S hE hA hRf hRl hq hfb hret h32 x1 x2 x3 x4 x5 z3 hB _ _ _ hP hD hS (lv_sub hl [0, 1, 2, 3, 4, 5] rfl)
def L_M_goDealt_32 (rq : (St → Prop) → Int32 → Int32 → Int32 → Int32 → St → Prop) (post : St → Prop) : Nat → Int32 → Int32 → Int32 → Int32 → Int32 → St → Prop
  | 0 => fun _ _ _ _ _ _ => False
  | n + 1 => B_M_goDealt_32 rq post (L_M_goDealt_32 rq post n)
theorem wl_M_goDealt_32 {p : Program} {l : Launch} {e : Env} {R : Room} {s : State} {m : MethodId} {args : Array Value} {below : List Frame} {meth : Method} {c : Code} {Q : State → Prop} {G : GX} {A : Nat → Prop} {rq : (St → Prop) → Int32 → Int32 → Int32 → Int32 → St → Prop} {frec lrec : Nat} (S : CallFix p m c cX12_goDealt 6 s args GW RX12) (hE : env G A s s.heap) (hA : ∀ q, s.heap.size ≤ q → A q) (hRf : frec + 1 ≤ R.frames) (hRl : lrec + 40 ≤ R.locals) (hq : ∀ (G : GX) (z0 : St) (sz : Nat) (x1 : Int32) (x2 : Int32) (x3 : Int32) (x4 : Int32) (post : St → Prop), MetV l wM yX12_goDealt cX12_goDealt 6 none { frames := frec, cells := 0, slots := 0, locals := lrec } [.ref (ad G 100), .int x1, .int x2, .int x3, .int x4] G z0 sz (rq post x1 x2 x3 x4 z0) post) (hfb : 2 ≤ frec ∧ 43 ≤ lrec) {post : St → Prop} (hret : RetV p l e R s m args below meth c Q 0 0 wM G A cX12_goDealt post) : ∀ (n : Nat) (x1 : Int32) (x2 : Int32) (x3 : Int32) (x4 : Int32) (x5 : Int32) (z0 : St), L_M_goDealt_32 rq post n x1 x2 x3 x4 x5 z0 → Xw p l e R s m args below meth c Q 0 0 wM G A z0 6 [(0, .ref (ad G 100)), (1, .int x1), (2, .int x2), (3, .int x3), (4, .int x4), (5, .int x5)] 32 [] := by
  intro n
  induction n with
  | zero => intro x1 x2 x3 x4 x5 z0 hB; exact absurd hB id
  | succ n ih => exact fun x1 x2 x3 x4 x5 z0 hB => w_M_goDealt_32 S hE hA hRf hRl hq hfb hret ih x1 x2 x3 x4 x5 z0 hB
def S_M_goDealt (rq : (St → Prop) → Int32 → Int32 → Int32 → Int32 → St → Prop) (post : St → Prop) (x1 : Int32) (x2 : Int32) (x3 : Int32) (x4 : Int32) (z0 : St) : Prop :=
  ((x1 = (gI z0 112) → (((gI z0 123) < x3 → (∀ z1 : St, z1 = sI z0 123 x3 → (∀ z2 : St, z2 = sI z1 124 x4 → (post z2)))) ∧ (¬ (gI z0 123) < x3 → (post z0)))) ∧ (¬ x1 = (gI z0 112) → (∃ n2, L_M_goDealt_32 rq post n2 x1 x2 x3 x4 (0 : Int32) z0)))
set_option maxHeartbeats 4000000 in
set_option maxRecDepth 100000 in
theorem w_M_goDealt_0 {p : Program} {l : Launch} {e : Env} {R : Room} {s : State} {m : MethodId} {args : Array Value} {below : List Frame} {meth : Method} {c : Code} {Q : State → Prop} {G : GX} {A : Nat → Prop} {rq : (St → Prop) → Int32 → Int32 → Int32 → Int32 → St → Prop} {frec lrec : Nat} (S : CallFix p m c cX12_goDealt 6 s args GW RX12) (hE : env G A s s.heap) (hA : ∀ q, s.heap.size ≤ q → A q) (hRf : frec + 1 ≤ R.frames) (hRl : lrec + 40 ≤ R.locals) (hq : ∀ (G : GX) (z0 : St) (sz : Nat) (x1 : Int32) (x2 : Int32) (x3 : Int32) (x4 : Int32) (post : St → Prop), MetV l wM yX12_goDealt cX12_goDealt 6 none { frames := frec, cells := 0, slots := 0, locals := lrec } [.ref (ad G 100), .int x1, .int x2, .int x3, .int x4] G z0 sz (rq post x1 x2 x3 x4 z0) post) (hfb : 2 ≤ frec ∧ 43 ≤ lrec) {post : St → Prop} (hret : RetV p l e R s m args below meth c Q 0 0 wM G A cX12_goDealt post) (x1 : Int32) (x2 : Int32) (x3 : Int32) (x4 : Int32) (z0 : St) (hB : S_M_goDealt rq post x1 x2 x3 x4 z0) : Xw p l e R s m args below meth c Q 0 0 wM G A z0 6 [(0, .ref (ad G 100)), (1, .int x1), (2, .int x2), (3, .int x3), (4, .int x4)] 0 [] := by
  intro H locs ls hP hD hS hl
  have hx := S.1
  have hb := S.2.1
  refine lv_iload_n hx hb dX12_goDealt_0 rfl (lv_at hl 1 rfl) ?_
  refine lv_aload_n hx hb dX12_goDealt_1 rfl (lv_at hl 0 rfl) ?_
  refine xMg_100_guests S hE hP lk_X12_284 dX12_goDealt_2 ?_
  refine lv_icmp_ne (tgt := 29) hx hb dX12_goDealt_5 (by decide) (fun c1 => ?_) (fun c1 => ?_)
  · have hB := hB.2 c1
    refine lv_iconst (v := 0) hx hb dX12_goDealt_29 (by decide) ?_
    refine lv_istore (lv' := [(5, .int (0 : Int32)), (0, .ref (ad G 100)), (1, .int x1), (2, .int x2), (3, .int x3), (4, .int x4)]) hx hb dX12_goDealt_30 hl (by decide) rfl (fun ls hl => ?_)
    obtain ⟨n2, hB⟩ := hB
    exact wl_M_goDealt_32 S hE hA hRf hRl hq hfb hret n2 x1 x2 x3 x4 (0 : Int32) z0 hB _ _ _ hP hD hS (lv_sub hl [1, 2, 3, 4, 5, 0] rfl)
  · have hB := hB.1 c1
    refine lv_iload_n hx hb dX12_goDealt_8 rfl (lv_at hl 3 rfl) ?_
    refine lv_aload_n hx hb dX12_goDealt_9 rfl (lv_at hl 0 rfl) ?_
    refine xMg_100_bestJoy S hE hP lk_X12_389 dX12_goDealt_10 ?_
    refine lv_icmp_gt (tgt := 17) hx hb dX12_goDealt_13 (by decide) (fun c3 => ?_) (fun c3 => ?_)
    · have hB := hB.1 c3
      refine lv_aload_n hx hb dX12_goDealt_17 rfl (lv_at hl 0 rfl) ?_
      refine lv_iload_n hx hb dX12_goDealt_18 rfl (lv_at hl 3 rfl) ?_
      obtain ⟨z1, ez1⟩ : ∃ z9, z9 = sI z0 123 x3 := ⟨_, rfl⟩
      have hB := hB z1 ez1
      refine xMp_100_bestJoy S hE hP hD hS lk_X12_389 dX12_goDealt_19 (fun H locs hP hD hS => ?_)
      rw [← ez1] at hP hD
      refine lv_aload_n hx hb dX12_goDealt_22 rfl (lv_at hl 0 rfl) ?_
      refine lv_iload hx hb dX12_goDealt_23 (lv_at hl 4 rfl) ?_
      obtain ⟨z2, ez2⟩ : ∃ z9, z9 = sI z1 124 x4 := ⟨_, rfl⟩
      have hB := hB z2 ez2
      refine xMp_100_bestRow S hE hP hD hS lk_X12_392 dX12_goDealt_25 (fun H locs hP hD hS => ?_)
      rw [← ez2] at hP hD
      exact hret _ _ _ _ _ dX12_goDealt_28 hB hP hD hS
    · have hB := hB.2 c3
      exact hret _ _ _ _ _ dX12_goDealt_16 hB hP hD hS
set_option maxHeartbeats 4000000 in
set_option maxRecDepth 100000 in
theorem c_M_goDealt (l : Launch) {rq : (St → Prop) → Int32 → Int32 → Int32 → Int32 → St → Prop} {frec lrec : Nat} (hq : ∀ (G : GX) (z0 : St) (sz : Nat) (x1 : Int32) (x2 : Int32) (x3 : Int32) (x4 : Int32) (post : St → Prop), MetV l wM yX12_goDealt cX12_goDealt 6 none { frames := frec, cells := 0, slots := 0, locals := lrec } [.ref (ad G 100), .int x1, .int x2, .int x3, .int x4] G z0 sz (rq post x1 x2 x3 x4 z0) post) (hfb : 2 ≤ frec ∧ 43 ≤ lrec) (G : GX) (z0 : St) (sz : Nat) (x1 : Int32) (x2 : Int32) (x3 : Int32) (x4 : Int32) (post : St → Prop) : MetV l wM yX12_goDealt cX12_goDealt 6 none ({ frames := frec + 1, cells := 0, slots := 0, locals := lrec + 40 }) [.ref (ad G 100), .int x1, .int x2, .int x3, .int x4] G z0 sz (S_M_goDealt rq post x1 x2 x3 x4 z0) post := by
  refine Met.ofW (cc := cX12_goDealt) (maxL := 6) (ret := none) (by decide) rfl ?_
  intro p e s m args below meth c s₁ B hml hv
  obtain ⟨rfl, hsz, hP, hD0, hE, hB⟩ := hv
  have S : CallFix p m c cX12_goDealt 6 s _ GW RX12 := ⟨B.exec, B.bytes, hml, findClass_of_methodNamed B.named, fun w h => atoms_spec (ws := Cond.code yX12_goDealt cX12_goDealt 6 none :: GW) B.pre w (List.mem_cons_of_mem _ h)⟩
  have hlocks := B.notSynchronized
  subst hsz
  have hD := hD0.self (sz := s.heap.size)
  generalize hAe : va_A (wM G z0) s.heap.size = A at hD hE ⊢
  have hA : ∀ q : Nat, s.heap.size ≤ q → A q := fun q h => by rw [← hAe]; exact Or.inr h
  have hS : va_S A s.heap s.heap [] := va_S.rf
  have hl := lv_entry ([.ref (ad G 100), .int x1, .int x2, .int x3, .int x4]) (n := 6) (Nat.le_of_ble_eq_true rfl)
  rw [lg_entry_eq]
  generalize (lg_sl ([.ref (ad G 100), .int x1, .int x2, .int x3, .int x4]) ++ List.replicate (6 - (lg_sl ([.ref (ad G 100), .int x1, .int x2, .int x3, .int x4])).length) Slot.unset).toArray = ls at hl ⊢
  have hl : lv_has ls 6 [(0, .ref (ad G 100)), (1, .int x1), (2, .int x2), (3, .int x3), (4, .int x4)] := hl
  refine w_M_goDealt_0 S hE hA (Nat.le_refl _) (Nat.le_refl _) hq hfb ?_ x1 x2 x3 x4 z0 hB _ _ _ hP hD hS hl
  intro pc ls σ H locs hd hp hP hD hS
  exact W.vret B.exec B.bytes B.returns (fun t ht hW => ⟨⟨σ, rfl, hp, by rw [ht]; exact hP, hD⟩, hS.F ht⟩) hS.2.2 hd
def D_M_goDealt : Nat → (St → Prop) → Int32 → Int32 → Int32 → Int32 → St → Prop
  | 0 => fun _ _ _ _ _ _ => False
  | d + 1 => S_M_goDealt (D_M_goDealt d)
theorem cd_M_goDealt (l : Launch) : ∀ (d : Nat) (G : GX) (z0 : St) (sz : Nat) (x1 : Int32) (x2 : Int32) (x3 : Int32) (x4 : Int32) (post : St → Prop), MetV l wM yX12_goDealt cX12_goDealt 6 none { frames := 2 + 1 * d, cells := 0, slots := 0, locals := 43 + 40 * d } [.ref (ad G 100), .int x1, .int x2, .int x3, .int x4] G z0 sz (D_M_goDealt d post x1 x2 x3 x4 z0) post := by
  intro d
  induction d with
  | zero => exact fun G z0 sz x1 x2 x3 x4 post => Met.never (by decide) rfl (fun _ _ h => h.2.2.2.2.2)
  | succ d ih =>
    intro G z0 sz x1 x2 x3 x4 post
    have h9 := c_M_goDealt l ih ⟨by omega, by omega⟩ G z0 sz x1 x2 x3 x4 post
    rw [show 2 + 1 * d + 1 = 2 + 1 * (d + 1) by omega, show 43 + 40 * d + 40 = 43 + 40 * (d + 1) by omega] at h9
    exact h9
def S_M_dealt (post : Int32 → St → Prop) (x1 : Int32) (z0 : St) : Prop :=
  (∀ z1 : St, z1 = sI z0 100 (0 : Int32) → (((gI z1 112) = 0 → (post (-1 : Int32) z1)) ∧ (¬ (gI z1 112) = 0 → (S_M_isIn (fun (r2 : Int32) (z2 : St) => ((r2 = 0 → (post (-1 : Int32) z2)) ∧ (¬ r2 = 0 → (∀ z3 : St, z3 = sI z2 123 (-1 : Int32) → (∀ z4 : St, z4 = sI z3 124 (-1 : Int32) → (D_M_goDealt 8 (fun (z5 : St) => ((x1 = 0 → (post (gI z5 124) z5)) ∧ (¬ x1 = 0 → (post (gI z5 123) z5)))) (0 : Int32) (0 : Int32) (0 : Int32) (0 : Int32) z4)))))) ((x1).toInt64) (0 : Int64) (1 : Int64) z1))))
set_option maxHeartbeats 4000000 in
set_option maxRecDepth 100000 in
theorem w_M_dealt_0 {p : Program} {l : Launch} {e : Env} {R : Room} {s : State} {m : MethodId} {args : Array Value} {below : List Frame} {meth : Method} {c : Code} {Q : State → Prop} {G : GX} {A : Nat → Prop} (S : CallFix p m c cX12_dealt 2 s args GW RX12) (hE : env G A s s.heap) (hA : ∀ q, s.heap.size ≤ q → A q) (hRf : 11 ≤ R.frames) (hRl : 388 ≤ R.locals) {post : Int32 → St → Prop} (hret : RetI p l e R s m args below meth c Q 0 0 wM G A cX12_dealt post) (x1 : Int32) (z0 : St) (hB : S_M_dealt post x1 z0) : Xw p l e R s m args below meth c Q 0 0 wM G A z0 2 [(0, .ref (ad G 100)), (1, .int x1)] 0 [] := by
  intro H locs ls hP hD hS hl
  have hx := S.1
  have hb := S.2.1
  refine lv_aload_n hx hb dX12_dealt_0 rfl (lv_at hl 0 rfl) ?_
  refine lv_iconst (v := 0) hx hb dX12_dealt_1 (by decide) ?_
  obtain ⟨z1, ez1⟩ : ∃ z9, z9 = sI z0 100 (0 : Int32) := ⟨_, rfl⟩
  have hB := hB z1 ez1
  refine xMp_100_thrown S hE hP hD hS lk_X12_89 dX12_dealt_2 (fun H locs hP hD hS => ?_)
  rw [← ez1] at hP hD
  refine lv_aload_n hx hb dX12_dealt_5 rfl (lv_at hl 0 rfl) ?_
  refine xMg_100_guests S hE hP lk_X12_284 dX12_dealt_6 ?_
  refine lv_if_eq (tgt := 22) hx hb dX12_dealt_9 (by decide) (fun c1 => ?_) (fun c1 => ?_)
  · have hB := hB.1 c1
    refine lv_iconst (v := -1) hx hb dX12_dealt_22 (by decide) ?_
    exact hret _ _ _ _ _ _ dX12_dealt_23 hB hP hD hS
  · have hB := hB.2 c1
    refine lv_iload_n hx hb dX12_dealt_12 rfl (lv_at hl 1 rfl) ?_
    refine lv_i2l hx hb dX12_dealt_13 rfl ?_
    refine lv_lconst (v := 0) hx hb dX12_dealt_14 (by decide) ?_
    refine lv_lconst (v := 1) hx hb dX12_dealt_15 (by decide) ?_
    refine xcSi [.long ((x1).toInt64), .long (0 : Int64), .long (1 : Int64)] S hE hA hP hD hS (c_M_isIn l G z1 H.size ((x1).toInt64) (0 : Int64) (1 : Int64) _) hB (gw_c lk_X12_260 (gw_c wt_X12_isIn (gw_c wn_X12 (gw_c wc_X12_isIn (fun _ h9 => h9))))) hs_X12_isIn rfl rfl (Nat.le_trans (Nat.le_of_ble_eq_true rfl) hRf) (Nat.le_trans (Nat.le_of_ble_eq_true rfl) hRl) ⟨Nat.zero_le _, Nat.zero_le _⟩ rfl hl.1 rfl (Nat.le_of_ble_eq_true rfl) dX12_dealt_16 (fun r2 z2 H locs hB hP hD hS => ?_)
    refine lv_if_ne (tgt := 24) hx hb dX12_dealt_19 (by decide) (fun c3 => ?_) (fun c3 => ?_)
    · have hB := hB.2 c3
      refine lv_aload_n hx hb dX12_dealt_24 rfl (lv_at hl 0 rfl) ?_
      refine lv_iconst (v := -1) hx hb dX12_dealt_25 (by decide) ?_
      obtain ⟨z3, ez3⟩ : ∃ z9, z9 = sI z2 123 (-1 : Int32) := ⟨_, rfl⟩
      have hB := hB z3 ez3
      refine xMp_100_bestJoy S hE hP hD hS lk_X12_389 dX12_dealt_26 (fun H locs hP hD hS => ?_)
      rw [← ez3] at hP hD
      refine lv_aload_n hx hb dX12_dealt_29 rfl (lv_at hl 0 rfl) ?_
      refine lv_iconst (v := -1) hx hb dX12_dealt_30 (by decide) ?_
      obtain ⟨z4, ez4⟩ : ∃ z9, z9 = sI z3 124 (-1 : Int32) := ⟨_, rfl⟩
      have hB := hB z4 ez4
      refine xMp_100_bestRow S hE hP hD hS lk_X12_392 dX12_dealt_31 (fun H locs hP hD hS => ?_)
      rw [← ez4] at hP hD
      refine lv_aload_n hx hb dX12_dealt_34 rfl (lv_at hl 0 rfl) ?_
      refine lv_iconst (v := 0) hx hb dX12_dealt_35 (by decide) ?_
      refine lv_iconst (v := 0) hx hb dX12_dealt_36 (by decide) ?_
      refine lv_iconst (v := 0) hx hb dX12_dealt_37 (by decide) ?_
      refine lv_iconst (v := 0) hx hb dX12_dealt_38 (by decide) ?_
      refine xcVv [.int (0 : Int32), .int (0 : Int32), .int (0 : Int32), .int (0 : Int32)] S hE hA hP hD hS (cd_M_goDealt l 8 G z4 H.size (0 : Int32) (0 : Int32) (0 : Int32) (0 : Int32) _) hB (gw_c lk_X12_440 (gw_c wi_X12_goDealt (gw_c we_X12_X12_goDealt_X12_goDealt (gw_c wn_X12 (gw_c wc_X12_goDealt (fun _ h9 => h9)))))) hd_X12_goDealt rfl rfl (Nat.le_trans (Nat.le_of_ble_eq_true rfl) hRf) (Nat.le_trans (Nat.le_of_ble_eq_true rfl) hRl) ⟨Nat.zero_le _, Nat.zero_le _⟩ (va_recv hE.1 hP (ci := 11) (q0 := 0) rfl rfl) rfl hl.1 rfl (Nat.le_of_ble_eq_true rfl) dX12_dealt_39 (fun z5 H locs hB hP hD hS => ?_)
      refine lv_iload_n hx hb dX12_dealt_42 rfl (lv_at hl 1 rfl) ?_
      refine lv_if_ne (tgt := 53) hx hb dX12_dealt_43 (by decide) (fun c4 => ?_) (fun c4 => ?_)
      · have hB := hB.2 c4
        refine lv_aload_n hx hb dX12_dealt_53 rfl (lv_at hl 0 rfl) ?_
        refine xMg_100_bestJoy S hE hP lk_X12_389 dX12_dealt_54 ?_
        exact hret _ _ _ _ _ _ dX12_dealt_57 hB hP hD hS
      · have hB := hB.1 c4
        refine lv_aload_n hx hb dX12_dealt_46 rfl (lv_at hl 0 rfl) ?_
        refine xMg_100_bestRow S hE hP lk_X12_392 dX12_dealt_47 ?_
        refine lv_goto (tgt := 57) hx hb dX12_dealt_50 (by decide) ?_
        exact hret _ _ _ _ _ _ dX12_dealt_57 hB hP hD hS
    · have hB := hB.1 c3
      refine lv_iconst (v := -1) hx hb dX12_dealt_22 (by decide) ?_
      exact hret _ _ _ _ _ _ dX12_dealt_23 hB hP hD hS
set_option maxHeartbeats 4000000 in
set_option maxRecDepth 100000 in
theorem c_M_dealt (l : Launch) (G : GX) (z0 : St) (sz : Nat) (x1 : Int32) (post : Int32 → St → Prop) : MetI l wM yX12_dealt cX12_dealt 2 (some .int) ({ frames := 11, cells := 0, slots := 0, locals := 388 }) [.ref (ad G 100), .int x1] G z0 sz (S_M_dealt post x1 z0) post := by
  refine Met.ofW (cc := cX12_dealt) (maxL := 2) (ret := (some .int)) (by decide) rfl ?_
  intro p e s m args below meth c s₁ B hml hv
  obtain ⟨rfl, hsz, hP, hD0, hE, hB⟩ := hv
  have S : CallFix p m c cX12_dealt 2 s _ GW RX12 := ⟨B.exec, B.bytes, hml, findClass_of_methodNamed B.named, fun w h => atoms_spec (ws := Cond.code yX12_dealt cX12_dealt 2 (some .int) :: GW) B.pre w (List.mem_cons_of_mem _ h)⟩
  have hlocks := B.notSynchronized
  subst hsz
  have hD := hD0.self (sz := s.heap.size)
  generalize hAe : va_A (wM G z0) s.heap.size = A at hD hE ⊢
  have hA : ∀ q : Nat, s.heap.size ≤ q → A q := fun q h => by rw [← hAe]; exact Or.inr h
  have hS : va_S A s.heap s.heap [] := va_S.rf
  have hl := lv_entry ([.ref (ad G 100), .int x1]) (n := 2) (Nat.le_of_ble_eq_true rfl)
  rw [lg_entry_eq]
  generalize (lg_sl ([.ref (ad G 100), .int x1]) ++ List.replicate (2 - (lg_sl ([.ref (ad G 100), .int x1])).length) Slot.unset).toArray = ls at hl ⊢
  have hl : lv_has ls 2 [(0, .ref (ad G 100)), (1, .int x1)] := hl
  refine w_M_dealt_0 S hE hA (Nat.le_refl _) (Nat.le_refl _) ?_ x1 z0 hB _ _ _ hP hD hS hl
  intro pc ls r σ H locs hd hp hP hD hS
  exact W.iret (v := r) B.exec B.bytes B.returns (fun t ht hW => ⟨⟨r, σ, rfl, hp, by rw [ht]; exact hP, hD⟩, hS.F ht⟩) hS.2.2 hd
def B_M_oddsFrom_105 (rq : (Int32 → St → Prop) → Int32 → Int32 → Int32 → St → Prop) (post : Int32 → St → Prop) (ih62 : Int32 → Int32 → Int32 → Int32 → Int32 → St → Prop) (ih105 : Int32 → Int32 → Int32 → Int32 → Int32 → Int32 → St → Prop) (x1 : Int32) (x2 : Int32) (x3 : Int32) (x4 : Int32) (x5 : Int32) (x7 : Int32) (z0 : St) : Prop :=
  (((29 : Int32) ≤ x7 → (∀ v2 : Int32, v2 = x5 + (1 : Int32) → (ih62 x1 x2 x3 x4 v2 z0))) ∧ (¬ (29 : Int32) ≤ x7 → (vp_in (((29 : Int32) * x2) + x7) 203 ∧ (vp_in x7 269 ∧ (∀ z1 : St, z1 = sA z0 114 x7.toNatClampNeg (gA z0 116 (((29 : Int32) * x2) + x7).toNatClampNeg) → (∀ v3 : Int32, v3 = x7 + (1 : Int32) → (ih105 x1 x2 x3 x4 x5 v3 z1)))))))
set_option maxHeartbeats 4000000 in
set_option maxRecDepth 100000 in
theorem w_M_oddsFrom_105 {p : Program} {l : Launch} {e : Env} {R : Room} {s : State} {m : MethodId} {args : Array Value} {below : List Frame} {meth : Method} {c : Code} {Q : State → Prop} {G : GX} {A : Nat → Prop} {rq : (Int32 → St → Prop) → Int32 → Int32 → Int32 → St → Prop} {frec lrec : Nat} (S : CallFix p m c cX12_oddsFrom 8 s args GW RX12) (hE : env G A s s.heap) (hA : ∀ q, s.heap.size ≤ q → A q) (hRf : frec + 1 ≤ R.frames) (hRl : lrec + 40 ≤ R.locals) (hq : ∀ (G : GX) (z0 : St) (sz : Nat) (x1 : Int32) (x2 : Int32) (x3 : Int32) (post : Int32 → St → Prop), MetI l wM yX12_oddsFrom cX12_oddsFrom 8 (some .int) { frames := frec, cells := 0, slots := 0, locals := lrec } [.ref (ad G 100), .int x1, .int x2, .int x3] G z0 sz (rq post x1 x2 x3 z0) post) (hfb : 63 ≤ frec ∧ 1774 ≤ lrec) {post : Int32 → St → Prop} (hret : RetI p l e R s m args below meth c Q 0 0 wM G A cX12_oddsFrom post) {ih62 : Int32 → Int32 → Int32 → Int32 → Int32 → St → Prop} (h62 : ∀ (x1 : Int32) (x2 : Int32) (x3 : Int32) (x4 : Int32) (x5 : Int32) (z0 : St), ih62 x1 x2 x3 x4 x5 z0 → Xw p l e R s m args below meth c Q 0 0 wM G A z0 8 [(0, .ref (ad G 100)), (1, .int x1), (2, .int x2), (3, .int x3), (4, .int x4), (5, .int x5)] 62 []) {ih105 : Int32 → Int32 → Int32 → Int32 → Int32 → Int32 → St → Prop} (h105 : ∀ (x1 : Int32) (x2 : Int32) (x3 : Int32) (x4 : Int32) (x5 : Int32) (x7 : Int32) (z0 : St), ih105 x1 x2 x3 x4 x5 x7 z0 → Xw p l e R s m args below meth c Q 0 0 wM G A z0 8 [(0, .ref (ad G 100)), (1, .int x1), (2, .int x2), (3, .int x3), (4, .int x4), (5, .int x5), (7, .int x7)] 105 []) (x1 : Int32) (x2 : Int32) (x3 : Int32) (x4 : Int32) (x5 : Int32) (x7 : Int32) (z0 : St) (hB : B_M_oddsFrom_105 rq post ih62 ih105 x1 x2 x3 x4 x5 x7 z0) : Xw p l e R s m args below meth c Q 0 0 wM G A z0 8 [(0, .ref (ad G 100)), (1, .int x1), (2, .int x2), (3, .int x3), (4, .int x4), (5, .int x5), (7, .int x7)] 105 [] := by
  intro H locs ls hP hD hS hl
  have hx := S.1
  have hb := S.2.1
  refine lv_iload hx hb dX12_oddsFrom_105 (lv_at hl 6 rfl) ?_
  refine lv_bipush (v := 29) hx hb dX12_oddsFrom_107 (by decide) ?_
  refine lv_icmp_ge (tgt := 137) hx hb dX12_oddsFrom_109 (by decide) (fun c1 => ?_) (fun c1 => ?_)
  · have hB := hB.1 c1
    obtain ⟨v2, ev2⟩ : ∃ y9, y9 = x5 + (1 : Int32) := ⟨_, rfl⟩
    have hB := hB v2 ev2
    refine lv_iinc (v := v2) (lv' := [(5, .int v2), (0, .ref (ad G 100)), (1, .int x1), (2, .int x2), (3, .int x3), (4, .int x4), (7, .int x7)]) hx hb dX12_oddsFrom_137 hl (k := 5) rfl (by rw [ev2]; rfl) (by decide) rfl (fun ls hl => ?_)
    refine lv_goto (tgt := 62) hx hb dX12_oddsFrom_140 (by decide) ?_
    exact h62 x1 x2 x3 x4 v2 z0 hB _ _ _ hP hD hS (lv_sub hl [1, 2, 3, 4, 5, 0] rfl)
  · have hB := hB.2 c1
    refine lv_aload_n hx hb dX12_oddsFrom_112 rfl (lv_at hl 0 rfl) ?_
    refine xMg_100_trial S hE hP lk_X12_64 dX12_oddsFrom_113 ?_
    refine lv_iload hx hb dX12_oddsFrom_116 (lv_at hl 6 rfl) ?_
    refine lv_aload_n hx hb dX12_oddsFrom_118 rfl (lv_at hl 0 rfl) ?_
    refine xMg_100_saved S hE hP lk_X12_77 dX12_oddsFrom_119 ?_
    refine lv_bipush (v := 29) hx hb dX12_oddsFrom_122 (by decide) ?_
    refine lv_iload_n hx hb dX12_oddsFrom_124 rfl (lv_at hl 2 rfl) ?_
    refine lv_imul hx hb dX12_oddsFrom_125 ?_
    refine lv_iload hx hb dX12_oddsFrom_126 (lv_at hl 6 rfl) ?_
    refine lv_iadd hx hb dX12_oddsFrom_128 ?_
    obtain ⟨hi, hB⟩ := hB
    refine xMl_116 S hE hP hi dX12_oddsFrom_129 ?_
    obtain ⟨hi, hB⟩ := hB
    obtain ⟨z1, ez1⟩ : ∃ z9, z9 = sA z0 114 x7.toNatClampNeg (gA z0 116 (((29 : Int32) * x2) + x7).toNatClampNeg) := ⟨_, rfl⟩
    have hB := hB z1 ez1
    refine xMs_114 S hE hP hD hS _ rfl hi dX12_oddsFrom_130 (fun H locs hP hD hS => ?_)
    rw [← ez1] at hP hD
    obtain ⟨v3, ev3⟩ : ∃ y9, y9 = x7 + (1 : Int32) := ⟨_, rfl⟩
    have hB := hB v3 ev3
    refine lv_iinc (v := v3) (lv' := [(7, .int v3), (0, .ref (ad G 100)), (1, .int x1), (2, .int x2), (3, .int x3), (4, .int x4), (5, .int x5)]) hx hb dX12_oddsFrom_131 hl (k := 6) rfl (by rw [ev3]; rfl) (by decide) rfl (fun ls hl => ?_)
    refine lv_goto (tgt := 105) hx hb dX12_oddsFrom_134 (by decide) ?_
    exact h105 x1 x2 x3 x4 x5 v3 z1 hB _ _ _ hP hD hS (lv_sub hl [1, 2, 3, 4, 5, 6, 0] rfl)
def L_M_oddsFrom_105 (rq : (Int32 → St → Prop) → Int32 → Int32 → Int32 → St → Prop) (post : Int32 → St → Prop) (ih62 : Int32 → Int32 → Int32 → Int32 → Int32 → St → Prop) : Nat → Int32 → Int32 → Int32 → Int32 → Int32 → Int32 → St → Prop
  | 0 => fun _ _ _ _ _ _ _ => False
  | n + 1 => B_M_oddsFrom_105 rq post ih62 (L_M_oddsFrom_105 rq post ih62 n)
theorem wl_M_oddsFrom_105 {p : Program} {l : Launch} {e : Env} {R : Room} {s : State} {m : MethodId} {args : Array Value} {below : List Frame} {meth : Method} {c : Code} {Q : State → Prop} {G : GX} {A : Nat → Prop} {rq : (Int32 → St → Prop) → Int32 → Int32 → Int32 → St → Prop} {frec lrec : Nat} (S : CallFix p m c cX12_oddsFrom 8 s args GW RX12) (hE : env G A s s.heap) (hA : ∀ q, s.heap.size ≤ q → A q) (hRf : frec + 1 ≤ R.frames) (hRl : lrec + 40 ≤ R.locals) (hq : ∀ (G : GX) (z0 : St) (sz : Nat) (x1 : Int32) (x2 : Int32) (x3 : Int32) (post : Int32 → St → Prop), MetI l wM yX12_oddsFrom cX12_oddsFrom 8 (some .int) { frames := frec, cells := 0, slots := 0, locals := lrec } [.ref (ad G 100), .int x1, .int x2, .int x3] G z0 sz (rq post x1 x2 x3 z0) post) (hfb : 63 ≤ frec ∧ 1774 ≤ lrec) {post : Int32 → St → Prop} (hret : RetI p l e R s m args below meth c Q 0 0 wM G A cX12_oddsFrom post) {ih62 : Int32 → Int32 → Int32 → Int32 → Int32 → St → Prop} (h62 : ∀ (x1 : Int32) (x2 : Int32) (x3 : Int32) (x4 : Int32) (x5 : Int32) (z0 : St), ih62 x1 x2 x3 x4 x5 z0 → Xw p l e R s m args below meth c Q 0 0 wM G A z0 8 [(0, .ref (ad G 100)), (1, .int x1), (2, .int x2), (3, .int x3), (4, .int x4), (5, .int x5)] 62 []) : ∀ (n : Nat) (x1 : Int32) (x2 : Int32) (x3 : Int32) (x4 : Int32) (x5 : Int32) (x7 : Int32) (z0 : St), L_M_oddsFrom_105 rq post ih62 n x1 x2 x3 x4 x5 x7 z0 → Xw p l e R s m args below meth c Q 0 0 wM G A z0 8 [(0, .ref (ad G 100)), (1, .int x1), (2, .int x2), (3, .int x3), (4, .int x4), (5, .int x5), (7, .int x7)] 105 [] := by
  intro n
  induction n with
  | zero => intro x1 x2 x3 x4 x5 x7 z0 hB; exact absurd hB id
  | succ n ih => exact fun x1 x2 x3 x4 x5 x7 z0 hB => w_M_oddsFrom_105 S hE hA hRf hRl hq hfb hret h62 ih x1 x2 x3 x4 x5 x7 z0 hB
def B_M_oddsFrom_62 (rq : (Int32 → St → Prop) → Int32 → Int32 → Int32 → St → Prop) (post : Int32 → St → Prop) (ih62 : Int32 → Int32 → Int32 → Int32 → Int32 → St → Prop) (x1 : Int32) (x2 : Int32) (x3 : Int32) (x4 : Int32) (x5 : Int32) (z0 : St) : Prop :=
  (((gI z0 112) ≤ x5 → (post x4 z0)) ∧ (¬ (gI z0 112) ≤ x5 → (S_M_visits_r114 (fun (r2 : Int32) (z1 : St) => (¬ (gI z1 112) = 0 ∧ (rq (fun (r3 : Int32) (z2 : St) => (∀ v4 : Int32, v4 = (x4 + r3) → (∃ n5, L_M_oddsFrom_105 rq post ih62 n5 x1 x2 x3 v4 x5 (0 : Int32) z2))) x1 (x2 - (1 : Int32)) (x3 / (gI z1 112)) z1))) x5 z0)))
set_option maxHeartbeats 4000000 in
set_option maxRecDepth 100000 in
theorem w_M_oddsFrom_62 {p : Program} {l : Launch} {e : Env} {R : Room} {s : State} {m : MethodId} {args : Array Value} {below : List Frame} {meth : Method} {c : Code} {Q : State → Prop} {G : GX} {A : Nat → Prop} {rq : (Int32 → St → Prop) → Int32 → Int32 → Int32 → St → Prop} {frec lrec : Nat} (S : CallFix p m c cX12_oddsFrom 8 s args GW RX12) (hE : env G A s s.heap) (hA : ∀ q, s.heap.size ≤ q → A q) (hRf : frec + 1 ≤ R.frames) (hRl : lrec + 40 ≤ R.locals) (hq : ∀ (G : GX) (z0 : St) (sz : Nat) (x1 : Int32) (x2 : Int32) (x3 : Int32) (post : Int32 → St → Prop), MetI l wM yX12_oddsFrom cX12_oddsFrom 8 (some .int) { frames := frec, cells := 0, slots := 0, locals := lrec } [.ref (ad G 100), .int x1, .int x2, .int x3] G z0 sz (rq post x1 x2 x3 z0) post) (hfb : 63 ≤ frec ∧ 1774 ≤ lrec) {post : Int32 → St → Prop} (hret : RetI p l e R s m args below meth c Q 0 0 wM G A cX12_oddsFrom post) {ih62 : Int32 → Int32 → Int32 → Int32 → Int32 → St → Prop} (h62 : ∀ (x1 : Int32) (x2 : Int32) (x3 : Int32) (x4 : Int32) (x5 : Int32) (z0 : St), ih62 x1 x2 x3 x4 x5 z0 → Xw p l e R s m args below meth c Q 0 0 wM G A z0 8 [(0, .ref (ad G 100)), (1, .int x1), (2, .int x2), (3, .int x3), (4, .int x4), (5, .int x5)] 62 []) (x1 : Int32) (x2 : Int32) (x3 : Int32) (x4 : Int32) (x5 : Int32) (z0 : St) (hB : B_M_oddsFrom_62 rq post ih62 x1 x2 x3 x4 x5 z0) : Xw p l e R s m args below meth c Q 0 0 wM G A z0 8 [(0, .ref (ad G 100)), (1, .int x1), (2, .int x2), (3, .int x3), (4, .int x4), (5, .int x5)] 62 [] := by
  intro H locs ls hP hD hS hl
  have hx := S.1
  have hb := S.2.1
  refine lv_iload hx hb dX12_oddsFrom_62 (lv_at hl 5 rfl) ?_
  refine lv_aload_n hx hb dX12_oddsFrom_64 rfl (lv_at hl 0 rfl) ?_
  refine xMg_100_guests S hE hP lk_X12_284 dX12_oddsFrom_65 ?_
  refine lv_icmp_ge (tgt := 143) hx hb dX12_oddsFrom_68 (by decide) (fun c1 => ?_) (fun c1 => ?_)
  · have hB := hB.1 c1
    refine lv_iload hx hb dX12_oddsFrom_143 (lv_at hl 4 rfl) ?_
    exact hret _ _ _ _ _ _ dX12_oddsFrom_145 hB hP hD hS
  · have hB := hB.2 c1
    refine lv_aload_n hx hb dX12_oddsFrom_71 rfl (lv_at hl 0 rfl) ?_
    refine lv_aload_n hx hb dX12_oddsFrom_72 rfl (lv_at hl 0 rfl) ?_
    refine xMg_100_trial S hE hP lk_X12_64 dX12_oddsFrom_73 ?_
    refine lv_iload hx hb dX12_oddsFrom_76 (lv_at hl 5 rfl) ?_
    refine xcVi [.ref (ad G 114), .int x5] S hE hA hP hD hS (c_M_visits_r114 l G z0 H.size x5 _) hB (gw_c lk_X12_332 (gw_c wi_X12_visits (gw_c we_X12_X12_visits_X12_visits (gw_c wn_X12 (gw_c wc_X12_visits (fun _ h9 => h9)))))) hd_X12_visits rfl rfl (Nat.le_trans (show 62 + 1 ≤ frec + 1 by omega) hRf) (Nat.le_trans (show 8 + (8 + 11) + (1747) ≤ lrec + 40 by omega) hRl) ⟨Nat.zero_le _, Nat.zero_le _⟩ (va_recv hE.1 hP (ci := 11) (q0 := 0) rfl rfl) rfl hl.1 rfl (Nat.le_of_ble_eq_true rfl) dX12_oddsFrom_78 (fun r2 z1 H locs hB hP hD hS => ?_)
    refine lv_istore (lv' := [(6, .int r2), (0, .ref (ad G 100)), (1, .int x1), (2, .int x2), (3, .int x3), (4, .int x4), (5, .int x5)]) hx hb dX12_oddsFrom_81 hl (by decide) rfl (fun ls hl => ?_)
    refine lv_iload hx hb dX12_oddsFrom_83 (lv_at hl 5 rfl) ?_
    refine lv_aload_n hx hb dX12_oddsFrom_85 rfl (lv_at hl 1 rfl) ?_
    refine lv_iload_n hx hb dX12_oddsFrom_86 rfl (lv_at hl 2 rfl) ?_
    refine lv_iload_n hx hb dX12_oddsFrom_87 rfl (lv_at hl 3 rfl) ?_
    refine lv_iconst (v := 1) hx hb dX12_oddsFrom_88 (by decide) ?_
    refine lv_isub hx hb dX12_oddsFrom_89 ?_
    refine lv_iload_n hx hb dX12_oddsFrom_90 rfl (lv_at hl 4 rfl) ?_
    refine lv_aload_n hx hb dX12_oddsFrom_91 rfl (lv_at hl 1 rfl) ?_
    refine xMg_100_guests S hE hP lk_X12_284 dX12_oddsFrom_92 ?_
    obtain ⟨hne, hB⟩ := hB
    refine lv_idiv hx hb dX12_oddsFrom_95 hne ?_
    refine xcVi [.int x1, .int (x2 - (1 : Int32)), .int (x3 / (gI z1 112))] S hE hA hP hD hS (hq G z1 H.size x1 (x2 - (1 : Int32)) (x3 / (gI z1 112)) _) hB (gw_c lk_X12_443 (gw_c wi_X12_oddsFrom (gw_c we_X12_X12_oddsFrom_X12_oddsFrom (gw_c wn_X12 (gw_c wc_X12_oddsFrom (fun _ h9 => h9)))))) hd_X12_oddsFrom rfl rfl (Nat.le_trans (show frec + 1 ≤ frec + 1 by omega) hRf) (Nat.le_trans (show 8 + (8 + 11) + (lrec) ≤ lrec + 40 by omega) hRl) ⟨Nat.zero_le _, Nat.zero_le _⟩ (va_recv hE.1 hP (ci := 11) (q0 := 0) rfl rfl) rfl hl.1 rfl (Nat.le_of_ble_eq_true rfl) dX12_oddsFrom_96 (fun r3 z2 H locs hB hP hD hS => ?_)
    refine lv_iadd hx hb dX12_oddsFrom_99 ?_
    refine lv_topi (fun v4 ev4 => ?_)
    have hB := hB v4 ev4
    refine lv_istore (lv' := [(4, .int v4), (6, .int r2), (0, .ref (ad G 100)), (1, .int x1), (2, .int x2), (3, .int x3), (5, .int x5)]) hx hb dX12_oddsFrom_100 hl (by decide) rfl (fun ls hl => ?_)
    refine lv_iconst (v := 0) hx hb dX12_oddsFrom_102 (by decide) ?_
    refine lv_istore (lv' := [(7, .int (0 : Int32)), (4, .int v4), (6, .int r2), (0, .ref (ad G 100)), (1, .int x1), (2, .int x2), (3, .int x3), (5, .int x5)]) hx hb dX12_oddsFrom_103 hl (by decide) rfl (fun ls hl => ?_)
    obtain ⟨n5, hB⟩ := hB
    exact wl_M_oddsFrom_105 S hE hA hRf hRl hq hfb hret h62 n5 x1 x2 x3 v4 x5 (0 : Int32) z2 hB _ _ _ hP hD hS (lv_sub hl [3, 4, 5, 6, 1, 7, 0] rfl)
def L_M_oddsFrom_62 (rq : (Int32 → St → Prop) → Int32 → Int32 → Int32 → St → Prop) (post : Int32 → St → Prop) : Nat → Int32 → Int32 → Int32 → Int32 → Int32 → St → Prop
  | 0 => fun _ _ _ _ _ _ => False
  | n + 1 => B_M_oddsFrom_62 rq post (L_M_oddsFrom_62 rq post n)
theorem wl_M_oddsFrom_62 {p : Program} {l : Launch} {e : Env} {R : Room} {s : State} {m : MethodId} {args : Array Value} {below : List Frame} {meth : Method} {c : Code} {Q : State → Prop} {G : GX} {A : Nat → Prop} {rq : (Int32 → St → Prop) → Int32 → Int32 → Int32 → St → Prop} {frec lrec : Nat} (S : CallFix p m c cX12_oddsFrom 8 s args GW RX12) (hE : env G A s s.heap) (hA : ∀ q, s.heap.size ≤ q → A q) (hRf : frec + 1 ≤ R.frames) (hRl : lrec + 40 ≤ R.locals) (hq : ∀ (G : GX) (z0 : St) (sz : Nat) (x1 : Int32) (x2 : Int32) (x3 : Int32) (post : Int32 → St → Prop), MetI l wM yX12_oddsFrom cX12_oddsFrom 8 (some .int) { frames := frec, cells := 0, slots := 0, locals := lrec } [.ref (ad G 100), .int x1, .int x2, .int x3] G z0 sz (rq post x1 x2 x3 z0) post) (hfb : 63 ≤ frec ∧ 1774 ≤ lrec) {post : Int32 → St → Prop} (hret : RetI p l e R s m args below meth c Q 0 0 wM G A cX12_oddsFrom post) : ∀ (n : Nat) (x1 : Int32) (x2 : Int32) (x3 : Int32) (x4 : Int32) (x5 : Int32) (z0 : St), L_M_oddsFrom_62 rq post n x1 x2 x3 x4 x5 z0 → Xw p l e R s m args below meth c Q 0 0 wM G A z0 8 [(0, .ref (ad G 100)), (1, .int x1), (2, .int x2), (3, .int x3), (4, .int x4), (5, .int x5)] 62 [] := by
  intro n
  induction n with
  | zero => intro x1 x2 x3 x4 x5 z0 hB; exact absurd hB id
  | succ n ih => exact fun x1 x2 x3 x4 x5 z0 hB => w_M_oddsFrom_62 S hE hA hRf hRl hq hfb hret ih x1 x2 x3 x4 x5 z0 hB
def B_M_oddsFrom_24 (rq : (Int32 → St → Prop) → Int32 → Int32 → Int32 → St → Prop) (post : Int32 → St → Prop) (ih24 : Int32 → Int32 → Int32 → Int32 → St → Prop) (x1 : Int32) (x2 : Int32) (x3 : Int32) (x4 : Int32) (z0 : St) : Prop :=
  (((29 : Int32) ≤ x4 → (∃ n2, L_M_oddsFrom_62 rq post n2 x1 x2 x3 (0 : Int32) (0 : Int32) z0)) ∧ (¬ (29 : Int32) ≤ x4 → (vp_in x4 269 ∧ (vp_in (((29 : Int32) * x2) + x4) 203 ∧ (∀ z1 : St, z1 = sA z0 116 (((29 : Int32) * x2) + x4).toNatClampNeg (gA z0 114 x4.toNatClampNeg) → (∀ v3 : Int32, v3 = x4 + (1 : Int32) → (ih24 x1 x2 x3 v3 z1)))))))
set_option maxHeartbeats 4000000 in
set_option maxRecDepth 100000 in
theorem w_M_oddsFrom_24 {p : Program} {l : Launch} {e : Env} {R : Room} {s : State} {m : MethodId} {args : Array Value} {below : List Frame} {meth : Method} {c : Code} {Q : State → Prop} {G : GX} {A : Nat → Prop} {rq : (Int32 → St → Prop) → Int32 → Int32 → Int32 → St → Prop} {frec lrec : Nat} (S : CallFix p m c cX12_oddsFrom 8 s args GW RX12) (hE : env G A s s.heap) (hA : ∀ q, s.heap.size ≤ q → A q) (hRf : frec + 1 ≤ R.frames) (hRl : lrec + 40 ≤ R.locals) (hq : ∀ (G : GX) (z0 : St) (sz : Nat) (x1 : Int32) (x2 : Int32) (x3 : Int32) (post : Int32 → St → Prop), MetI l wM yX12_oddsFrom cX12_oddsFrom 8 (some .int) { frames := frec, cells := 0, slots := 0, locals := lrec } [.ref (ad G 100), .int x1, .int x2, .int x3] G z0 sz (rq post x1 x2 x3 z0) post) (hfb : 63 ≤ frec ∧ 1774 ≤ lrec) {post : Int32 → St → Prop} (hret : RetI p l e R s m args below meth c Q 0 0 wM G A cX12_oddsFrom post) {ih24 : Int32 → Int32 → Int32 → Int32 → St → Prop} (h24 : ∀ (x1 : Int32) (x2 : Int32) (x3 : Int32) (x4 : Int32) (z0 : St), ih24 x1 x2 x3 x4 z0 → Xw p l e R s m args below meth c Q 0 0 wM G A z0 8 [(0, .ref (ad G 100)), (1, .int x1), (2, .int x2), (3, .int x3), (4, .int x4)] 24 []) (x1 : Int32) (x2 : Int32) (x3 : Int32) (x4 : Int32) (z0 : St) (hB : B_M_oddsFrom_24 rq post ih24 x1 x2 x3 x4 z0) : Xw p l e R s m args below meth c Q 0 0 wM G A z0 8 [(0, .ref (ad G 100)), (1, .int x1), (2, .int x2), (3, .int x3), (4, .int x4)] 24 [] := by
  intro H locs ls hP hD hS hl
  have hx := S.1
  have hb := S.2.1
  refine lv_iload hx hb dX12_oddsFrom_24 (lv_at hl 4 rfl) ?_
  refine lv_bipush (v := 29) hx hb dX12_oddsFrom_26 (by decide) ?_
  refine lv_icmp_ge (tgt := 56) hx hb dX12_oddsFrom_28 (by decide) (fun c1 => ?_) (fun c1 => ?_)
  · have hB := hB.1 c1
    refine lv_iconst (v := 0) hx hb dX12_oddsFrom_56 (by decide) ?_
    refine lv_istore (lv' := [(4, .int (0 : Int32)), (0, .ref (ad G 100)), (1, .int x1), (2, .int x2), (3, .int x3)]) hx hb dX12_oddsFrom_57 hl (by decide) rfl (fun ls hl => ?_)
    refine lv_iconst (v := 0) hx hb dX12_oddsFrom_59 (by decide) ?_
    refine lv_istore (lv' := [(5, .int (0 : Int32)), (4, .int (0 : Int32)), (0, .ref (ad G 100)), (1, .int x1), (2, .int x2), (3, .int x3)]) hx hb dX12_oddsFrom_60 hl (by decide) rfl (fun ls hl => ?_)
    obtain ⟨n2, hB⟩ := hB
    exact wl_M_oddsFrom_62 S hE hA hRf hRl hq hfb hret n2 x1 x2 x3 (0 : Int32) (0 : Int32) z0 hB _ _ _ hP hD hS (lv_sub hl [2, 3, 4, 5, 1, 0] rfl)
  · have hB := hB.2 c1
    refine lv_aload_n hx hb dX12_oddsFrom_31 rfl (lv_at hl 0 rfl) ?_
    refine xMg_100_saved S hE hP lk_X12_77 dX12_oddsFrom_32 ?_
    refine lv_bipush (v := 29) hx hb dX12_oddsFrom_35 (by decide) ?_
    refine lv_iload_n hx hb dX12_oddsFrom_37 rfl (lv_at hl 2 rfl) ?_
    refine lv_imul hx hb dX12_oddsFrom_38 ?_
    refine lv_iload hx hb dX12_oddsFrom_39 (lv_at hl 4 rfl) ?_
    refine lv_iadd hx hb dX12_oddsFrom_41 ?_
    refine lv_aload_n hx hb dX12_oddsFrom_42 rfl (lv_at hl 0 rfl) ?_
    refine xMg_100_trial S hE hP lk_X12_64 dX12_oddsFrom_43 ?_
    refine lv_iload hx hb dX12_oddsFrom_46 (lv_at hl 4 rfl) ?_
    obtain ⟨hi, hB⟩ := hB
    refine xMl_114 S hE hP hi dX12_oddsFrom_48 ?_
    obtain ⟨hi, hB⟩ := hB
    obtain ⟨z1, ez1⟩ : ∃ z9, z9 = sA z0 116 (((29 : Int32) * x2) + x4).toNatClampNeg (gA z0 114 x4.toNatClampNeg) := ⟨_, rfl⟩
    have hB := hB z1 ez1
    refine xMs_116 S hE hP hD hS _ rfl hi dX12_oddsFrom_49 (fun H locs hP hD hS => ?_)
    rw [← ez1] at hP hD
    obtain ⟨v3, ev3⟩ : ∃ y9, y9 = x4 + (1 : Int32) := ⟨_, rfl⟩
    have hB := hB v3 ev3
    refine lv_iinc (v := v3) (lv' := [(4, .int v3), (0, .ref (ad G 100)), (1, .int x1), (2, .int x2), (3, .int x3)]) hx hb dX12_oddsFrom_50 hl (k := 4) rfl (by rw [ev3]; rfl) (by decide) rfl (fun ls hl => ?_)
    refine lv_goto (tgt := 24) hx hb dX12_oddsFrom_53 (by decide) ?_
    exact h24 x1 x2 x3 v3 z1 hB _ _ _ hP hD hS (lv_sub hl [1, 2, 3, 4, 0] rfl)
def L_M_oddsFrom_24 (rq : (Int32 → St → Prop) → Int32 → Int32 → Int32 → St → Prop) (post : Int32 → St → Prop) : Nat → Int32 → Int32 → Int32 → Int32 → St → Prop
  | 0 => fun _ _ _ _ _ => False
  | n + 1 => B_M_oddsFrom_24 rq post (L_M_oddsFrom_24 rq post n)
theorem wl_M_oddsFrom_24 {p : Program} {l : Launch} {e : Env} {R : Room} {s : State} {m : MethodId} {args : Array Value} {below : List Frame} {meth : Method} {c : Code} {Q : State → Prop} {G : GX} {A : Nat → Prop} {rq : (Int32 → St → Prop) → Int32 → Int32 → Int32 → St → Prop} {frec lrec : Nat} (S : CallFix p m c cX12_oddsFrom 8 s args GW RX12) (hE : env G A s s.heap) (hA : ∀ q, s.heap.size ≤ q → A q) (hRf : frec + 1 ≤ R.frames) (hRl : lrec + 40 ≤ R.locals) (hq : ∀ (G : GX) (z0 : St) (sz : Nat) (x1 : Int32) (x2 : Int32) (x3 : Int32) (post : Int32 → St → Prop), MetI l wM yX12_oddsFrom cX12_oddsFrom 8 (some .int) { frames := frec, cells := 0, slots := 0, locals := lrec } [.ref (ad G 100), .int x1, .int x2, .int x3] G z0 sz (rq post x1 x2 x3 z0) post) (hfb : 63 ≤ frec ∧ 1774 ≤ lrec) {post : Int32 → St → Prop} (hret : RetI p l e R s m args below meth c Q 0 0 wM G A cX12_oddsFrom post) : ∀ (n : Nat) (x1 : Int32) (x2 : Int32) (x3 : Int32) (x4 : Int32) (z0 : St), L_M_oddsFrom_24 rq post n x1 x2 x3 x4 z0 → Xw p l e R s m args below meth c Q 0 0 wM G A z0 8 [(0, .ref (ad G 100)), (1, .int x1), (2, .int x2), (3, .int x3), (4, .int x4)] 24 [] := by
  intro n
  induction n with
  | zero => intro x1 x2 x3 x4 z0 hB; exact absurd hB id
  | succ n ih => exact fun x1 x2 x3 x4 z0 hB => w_M_oddsFrom_24 S hE hA hRf hRl hq hfb hret ih x1 x2 x3 x4 z0 hB
def S_M_oddsFrom (rq : (Int32 → St → Prop) → Int32 → Int32 → Int32 → St → Prop) (post : Int32 → St → Prop) (x1 : Int32) (x2 : Int32) (x3 : Int32) (z0 : St) : Prop :=
  ((x2 = 0 → (((gA z0 114 24) = x1 → (post x3 z0)) ∧ (¬ (gA z0 114 24) = x1 → (post (0 : Int32) z0)))) ∧ (¬ x2 = 0 → (∃ n2, L_M_oddsFrom_24 rq post n2 x1 x2 x3 (0 : Int32) z0)))
set_option maxHeartbeats 4000000 in
set_option maxRecDepth 100000 in
theorem w_M_oddsFrom_0 {p : Program} {l : Launch} {e : Env} {R : Room} {s : State} {m : MethodId} {args : Array Value} {below : List Frame} {meth : Method} {c : Code} {Q : State → Prop} {G : GX} {A : Nat → Prop} {rq : (Int32 → St → Prop) → Int32 → Int32 → Int32 → St → Prop} {frec lrec : Nat} (S : CallFix p m c cX12_oddsFrom 8 s args GW RX12) (hE : env G A s s.heap) (hA : ∀ q, s.heap.size ≤ q → A q) (hRf : frec + 1 ≤ R.frames) (hRl : lrec + 40 ≤ R.locals) (hq : ∀ (G : GX) (z0 : St) (sz : Nat) (x1 : Int32) (x2 : Int32) (x3 : Int32) (post : Int32 → St → Prop), MetI l wM yX12_oddsFrom cX12_oddsFrom 8 (some .int) { frames := frec, cells := 0, slots := 0, locals := lrec } [.ref (ad G 100), .int x1, .int x2, .int x3] G z0 sz (rq post x1 x2 x3 z0) post) (hfb : 63 ≤ frec ∧ 1774 ≤ lrec) {post : Int32 → St → Prop} (hret : RetI p l e R s m args below meth c Q 0 0 wM G A cX12_oddsFrom post) (x1 : Int32) (x2 : Int32) (x3 : Int32) (z0 : St) (hB : S_M_oddsFrom rq post x1 x2 x3 z0) : Xw p l e R s m args below meth c Q 0 0 wM G A z0 8 [(0, .ref (ad G 100)), (1, .int x1), (2, .int x2), (3, .int x3)] 0 [] := by
  intro H locs ls hP hD hS hl
  have hx := S.1
  have hb := S.2.1
  refine lv_iload_n hx hb dX12_oddsFrom_0 rfl (lv_at hl 2 rfl) ?_
  refine lv_if_ne (tgt := 21) hx hb dX12_oddsFrom_1 (by decide) (fun c1 => ?_) (fun c1 => ?_)
  · have hB := hB.2 c1
    refine lv_iconst (v := 0) hx hb dX12_oddsFrom_21 (by decide) ?_
    refine lv_istore (lv' := [(4, .int (0 : Int32)), (0, .ref (ad G 100)), (1, .int x1), (2, .int x2), (3, .int x3)]) hx hb dX12_oddsFrom_22 hl (by decide) rfl (fun ls hl => ?_)
    obtain ⟨n2, hB⟩ := hB
    exact wl_M_oddsFrom_24 S hE hA hRf hRl hq hfb hret n2 x1 x2 x3 (0 : Int32) z0 hB _ _ _ hP hD hS (lv_sub hl [1, 2, 3, 4, 0] rfl)
  · have hB := hB.1 c1
    refine lv_aload_n hx hb dX12_oddsFrom_4 rfl (lv_at hl 0 rfl) ?_
    refine xMg_100_trial S hE hP lk_X12_64 dX12_oddsFrom_5 ?_
    refine lv_bipush (v := 24) hx hb dX12_oddsFrom_8 (by decide) ?_
    refine xMk_114 S hE hP 24 (by decide) (by unfold vp_in; decide) dX12_oddsFrom_10 ?_
    refine lv_iload_n hx hb dX12_oddsFrom_11 rfl (lv_at hl 1 rfl) ?_
    refine lv_icmp_ne (tgt := 19) hx hb dX12_oddsFrom_12 (by decide) (fun c3 => ?_) (fun c3 => ?_)
    · have hB := hB.2 c3
      refine lv_iconst (v := 0) hx hb dX12_oddsFrom_19 (by decide) ?_
      exact hret _ _ _ _ _ _ dX12_oddsFrom_20 hB hP hD hS
    · have hB := hB.1 c3
      refine lv_iload_n hx hb dX12_oddsFrom_15 rfl (lv_at hl 3 rfl) ?_
      refine lv_goto (tgt := 20) hx hb dX12_oddsFrom_16 (by decide) ?_
      exact hret _ _ _ _ _ _ dX12_oddsFrom_20 hB hP hD hS
set_option maxHeartbeats 4000000 in
set_option maxRecDepth 100000 in
theorem c_M_oddsFrom (l : Launch) {rq : (Int32 → St → Prop) → Int32 → Int32 → Int32 → St → Prop} {frec lrec : Nat} (hq : ∀ (G : GX) (z0 : St) (sz : Nat) (x1 : Int32) (x2 : Int32) (x3 : Int32) (post : Int32 → St → Prop), MetI l wM yX12_oddsFrom cX12_oddsFrom 8 (some .int) { frames := frec, cells := 0, slots := 0, locals := lrec } [.ref (ad G 100), .int x1, .int x2, .int x3] G z0 sz (rq post x1 x2 x3 z0) post) (hfb : 63 ≤ frec ∧ 1774 ≤ lrec) (G : GX) (z0 : St) (sz : Nat) (x1 : Int32) (x2 : Int32) (x3 : Int32) (post : Int32 → St → Prop) : MetI l wM yX12_oddsFrom cX12_oddsFrom 8 (some .int) ({ frames := frec + 1, cells := 0, slots := 0, locals := lrec + 40 }) [.ref (ad G 100), .int x1, .int x2, .int x3] G z0 sz (S_M_oddsFrom rq post x1 x2 x3 z0) post := by
  refine Met.ofW (cc := cX12_oddsFrom) (maxL := 8) (ret := (some .int)) (by decide) rfl ?_
  intro p e s m args below meth c s₁ B hml hv
  obtain ⟨rfl, hsz, hP, hD0, hE, hB⟩ := hv
  have S : CallFix p m c cX12_oddsFrom 8 s _ GW RX12 := ⟨B.exec, B.bytes, hml, findClass_of_methodNamed B.named, fun w h => atoms_spec (ws := Cond.code yX12_oddsFrom cX12_oddsFrom 8 (some .int) :: GW) B.pre w (List.mem_cons_of_mem _ h)⟩
  have hlocks := B.notSynchronized
  subst hsz
  have hD := hD0.self (sz := s.heap.size)
  generalize hAe : va_A (wM G z0) s.heap.size = A at hD hE ⊢
  have hA : ∀ q : Nat, s.heap.size ≤ q → A q := fun q h => by rw [← hAe]; exact Or.inr h
  have hS : va_S A s.heap s.heap [] := va_S.rf
  have hl := lv_entry ([.ref (ad G 100), .int x1, .int x2, .int x3]) (n := 8) (Nat.le_of_ble_eq_true rfl)
  rw [lg_entry_eq]
  generalize (lg_sl ([.ref (ad G 100), .int x1, .int x2, .int x3]) ++ List.replicate (8 - (lg_sl ([.ref (ad G 100), .int x1, .int x2, .int x3])).length) Slot.unset).toArray = ls at hl ⊢
  have hl : lv_has ls 8 [(0, .ref (ad G 100)), (1, .int x1), (2, .int x2), (3, .int x3)] := hl
  refine w_M_oddsFrom_0 S hE hA (Nat.le_refl _) (Nat.le_refl _) hq hfb ?_ x1 x2 x3 z0 hB _ _ _ hP hD hS hl
  intro pc ls r σ H locs hd hp hP hD hS
  exact W.iret (v := r) B.exec B.bytes B.returns (fun t ht hW => ⟨⟨r, σ, rfl, hp, by rw [ht]; exact hP, hD⟩, hS.F ht⟩) hS.2.2 hd
def D_M_oddsFrom : Nat → (Int32 → St → Prop) → Int32 → Int32 → Int32 → St → Prop
  | 0 => fun _ _ _ _ _ => False
  | d + 1 => S_M_oddsFrom (D_M_oddsFrom d)
theorem cd_M_oddsFrom (l : Launch) : ∀ (d : Nat) (G : GX) (z0 : St) (sz : Nat) (x1 : Int32) (x2 : Int32) (x3 : Int32) (post : Int32 → St → Prop), MetI l wM yX12_oddsFrom cX12_oddsFrom 8 (some .int) { frames := 63 + 1 * d, cells := 0, slots := 0, locals := 1774 + 40 * d } [.ref (ad G 100), .int x1, .int x2, .int x3] G z0 sz (D_M_oddsFrom d post x1 x2 x3 z0) post := by
  intro d
  induction d with
  | zero => exact fun G z0 sz x1 x2 x3 post => Met.never (by decide) rfl (fun _ _ h => h.2.2.2.2.2)
  | succ d ih =>
    intro G z0 sz x1 x2 x3 post
    have h9 := c_M_oddsFrom l ih ⟨by omega, by omega⟩ G z0 sz x1 x2 x3 post
    rw [show 63 + 1 * d + 1 = 63 + 1 * (d + 1) by omega, show 1774 + 40 * d + 40 = 1774 + 40 * (d + 1) by omega] at h9
    exact h9
def S_M_odds (post : Int32 → St → Prop) (x1 : Int32) (x2 : Int32) (z0 : St) : Prop :=
  (∀ z1 : St, z1 = sI z0 100 (0 : Int32) → (S_M_isDrink (fun (r1 : Int32) (z2 : St) => ((r1 = 0 → (post (-1 : Int32) z2)) ∧ (¬ r1 = 0 → (S_M_isIn (fun (r3 : Int32) (z3 : St) => ((r3 = 0 → (post (-1 : Int32) z3)) ∧ (¬ r3 = 0 → (S_M_copy_r113_r114 (fun (z4 : St) => (D_M_oddsFrom 8 (fun (r5 : Int32) (z5 : St) => (post r5 z5)) x1 x2 (1000000 : Int32) z4)) z3)))) ((x2).toInt64) (0 : Int64) (4 : Int64) z2)))) x1 z1))
set_option maxHeartbeats 4000000 in
set_option maxRecDepth 100000 in
theorem w_M_odds_0 {p : Program} {l : Launch} {e : Env} {R : Room} {s : State} {m : MethodId} {args : Array Value} {below : List Frame} {meth : Method} {c : Code} {Q : State → Prop} {G : GX} {A : Nat → Prop} (S : CallFix p m c cX12_odds 3 s args GW RX12) (hE : env G A s s.heap) (hA : ∀ q, s.heap.size ≤ q → A q) (hRf : 72 ≤ R.frames) (hRl : 2121 ≤ R.locals) {post : Int32 → St → Prop} (hret : RetI p l e R s m args below meth c Q 0 0 wM G A cX12_odds post) (x1 : Int32) (x2 : Int32) (z0 : St) (hB : S_M_odds post x1 x2 z0) : Xw p l e R s m args below meth c Q 0 0 wM G A z0 3 [(0, .ref (ad G 100)), (1, .int x1), (2, .int x2)] 0 [] := by
  intro H locs ls hP hD hS hl
  have hx := S.1
  have hb := S.2.1
  refine lv_aload_n hx hb dX12_odds_0 rfl (lv_at hl 0 rfl) ?_
  refine lv_iconst (v := 0) hx hb dX12_odds_1 (by decide) ?_
  obtain ⟨z1, ez1⟩ : ∃ z9, z9 = sI z0 100 (0 : Int32) := ⟨_, rfl⟩
  have hB := hB z1 ez1
  refine xMp_100_thrown S hE hP hD hS lk_X12_89 dX12_odds_2 (fun H locs hP hD hS => ?_)
  rw [← ez1] at hP hD
  refine lv_aload_n hx hb dX12_odds_5 rfl (lv_at hl 0 rfl) ?_
  refine lv_iload_n hx hb dX12_odds_6 rfl (lv_at hl 1 rfl) ?_
  refine xcVi [.int x1] S hE hA hP hD hS (c_M_isDrink l G z1 H.size x1 _) hB (gw_c lk_X12_319 (gw_c wi_X12_isDrink (gw_c we_X12_X12_isDrink_X12_isDrink (gw_c wn_X12 (gw_c wc_X12_isDrink (fun _ h9 => h9)))))) hd_X12_isDrink rfl rfl (Nat.le_trans (Nat.le_of_ble_eq_true rfl) hRf) (Nat.le_trans (Nat.le_of_ble_eq_true rfl) hRl) ⟨Nat.zero_le _, Nat.zero_le _⟩ (va_recv hE.1 hP (ci := 11) (q0 := 0) rfl rfl) rfl hl.1 rfl (Nat.le_of_ble_eq_true rfl) dX12_odds_7 (fun r1 z2 H locs hB hP hD hS => ?_)
  refine lv_if_eq (tgt := 25) hx hb dX12_odds_10 (by decide) (fun c2 => ?_) (fun c2 => ?_)
  · have hB := hB.1 c2
    refine lv_iconst (v := -1) hx hb dX12_odds_25 (by decide) ?_
    exact hret _ _ _ _ _ _ dX12_odds_26 hB hP hD hS
  · have hB := hB.2 c2
    refine lv_iload_n hx hb dX12_odds_13 rfl (lv_at hl 2 rfl) ?_
    refine lv_i2l hx hb dX12_odds_14 rfl ?_
    refine lv_lconst (v := 0) hx hb dX12_odds_15 (by decide) ?_
    refine lv_ldc2 hx hb S.2.2.2.1 (S.2.2.2.2 _ lk_X12_419) dX12_odds_16 ?_
    refine xcSi [.long ((x2).toInt64), .long (0 : Int64), .long (4 : Int64)] S hE hA hP hD hS (c_M_isIn l G z2 H.size ((x2).toInt64) (0 : Int64) (4 : Int64) _) hB (gw_c lk_X12_260 (gw_c wt_X12_isIn (gw_c wn_X12 (gw_c wc_X12_isIn (fun _ h9 => h9))))) hs_X12_isIn rfl rfl (Nat.le_trans (Nat.le_of_ble_eq_true rfl) hRf) (Nat.le_trans (Nat.le_of_ble_eq_true rfl) hRl) ⟨Nat.zero_le _, Nat.zero_le _⟩ rfl hl.1 rfl (Nat.le_of_ble_eq_true rfl) dX12_odds_19 (fun r3 z3 H locs hB hP hD hS => ?_)
    refine lv_if_ne (tgt := 27) hx hb dX12_odds_22 (by decide) (fun c4 => ?_) (fun c4 => ?_)
    · have hB := hB.2 c4
      refine lv_aload_n hx hb dX12_odds_27 rfl (lv_at hl 0 rfl) ?_
      refine xMg_100_now S hE hP lk_X12_61 dX12_odds_28 ?_
      refine lv_aload_n hx hb dX12_odds_31 rfl (lv_at hl 0 rfl) ?_
      refine xMg_100_trial S hE hP lk_X12_64 dX12_odds_32 ?_
      refine xcSv [.ref (ad G 113), .ref (ad G 114)] S hE hA hP hD hS (c_M_copy_r113_r114 l G z3 H.size _) hB (gw_c lk_X12_379 (gw_c wt_X12_copy (gw_c wn_X12 (gw_c wc_X12_copy (fun _ h9 => h9))))) hs_X12_copy rfl rfl (Nat.le_trans (Nat.le_of_ble_eq_true rfl) hRf) (Nat.le_trans (Nat.le_of_ble_eq_true rfl) hRl) ⟨Nat.zero_le _, Nat.zero_le _⟩ rfl hl.1 rfl (Nat.le_of_ble_eq_true rfl) dX12_odds_35 (fun z4 H locs hB hP hD hS => ?_)
      refine lv_aload_n hx hb dX12_odds_38 rfl (lv_at hl 0 rfl) ?_
      refine lv_iload_n hx hb dX12_odds_39 rfl (lv_at hl 1 rfl) ?_
      refine lv_iload_n hx hb dX12_odds_40 rfl (lv_at hl 2 rfl) ?_
      refine lv_ldcw hx hb S.2.2.2.1 (S.2.2.2.2 _ lk_X12_446) dX12_odds_41 ?_
      refine xcVi [.int x1, .int x2, .int (1000000 : Int32)] S hE hA hP hD hS (cd_M_oddsFrom l 8 G z4 H.size x1 x2 (1000000 : Int32) _) hB (gw_c lk_X12_443 (gw_c wi_X12_oddsFrom (gw_c we_X12_X12_oddsFrom_X12_oddsFrom (gw_c wn_X12 (gw_c wc_X12_oddsFrom (fun _ h9 => h9)))))) hd_X12_oddsFrom rfl rfl (Nat.le_trans (Nat.le_of_ble_eq_true rfl) hRf) (Nat.le_trans (Nat.le_of_ble_eq_true rfl) hRl) ⟨Nat.zero_le _, Nat.zero_le _⟩ (va_recv hE.1 hP (ci := 11) (q0 := 0) rfl rfl) rfl hl.1 rfl (Nat.le_of_ble_eq_true rfl) dX12_odds_44 (fun r5 z5 H locs hB hP hD hS => ?_)
      exact hret _ _ _ _ _ _ dX12_odds_47 hB hP hD hS
    · have hB := hB.1 c4
      refine lv_iconst (v := -1) hx hb dX12_odds_25 (by decide) ?_
      exact hret _ _ _ _ _ _ dX12_odds_26 hB hP hD hS
set_option maxHeartbeats 4000000 in
set_option maxRecDepth 100000 in
theorem c_M_odds (l : Launch) (G : GX) (z0 : St) (sz : Nat) (x1 : Int32) (x2 : Int32) (post : Int32 → St → Prop) : MetI l wM yX12_odds cX12_odds 3 (some .int) ({ frames := 72, cells := 0, slots := 0, locals := 2121 }) [.ref (ad G 100), .int x1, .int x2] G z0 sz (S_M_odds post x1 x2 z0) post := by
  refine Met.ofW (cc := cX12_odds) (maxL := 3) (ret := (some .int)) (by decide) rfl ?_
  intro p e s m args below meth c s₁ B hml hv
  obtain ⟨rfl, hsz, hP, hD0, hE, hB⟩ := hv
  have S : CallFix p m c cX12_odds 3 s _ GW RX12 := ⟨B.exec, B.bytes, hml, findClass_of_methodNamed B.named, fun w h => atoms_spec (ws := Cond.code yX12_odds cX12_odds 3 (some .int) :: GW) B.pre w (List.mem_cons_of_mem _ h)⟩
  have hlocks := B.notSynchronized
  subst hsz
  have hD := hD0.self (sz := s.heap.size)
  generalize hAe : va_A (wM G z0) s.heap.size = A at hD hE ⊢
  have hA : ∀ q : Nat, s.heap.size ≤ q → A q := fun q h => by rw [← hAe]; exact Or.inr h
  have hS : va_S A s.heap s.heap [] := va_S.rf
  have hl := lv_entry ([.ref (ad G 100), .int x1, .int x2]) (n := 3) (Nat.le_of_ble_eq_true rfl)
  rw [lg_entry_eq]
  generalize (lg_sl ([.ref (ad G 100), .int x1, .int x2]) ++ List.replicate (3 - (lg_sl ([.ref (ad G 100), .int x1, .int x2])).length) Slot.unset).toArray = ls at hl ⊢
  have hl : lv_has ls 3 [(0, .ref (ad G 100)), (1, .int x1), (2, .int x2)] := hl
  refine w_M_odds_0 S hE hA (Nat.le_refl _) (Nat.le_refl _) ?_ x1 x2 z0 hB _ _ _ hP hD hS hl
  intro pc ls r σ H locs hd hp hP hD hS
  exact W.iret (v := r) B.exec B.bytes B.returns (fun t ht hW => ⟨⟨r, σ, rfl, hp, by rw [ht]; exact hP, hD⟩, hS.F ht⟩) hS.2.2 hd
def S_M_makesNow (post : Int32 → St → Prop) (x1 : Int32) (x2 : Int32) (z0 : St) : Prop :=
  (vp_in ((3 : Int32) * x1) 18 ∧ (vp_in (((3 : Int32) * x1) + (1 : Int32)) 269 ∧ (vp_in (((3 : Int32) * x1) + (0 : Int32)) 269 ∧ (S_M_makesOf_r113 (fun (r1 : Int32) (z1 : St) => (post r1 z1)) (gA z0 109 ((3 : Int32) * x1).toNatClampNeg) (gA z0 113 (((3 : Int32) * x1) + (1 : Int32)).toNatClampNeg) (gA z0 113 (((3 : Int32) * x1) + (0 : Int32)).toNatClampNeg) x2 (gA z0 113 27) z0))))
set_option maxHeartbeats 4000000 in
set_option maxRecDepth 100000 in
theorem w_M_makesNow_0 {p : Program} {l : Launch} {e : Env} {R : Room} {s : State} {m : MethodId} {args : Array Value} {below : List Frame} {meth : Method} {c : Code} {Q : State → Prop} {G : GX} {A : Nat → Prop} (S : CallFix p m c cX12_makesNow 3 s args GW RX12) (hE : env G A s s.heap) (hA : ∀ q, s.heap.size ≤ q → A q) (hRf : 62 ≤ R.frames) (hRl : 1747 ≤ R.locals) {post : Int32 → St → Prop} (hret : RetI p l e R s m args below meth c Q 0 0 wM G A cX12_makesNow post) (x1 : Int32) (x2 : Int32) (z0 : St) (hB : S_M_makesNow post x1 x2 z0) : Xw p l e R s m args below meth c Q 0 0 wM G A z0 3 [(0, .ref (ad G 100)), (1, .int x1), (2, .int x2)] 0 [] := by
  intro H locs ls hP hD hS hl
  have hx := S.1
  have hb := S.2.1
  refine lv_aload_n hx hb dX12_makesNow_0 rfl (lv_at hl 0 rfl) ?_
  refine lv_aload_n hx hb dX12_makesNow_1 rfl (lv_at hl 0 rfl) ?_
  refine xMg_100_now S hE hP lk_X12_61 dX12_makesNow_2 ?_
  refine lv_aload_n hx hb dX12_makesNow_5 rfl (lv_at hl 0 rfl) ?_
  refine xMg_100_guest S hE hP lk_X12_49 dX12_makesNow_6 ?_
  refine lv_iconst (v := 3) hx hb dX12_makesNow_9 (by decide) ?_
  refine lv_iload_n hx hb dX12_makesNow_10 rfl (lv_at hl 1 rfl) ?_
  refine lv_imul hx hb dX12_makesNow_11 ?_
  obtain ⟨hi, hB⟩ := hB
  refine xMl_109 S hE hP hi dX12_makesNow_12 ?_
  refine lv_aload_n hx hb dX12_makesNow_13 rfl (lv_at hl 0 rfl) ?_
  refine xMg_100_now S hE hP lk_X12_61 dX12_makesNow_14 ?_
  refine lv_iconst (v := 3) hx hb dX12_makesNow_17 (by decide) ?_
  refine lv_iload_n hx hb dX12_makesNow_18 rfl (lv_at hl 1 rfl) ?_
  refine lv_imul hx hb dX12_makesNow_19 ?_
  refine lv_iconst (v := 1) hx hb dX12_makesNow_20 (by decide) ?_
  refine lv_iadd hx hb dX12_makesNow_21 ?_
  obtain ⟨hi, hB⟩ := hB
  refine xMl_113 S hE hP hi dX12_makesNow_22 ?_
  refine lv_aload_n hx hb dX12_makesNow_23 rfl (lv_at hl 0 rfl) ?_
  refine xMg_100_now S hE hP lk_X12_61 dX12_makesNow_24 ?_
  refine lv_iconst (v := 3) hx hb dX12_makesNow_27 (by decide) ?_
  refine lv_iload_n hx hb dX12_makesNow_28 rfl (lv_at hl 1 rfl) ?_
  refine lv_imul hx hb dX12_makesNow_29 ?_
  refine lv_iconst (v := 0) hx hb dX12_makesNow_30 (by decide) ?_
  refine lv_iadd hx hb dX12_makesNow_31 ?_
  obtain ⟨hi, hB⟩ := hB
  refine xMl_113 S hE hP hi dX12_makesNow_32 ?_
  refine lv_iload_n hx hb dX12_makesNow_33 rfl (lv_at hl 2 rfl) ?_
  refine lv_aload_n hx hb dX12_makesNow_34 rfl (lv_at hl 0 rfl) ?_
  refine xMg_100_now S hE hP lk_X12_61 dX12_makesNow_35 ?_
  refine lv_bipush (v := 27) hx hb dX12_makesNow_38 (by decide) ?_
  refine xMk_113 S hE hP 27 (by decide) (by unfold vp_in; decide) dX12_makesNow_40 ?_
  refine xcVi [.ref (ad G 113), .int (gA z0 109 ((3 : Int32) * x1).toNatClampNeg), .int (gA z0 113 (((3 : Int32) * x1) + (1 : Int32)).toNatClampNeg), .int (gA z0 113 (((3 : Int32) * x1) + (0 : Int32)).toNatClampNeg), .int x2, .int (gA z0 113 27)] S hE hA hP hD hS (c_M_makesOf_r113 l G z0 H.size (gA z0 109 ((3 : Int32) * x1).toNatClampNeg) (gA z0 113 (((3 : Int32) * x1) + (1 : Int32)).toNatClampNeg) (gA z0 113 (((3 : Int32) * x1) + (0 : Int32)).toNatClampNeg) x2 (gA z0 113 27) _) hB (gw_c lk_X12_316 (gw_c wi_X12_makesOf (gw_c we_X12_X12_makesOf_X12_makesOf (gw_c wn_X12 (gw_c wc_X12_makesOf (fun _ h9 => h9)))))) hd_X12_makesOf rfl rfl (Nat.le_trans (Nat.le_of_ble_eq_true rfl) hRf) (Nat.le_trans (Nat.le_of_ble_eq_true rfl) hRl) ⟨Nat.zero_le _, Nat.zero_le _⟩ (va_recv hE.1 hP (ci := 11) (q0 := 0) rfl rfl) rfl hl.1 rfl (Nat.le_of_ble_eq_true rfl) dX12_makesNow_41 (fun r1 z1 H locs hB hP hD hS => ?_)
  exact hret _ _ _ _ _ _ dX12_makesNow_44 hB hP hD hS
set_option maxHeartbeats 4000000 in
set_option maxRecDepth 100000 in
theorem c_M_makesNow (l : Launch) (G : GX) (z0 : St) (sz : Nat) (x1 : Int32) (x2 : Int32) (post : Int32 → St → Prop) : MetI l wM yX12_makesNow cX12_makesNow 3 (some .int) ({ frames := 62, cells := 0, slots := 0, locals := 1747 }) [.ref (ad G 100), .int x1, .int x2] G z0 sz (S_M_makesNow post x1 x2 z0) post := by
  refine Met.ofW (cc := cX12_makesNow) (maxL := 3) (ret := (some .int)) (by decide) rfl ?_
  intro p e s m args below meth c s₁ B hml hv
  obtain ⟨rfl, hsz, hP, hD0, hE, hB⟩ := hv
  have S : CallFix p m c cX12_makesNow 3 s _ GW RX12 := ⟨B.exec, B.bytes, hml, findClass_of_methodNamed B.named, fun w h => atoms_spec (ws := Cond.code yX12_makesNow cX12_makesNow 3 (some .int) :: GW) B.pre w (List.mem_cons_of_mem _ h)⟩
  have hlocks := B.notSynchronized
  subst hsz
  have hD := hD0.self (sz := s.heap.size)
  generalize hAe : va_A (wM G z0) s.heap.size = A at hD hE ⊢
  have hA : ∀ q : Nat, s.heap.size ≤ q → A q := fun q h => by rw [← hAe]; exact Or.inr h
  have hS : va_S A s.heap s.heap [] := va_S.rf
  have hl := lv_entry ([.ref (ad G 100), .int x1, .int x2]) (n := 3) (Nat.le_of_ble_eq_true rfl)
  rw [lg_entry_eq]
  generalize (lg_sl ([.ref (ad G 100), .int x1, .int x2]) ++ List.replicate (3 - (lg_sl ([.ref (ad G 100), .int x1, .int x2])).length) Slot.unset).toArray = ls at hl ⊢
  have hl : lv_has ls 3 [(0, .ref (ad G 100)), (1, .int x1), (2, .int x2)] := hl
  refine w_M_makesNow_0 S hE hA (Nat.le_refl _) (Nat.le_refl _) ?_ x1 x2 z0 hB _ _ _ hP hD hS hl
  intro pc ls r σ H locs hd hp hP hD hS
  exact W.iret (v := r) B.exec B.bytes B.returns (fun t ht hW => ⟨⟨r, σ, rfl, hp, by rw [ht]; exact hP, hD⟩, hS.F ht⟩) hS.2.2 hd
def S_M_makes (post : Int32 → St → Prop) (x1 : Int32) (x2 : Int32) (z0 : St) : Prop :=
  (∀ z1 : St, z1 = sI z0 100 (0 : Int32) → (S_M_isGuest (fun (r1 : Int32) (z2 : St) => ((r1 = 0 → (post (-1000000 : Int32) z2)) ∧ (¬ r1 = 0 → (S_M_isDrink (fun (r3 : Int32) (z3 : St) => ((r3 = 0 → (post (-1000000 : Int32) z3)) ∧ (¬ r3 = 0 → (S_M_makesNow (fun (r5 : Int32) (z4 : St) => (post r5 z4)) x1 x2 z3)))) x2 z2)))) x1 z1))
set_option maxHeartbeats 4000000 in
set_option maxRecDepth 100000 in
theorem w_M_makes_0 {p : Program} {l : Launch} {e : Env} {R : Room} {s : State} {m : MethodId} {args : Array Value} {below : List Frame} {meth : Method} {c : Code} {Q : State → Prop} {G : GX} {A : Nat → Prop} (S : CallFix p m c cX12_makes 3 s args GW RX12) (hE : env G A s s.heap) (hA : ∀ q, s.heap.size ≤ q → A q) (hRf : 63 ≤ R.frames) (hRl : 1769 ≤ R.locals) {post : Int32 → St → Prop} (hret : RetI p l e R s m args below meth c Q 0 0 wM G A cX12_makes post) (x1 : Int32) (x2 : Int32) (z0 : St) (hB : S_M_makes post x1 x2 z0) : Xw p l e R s m args below meth c Q 0 0 wM G A z0 3 [(0, .ref (ad G 100)), (1, .int x1), (2, .int x2)] 0 [] := by
  intro H locs ls hP hD hS hl
  have hx := S.1
  have hb := S.2.1
  refine lv_aload_n hx hb dX12_makes_0 rfl (lv_at hl 0 rfl) ?_
  refine lv_iconst (v := 0) hx hb dX12_makes_1 (by decide) ?_
  obtain ⟨z1, ez1⟩ : ∃ z9, z9 = sI z0 100 (0 : Int32) := ⟨_, rfl⟩
  have hB := hB z1 ez1
  refine xMp_100_thrown S hE hP hD hS lk_X12_89 dX12_makes_2 (fun H locs hP hD hS => ?_)
  rw [← ez1] at hP hD
  refine lv_aload_n hx hb dX12_makes_5 rfl (lv_at hl 0 rfl) ?_
  refine lv_iload_n hx hb dX12_makes_6 rfl (lv_at hl 1 rfl) ?_
  refine xcVi [.int x1] S hE hA hP hD hS (c_M_isGuest l G z1 H.size x1 _) hB (gw_c lk_X12_322 (gw_c wi_X12_isGuest (gw_c we_X12_X12_isGuest_X12_isGuest (gw_c wn_X12 (gw_c wc_X12_isGuest (fun _ h9 => h9)))))) hd_X12_isGuest rfl rfl (Nat.le_trans (Nat.le_of_ble_eq_true rfl) hRf) (Nat.le_trans (Nat.le_of_ble_eq_true rfl) hRl) ⟨Nat.zero_le _, Nat.zero_le _⟩ (va_recv hE.1 hP (ci := 11) (q0 := 0) rfl rfl) rfl hl.1 rfl (Nat.le_of_ble_eq_true rfl) dX12_makes_7 (fun r1 z2 H locs hB hP hD hS => ?_)
  refine lv_if_eq (tgt := 30) hx hb dX12_makes_10 (by decide) (fun c2 => ?_) (fun c2 => ?_)
  · have hB := hB.1 c2
    refine lv_ldcw hx hb S.2.2.2.1 (S.2.2.2.2 _ lk_X12_366) dX12_makes_30 ?_
    exact hret _ _ _ _ _ _ dX12_makes_33 hB hP hD hS
  · have hB := hB.2 c2
    refine lv_aload_n hx hb dX12_makes_13 rfl (lv_at hl 0 rfl) ?_
    refine lv_iload_n hx hb dX12_makes_14 rfl (lv_at hl 2 rfl) ?_
    refine xcVi [.int x2] S hE hA hP hD hS (c_M_isDrink l G z2 H.size x2 _) hB (gw_c lk_X12_319 (gw_c wi_X12_isDrink (gw_c we_X12_X12_isDrink_X12_isDrink (gw_c wn_X12 (gw_c wc_X12_isDrink (fun _ h9 => h9)))))) hd_X12_isDrink rfl rfl (Nat.le_trans (Nat.le_of_ble_eq_true rfl) hRf) (Nat.le_trans (Nat.le_of_ble_eq_true rfl) hRl) ⟨Nat.zero_le _, Nat.zero_le _⟩ (va_recv hE.1 hP (ci := 11) (q0 := 0) rfl rfl) rfl hl.1 rfl (Nat.le_of_ble_eq_true rfl) dX12_makes_15 (fun r3 z3 H locs hB hP hD hS => ?_)
    refine lv_if_eq (tgt := 30) hx hb dX12_makes_18 (by decide) (fun c4 => ?_) (fun c4 => ?_)
    · have hB := hB.1 c4
      refine lv_ldcw hx hb S.2.2.2.1 (S.2.2.2.2 _ lk_X12_366) dX12_makes_30 ?_
      exact hret _ _ _ _ _ _ dX12_makes_33 hB hP hD hS
    · have hB := hB.2 c4
      refine lv_aload_n hx hb dX12_makes_21 rfl (lv_at hl 0 rfl) ?_
      refine lv_iload_n hx hb dX12_makes_22 rfl (lv_at hl 1 rfl) ?_
      refine lv_iload_n hx hb dX12_makes_23 rfl (lv_at hl 2 rfl) ?_
      refine xcVi [.int x1, .int x2] S hE hA hP hD hS (c_M_makesNow l G z3 H.size x1 x2 _) hB (gw_c lk_X12_447 (gw_c wi_X12_makesNow (gw_c we_X12_X12_makesNow_X12_makesNow (gw_c wn_X12 (gw_c wc_X12_makesNow (fun _ h9 => h9)))))) hd_X12_makesNow rfl rfl (Nat.le_trans (Nat.le_of_ble_eq_true rfl) hRf) (Nat.le_trans (Nat.le_of_ble_eq_true rfl) hRl) ⟨Nat.zero_le _, Nat.zero_le _⟩ (va_recv hE.1 hP (ci := 11) (q0 := 0) rfl rfl) rfl hl.1 rfl (Nat.le_of_ble_eq_true rfl) dX12_makes_24 (fun r5 z4 H locs hB hP hD hS => ?_)
      refine lv_goto (tgt := 33) hx hb dX12_makes_27 (by decide) ?_
      exact hret _ _ _ _ _ _ dX12_makes_33 hB hP hD hS
set_option maxHeartbeats 4000000 in
set_option maxRecDepth 100000 in
theorem c_M_makes (l : Launch) (G : GX) (z0 : St) (sz : Nat) (x1 : Int32) (x2 : Int32) (post : Int32 → St → Prop) : MetI l wM yX12_makes cX12_makes 3 (some .int) ({ frames := 63, cells := 0, slots := 0, locals := 1769 }) [.ref (ad G 100), .int x1, .int x2] G z0 sz (S_M_makes post x1 x2 z0) post := by
  refine Met.ofW (cc := cX12_makes) (maxL := 3) (ret := (some .int)) (by decide) rfl ?_
  intro p e s m args below meth c s₁ B hml hv
  obtain ⟨rfl, hsz, hP, hD0, hE, hB⟩ := hv
  have S : CallFix p m c cX12_makes 3 s _ GW RX12 := ⟨B.exec, B.bytes, hml, findClass_of_methodNamed B.named, fun w h => atoms_spec (ws := Cond.code yX12_makes cX12_makes 3 (some .int) :: GW) B.pre w (List.mem_cons_of_mem _ h)⟩
  have hlocks := B.notSynchronized
  subst hsz
  have hD := hD0.self (sz := s.heap.size)
  generalize hAe : va_A (wM G z0) s.heap.size = A at hD hE ⊢
  have hA : ∀ q : Nat, s.heap.size ≤ q → A q := fun q h => by rw [← hAe]; exact Or.inr h
  have hS : va_S A s.heap s.heap [] := va_S.rf
  have hl := lv_entry ([.ref (ad G 100), .int x1, .int x2]) (n := 3) (Nat.le_of_ble_eq_true rfl)
  rw [lg_entry_eq]
  generalize (lg_sl ([.ref (ad G 100), .int x1, .int x2]) ++ List.replicate (3 - (lg_sl ([.ref (ad G 100), .int x1, .int x2])).length) Slot.unset).toArray = ls at hl ⊢
  have hl : lv_has ls 3 [(0, .ref (ad G 100)), (1, .int x1), (2, .int x2)] := hl
  refine w_M_makes_0 S hE hA (Nat.le_refl _) (Nat.le_refl _) ?_ x1 x2 z0 hB _ _ _ hP hD hS hl
  intro pc ls r σ H locs hd hp hP hD hS
  exact W.iret (v := r) B.exec B.bytes B.returns (fun t ht hW => ⟨⟨r, σ, rfl, hp, by rw [ht]; exact hP, hD⟩, hS.F ht⟩) hS.2.2 hd
def S_M_glad (post : Int32 → St → Prop) (x1 : Int32) (z0 : St) : Prop :=
  (∀ z1 : St, z1 = sI z0 100 (0 : Int32) → (S_M_isGuest (fun (r1 : Int32) (z2 : St) => ((r1 = 0 → (post (-1 : Int32) z2)) ∧ (¬ r1 = 0 → (vp_in ((3 : Int32) * x1) 18 ∧ (S_M_joyOf (fun (r3 : Int32) (z3 : St) => (post r3 z3)) (gA z2 109 ((3 : Int32) * x1).toNatClampNeg) (gA z2 113 24) z2))))) x1 z1))
set_option maxHeartbeats 4000000 in
set_option maxRecDepth 100000 in
theorem w_M_glad_0 {p : Program} {l : Launch} {e : Env} {R : Room} {s : State} {m : MethodId} {args : Array Value} {below : List Frame} {meth : Method} {c : Code} {Q : State → Prop} {G : GX} {A : Nat → Prop} (S : CallFix p m c cX12_glad 2 s args GW RX12) (hE : env G A s s.heap) (hA : ∀ q, s.heap.size ≤ q → A q) (hRf : 2 ≤ R.frames) (hRl : 43 ≤ R.locals) {post : Int32 → St → Prop} (hret : RetI p l e R s m args below meth c Q 0 0 wM G A cX12_glad post) (x1 : Int32) (z0 : St) (hB : S_M_glad post x1 z0) : Xw p l e R s m args below meth c Q 0 0 wM G A z0 2 [(0, .ref (ad G 100)), (1, .int x1)] 0 [] := by
  intro H locs ls hP hD hS hl
  have hx := S.1
  have hb := S.2.1
  refine lv_aload_n hx hb dX12_glad_0 rfl (lv_at hl 0 rfl) ?_
  refine lv_iconst (v := 0) hx hb dX12_glad_1 (by decide) ?_
  obtain ⟨z1, ez1⟩ : ∃ z9, z9 = sI z0 100 (0 : Int32) := ⟨_, rfl⟩
  have hB := hB z1 ez1
  refine xMp_100_thrown S hE hP hD hS lk_X12_89 dX12_glad_2 (fun H locs hP hD hS => ?_)
  rw [← ez1] at hP hD
  refine lv_aload_n hx hb dX12_glad_5 rfl (lv_at hl 0 rfl) ?_
  refine lv_iload_n hx hb dX12_glad_6 rfl (lv_at hl 1 rfl) ?_
  refine xcVi [.int x1] S hE hA hP hD hS (c_M_isGuest l G z1 H.size x1 _) hB (gw_c lk_X12_322 (gw_c wi_X12_isGuest (gw_c we_X12_X12_isGuest_X12_isGuest (gw_c wn_X12 (gw_c wc_X12_isGuest (fun _ h9 => h9)))))) hd_X12_isGuest rfl rfl (Nat.le_trans (Nat.le_of_ble_eq_true rfl) hRf) (Nat.le_trans (Nat.le_of_ble_eq_true rfl) hRl) ⟨Nat.zero_le _, Nat.zero_le _⟩ (va_recv hE.1 hP (ci := 11) (q0 := 0) rfl rfl) rfl hl.1 rfl (Nat.le_of_ble_eq_true rfl) dX12_glad_7 (fun r1 z2 H locs hB hP hD hS => ?_)
  refine lv_if_eq (tgt := 35) hx hb dX12_glad_10 (by decide) (fun c2 => ?_) (fun c2 => ?_)
  · have hB := hB.1 c2
    refine lv_iconst (v := -1) hx hb dX12_glad_35 (by decide) ?_
    exact hret _ _ _ _ _ _ dX12_glad_36 hB hP hD hS
  · have hB := hB.2 c2
    refine lv_aload_n hx hb dX12_glad_13 rfl (lv_at hl 0 rfl) ?_
    refine lv_aload_n hx hb dX12_glad_14 rfl (lv_at hl 0 rfl) ?_
    refine xMg_100_guest S hE hP lk_X12_49 dX12_glad_15 ?_
    refine lv_iconst (v := 3) hx hb dX12_glad_18 (by decide) ?_
    refine lv_iload_n hx hb dX12_glad_19 rfl (lv_at hl 1 rfl) ?_
    refine lv_imul hx hb dX12_glad_20 ?_
    obtain ⟨hi, hB⟩ := hB
    refine xMl_109 S hE hP hi dX12_glad_21 ?_
    refine lv_aload_n hx hb dX12_glad_22 rfl (lv_at hl 0 rfl) ?_
    refine xMg_100_now S hE hP lk_X12_61 dX12_glad_23 ?_
    refine lv_bipush (v := 24) hx hb dX12_glad_26 (by decide) ?_
    refine xMk_113 S hE hP 24 (by decide) (by unfold vp_in; decide) dX12_glad_28 ?_
    refine xcVi [.int (gA z2 109 ((3 : Int32) * x1).toNatClampNeg), .int (gA z2 113 24)] S hE hA hP hD hS (c_M_joyOf l G z2 H.size (gA z2 109 ((3 : Int32) * x1).toNatClampNeg) (gA z2 113 24) _) hB (gw_c lk_X12_306 (gw_c wi_X12_joyOf (gw_c we_X12_X12_joyOf_X12_joyOf (gw_c wn_X12 (gw_c wc_X12_joyOf (fun _ h9 => h9)))))) hd_X12_joyOf rfl rfl (Nat.le_trans (Nat.le_of_ble_eq_true rfl) hRf) (Nat.le_trans (Nat.le_of_ble_eq_true rfl) hRl) ⟨Nat.zero_le _, Nat.zero_le _⟩ (va_recv hE.1 hP (ci := 11) (q0 := 0) rfl rfl) rfl hl.1 rfl (Nat.le_of_ble_eq_true rfl) dX12_glad_29 (fun r3 z3 H locs hB hP hD hS => ?_)
    refine lv_goto (tgt := 36) hx hb dX12_glad_32 (by decide) ?_
    exact hret _ _ _ _ _ _ dX12_glad_36 hB hP hD hS
set_option maxHeartbeats 4000000 in
set_option maxRecDepth 100000 in
theorem c_M_glad (l : Launch) (G : GX) (z0 : St) (sz : Nat) (x1 : Int32) (post : Int32 → St → Prop) : MetI l wM yX12_glad cX12_glad 2 (some .int) ({ frames := 2, cells := 0, slots := 0, locals := 43 }) [.ref (ad G 100), .int x1] G z0 sz (S_M_glad post x1 z0) post := by
  refine Met.ofW (cc := cX12_glad) (maxL := 2) (ret := (some .int)) (by decide) rfl ?_
  intro p e s m args below meth c s₁ B hml hv
  obtain ⟨rfl, hsz, hP, hD0, hE, hB⟩ := hv
  have S : CallFix p m c cX12_glad 2 s _ GW RX12 := ⟨B.exec, B.bytes, hml, findClass_of_methodNamed B.named, fun w h => atoms_spec (ws := Cond.code yX12_glad cX12_glad 2 (some .int) :: GW) B.pre w (List.mem_cons_of_mem _ h)⟩
  have hlocks := B.notSynchronized
  subst hsz
  have hD := hD0.self (sz := s.heap.size)
  generalize hAe : va_A (wM G z0) s.heap.size = A at hD hE ⊢
  have hA : ∀ q : Nat, s.heap.size ≤ q → A q := fun q h => by rw [← hAe]; exact Or.inr h
  have hS : va_S A s.heap s.heap [] := va_S.rf
  have hl := lv_entry ([.ref (ad G 100), .int x1]) (n := 2) (Nat.le_of_ble_eq_true rfl)
  rw [lg_entry_eq]
  generalize (lg_sl ([.ref (ad G 100), .int x1]) ++ List.replicate (2 - (lg_sl ([.ref (ad G 100), .int x1])).length) Slot.unset).toArray = ls at hl ⊢
  have hl : lv_has ls 2 [(0, .ref (ad G 100)), (1, .int x1)] := hl
  refine w_M_glad_0 S hE hA (Nat.le_refl _) (Nat.le_refl _) ?_ x1 z0 hB _ _ _ hP hD hS hl
  intro pc ls r σ H locs hd hp hP hD hS
  exact W.iret (v := r) B.exec B.bytes B.returns (fun t ht hW => ⟨⟨r, σ, rfl, hp, by rw [ht]; exact hP, hD⟩, hS.F ht⟩) hS.2.2 hd
def B_M_greatest_55 (post : Int32 → St → Prop) (ih4 : Int32 → Int32 → Int32 → St → Prop) (x1 : Int32) (x2 : Int32) (x3 : Int32) (z0 : St) : Prop :=
  (∀ v1 : Int32, v1 = x3 + (1 : Int32) → (ih4 x1 x2 v1 z0))
set_option maxHeartbeats 4000000 in
set_option maxRecDepth 100000 in
theorem w_M_greatest_55 {p : Program} {l : Launch} {e : Env} {R : Room} {s : State} {m : MethodId} {args : Array Value} {below : List Frame} {meth : Method} {c : Code} {Q : State → Prop} {G : GX} {A : Nat → Prop} (S : CallFix p m c cX12_greatest 5 s args GW RX12) (hE : env G A s s.heap) (hA : ∀ q, s.heap.size ≤ q → A q) (hRf : 0 ≤ R.frames) (hRl : 0 ≤ R.locals) {post : Int32 → St → Prop} (hret : RetI p l e R s m args below meth c Q 0 0 wM G A cX12_greatest post) {ih4 : Int32 → Int32 → Int32 → St → Prop} (h4 : ∀ (x1 : Int32) (x2 : Int32) (x3 : Int32) (z0 : St), ih4 x1 x2 x3 z0 → Xw p l e R s m args below meth c Q 0 0 wM G A z0 5 [(0, .ref (ad G 100)), (1, .int x1), (2, .int x2), (3, .int x3)] 4 []) (x1 : Int32) (x2 : Int32) (x3 : Int32) (z0 : St) (hB : B_M_greatest_55 post ih4 x1 x2 x3 z0) : Xw p l e R s m args below meth c Q 0 0 wM G A z0 5 [(0, .ref (ad G 100)), (1, .int x1), (2, .int x2), (3, .int x3)] 55 [] := by
  intro H locs ls hP hD hS hl
  have hx := S.1
  have hb := S.2.1
  obtain ⟨v1, ev1⟩ : ∃ y9, y9 = x3 + (1 : Int32) := ⟨_, rfl⟩
  have hB := hB v1 ev1
  refine lv_iinc (v := v1) (lv' := [(3, .int v1), (0, .ref (ad G 100)), (1, .int x1), (2, .int x2)]) hx hb dX12_greatest_55 hl (k := 3) rfl (by rw [ev1]; rfl) (by decide) rfl (fun ls hl => ?_)
  refine lv_goto (tgt := 4) hx hb dX12_greatest_58 (by decide) ?_
  exact h4 x1 x2 v1 z0 hB _ _ _ hP hD hS (lv_sub hl [1, 2, 3, 0] rfl)
def B_M_greatest_53 (post : Int32 → St → Prop) (ih4 : Int32 → Int32 → Int32 → St → Prop) (x1 : Int32) (x3 : Int32) (z0 : St) : Prop :=
  (B_M_greatest_55 post ih4 x1 x3 x3 z0)
set_option maxHeartbeats 4000000 in
set_option maxRecDepth 100000 in
theorem w_M_greatest_53 {p : Program} {l : Launch} {e : Env} {R : Room} {s : State} {m : MethodId} {args : Array Value} {below : List Frame} {meth : Method} {c : Code} {Q : State → Prop} {G : GX} {A : Nat → Prop} (S : CallFix p m c cX12_greatest 5 s args GW RX12) (hE : env G A s s.heap) (hA : ∀ q, s.heap.size ≤ q → A q) (hRf : 0 ≤ R.frames) (hRl : 0 ≤ R.locals) {post : Int32 → St → Prop} (hret : RetI p l e R s m args below meth c Q 0 0 wM G A cX12_greatest post) {ih4 : Int32 → Int32 → Int32 → St → Prop} (h4 : ∀ (x1 : Int32) (x2 : Int32) (x3 : Int32) (z0 : St), ih4 x1 x2 x3 z0 → Xw p l e R s m args below meth c Q 0 0 wM G A z0 5 [(0, .ref (ad G 100)), (1, .int x1), (2, .int x2), (3, .int x3)] 4 []) (x1 : Int32) (x3 : Int32) (z0 : St) (hB : B_M_greatest_53 post ih4 x1 x3 z0) : Xw p l e R s m args below meth c Q 0 0 wM G A z0 5 [(0, .ref (ad G 100)), (1, .int x1), (3, .int x3)] 53 [] := by
  intro H locs ls hP hD hS hl
  have hx := S.1
  have hb := S.2.1
  refine lv_iload_n hx hb dX12_greatest_53 rfl (lv_at hl 2 rfl) ?_
  refine lv_istore_n (lv' := [(2, .int x3), (0, .ref (ad G 100)), (1, .int x1), (3, .int x3)]) hx hb dX12_greatest_54 rfl hl (by decide) rfl (fun ls hl => ?_)
  exact w_M_greatest_55 S hE hA hRf hRl hret h4 x1 x3 x3 z0 hB _ _ _ hP hD hS (lv_sub hl [1, 2, 0, 3] rfl)
def B_M_greatest_4 (post : Int32 → St → Prop) (ih4 : Int32 → Int32 → Int32 → St → Prop) (x1 : Int32) (x2 : Int32) (x3 : Int32) (z0 : St) : Prop :=
  (((gI z0 112) ≤ x3 → (post x2 z0)) ∧ (¬ (gI z0 112) ≤ x3 → (vp_in (((3 : Int32) * x3) + x1) 269 ∧ (vp_in (((3 : Int32) * x2) + x1) 269 ∧ (∀ v2 : Int32, v2 = ((gA z0 113 (((3 : Int32) * x3) + x1).toNatClampNeg) - (gA z0 113 (((3 : Int32) * x2) + x1).toNatClampNeg)) → ((x1 = (1 : Int32) → ((0 ≤ v2 → (B_M_greatest_55 post ih4 x1 x2 x3 z0)) ∧ (¬ 0 ≤ v2 → (B_M_greatest_53 post ih4 x1 x3 z0)))) ∧ (¬ x1 = (1 : Int32) → ((v2 ≤ 0 → (B_M_greatest_55 post ih4 x1 x2 x3 z0)) ∧ (¬ v2 ≤ 0 → (B_M_greatest_53 post ih4 x1 x3 z0))))))))))
set_option maxHeartbeats 4000000 in
set_option maxRecDepth 100000 in
theorem w_M_greatest_4 {p : Program} {l : Launch} {e : Env} {R : Room} {s : State} {m : MethodId} {args : Array Value} {below : List Frame} {meth : Method} {c : Code} {Q : State → Prop} {G : GX} {A : Nat → Prop} (S : CallFix p m c cX12_greatest 5 s args GW RX12) (hE : env G A s s.heap) (hA : ∀ q, s.heap.size ≤ q → A q) (hRf : 0 ≤ R.frames) (hRl : 0 ≤ R.locals) {post : Int32 → St → Prop} (hret : RetI p l e R s m args below meth c Q 0 0 wM G A cX12_greatest post) {ih4 : Int32 → Int32 → Int32 → St → Prop} (h4 : ∀ (x1 : Int32) (x2 : Int32) (x3 : Int32) (z0 : St), ih4 x1 x2 x3 z0 → Xw p l e R s m args below meth c Q 0 0 wM G A z0 5 [(0, .ref (ad G 100)), (1, .int x1), (2, .int x2), (3, .int x3)] 4 []) (x1 : Int32) (x2 : Int32) (x3 : Int32) (z0 : St) (hB : B_M_greatest_4 post ih4 x1 x2 x3 z0) : Xw p l e R s m args below meth c Q 0 0 wM G A z0 5 [(0, .ref (ad G 100)), (1, .int x1), (2, .int x2), (3, .int x3)] 4 [] := by
  intro H locs ls hP hD hS hl
  have hx := S.1
  have hb := S.2.1
  refine lv_iload_n hx hb dX12_greatest_4 rfl (lv_at hl 3 rfl) ?_
  refine lv_aload_n hx hb dX12_greatest_5 rfl (lv_at hl 0 rfl) ?_
  refine xMg_100_guests S hE hP lk_X12_284 dX12_greatest_6 ?_
  refine lv_icmp_ge (tgt := 61) hx hb dX12_greatest_9 (by decide) (fun c1 => ?_) (fun c1 => ?_)
  · have hB := hB.1 c1
    refine lv_iload_n hx hb dX12_greatest_61 rfl (lv_at hl 2 rfl) ?_
    exact hret _ _ _ _ _ _ dX12_greatest_62 hB hP hD hS
  · have hB := hB.2 c1
    refine lv_aload_n hx hb dX12_greatest_12 rfl (lv_at hl 0 rfl) ?_
    refine xMg_100_now S hE hP lk_X12_61 dX12_greatest_13 ?_
    refine lv_iconst (v := 3) hx hb dX12_greatest_16 (by decide) ?_
    refine lv_iload_n hx hb dX12_greatest_17 rfl (lv_at hl 3 rfl) ?_
    refine lv_imul hx hb dX12_greatest_18 ?_
    refine lv_iload_n hx hb dX12_greatest_19 rfl (lv_at hl 1 rfl) ?_
    refine lv_iadd hx hb dX12_greatest_20 ?_
    obtain ⟨hi, hB⟩ := hB
    refine xMl_113 S hE hP hi dX12_greatest_21 ?_
    refine lv_aload_n hx hb dX12_greatest_22 rfl (lv_at hl 0 rfl) ?_
    refine xMg_100_now S hE hP lk_X12_61 dX12_greatest_23 ?_
    refine lv_iconst (v := 3) hx hb dX12_greatest_26 (by decide) ?_
    refine lv_iload_n hx hb dX12_greatest_27 rfl (lv_at hl 2 rfl) ?_
    refine lv_imul hx hb dX12_greatest_28 ?_
    refine lv_iload_n hx hb dX12_greatest_29 rfl (lv_at hl 1 rfl) ?_
    refine lv_iadd hx hb dX12_greatest_30 ?_
    obtain ⟨hi, hB⟩ := hB
    refine xMl_113 S hE hP hi dX12_greatest_31 ?_
    refine lv_isub hx hb dX12_greatest_32 ?_
    refine lv_topi (fun v2 ev2 => ?_)
    have hB := hB v2 ev2
    refine lv_istore (lv' := [(4, .int v2), (0, .ref (ad G 100)), (1, .int x1), (2, .int x2), (3, .int x3)]) hx hb dX12_greatest_33 hl (by decide) rfl (fun ls hl => ?_)
    refine lv_iload_n hx hb dX12_greatest_35 rfl (lv_at hl 2 rfl) ?_
    refine lv_iconst (v := 1) hx hb dX12_greatest_36 (by decide) ?_
    refine lv_icmp_ne (tgt := 48) hx hb dX12_greatest_37 (by decide) (fun c3 => ?_) (fun c3 => ?_)
    · have hB := hB.2 c3
      refine lv_iload hx hb dX12_greatest_48 (lv_at hl 0 rfl) ?_
      refine lv_if_le (tgt := 55) hx hb dX12_greatest_50 (by decide) (fun c4 => ?_) (fun c4 => ?_)
      · have hB := hB.1 c4
        exact w_M_greatest_55 S hE hA hRf hRl hret h4 x1 x2 x3 z0 hB _ _ _ hP hD hS (lv_sub hl [1, 2, 3, 4] rfl)
      · have hB := hB.2 c4
        exact w_M_greatest_53 S hE hA hRf hRl hret h4 x1 x3 z0 hB _ _ _ hP hD hS (lv_sub hl [1, 2, 4] rfl)
    · have hB := hB.1 c3
      refine lv_iload hx hb dX12_greatest_40 (lv_at hl 0 rfl) ?_
      refine lv_if_ge (tgt := 55) hx hb dX12_greatest_42 (by decide) (fun c5 => ?_) (fun c5 => ?_)
      · have hB := hB.1 c5
        exact w_M_greatest_55 S hE hA hRf hRl hret h4 x1 x2 x3 z0 hB _ _ _ hP hD hS (lv_sub hl [1, 2, 3, 4] rfl)
      · have hB := hB.2 c5
        refine lv_goto (tgt := 53) hx hb dX12_greatest_45 (by decide) ?_
        exact w_M_greatest_53 S hE hA hRf hRl hret h4 x1 x3 z0 hB _ _ _ hP hD hS (lv_sub hl [1, 2, 4] rfl)
def L_M_greatest_4 (post : Int32 → St → Prop) : Nat → Int32 → Int32 → Int32 → St → Prop
  | 0 => fun _ _ _ _ => False
  | n + 1 => B_M_greatest_4 post (L_M_greatest_4 post n)
theorem wl_M_greatest_4 {p : Program} {l : Launch} {e : Env} {R : Room} {s : State} {m : MethodId} {args : Array Value} {below : List Frame} {meth : Method} {c : Code} {Q : State → Prop} {G : GX} {A : Nat → Prop} (S : CallFix p m c cX12_greatest 5 s args GW RX12) (hE : env G A s s.heap) (hA : ∀ q, s.heap.size ≤ q → A q) (hRf : 0 ≤ R.frames) (hRl : 0 ≤ R.locals) {post : Int32 → St → Prop} (hret : RetI p l e R s m args below meth c Q 0 0 wM G A cX12_greatest post) : ∀ (n : Nat) (x1 : Int32) (x2 : Int32) (x3 : Int32) (z0 : St), L_M_greatest_4 post n x1 x2 x3 z0 → Xw p l e R s m args below meth c Q 0 0 wM G A z0 5 [(0, .ref (ad G 100)), (1, .int x1), (2, .int x2), (3, .int x3)] 4 [] := by
  intro n
  induction n with
  | zero => intro x1 x2 x3 z0 hB; exact absurd hB id
  | succ n ih => exact fun x1 x2 x3 z0 hB => w_M_greatest_4 S hE hA hRf hRl hret ih x1 x2 x3 z0 hB
def S_M_greatest (post : Int32 → St → Prop) (x1 : Int32) (z0 : St) : Prop :=
  (∃ n1, L_M_greatest_4 post n1 x1 (0 : Int32) (1 : Int32) z0)
set_option maxHeartbeats 4000000 in
set_option maxRecDepth 100000 in
theorem w_M_greatest_0 {p : Program} {l : Launch} {e : Env} {R : Room} {s : State} {m : MethodId} {args : Array Value} {below : List Frame} {meth : Method} {c : Code} {Q : State → Prop} {G : GX} {A : Nat → Prop} (S : CallFix p m c cX12_greatest 5 s args GW RX12) (hE : env G A s s.heap) (hA : ∀ q, s.heap.size ≤ q → A q) (hRf : 0 ≤ R.frames) (hRl : 0 ≤ R.locals) {post : Int32 → St → Prop} (hret : RetI p l e R s m args below meth c Q 0 0 wM G A cX12_greatest post) (x1 : Int32) (z0 : St) (hB : S_M_greatest post x1 z0) : Xw p l e R s m args below meth c Q 0 0 wM G A z0 5 [(0, .ref (ad G 100)), (1, .int x1)] 0 [] := by
  intro H locs ls hP hD hS hl
  have hx := S.1
  have hb := S.2.1
  refine lv_iconst (v := 0) hx hb dX12_greatest_0 (by decide) ?_
  refine lv_istore_n (lv' := [(2, .int (0 : Int32)), (0, .ref (ad G 100)), (1, .int x1)]) hx hb dX12_greatest_1 rfl hl (by decide) rfl (fun ls hl => ?_)
  refine lv_iconst (v := 1) hx hb dX12_greatest_2 (by decide) ?_
  refine lv_istore_n (lv' := [(3, .int (1 : Int32)), (2, .int (0 : Int32)), (0, .ref (ad G 100)), (1, .int x1)]) hx hb dX12_greatest_3 rfl hl (by decide) rfl (fun ls hl => ?_)
  obtain ⟨n1, hB⟩ := hB
  exact wl_M_greatest_4 S hE hA hRf hRl hret n1 x1 (0 : Int32) (1 : Int32) z0 hB _ _ _ hP hD hS (lv_sub hl [2, 3, 1, 0] rfl)
set_option maxHeartbeats 4000000 in
set_option maxRecDepth 100000 in
theorem c_M_greatest (l : Launch) (G : GX) (z0 : St) (sz : Nat) (x1 : Int32) (post : Int32 → St → Prop) : MetI l wM yX12_greatest cX12_greatest 5 (some .int) ({ frames := 0, cells := 0, slots := 0, locals := 0 }) [.ref (ad G 100), .int x1] G z0 sz (S_M_greatest post x1 z0) post := by
  refine Met.ofW (cc := cX12_greatest) (maxL := 5) (ret := (some .int)) (by decide) rfl ?_
  intro p e s m args below meth c s₁ B hml hv
  obtain ⟨rfl, hsz, hP, hD0, hE, hB⟩ := hv
  have S : CallFix p m c cX12_greatest 5 s _ GW RX12 := ⟨B.exec, B.bytes, hml, findClass_of_methodNamed B.named, fun w h => atoms_spec (ws := Cond.code yX12_greatest cX12_greatest 5 (some .int) :: GW) B.pre w (List.mem_cons_of_mem _ h)⟩
  have hlocks := B.notSynchronized
  subst hsz
  have hD := hD0.self (sz := s.heap.size)
  generalize hAe : va_A (wM G z0) s.heap.size = A at hD hE ⊢
  have hA : ∀ q : Nat, s.heap.size ≤ q → A q := fun q h => by rw [← hAe]; exact Or.inr h
  have hS : va_S A s.heap s.heap [] := va_S.rf
  have hl := lv_entry ([.ref (ad G 100), .int x1]) (n := 5) (Nat.le_of_ble_eq_true rfl)
  rw [lg_entry_eq]
  generalize (lg_sl ([.ref (ad G 100), .int x1]) ++ List.replicate (5 - (lg_sl ([.ref (ad G 100), .int x1])).length) Slot.unset).toArray = ls at hl ⊢
  have hl : lv_has ls 5 [(0, .ref (ad G 100)), (1, .int x1)] := hl
  refine w_M_greatest_0 S hE hA (Nat.le_refl _) (Nat.le_refl _) ?_ x1 z0 hB _ _ _ hP hD hS hl
  intro pc ls r σ H locs hd hp hP hD hS
  exact W.iret (v := r) B.exec B.bytes B.returns (fun t ht hW => ⟨⟨r, σ, rfl, hp, by rw [ht]; exact hP, hD⟩, hS.F ht⟩) hS.2.2 hd
def B_M_lovers_30 (post : Int32 → St → Prop) (ih4 : Int32 → Int32 → Int32 → St → Prop) (x1 : Int32) (x3 : Int32) (s0 : Int32) (s1 : Int32) (z0 : St) : Prop :=
  (∀ v1 : Int32, v1 = (s1 + s0) → (∀ v2 : Int32, v2 = x3 + (1 : Int32) → (ih4 x1 v1 v2 z0)))
set_option maxHeartbeats 4000000 in
set_option maxRecDepth 100000 in
theorem w_M_lovers_30 {p : Program} {l : Launch} {e : Env} {R : Room} {s : State} {m : MethodId} {args : Array Value} {below : List Frame} {meth : Method} {c : Code} {Q : State → Prop} {G : GX} {A : Nat → Prop} (S : CallFix p m c cX12_lovers 4 s args GW RX12) (hE : env G A s s.heap) (hA : ∀ q, s.heap.size ≤ q → A q) (hRf : 0 ≤ R.frames) (hRl : 0 ≤ R.locals) {post : Int32 → St → Prop} (hret : RetI p l e R s m args below meth c Q 0 0 wM G A cX12_lovers post) {ih4 : Int32 → Int32 → Int32 → St → Prop} (h4 : ∀ (x1 : Int32) (x2 : Int32) (x3 : Int32) (z0 : St), ih4 x1 x2 x3 z0 → Xw p l e R s m args below meth c Q 0 0 wM G A z0 4 [(0, .ref (ad G 100)), (1, .int x1), (2, .int x2), (3, .int x3)] 4 []) (x1 : Int32) (x3 : Int32) (s0 : Int32) (s1 : Int32) (z0 : St) (hB : B_M_lovers_30 post ih4 x1 x3 s0 s1 z0) : Xw p l e R s m args below meth c Q 0 0 wM G A z0 4 [(0, .ref (ad G 100)), (1, .int x1), (3, .int x3)] 30 [.int s0, .int s1] := by
  intro H locs ls hP hD hS hl
  have hx := S.1
  have hb := S.2.1
  refine lv_iadd hx hb dX12_lovers_30 ?_
  refine lv_topi (fun v1 ev1 => ?_)
  have hB := hB v1 ev1
  refine lv_istore_n (lv' := [(2, .int v1), (0, .ref (ad G 100)), (1, .int x1), (3, .int x3)]) hx hb dX12_lovers_31 rfl hl (by decide) rfl (fun ls hl => ?_)
  obtain ⟨v2, ev2⟩ : ∃ y9, y9 = x3 + (1 : Int32) := ⟨_, rfl⟩
  have hB := hB v2 ev2
  refine lv_iinc (v := v2) (lv' := [(3, .int v2), (2, .int v1), (0, .ref (ad G 100)), (1, .int x1)]) hx hb dX12_lovers_32 hl (k := 3) rfl (by rw [ev2]; rfl) (by decide) rfl (fun ls hl => ?_)
  refine lv_goto (tgt := 4) hx hb dX12_lovers_35 (by decide) ?_
  exact h4 x1 v1 v2 z0 hB _ _ _ hP hD hS (lv_sub hl [2, 3, 1, 0] rfl)
def B_M_lovers_4 (post : Int32 → St → Prop) (ih4 : Int32 → Int32 → Int32 → St → Prop) (x1 : Int32) (x2 : Int32) (x3 : Int32) (z0 : St) : Prop :=
  (((gI z0 112) ≤ x3 → (post x2 z0)) ∧ (¬ (gI z0 112) ≤ x3 → (vp_in ((3 : Int32) * x3) 18 ∧ (((gA z0 109 ((3 : Int32) * x3).toNatClampNeg) = x1 → (B_M_lovers_30 post ih4 x1 x3 (1 : Int32) x2 z0)) ∧ (¬ (gA z0 109 ((3 : Int32) * x3).toNatClampNeg) = x1 → (B_M_lovers_30 post ih4 x1 x3 (0 : Int32) x2 z0))))))
set_option maxHeartbeats 4000000 in
set_option maxRecDepth 100000 in
theorem w_M_lovers_4 {p : Program} {l : Launch} {e : Env} {R : Room} {s : State} {m : MethodId} {args : Array Value} {below : List Frame} {meth : Method} {c : Code} {Q : State → Prop} {G : GX} {A : Nat → Prop} (S : CallFix p m c cX12_lovers 4 s args GW RX12) (hE : env G A s s.heap) (hA : ∀ q, s.heap.size ≤ q → A q) (hRf : 0 ≤ R.frames) (hRl : 0 ≤ R.locals) {post : Int32 → St → Prop} (hret : RetI p l e R s m args below meth c Q 0 0 wM G A cX12_lovers post) {ih4 : Int32 → Int32 → Int32 → St → Prop} (h4 : ∀ (x1 : Int32) (x2 : Int32) (x3 : Int32) (z0 : St), ih4 x1 x2 x3 z0 → Xw p l e R s m args below meth c Q 0 0 wM G A z0 4 [(0, .ref (ad G 100)), (1, .int x1), (2, .int x2), (3, .int x3)] 4 []) (x1 : Int32) (x2 : Int32) (x3 : Int32) (z0 : St) (hB : B_M_lovers_4 post ih4 x1 x2 x3 z0) : Xw p l e R s m args below meth c Q 0 0 wM G A z0 4 [(0, .ref (ad G 100)), (1, .int x1), (2, .int x2), (3, .int x3)] 4 [] := by
  intro H locs ls hP hD hS hl
  have hx := S.1
  have hb := S.2.1
  refine lv_iload_n hx hb dX12_lovers_4 rfl (lv_at hl 3 rfl) ?_
  refine lv_aload_n hx hb dX12_lovers_5 rfl (lv_at hl 0 rfl) ?_
  refine xMg_100_guests S hE hP lk_X12_284 dX12_lovers_6 ?_
  refine lv_icmp_ge (tgt := 38) hx hb dX12_lovers_9 (by decide) (fun c1 => ?_) (fun c1 => ?_)
  · have hB := hB.1 c1
    refine lv_iload_n hx hb dX12_lovers_38 rfl (lv_at hl 2 rfl) ?_
    exact hret _ _ _ _ _ _ dX12_lovers_39 hB hP hD hS
  · have hB := hB.2 c1
    refine lv_iload_n hx hb dX12_lovers_12 rfl (lv_at hl 2 rfl) ?_
    refine lv_aload_n hx hb dX12_lovers_13 rfl (lv_at hl 0 rfl) ?_
    refine xMg_100_guest S hE hP lk_X12_49 dX12_lovers_14 ?_
    refine lv_iconst (v := 3) hx hb dX12_lovers_17 (by decide) ?_
    refine lv_iload_n hx hb dX12_lovers_18 rfl (lv_at hl 3 rfl) ?_
    refine lv_imul hx hb dX12_lovers_19 ?_
    obtain ⟨hi, hB⟩ := hB
    refine xMl_109 S hE hP hi dX12_lovers_20 ?_
    refine lv_iload_n hx hb dX12_lovers_21 rfl (lv_at hl 1 rfl) ?_
    refine lv_icmp_ne (tgt := 29) hx hb dX12_lovers_22 (by decide) (fun c2 => ?_) (fun c2 => ?_)
    · have hB := hB.2 c2
      refine lv_iconst (v := 0) hx hb dX12_lovers_29 (by decide) ?_
      exact w_M_lovers_30 S hE hA hRf hRl hret h4 x1 x3 (0 : Int32) x2 z0 hB _ _ _ hP hD hS (lv_sub hl [0, 1, 3] rfl)
    · have hB := hB.1 c2
      refine lv_iconst (v := 1) hx hb dX12_lovers_25 (by decide) ?_
      refine lv_goto (tgt := 30) hx hb dX12_lovers_26 (by decide) ?_
      exact w_M_lovers_30 S hE hA hRf hRl hret h4 x1 x3 (1 : Int32) x2 z0 hB _ _ _ hP hD hS (lv_sub hl [0, 1, 3] rfl)
def L_M_lovers_4 (post : Int32 → St → Prop) : Nat → Int32 → Int32 → Int32 → St → Prop
  | 0 => fun _ _ _ _ => False
  | n + 1 => B_M_lovers_4 post (L_M_lovers_4 post n)
theorem wl_M_lovers_4 {p : Program} {l : Launch} {e : Env} {R : Room} {s : State} {m : MethodId} {args : Array Value} {below : List Frame} {meth : Method} {c : Code} {Q : State → Prop} {G : GX} {A : Nat → Prop} (S : CallFix p m c cX12_lovers 4 s args GW RX12) (hE : env G A s s.heap) (hA : ∀ q, s.heap.size ≤ q → A q) (hRf : 0 ≤ R.frames) (hRl : 0 ≤ R.locals) {post : Int32 → St → Prop} (hret : RetI p l e R s m args below meth c Q 0 0 wM G A cX12_lovers post) : ∀ (n : Nat) (x1 : Int32) (x2 : Int32) (x3 : Int32) (z0 : St), L_M_lovers_4 post n x1 x2 x3 z0 → Xw p l e R s m args below meth c Q 0 0 wM G A z0 4 [(0, .ref (ad G 100)), (1, .int x1), (2, .int x2), (3, .int x3)] 4 [] := by
  intro n
  induction n with
  | zero => intro x1 x2 x3 z0 hB; exact absurd hB id
  | succ n ih => exact fun x1 x2 x3 z0 hB => w_M_lovers_4 S hE hA hRf hRl hret ih x1 x2 x3 z0 hB
def S_M_lovers (post : Int32 → St → Prop) (x1 : Int32) (z0 : St) : Prop :=
  (∃ n1, L_M_lovers_4 post n1 x1 (0 : Int32) (0 : Int32) z0)
set_option maxHeartbeats 4000000 in
set_option maxRecDepth 100000 in
theorem w_M_lovers_0 {p : Program} {l : Launch} {e : Env} {R : Room} {s : State} {m : MethodId} {args : Array Value} {below : List Frame} {meth : Method} {c : Code} {Q : State → Prop} {G : GX} {A : Nat → Prop} (S : CallFix p m c cX12_lovers 4 s args GW RX12) (hE : env G A s s.heap) (hA : ∀ q, s.heap.size ≤ q → A q) (hRf : 0 ≤ R.frames) (hRl : 0 ≤ R.locals) {post : Int32 → St → Prop} (hret : RetI p l e R s m args below meth c Q 0 0 wM G A cX12_lovers post) (x1 : Int32) (z0 : St) (hB : S_M_lovers post x1 z0) : Xw p l e R s m args below meth c Q 0 0 wM G A z0 4 [(0, .ref (ad G 100)), (1, .int x1)] 0 [] := by
  intro H locs ls hP hD hS hl
  have hx := S.1
  have hb := S.2.1
  refine lv_iconst (v := 0) hx hb dX12_lovers_0 (by decide) ?_
  refine lv_istore_n (lv' := [(2, .int (0 : Int32)), (0, .ref (ad G 100)), (1, .int x1)]) hx hb dX12_lovers_1 rfl hl (by decide) rfl (fun ls hl => ?_)
  refine lv_iconst (v := 0) hx hb dX12_lovers_2 (by decide) ?_
  refine lv_istore_n (lv' := [(3, .int (0 : Int32)), (2, .int (0 : Int32)), (0, .ref (ad G 100)), (1, .int x1)]) hx hb dX12_lovers_3 rfl hl (by decide) rfl (fun ls hl => ?_)
  obtain ⟨n1, hB⟩ := hB
  exact wl_M_lovers_4 S hE hA hRf hRl hret n1 x1 (0 : Int32) (0 : Int32) z0 hB _ _ _ hP hD hS (lv_sub hl [2, 3, 1, 0] rfl)
set_option maxHeartbeats 4000000 in
set_option maxRecDepth 100000 in
theorem c_M_lovers (l : Launch) (G : GX) (z0 : St) (sz : Nat) (x1 : Int32) (post : Int32 → St → Prop) : MetI l wM yX12_lovers cX12_lovers 4 (some .int) ({ frames := 0, cells := 0, slots := 0, locals := 0 }) [.ref (ad G 100), .int x1] G z0 sz (S_M_lovers post x1 z0) post := by
  refine Met.ofW (cc := cX12_lovers) (maxL := 4) (ret := (some .int)) (by decide) rfl ?_
  intro p e s m args below meth c s₁ B hml hv
  obtain ⟨rfl, hsz, hP, hD0, hE, hB⟩ := hv
  have S : CallFix p m c cX12_lovers 4 s _ GW RX12 := ⟨B.exec, B.bytes, hml, findClass_of_methodNamed B.named, fun w h => atoms_spec (ws := Cond.code yX12_lovers cX12_lovers 4 (some .int) :: GW) B.pre w (List.mem_cons_of_mem _ h)⟩
  have hlocks := B.notSynchronized
  subst hsz
  have hD := hD0.self (sz := s.heap.size)
  generalize hAe : va_A (wM G z0) s.heap.size = A at hD hE ⊢
  have hA : ∀ q : Nat, s.heap.size ≤ q → A q := fun q h => by rw [← hAe]; exact Or.inr h
  have hS : va_S A s.heap s.heap [] := va_S.rf
  have hl := lv_entry ([.ref (ad G 100), .int x1]) (n := 4) (Nat.le_of_ble_eq_true rfl)
  rw [lg_entry_eq]
  generalize (lg_sl ([.ref (ad G 100), .int x1]) ++ List.replicate (4 - (lg_sl ([.ref (ad G 100), .int x1])).length) Slot.unset).toArray = ls at hl ⊢
  have hl : lv_has ls 4 [(0, .ref (ad G 100)), (1, .int x1)] := hl
  refine w_M_lovers_0 S hE hA (Nat.le_refl _) (Nat.le_refl _) ?_ x1 z0 hB _ _ _ hP hD hS hl
  intro pc ls r σ H locs hd hp hP hD hS
  exact W.iret (v := r) B.exec B.bytes B.returns (fun t ht hW => ⟨⟨r, σ, rfl, hp, by rw [ht]; exact hP, hD⟩, hS.F ht⟩) hS.2.2 hd
def B_M_loved_30 (post : Int32 → St → Prop) (ih4 : Int32 → Int32 → St → Prop) (x2 : Int32) (s0 : Int32) (z0 : St) : Prop :=
  (∀ v1 : Int32, v1 = x2 + (1 : Int32) → (ih4 s0 v1 z0))
set_option maxHeartbeats 4000000 in
set_option maxRecDepth 100000 in
theorem w_M_loved_30 {p : Program} {l : Launch} {e : Env} {R : Room} {s : State} {m : MethodId} {args : Array Value} {below : List Frame} {meth : Method} {c : Code} {Q : State → Prop} {G : GX} {A : Nat → Prop} (S : CallFix p m c cX12_loved 3 s args GW RX12) (hE : env G A s s.heap) (hA : ∀ q, s.heap.size ≤ q → A q) (hRf : 1 ≤ R.frames) (hRl : 23 ≤ R.locals) {post : Int32 → St → Prop} (hret : RetI p l e R s m args below meth c Q 0 0 wM G A cX12_loved post) {ih4 : Int32 → Int32 → St → Prop} (h4 : ∀ (x1 : Int32) (x2 : Int32) (z0 : St), ih4 x1 x2 z0 → Xw p l e R s m args below meth c Q 0 0 wM G A z0 3 [(0, .ref (ad G 100)), (1, .int x1), (2, .int x2)] 4 []) (x2 : Int32) (s0 : Int32) (z0 : St) (hB : B_M_loved_30 post ih4 x2 s0 z0) : Xw p l e R s m args below meth c Q 0 0 wM G A z0 3 [(0, .ref (ad G 100)), (2, .int x2)] 30 [.int s0] := by
  intro H locs ls hP hD hS hl
  have hx := S.1
  have hb := S.2.1
  refine lv_istore_n (lv' := [(1, .int s0), (0, .ref (ad G 100)), (2, .int x2)]) hx hb dX12_loved_30 rfl hl (by decide) rfl (fun ls hl => ?_)
  obtain ⟨v1, ev1⟩ : ∃ y9, y9 = x2 + (1 : Int32) := ⟨_, rfl⟩
  have hB := hB v1 ev1
  refine lv_iinc (v := v1) (lv' := [(2, .int v1), (1, .int s0), (0, .ref (ad G 100))]) hx hb dX12_loved_31 hl (k := 2) rfl (by rw [ev1]; rfl) (by decide) rfl (fun ls hl => ?_)
  refine lv_goto (tgt := 4) hx hb dX12_loved_34 (by decide) ?_
  exact h4 s0 v1 z0 hB _ _ _ hP hD hS (lv_sub hl [2, 1, 0] rfl)
def B_M_loved_4 (post : Int32 → St → Prop) (ih4 : Int32 → Int32 → St → Prop) (x1 : Int32) (x2 : Int32) (z0 : St) : Prop :=
  (((gI z0 111) ≤ x2 → (post x1 z0)) ∧ (¬ (gI z0 111) ≤ x2 → (S_M_lovers (fun (r2 : Int32) (z1 : St) => (S_M_lovers (fun (r3 : Int32) (z2 : St) => ((r2 ≤ r3 → (B_M_loved_30 post ih4 x2 x1 z2)) ∧ (¬ r2 ≤ r3 → (B_M_loved_30 post ih4 x2 x2 z2)))) x1 z1)) x2 z0)))
set_option maxHeartbeats 4000000 in
set_option maxRecDepth 100000 in
theorem w_M_loved_4 {p : Program} {l : Launch} {e : Env} {R : Room} {s : State} {m : MethodId} {args : Array Value} {below : List Frame} {meth : Method} {c : Code} {Q : State → Prop} {G : GX} {A : Nat → Prop} (S : CallFix p m c cX12_loved 3 s args GW RX12) (hE : env G A s s.heap) (hA : ∀ q, s.heap.size ≤ q → A q) (hRf : 1 ≤ R.frames) (hRl : 23 ≤ R.locals) {post : Int32 → St → Prop} (hret : RetI p l e R s m args below meth c Q 0 0 wM G A cX12_loved post) {ih4 : Int32 → Int32 → St → Prop} (h4 : ∀ (x1 : Int32) (x2 : Int32) (z0 : St), ih4 x1 x2 z0 → Xw p l e R s m args below meth c Q 0 0 wM G A z0 3 [(0, .ref (ad G 100)), (1, .int x1), (2, .int x2)] 4 []) (x1 : Int32) (x2 : Int32) (z0 : St) (hB : B_M_loved_4 post ih4 x1 x2 z0) : Xw p l e R s m args below meth c Q 0 0 wM G A z0 3 [(0, .ref (ad G 100)), (1, .int x1), (2, .int x2)] 4 [] := by
  intro H locs ls hP hD hS hl
  have hx := S.1
  have hb := S.2.1
  refine lv_iload_n hx hb dX12_loved_4 rfl (lv_at hl 2 rfl) ?_
  refine lv_aload_n hx hb dX12_loved_5 rfl (lv_at hl 0 rfl) ?_
  refine xMg_100_drinks S hE hP lk_X12_281 dX12_loved_6 ?_
  refine lv_icmp_ge (tgt := 37) hx hb dX12_loved_9 (by decide) (fun c1 => ?_) (fun c1 => ?_)
  · have hB := hB.1 c1
    refine lv_iload_n hx hb dX12_loved_37 rfl (lv_at hl 1 rfl) ?_
    exact hret _ _ _ _ _ _ dX12_loved_38 hB hP hD hS
  · have hB := hB.2 c1
    refine lv_aload_n hx hb dX12_loved_12 rfl (lv_at hl 0 rfl) ?_
    refine lv_iload_n hx hb dX12_loved_13 rfl (lv_at hl 2 rfl) ?_
    refine xcVi [.int x2] S hE hA hP hD hS (c_M_lovers l G z0 H.size x2 _) hB (gw_c lk_X12_450 (gw_c wi_X12_lovers (gw_c we_X12_X12_lovers_X12_lovers (gw_c wn_X12 (gw_c wc_X12_lovers (fun _ h9 => h9)))))) hd_X12_lovers rfl rfl (Nat.le_trans (Nat.le_of_ble_eq_true rfl) hRf) (Nat.le_trans (Nat.le_of_ble_eq_true rfl) hRl) ⟨Nat.zero_le _, Nat.zero_le _⟩ (va_recv hE.1 hP (ci := 11) (q0 := 0) rfl rfl) rfl hl.1 rfl (Nat.le_of_ble_eq_true rfl) dX12_loved_14 (fun r2 z1 H locs hB hP hD hS => ?_)
    refine lv_aload_n hx hb dX12_loved_17 rfl (lv_at hl 0 rfl) ?_
    refine lv_iload_n hx hb dX12_loved_18 rfl (lv_at hl 1 rfl) ?_
    refine xcVi [.int x1] S hE hA hP hD hS (c_M_lovers l G z1 H.size x1 _) hB (gw_c lk_X12_450 (gw_c wi_X12_lovers (gw_c we_X12_X12_lovers_X12_lovers (gw_c wn_X12 (gw_c wc_X12_lovers (fun _ h9 => h9)))))) hd_X12_lovers rfl rfl (Nat.le_trans (Nat.le_of_ble_eq_true rfl) hRf) (Nat.le_trans (Nat.le_of_ble_eq_true rfl) hRl) ⟨Nat.zero_le _, Nat.zero_le _⟩ (va_recv hE.1 hP (ci := 11) (q0 := 0) rfl rfl) rfl hl.1 rfl (Nat.le_of_ble_eq_true rfl) dX12_loved_19 (fun r3 z2 H locs hB hP hD hS => ?_)
    refine lv_icmp_le (tgt := 29) hx hb dX12_loved_22 (by decide) (fun c4 => ?_) (fun c4 => ?_)
    · have hB := hB.1 c4
      refine lv_iload_n hx hb dX12_loved_29 rfl (lv_at hl 1 rfl) ?_
      exact w_M_loved_30 S hE hA hRf hRl hret h4 x2 x1 z2 hB _ _ _ hP hD hS (lv_sub hl [0, 2] rfl)
    · have hB := hB.2 c4
      refine lv_iload_n hx hb dX12_loved_25 rfl (lv_at hl 2 rfl) ?_
      refine lv_goto (tgt := 30) hx hb dX12_loved_26 (by decide) ?_
      exact w_M_loved_30 S hE hA hRf hRl hret h4 x2 x2 z2 hB _ _ _ hP hD hS (lv_sub hl [0, 2] rfl)
def L_M_loved_4 (post : Int32 → St → Prop) : Nat → Int32 → Int32 → St → Prop
  | 0 => fun _ _ _ => False
  | n + 1 => B_M_loved_4 post (L_M_loved_4 post n)
theorem wl_M_loved_4 {p : Program} {l : Launch} {e : Env} {R : Room} {s : State} {m : MethodId} {args : Array Value} {below : List Frame} {meth : Method} {c : Code} {Q : State → Prop} {G : GX} {A : Nat → Prop} (S : CallFix p m c cX12_loved 3 s args GW RX12) (hE : env G A s s.heap) (hA : ∀ q, s.heap.size ≤ q → A q) (hRf : 1 ≤ R.frames) (hRl : 23 ≤ R.locals) {post : Int32 → St → Prop} (hret : RetI p l e R s m args below meth c Q 0 0 wM G A cX12_loved post) : ∀ (n : Nat) (x1 : Int32) (x2 : Int32) (z0 : St), L_M_loved_4 post n x1 x2 z0 → Xw p l e R s m args below meth c Q 0 0 wM G A z0 3 [(0, .ref (ad G 100)), (1, .int x1), (2, .int x2)] 4 [] := by
  intro n
  induction n with
  | zero => intro x1 x2 z0 hB; exact absurd hB id
  | succ n ih => exact fun x1 x2 z0 hB => w_M_loved_4 S hE hA hRf hRl hret ih x1 x2 z0 hB
def S_M_loved (post : Int32 → St → Prop) (z0 : St) : Prop :=
  (∃ n1, L_M_loved_4 post n1 (0 : Int32) (1 : Int32) z0)
set_option maxHeartbeats 4000000 in
set_option maxRecDepth 100000 in
theorem w_M_loved_0 {p : Program} {l : Launch} {e : Env} {R : Room} {s : State} {m : MethodId} {args : Array Value} {below : List Frame} {meth : Method} {c : Code} {Q : State → Prop} {G : GX} {A : Nat → Prop} (S : CallFix p m c cX12_loved 3 s args GW RX12) (hE : env G A s s.heap) (hA : ∀ q, s.heap.size ≤ q → A q) (hRf : 1 ≤ R.frames) (hRl : 23 ≤ R.locals) {post : Int32 → St → Prop} (hret : RetI p l e R s m args below meth c Q 0 0 wM G A cX12_loved post) (z0 : St) (hB : S_M_loved post z0) : Xw p l e R s m args below meth c Q 0 0 wM G A z0 3 [(0, .ref (ad G 100))] 0 [] := by
  intro H locs ls hP hD hS hl
  have hx := S.1
  have hb := S.2.1
  refine lv_iconst (v := 0) hx hb dX12_loved_0 (by decide) ?_
  refine lv_istore_n (lv' := [(1, .int (0 : Int32)), (0, .ref (ad G 100))]) hx hb dX12_loved_1 rfl hl (by decide) rfl (fun ls hl => ?_)
  refine lv_iconst (v := 1) hx hb dX12_loved_2 (by decide) ?_
  refine lv_istore_n (lv' := [(2, .int (1 : Int32)), (1, .int (0 : Int32)), (0, .ref (ad G 100))]) hx hb dX12_loved_3 rfl hl (by decide) rfl (fun ls hl => ?_)
  obtain ⟨n1, hB⟩ := hB
  exact wl_M_loved_4 S hE hA hRf hRl hret n1 (0 : Int32) (1 : Int32) z0 hB _ _ _ hP hD hS (lv_sub hl [2, 1, 0] rfl)
set_option maxHeartbeats 4000000 in
set_option maxRecDepth 100000 in
theorem c_M_loved (l : Launch) (G : GX) (z0 : St) (sz : Nat) (post : Int32 → St → Prop) : MetI l wM yX12_loved cX12_loved 3 (some .int) ({ frames := 1, cells := 0, slots := 0, locals := 23 }) [.ref (ad G 100)] G z0 sz (S_M_loved post z0) post := by
  refine Met.ofW (cc := cX12_loved) (maxL := 3) (ret := (some .int)) (by decide) rfl ?_
  intro p e s m args below meth c s₁ B hml hv
  obtain ⟨rfl, hsz, hP, hD0, hE, hB⟩ := hv
  have S : CallFix p m c cX12_loved 3 s _ GW RX12 := ⟨B.exec, B.bytes, hml, findClass_of_methodNamed B.named, fun w h => atoms_spec (ws := Cond.code yX12_loved cX12_loved 3 (some .int) :: GW) B.pre w (List.mem_cons_of_mem _ h)⟩
  have hlocks := B.notSynchronized
  subst hsz
  have hD := hD0.self (sz := s.heap.size)
  generalize hAe : va_A (wM G z0) s.heap.size = A at hD hE ⊢
  have hA : ∀ q : Nat, s.heap.size ≤ q → A q := fun q h => by rw [← hAe]; exact Or.inr h
  have hS : va_S A s.heap s.heap [] := va_S.rf
  have hl := lv_entry ([.ref (ad G 100)]) (n := 3) (Nat.le_of_ble_eq_true rfl)
  rw [lg_entry_eq]
  generalize (lg_sl ([.ref (ad G 100)]) ++ List.replicate (3 - (lg_sl ([.ref (ad G 100)])).length) Slot.unset).toArray = ls at hl ⊢
  have hl : lv_has ls 3 [(0, .ref (ad G 100))] := hl
  refine w_M_loved_0 S hE hA (Nat.le_refl _) (Nat.le_refl _) ?_  z0 hB _ _ _ hP hD hS hl
  intro pc ls r σ H locs hd hp hP hD hS
  exact W.iret (v := r) B.exec B.bytes B.returns (fun t ht hW => ⟨⟨r, σ, rfl, hp, by rw [ht]; exact hP, hD⟩, hS.F ht⟩) hS.2.2 hd
def B_M_middle_4 (post : Int32 → St → Prop) (ih4 : Int32 → Int32 → St → Prop) (x1 : Int32) (x2 : Int32) (z0 : St) : Prop :=
  (((gA z0 113 28) ≤ x2 → (((gA z0 113 28) = 0 → (post (0 : Int32) z0)) ∧ (¬ (gA z0 113 28) = 0 → (¬ (gA z0 113 28) = 0 ∧ (post (x1 / (gA z0 113 28)) z0))))) ∧ (¬ (gA z0 113 28) ≤ x2 → (S_M_page (fun (r3 : Int32) (z1 : St) => (S_M_quality (fun (r4 : Int32) (z2 : St) => (∀ v5 : Int32, v5 = (x1 + r4) → (∀ v6 : Int32, v6 = x2 + (1 : Int32) → (ih4 v5 v6 z2)))) r3 z1)) x2 (1 : Int32) z0)))
set_option maxHeartbeats 4000000 in
set_option maxRecDepth 100000 in
theorem w_M_middle_4 {p : Program} {l : Launch} {e : Env} {R : Room} {s : State} {m : MethodId} {args : Array Value} {below : List Frame} {meth : Method} {c : Code} {Q : State → Prop} {G : GX} {A : Nat → Prop} (S : CallFix p m c cX12_middle 3 s args GW RX12) (hE : env G A s s.heap) (hA : ∀ q, s.heap.size ≤ q → A q) (hRf : 1 ≤ R.frames) (hRl : 22 ≤ R.locals) {post : Int32 → St → Prop} (hret : RetI p l e R s m args below meth c Q 0 0 wM G A cX12_middle post) {ih4 : Int32 → Int32 → St → Prop} (h4 : ∀ (x1 : Int32) (x2 : Int32) (z0 : St), ih4 x1 x2 z0 → Xw p l e R s m args below meth c Q 0 0 wM G A z0 3 [(0, .ref (ad G 100)), (1, .int x1), (2, .int x2)] 4 []) (x1 : Int32) (x2 : Int32) (z0 : St) (hB : B_M_middle_4 post ih4 x1 x2 z0) : Xw p l e R s m args below meth c Q 0 0 wM G A z0 3 [(0, .ref (ad G 100)), (1, .int x1), (2, .int x2)] 4 [] := by
  intro H locs ls hP hD hS hl
  have hx := S.1
  have hb := S.2.1
  refine lv_iload_n hx hb dX12_middle_4 rfl (lv_at hl 2 rfl) ?_
  refine lv_aload_n hx hb dX12_middle_5 rfl (lv_at hl 0 rfl) ?_
  refine xMg_100_now S hE hP lk_X12_61 dX12_middle_6 ?_
  refine lv_bipush (v := 28) hx hb dX12_middle_9 (by decide) ?_
  refine xMk_113 S hE hP 28 (by decide) (by unfold vp_in; decide) dX12_middle_11 ?_
  refine lv_icmp_ge (tgt := 34) hx hb dX12_middle_12 (by decide) (fun c1 => ?_) (fun c1 => ?_)
  · have hB := hB.1 c1
    refine lv_aload_n hx hb dX12_middle_34 rfl (lv_at hl 0 rfl) ?_
    refine xMg_100_now S hE hP lk_X12_61 dX12_middle_35 ?_
    refine lv_bipush (v := 28) hx hb dX12_middle_38 (by decide) ?_
    refine xMk_113 S hE hP 28 (by decide) (by unfold vp_in; decide) dX12_middle_40 ?_
    refine lv_if_ne (tgt := 48) hx hb dX12_middle_41 (by decide) (fun c2 => ?_) (fun c2 => ?_)
    · have hB := hB.2 c2
      refine lv_iload_n hx hb dX12_middle_48 rfl (lv_at hl 1 rfl) ?_
      refine lv_aload_n hx hb dX12_middle_49 rfl (lv_at hl 0 rfl) ?_
      refine xMg_100_now S hE hP lk_X12_61 dX12_middle_50 ?_
      refine lv_bipush (v := 28) hx hb dX12_middle_53 (by decide) ?_
      refine xMk_113 S hE hP 28 (by decide) (by unfold vp_in; decide) dX12_middle_55 ?_
      obtain ⟨hne, hB⟩ := hB
      refine lv_idiv hx hb dX12_middle_56 hne ?_
      exact hret _ _ _ _ _ _ dX12_middle_57 hB hP hD hS
    · have hB := hB.1 c2
      refine lv_iconst (v := 0) hx hb dX12_middle_44 (by decide) ?_
      refine lv_goto (tgt := 57) hx hb dX12_middle_45 (by decide) ?_
      exact hret _ _ _ _ _ _ dX12_middle_57 hB hP hD hS
  · have hB := hB.2 c1
    refine lv_iload_n hx hb dX12_middle_15 rfl (lv_at hl 1 rfl) ?_
    refine lv_aload_n hx hb dX12_middle_16 rfl (lv_at hl 0 rfl) ?_
    refine lv_aload_n hx hb dX12_middle_17 rfl (lv_at hl 0 rfl) ?_
    refine lv_iload_n hx hb dX12_middle_18 rfl (lv_at hl 2 rfl) ?_
    refine lv_iconst (v := 1) hx hb dX12_middle_19 (by decide) ?_
    refine xcVi [.int x2, .int (1 : Int32)] S hE hA hP hD hS (c_M_page l G z0 H.size x2 (1 : Int32) _) hB (gw_c lk_X12_363 (gw_c wi_X12_page (gw_c we_X12_X12_page_X12_page (gw_c wn_X12 (gw_c wc_X12_page (fun _ h9 => h9)))))) hd_X12_page rfl rfl (Nat.le_trans (Nat.le_of_ble_eq_true rfl) hRf) (Nat.le_trans (Nat.le_of_ble_eq_true rfl) hRl) ⟨Nat.zero_le _, Nat.zero_le _⟩ (va_recv hE.1 hP (ci := 11) (q0 := 0) rfl rfl) rfl hl.1 rfl (Nat.le_of_ble_eq_true rfl) dX12_middle_20 (fun r3 z1 H locs hB hP hD hS => ?_)
    refine xcVi [.int r3] S hE hA hP hD hS (c_M_quality l G z1 H.size r3 _) hB (gw_c lk_X12_296 (gw_c wi_X12_quality (gw_c we_X12_X12_quality_X12_quality (gw_c wn_X12 (gw_c wc_X12_quality (fun _ h9 => h9)))))) hd_X12_quality rfl rfl (Nat.le_trans (Nat.le_of_ble_eq_true rfl) hRf) (Nat.le_trans (Nat.le_of_ble_eq_true rfl) hRl) ⟨Nat.zero_le _, Nat.zero_le _⟩ (va_recv hE.1 hP (ci := 11) (q0 := 0) rfl rfl) rfl hl.1 rfl (Nat.le_of_ble_eq_true rfl) dX12_middle_23 (fun r4 z2 H locs hB hP hD hS => ?_)
    refine lv_iadd hx hb dX12_middle_26 ?_
    refine lv_topi (fun v5 ev5 => ?_)
    have hB := hB v5 ev5
    refine lv_istore_n (lv' := [(1, .int v5), (0, .ref (ad G 100)), (2, .int x2)]) hx hb dX12_middle_27 rfl hl (by decide) rfl (fun ls hl => ?_)
    obtain ⟨v6, ev6⟩ : ∃ y9, y9 = x2 + (1 : Int32) := ⟨_, rfl⟩
    have hB := hB v6 ev6
    refine lv_iinc (v := v6) (lv' := [(2, .int v6), (1, .int v5), (0, .ref (ad G 100))]) hx hb dX12_middle_28 hl (k := 2) rfl (by rw [ev6]; rfl) (by decide) rfl (fun ls hl => ?_)
    refine lv_goto (tgt := 4) hx hb dX12_middle_31 (by decide) ?_
    exact h4 v5 v6 z2 hB _ _ _ hP hD hS (lv_sub hl [2, 1, 0] rfl)
def L_M_middle_4 (post : Int32 → St → Prop) : Nat → Int32 → Int32 → St → Prop
  | 0 => fun _ _ _ => False
  | n + 1 => B_M_middle_4 post (L_M_middle_4 post n)
theorem wl_M_middle_4 {p : Program} {l : Launch} {e : Env} {R : Room} {s : State} {m : MethodId} {args : Array Value} {below : List Frame} {meth : Method} {c : Code} {Q : State → Prop} {G : GX} {A : Nat → Prop} (S : CallFix p m c cX12_middle 3 s args GW RX12) (hE : env G A s s.heap) (hA : ∀ q, s.heap.size ≤ q → A q) (hRf : 1 ≤ R.frames) (hRl : 22 ≤ R.locals) {post : Int32 → St → Prop} (hret : RetI p l e R s m args below meth c Q 0 0 wM G A cX12_middle post) : ∀ (n : Nat) (x1 : Int32) (x2 : Int32) (z0 : St), L_M_middle_4 post n x1 x2 z0 → Xw p l e R s m args below meth c Q 0 0 wM G A z0 3 [(0, .ref (ad G 100)), (1, .int x1), (2, .int x2)] 4 [] := by
  intro n
  induction n with
  | zero => intro x1 x2 z0 hB; exact absurd hB id
  | succ n ih => exact fun x1 x2 z0 hB => w_M_middle_4 S hE hA hRf hRl hret ih x1 x2 z0 hB
def S_M_middle (post : Int32 → St → Prop) (z0 : St) : Prop :=
  (∃ n1, L_M_middle_4 post n1 (0 : Int32) (0 : Int32) z0)
set_option maxHeartbeats 4000000 in
set_option maxRecDepth 100000 in
theorem w_M_middle_0 {p : Program} {l : Launch} {e : Env} {R : Room} {s : State} {m : MethodId} {args : Array Value} {below : List Frame} {meth : Method} {c : Code} {Q : State → Prop} {G : GX} {A : Nat → Prop} (S : CallFix p m c cX12_middle 3 s args GW RX12) (hE : env G A s s.heap) (hA : ∀ q, s.heap.size ≤ q → A q) (hRf : 1 ≤ R.frames) (hRl : 22 ≤ R.locals) {post : Int32 → St → Prop} (hret : RetI p l e R s m args below meth c Q 0 0 wM G A cX12_middle post) (z0 : St) (hB : S_M_middle post z0) : Xw p l e R s m args below meth c Q 0 0 wM G A z0 3 [(0, .ref (ad G 100))] 0 [] := by
  intro H locs ls hP hD hS hl
  have hx := S.1
  have hb := S.2.1
  refine lv_iconst (v := 0) hx hb dX12_middle_0 (by decide) ?_
  refine lv_istore_n (lv' := [(1, .int (0 : Int32)), (0, .ref (ad G 100))]) hx hb dX12_middle_1 rfl hl (by decide) rfl (fun ls hl => ?_)
  refine lv_iconst (v := 0) hx hb dX12_middle_2 (by decide) ?_
  refine lv_istore_n (lv' := [(2, .int (0 : Int32)), (1, .int (0 : Int32)), (0, .ref (ad G 100))]) hx hb dX12_middle_3 rfl hl (by decide) rfl (fun ls hl => ?_)
  obtain ⟨n1, hB⟩ := hB
  exact wl_M_middle_4 S hE hA hRf hRl hret n1 (0 : Int32) (0 : Int32) z0 hB _ _ _ hP hD hS (lv_sub hl [2, 1, 0] rfl)
set_option maxHeartbeats 4000000 in
set_option maxRecDepth 100000 in
theorem c_M_middle (l : Launch) (G : GX) (z0 : St) (sz : Nat) (post : Int32 → St → Prop) : MetI l wM yX12_middle cX12_middle 3 (some .int) ({ frames := 1, cells := 0, slots := 0, locals := 22 }) [.ref (ad G 100)] G z0 sz (S_M_middle post z0) post := by
  refine Met.ofW (cc := cX12_middle) (maxL := 3) (ret := (some .int)) (by decide) rfl ?_
  intro p e s m args below meth c s₁ B hml hv
  obtain ⟨rfl, hsz, hP, hD0, hE, hB⟩ := hv
  have S : CallFix p m c cX12_middle 3 s _ GW RX12 := ⟨B.exec, B.bytes, hml, findClass_of_methodNamed B.named, fun w h => atoms_spec (ws := Cond.code yX12_middle cX12_middle 3 (some .int) :: GW) B.pre w (List.mem_cons_of_mem _ h)⟩
  have hlocks := B.notSynchronized
  subst hsz
  have hD := hD0.self (sz := s.heap.size)
  generalize hAe : va_A (wM G z0) s.heap.size = A at hD hE ⊢
  have hA : ∀ q : Nat, s.heap.size ≤ q → A q := fun q h => by rw [← hAe]; exact Or.inr h
  have hS : va_S A s.heap s.heap [] := va_S.rf
  have hl := lv_entry ([.ref (ad G 100)]) (n := 3) (Nat.le_of_ble_eq_true rfl)
  rw [lg_entry_eq]
  generalize (lg_sl ([.ref (ad G 100)]) ++ List.replicate (3 - (lg_sl ([.ref (ad G 100)])).length) Slot.unset).toArray = ls at hl ⊢
  have hl : lv_has ls 3 [(0, .ref (ad G 100))] := hl
  refine w_M_middle_0 S hE hA (Nat.le_refl _) (Nat.le_refl _) ?_  z0 hB _ _ _ hP hD hS hl
  intro pc ls r σ H locs hd hp hP hD hS
  exact W.iret (v := r) B.exec B.bytes B.returns (fun t ht hW => ⟨⟨r, σ, rfl, hp, by rw [ht]; exact hP, hD⟩, hS.F ht⟩) hS.2.2 hd
def B_M_pagesOf_31 (post : Int32 → St → Prop) (ih4 : Int32 → Int32 → Int32 → St → Prop) (x1 : Int32) (x3 : Int32) (s0 : Int32) (s1 : Int32) (z0 : St) : Prop :=
  (∀ v1 : Int32, v1 = (s1 + s0) → (∀ v2 : Int32, v2 = x3 + (1 : Int32) → (ih4 x1 v1 v2 z0)))
set_option maxHeartbeats 4000000 in
set_option maxRecDepth 100000 in
theorem w_M_pagesOf_31 {p : Program} {l : Launch} {e : Env} {R : Room} {s : State} {m : MethodId} {args : Array Value} {below : List Frame} {meth : Method} {c : Code} {Q : State → Prop} {G : GX} {A : Nat → Prop} (S : CallFix p m c cX12_pagesOf 4 s args GW RX12) (hE : env G A s s.heap) (hA : ∀ q, s.heap.size ≤ q → A q) (hRf : 1 ≤ R.frames) (hRl : 22 ≤ R.locals) {post : Int32 → St → Prop} (hret : RetI p l e R s m args below meth c Q 0 0 wM G A cX12_pagesOf post) {ih4 : Int32 → Int32 → Int32 → St → Prop} (h4 : ∀ (x1 : Int32) (x2 : Int32) (x3 : Int32) (z0 : St), ih4 x1 x2 x3 z0 → Xw p l e R s m args below meth c Q 0 0 wM G A z0 4 [(0, .ref (ad G 100)), (1, .int x1), (2, .int x2), (3, .int x3)] 4 []) (x1 : Int32) (x3 : Int32) (s0 : Int32) (s1 : Int32) (z0 : St) (hB : B_M_pagesOf_31 post ih4 x1 x3 s0 s1 z0) : Xw p l e R s m args below meth c Q 0 0 wM G A z0 4 [(0, .ref (ad G 100)), (1, .int x1), (3, .int x3)] 31 [.int s0, .int s1] := by
  intro H locs ls hP hD hS hl
  have hx := S.1
  have hb := S.2.1
  refine lv_iadd hx hb dX12_pagesOf_31 ?_
  refine lv_topi (fun v1 ev1 => ?_)
  have hB := hB v1 ev1
  refine lv_istore_n (lv' := [(2, .int v1), (0, .ref (ad G 100)), (1, .int x1), (3, .int x3)]) hx hb dX12_pagesOf_32 rfl hl (by decide) rfl (fun ls hl => ?_)
  obtain ⟨v2, ev2⟩ : ∃ y9, y9 = x3 + (1 : Int32) := ⟨_, rfl⟩
  have hB := hB v2 ev2
  refine lv_iinc (v := v2) (lv' := [(3, .int v2), (2, .int v1), (0, .ref (ad G 100)), (1, .int x1)]) hx hb dX12_pagesOf_33 hl (k := 3) rfl (by rw [ev2]; rfl) (by decide) rfl (fun ls hl => ?_)
  refine lv_goto (tgt := 4) hx hb dX12_pagesOf_36 (by decide) ?_
  exact h4 x1 v1 v2 z0 hB _ _ _ hP hD hS (lv_sub hl [2, 3, 1, 0] rfl)
def B_M_pagesOf_4 (post : Int32 → St → Prop) (ih4 : Int32 → Int32 → Int32 → St → Prop) (x1 : Int32) (x2 : Int32) (x3 : Int32) (z0 : St) : Prop :=
  (((gA z0 113 28) ≤ x3 → (post x2 z0)) ∧ (¬ (gA z0 113 28) ≤ x3 → (S_M_page (fun (r2 : Int32) (z1 : St) => ((r2 = x1 → (B_M_pagesOf_31 post ih4 x1 x3 (1 : Int32) x2 z1)) ∧ (¬ r2 = x1 → (B_M_pagesOf_31 post ih4 x1 x3 (0 : Int32) x2 z1)))) x3 (2 : Int32) z0)))
set_option maxHeartbeats 4000000 in
set_option maxRecDepth 100000 in
theorem w_M_pagesOf_4 {p : Program} {l : Launch} {e : Env} {R : Room} {s : State} {m : MethodId} {args : Array Value} {below : List Frame} {meth : Method} {c : Code} {Q : State → Prop} {G : GX} {A : Nat → Prop} (S : CallFix p m c cX12_pagesOf 4 s args GW RX12) (hE : env G A s s.heap) (hA : ∀ q, s.heap.size ≤ q → A q) (hRf : 1 ≤ R.frames) (hRl : 22 ≤ R.locals) {post : Int32 → St → Prop} (hret : RetI p l e R s m args below meth c Q 0 0 wM G A cX12_pagesOf post) {ih4 : Int32 → Int32 → Int32 → St → Prop} (h4 : ∀ (x1 : Int32) (x2 : Int32) (x3 : Int32) (z0 : St), ih4 x1 x2 x3 z0 → Xw p l e R s m args below meth c Q 0 0 wM G A z0 4 [(0, .ref (ad G 100)), (1, .int x1), (2, .int x2), (3, .int x3)] 4 []) (x1 : Int32) (x2 : Int32) (x3 : Int32) (z0 : St) (hB : B_M_pagesOf_4 post ih4 x1 x2 x3 z0) : Xw p l e R s m args below meth c Q 0 0 wM G A z0 4 [(0, .ref (ad G 100)), (1, .int x1), (2, .int x2), (3, .int x3)] 4 [] := by
  intro H locs ls hP hD hS hl
  have hx := S.1
  have hb := S.2.1
  refine lv_iload_n hx hb dX12_pagesOf_4 rfl (lv_at hl 3 rfl) ?_
  refine lv_aload_n hx hb dX12_pagesOf_5 rfl (lv_at hl 0 rfl) ?_
  refine xMg_100_now S hE hP lk_X12_61 dX12_pagesOf_6 ?_
  refine lv_bipush (v := 28) hx hb dX12_pagesOf_9 (by decide) ?_
  refine xMk_113 S hE hP 28 (by decide) (by unfold vp_in; decide) dX12_pagesOf_11 ?_
  refine lv_icmp_ge (tgt := 39) hx hb dX12_pagesOf_12 (by decide) (fun c1 => ?_) (fun c1 => ?_)
  · have hB := hB.1 c1
    refine lv_iload_n hx hb dX12_pagesOf_39 rfl (lv_at hl 2 rfl) ?_
    exact hret _ _ _ _ _ _ dX12_pagesOf_40 hB hP hD hS
  · have hB := hB.2 c1
    refine lv_iload_n hx hb dX12_pagesOf_15 rfl (lv_at hl 2 rfl) ?_
    refine lv_aload_n hx hb dX12_pagesOf_16 rfl (lv_at hl 0 rfl) ?_
    refine lv_iload_n hx hb dX12_pagesOf_17 rfl (lv_at hl 3 rfl) ?_
    refine lv_iconst (v := 2) hx hb dX12_pagesOf_18 (by decide) ?_
    refine xcVi [.int x3, .int (2 : Int32)] S hE hA hP hD hS (c_M_page l G z0 H.size x3 (2 : Int32) _) hB (gw_c lk_X12_363 (gw_c wi_X12_page (gw_c we_X12_X12_page_X12_page (gw_c wn_X12 (gw_c wc_X12_page (fun _ h9 => h9)))))) hd_X12_page rfl rfl (Nat.le_trans (Nat.le_of_ble_eq_true rfl) hRf) (Nat.le_trans (Nat.le_of_ble_eq_true rfl) hRl) ⟨Nat.zero_le _, Nat.zero_le _⟩ (va_recv hE.1 hP (ci := 11) (q0 := 0) rfl rfl) rfl hl.1 rfl (Nat.le_of_ble_eq_true rfl) dX12_pagesOf_19 (fun r2 z1 H locs hB hP hD hS => ?_)
    refine lv_iload_n hx hb dX12_pagesOf_22 rfl (lv_at hl 1 rfl) ?_
    refine lv_icmp_ne (tgt := 30) hx hb dX12_pagesOf_23 (by decide) (fun c3 => ?_) (fun c3 => ?_)
    · have hB := hB.2 c3
      refine lv_iconst (v := 0) hx hb dX12_pagesOf_30 (by decide) ?_
      exact w_M_pagesOf_31 S hE hA hRf hRl hret h4 x1 x3 (0 : Int32) x2 z1 hB _ _ _ hP hD hS (lv_sub hl [0, 1, 3] rfl)
    · have hB := hB.1 c3
      refine lv_iconst (v := 1) hx hb dX12_pagesOf_26 (by decide) ?_
      refine lv_goto (tgt := 31) hx hb dX12_pagesOf_27 (by decide) ?_
      exact w_M_pagesOf_31 S hE hA hRf hRl hret h4 x1 x3 (1 : Int32) x2 z1 hB _ _ _ hP hD hS (lv_sub hl [0, 1, 3] rfl)
def L_M_pagesOf_4 (post : Int32 → St → Prop) : Nat → Int32 → Int32 → Int32 → St → Prop
  | 0 => fun _ _ _ _ => False
  | n + 1 => B_M_pagesOf_4 post (L_M_pagesOf_4 post n)
theorem wl_M_pagesOf_4 {p : Program} {l : Launch} {e : Env} {R : Room} {s : State} {m : MethodId} {args : Array Value} {below : List Frame} {meth : Method} {c : Code} {Q : State → Prop} {G : GX} {A : Nat → Prop} (S : CallFix p m c cX12_pagesOf 4 s args GW RX12) (hE : env G A s s.heap) (hA : ∀ q, s.heap.size ≤ q → A q) (hRf : 1 ≤ R.frames) (hRl : 22 ≤ R.locals) {post : Int32 → St → Prop} (hret : RetI p l e R s m args below meth c Q 0 0 wM G A cX12_pagesOf post) : ∀ (n : Nat) (x1 : Int32) (x2 : Int32) (x3 : Int32) (z0 : St), L_M_pagesOf_4 post n x1 x2 x3 z0 → Xw p l e R s m args below meth c Q 0 0 wM G A z0 4 [(0, .ref (ad G 100)), (1, .int x1), (2, .int x2), (3, .int x3)] 4 [] := by
  intro n
  induction n with
  | zero => intro x1 x2 x3 z0 hB; exact absurd hB id
  | succ n ih => exact fun x1 x2 x3 z0 hB => w_M_pagesOf_4 S hE hA hRf hRl hret ih x1 x2 x3 z0 hB
def S_M_pagesOf (post : Int32 → St → Prop) (x1 : Int32) (z0 : St) : Prop :=
  (∃ n1, L_M_pagesOf_4 post n1 x1 (0 : Int32) (0 : Int32) z0)
set_option maxHeartbeats 4000000 in
set_option maxRecDepth 100000 in
theorem w_M_pagesOf_0 {p : Program} {l : Launch} {e : Env} {R : Room} {s : State} {m : MethodId} {args : Array Value} {below : List Frame} {meth : Method} {c : Code} {Q : State → Prop} {G : GX} {A : Nat → Prop} (S : CallFix p m c cX12_pagesOf 4 s args GW RX12) (hE : env G A s s.heap) (hA : ∀ q, s.heap.size ≤ q → A q) (hRf : 1 ≤ R.frames) (hRl : 22 ≤ R.locals) {post : Int32 → St → Prop} (hret : RetI p l e R s m args below meth c Q 0 0 wM G A cX12_pagesOf post) (x1 : Int32) (z0 : St) (hB : S_M_pagesOf post x1 z0) : Xw p l e R s m args below meth c Q 0 0 wM G A z0 4 [(0, .ref (ad G 100)), (1, .int x1)] 0 [] := by
  intro H locs ls hP hD hS hl
  have hx := S.1
  have hb := S.2.1
  refine lv_iconst (v := 0) hx hb dX12_pagesOf_0 (by decide) ?_
  refine lv_istore_n (lv' := [(2, .int (0 : Int32)), (0, .ref (ad G 100)), (1, .int x1)]) hx hb dX12_pagesOf_1 rfl hl (by decide) rfl (fun ls hl => ?_)
  refine lv_iconst (v := 0) hx hb dX12_pagesOf_2 (by decide) ?_
  refine lv_istore_n (lv' := [(3, .int (0 : Int32)), (2, .int (0 : Int32)), (0, .ref (ad G 100)), (1, .int x1)]) hx hb dX12_pagesOf_3 rfl hl (by decide) rfl (fun ls hl => ?_)
  obtain ⟨n1, hB⟩ := hB
  exact wl_M_pagesOf_4 S hE hA hRf hRl hret n1 x1 (0 : Int32) (0 : Int32) z0 hB _ _ _ hP hD hS (lv_sub hl [2, 3, 1, 0] rfl)
set_option maxHeartbeats 4000000 in
set_option maxRecDepth 100000 in
theorem c_M_pagesOf (l : Launch) (G : GX) (z0 : St) (sz : Nat) (x1 : Int32) (post : Int32 → St → Prop) : MetI l wM yX12_pagesOf cX12_pagesOf 4 (some .int) ({ frames := 1, cells := 0, slots := 0, locals := 22 }) [.ref (ad G 100), .int x1] G z0 sz (S_M_pagesOf post x1 z0) post := by
  refine Met.ofW (cc := cX12_pagesOf) (maxL := 4) (ret := (some .int)) (by decide) rfl ?_
  intro p e s m args below meth c s₁ B hml hv
  obtain ⟨rfl, hsz, hP, hD0, hE, hB⟩ := hv
  have S : CallFix p m c cX12_pagesOf 4 s _ GW RX12 := ⟨B.exec, B.bytes, hml, findClass_of_methodNamed B.named, fun w h => atoms_spec (ws := Cond.code yX12_pagesOf cX12_pagesOf 4 (some .int) :: GW) B.pre w (List.mem_cons_of_mem _ h)⟩
  have hlocks := B.notSynchronized
  subst hsz
  have hD := hD0.self (sz := s.heap.size)
  generalize hAe : va_A (wM G z0) s.heap.size = A at hD hE ⊢
  have hA : ∀ q : Nat, s.heap.size ≤ q → A q := fun q h => by rw [← hAe]; exact Or.inr h
  have hS : va_S A s.heap s.heap [] := va_S.rf
  have hl := lv_entry ([.ref (ad G 100), .int x1]) (n := 4) (Nat.le_of_ble_eq_true rfl)
  rw [lg_entry_eq]
  generalize (lg_sl ([.ref (ad G 100), .int x1]) ++ List.replicate (4 - (lg_sl ([.ref (ad G 100), .int x1])).length) Slot.unset).toArray = ls at hl ⊢
  have hl : lv_has ls 4 [(0, .ref (ad G 100)), (1, .int x1)] := hl
  refine w_M_pagesOf_0 S hE hA (Nat.le_refl _) (Nat.le_refl _) ?_ x1 z0 hB _ _ _ hP hD hS hl
  intro pc ls r σ H locs hd hp hP hD hS
  exact W.iret (v := r) B.exec B.bytes B.returns (fun t ht hW => ⟨⟨r, σ, rfl, hp, by rw [ht]; exact hP, hD⟩, hS.F ht⟩) hS.2.2 hd
def B_M_poorest_10 (post : Int32 → St → Prop) (ih10 : Int32 → Int32 → St → Prop) (x1 : Int32) (x2 : Int32) (z0 : St) : Prop :=
  (((gI z0 111) ≤ x2 → (post x1 z0)) ∧ (¬ (gI z0 111) ≤ x2 → (vp_in ((18 : Int32) + x2) 269 ∧ (S_Math_min_7cf53_M (fun (r2 : Int32) (z1 : St) => (∀ v3 : Int32, v3 = x2 + (1 : Int32) → (ih10 r2 v3 z1))) x1 (gA z0 113 ((18 : Int32) + x2).toNatClampNeg) z0))))
set_option maxHeartbeats 4000000 in
set_option maxRecDepth 100000 in
theorem w_M_poorest_10 {p : Program} {l : Launch} {e : Env} {R : Room} {s : State} {m : MethodId} {args : Array Value} {below : List Frame} {meth : Method} {c : Code} {Q : State → Prop} {G : GX} {A : Nat → Prop} (S : CallFix p m c cX12_poorest 3 s args GW RX12) (hE : env G A s s.heap) (hA : ∀ q, s.heap.size ≤ q → A q) (hRf : 1 ≤ R.frames) (hRl : 21 ≤ R.locals) {post : Int32 → St → Prop} (hret : RetI p l e R s m args below meth c Q 0 0 wM G A cX12_poorest post) {ih10 : Int32 → Int32 → St → Prop} (h10 : ∀ (x1 : Int32) (x2 : Int32) (z0 : St), ih10 x1 x2 z0 → Xw p l e R s m args below meth c Q 0 0 wM G A z0 3 [(0, .ref (ad G 100)), (1, .int x1), (2, .int x2)] 10 []) (x1 : Int32) (x2 : Int32) (z0 : St) (hB : B_M_poorest_10 post ih10 x1 x2 z0) : Xw p l e R s m args below meth c Q 0 0 wM G A z0 3 [(0, .ref (ad G 100)), (1, .int x1), (2, .int x2)] 10 [] := by
  intro H locs ls hP hD hS hl
  have hx := S.1
  have hb := S.2.1
  refine lv_iload_n hx hb dX12_poorest_10 rfl (lv_at hl 2 rfl) ?_
  refine lv_aload_n hx hb dX12_poorest_11 rfl (lv_at hl 0 rfl) ?_
  refine xMg_100_drinks S hE hP lk_X12_281 dX12_poorest_12 ?_
  refine lv_icmp_ge (tgt := 38) hx hb dX12_poorest_15 (by decide) (fun c1 => ?_) (fun c1 => ?_)
  · have hB := hB.1 c1
    refine lv_iload_n hx hb dX12_poorest_38 rfl (lv_at hl 1 rfl) ?_
    exact hret _ _ _ _ _ _ dX12_poorest_39 hB hP hD hS
  · have hB := hB.2 c1
    refine lv_iload_n hx hb dX12_poorest_18 rfl (lv_at hl 1 rfl) ?_
    refine lv_aload_n hx hb dX12_poorest_19 rfl (lv_at hl 0 rfl) ?_
    refine xMg_100_now S hE hP lk_X12_61 dX12_poorest_20 ?_
    refine lv_bipush (v := 18) hx hb dX12_poorest_23 (by decide) ?_
    refine lv_iload_n hx hb dX12_poorest_25 rfl (lv_at hl 2 rfl) ?_
    refine lv_iadd hx hb dX12_poorest_26 ?_
    obtain ⟨hi, hB⟩ := hB
    refine xMl_113 S hE hP hi dX12_poorest_27 ?_
    refine xcSi [.int x1, .int (gA z0 113 ((18 : Int32) + x2).toNatClampNeg)] S hE hA hP hD hS (c_Math_min_7cf53_M l G z0 H.size x1 (gA z0 113 ((18 : Int32) + x2).toNatClampNeg) _) hB (gw_c lk_X12_299 (gw_c wt_J9_min_7cf53 (gw_c wn_J9 (gw_c wc_J9_min_7cf53 (fun _ h9 => h9))))) hs_J9_min_7cf53 rfl rfl (Nat.le_trans (Nat.le_of_ble_eq_true rfl) hRf) (Nat.le_trans (Nat.le_of_ble_eq_true rfl) hRl) ⟨Nat.zero_le _, Nat.zero_le _⟩ rfl hl.1 rfl (Nat.le_of_ble_eq_true rfl) dX12_poorest_28 (fun r2 z1 H locs hB hP hD hS => ?_)
    refine lv_istore_n (lv' := [(1, .int r2), (0, .ref (ad G 100)), (2, .int x2)]) hx hb dX12_poorest_31 rfl hl (by decide) rfl (fun ls hl => ?_)
    obtain ⟨v3, ev3⟩ : ∃ y9, y9 = x2 + (1 : Int32) := ⟨_, rfl⟩
    have hB := hB v3 ev3
    refine lv_iinc (v := v3) (lv' := [(2, .int v3), (1, .int r2), (0, .ref (ad G 100))]) hx hb dX12_poorest_32 hl (k := 2) rfl (by rw [ev3]; rfl) (by decide) rfl (fun ls hl => ?_)
    refine lv_goto (tgt := 10) hx hb dX12_poorest_35 (by decide) ?_
    exact h10 r2 v3 z1 hB _ _ _ hP hD hS (lv_sub hl [2, 1, 0] rfl)
def L_M_poorest_10 (post : Int32 → St → Prop) : Nat → Int32 → Int32 → St → Prop
  | 0 => fun _ _ _ => False
  | n + 1 => B_M_poorest_10 post (L_M_poorest_10 post n)
theorem wl_M_poorest_10 {p : Program} {l : Launch} {e : Env} {R : Room} {s : State} {m : MethodId} {args : Array Value} {below : List Frame} {meth : Method} {c : Code} {Q : State → Prop} {G : GX} {A : Nat → Prop} (S : CallFix p m c cX12_poorest 3 s args GW RX12) (hE : env G A s s.heap) (hA : ∀ q, s.heap.size ≤ q → A q) (hRf : 1 ≤ R.frames) (hRl : 21 ≤ R.locals) {post : Int32 → St → Prop} (hret : RetI p l e R s m args below meth c Q 0 0 wM G A cX12_poorest post) : ∀ (n : Nat) (x1 : Int32) (x2 : Int32) (z0 : St), L_M_poorest_10 post n x1 x2 z0 → Xw p l e R s m args below meth c Q 0 0 wM G A z0 3 [(0, .ref (ad G 100)), (1, .int x1), (2, .int x2)] 10 [] := by
  intro n
  induction n with
  | zero => intro x1 x2 z0 hB; exact absurd hB id
  | succ n ih => exact fun x1 x2 z0 hB => w_M_poorest_10 S hE hA hRf hRl hret ih x1 x2 z0 hB
def S_M_poorest (post : Int32 → St → Prop) (z0 : St) : Prop :=
  (∀ v1 : Int32, v1 = (gA z0 113 18) → (∃ n2, L_M_poorest_10 post n2 v1 (1 : Int32) z0))
set_option maxHeartbeats 4000000 in
set_option maxRecDepth 100000 in
theorem w_M_poorest_0 {p : Program} {l : Launch} {e : Env} {R : Room} {s : State} {m : MethodId} {args : Array Value} {below : List Frame} {meth : Method} {c : Code} {Q : State → Prop} {G : GX} {A : Nat → Prop} (S : CallFix p m c cX12_poorest 3 s args GW RX12) (hE : env G A s s.heap) (hA : ∀ q, s.heap.size ≤ q → A q) (hRf : 1 ≤ R.frames) (hRl : 21 ≤ R.locals) {post : Int32 → St → Prop} (hret : RetI p l e R s m args below meth c Q 0 0 wM G A cX12_poorest post) (z0 : St) (hB : S_M_poorest post z0) : Xw p l e R s m args below meth c Q 0 0 wM G A z0 3 [(0, .ref (ad G 100))] 0 [] := by
  intro H locs ls hP hD hS hl
  have hx := S.1
  have hb := S.2.1
  refine lv_aload_n hx hb dX12_poorest_0 rfl (lv_at hl 0 rfl) ?_
  refine xMg_100_now S hE hP lk_X12_61 dX12_poorest_1 ?_
  refine lv_bipush (v := 18) hx hb dX12_poorest_4 (by decide) ?_
  refine xMk_113 S hE hP 18 (by decide) (by unfold vp_in; decide) dX12_poorest_6 ?_
  refine lv_topi (fun v1 ev1 => ?_)
  have hB := hB v1 ev1
  refine lv_istore_n (lv' := [(1, .int v1), (0, .ref (ad G 100))]) hx hb dX12_poorest_7 rfl hl (by decide) rfl (fun ls hl => ?_)
  refine lv_iconst (v := 1) hx hb dX12_poorest_8 (by decide) ?_
  refine lv_istore_n (lv' := [(2, .int (1 : Int32)), (1, .int v1), (0, .ref (ad G 100))]) hx hb dX12_poorest_9 rfl hl (by decide) rfl (fun ls hl => ?_)
  obtain ⟨n2, hB⟩ := hB
  exact wl_M_poorest_10 S hE hA hRf hRl hret n2 v1 (1 : Int32) z0 hB _ _ _ hP hD hS (lv_sub hl [2, 1, 0] rfl)
set_option maxHeartbeats 4000000 in
set_option maxRecDepth 100000 in
theorem c_M_poorest (l : Launch) (G : GX) (z0 : St) (sz : Nat) (post : Int32 → St → Prop) : MetI l wM yX12_poorest cX12_poorest 3 (some .int) ({ frames := 1, cells := 0, slots := 0, locals := 21 }) [.ref (ad G 100)] G z0 sz (S_M_poorest post z0) post := by
  refine Met.ofW (cc := cX12_poorest) (maxL := 3) (ret := (some .int)) (by decide) rfl ?_
  intro p e s m args below meth c s₁ B hml hv
  obtain ⟨rfl, hsz, hP, hD0, hE, hB⟩ := hv
  have S : CallFix p m c cX12_poorest 3 s _ GW RX12 := ⟨B.exec, B.bytes, hml, findClass_of_methodNamed B.named, fun w h => atoms_spec (ws := Cond.code yX12_poorest cX12_poorest 3 (some .int) :: GW) B.pre w (List.mem_cons_of_mem _ h)⟩
  have hlocks := B.notSynchronized
  subst hsz
  have hD := hD0.self (sz := s.heap.size)
  generalize hAe : va_A (wM G z0) s.heap.size = A at hD hE ⊢
  have hA : ∀ q : Nat, s.heap.size ≤ q → A q := fun q h => by rw [← hAe]; exact Or.inr h
  have hS : va_S A s.heap s.heap [] := va_S.rf
  have hl := lv_entry ([.ref (ad G 100)]) (n := 3) (Nat.le_of_ble_eq_true rfl)
  rw [lg_entry_eq]
  generalize (lg_sl ([.ref (ad G 100)]) ++ List.replicate (3 - (lg_sl ([.ref (ad G 100)])).length) Slot.unset).toArray = ls at hl ⊢
  have hl : lv_has ls 3 [(0, .ref (ad G 100))] := hl
  refine w_M_poorest_0 S hE hA (Nat.le_refl _) (Nat.le_refl _) ?_  z0 hB _ _ _ hP hD hS hl
  intro pc ls r σ H locs hd hp hP hD hS
  exact W.iret (v := r) B.exec B.bytes B.returns (fun t ht hW => ⟨⟨r, σ, rfl, hp, by rw [ht]; exact hP, hD⟩, hS.F ht⟩) hS.2.2 hd
def B_M_noble_57 (post : Int32 → St → Prop) (ih4 : Int32 → Int32 → St → Prop) (x2 : Int32) (s0 : Int32) (s1 : Int32) (z0 : St) : Prop :=
  (∀ v1 : Int32, v1 = (s1 ||| s0) → (∀ v2 : Int32, v2 = x2 + (1 : Int32) → (ih4 v1 v2 z0)))
set_option maxHeartbeats 4000000 in
set_option maxRecDepth 100000 in
theorem w_M_noble_57 {p : Program} {l : Launch} {e : Env} {R : Room} {s : State} {m : MethodId} {args : Array Value} {below : List Frame} {meth : Method} {c : Code} {Q : State → Prop} {G : GX} {A : Nat → Prop} (S : CallFix p m c cX12_noble 4 s args GW RX12) (hE : env G A s s.heap) (hA : ∀ q, s.heap.size ≤ q → A q) (hRf : 63 ≤ R.frames) (hRl : 1769 ≤ R.locals) {post : Int32 → St → Prop} (hret : RetI p l e R s m args below meth c Q 0 0 wM G A cX12_noble post) {ih4 : Int32 → Int32 → St → Prop} (h4 : ∀ (x1 : Int32) (x2 : Int32) (z0 : St), ih4 x1 x2 z0 → Xw p l e R s m args below meth c Q 0 0 wM G A z0 4 [(0, .ref (ad G 100)), (1, .int x1), (2, .int x2)] 4 []) (x2 : Int32) (s0 : Int32) (s1 : Int32) (z0 : St) (hB : B_M_noble_57 post ih4 x2 s0 s1 z0) : Xw p l e R s m args below meth c Q 0 0 wM G A z0 4 [(0, .ref (ad G 100)), (2, .int x2)] 57 [.int s0, .int s1] := by
  intro H locs ls hP hD hS hl
  have hx := S.1
  have hb := S.2.1
  refine lv_ior hx hb dX12_noble_57 ?_
  refine lv_topi (fun v1 ev1 => ?_)
  have hB := hB v1 ev1
  refine lv_istore_n (lv' := [(1, .int v1), (0, .ref (ad G 100)), (2, .int x2)]) hx hb dX12_noble_58 rfl hl (by decide) rfl (fun ls hl => ?_)
  obtain ⟨v2, ev2⟩ : ∃ y9, y9 = x2 + (1 : Int32) := ⟨_, rfl⟩
  have hB := hB v2 ev2
  refine lv_iinc (v := v2) (lv' := [(2, .int v2), (1, .int v1), (0, .ref (ad G 100))]) hx hb dX12_noble_59 hl (k := 2) rfl (by rw [ev2]; rfl) (by decide) rfl (fun ls hl => ?_)
  refine lv_goto (tgt := 4) hx hb dX12_noble_62 (by decide) ?_
  exact h4 v1 v2 z0 hB _ _ _ hP hD hS (lv_sub hl [2, 1, 0] rfl)
def B_M_noble_56 (post : Int32 → St → Prop) (ih4 : Int32 → Int32 → St → Prop) (x2 : Int32) (s0 : Int32) (z0 : St) : Prop :=
  (B_M_noble_57 post ih4 x2 (0 : Int32) s0 z0)
set_option maxHeartbeats 4000000 in
set_option maxRecDepth 100000 in
theorem w_M_noble_56 {p : Program} {l : Launch} {e : Env} {R : Room} {s : State} {m : MethodId} {args : Array Value} {below : List Frame} {meth : Method} {c : Code} {Q : State → Prop} {G : GX} {A : Nat → Prop} (S : CallFix p m c cX12_noble 4 s args GW RX12) (hE : env G A s s.heap) (hA : ∀ q, s.heap.size ≤ q → A q) (hRf : 63 ≤ R.frames) (hRl : 1769 ≤ R.locals) {post : Int32 → St → Prop} (hret : RetI p l e R s m args below meth c Q 0 0 wM G A cX12_noble post) {ih4 : Int32 → Int32 → St → Prop} (h4 : ∀ (x1 : Int32) (x2 : Int32) (z0 : St), ih4 x1 x2 z0 → Xw p l e R s m args below meth c Q 0 0 wM G A z0 4 [(0, .ref (ad G 100)), (1, .int x1), (2, .int x2)] 4 []) (x2 : Int32) (s0 : Int32) (z0 : St) (hB : B_M_noble_56 post ih4 x2 s0 z0) : Xw p l e R s m args below meth c Q 0 0 wM G A z0 4 [(0, .ref (ad G 100)), (2, .int x2)] 56 [.int s0] := by
  intro H locs ls hP hD hS hl
  have hx := S.1
  have hb := S.2.1
  refine lv_iconst (v := 0) hx hb dX12_noble_56 (by decide) ?_
  exact w_M_noble_57 S hE hA hRf hRl hret h4 x2 (0 : Int32) s0 z0 hB _ _ _ hP hD hS (lv_sub hl [0, 1] rfl)
def B_M_noble_4 (post : Int32 → St → Prop) (ih4 : Int32 → Int32 → St → Prop) (x1 : Int32) (x2 : Int32) (z0 : St) : Prop :=
  (((gI z0 112) ≤ x2 → (post x1 z0)) ∧ (¬ (gI z0 112) ≤ x2 → (S_M_makesNow (fun (r2 : Int32) (z1 : St) => ((r2 = (-1 : Int32) → (B_M_noble_56 post ih4 x2 x1 z1)) ∧ (¬ r2 = (-1 : Int32) → (S_M_quality (fun (r4 : Int32) (z2 : St) => (S_M_quality (fun (r5 : Int32) (z3 : St) => ((r4 ≤ r5 → (B_M_noble_56 post ih4 x2 x1 z3)) ∧ (¬ r4 ≤ r5 → (B_M_noble_57 post ih4 x2 ((1 : Int32) <<< (x2 &&& 31)) x1 z3)))) (gA z2 113 24) z2)) r2 z1)))) x2 (gA z0 113 24) z0)))
set_option maxHeartbeats 4000000 in
set_option maxRecDepth 100000 in
theorem w_M_noble_4 {p : Program} {l : Launch} {e : Env} {R : Room} {s : State} {m : MethodId} {args : Array Value} {below : List Frame} {meth : Method} {c : Code} {Q : State → Prop} {G : GX} {A : Nat → Prop} (S : CallFix p m c cX12_noble 4 s args GW RX12) (hE : env G A s s.heap) (hA : ∀ q, s.heap.size ≤ q → A q) (hRf : 63 ≤ R.frames) (hRl : 1769 ≤ R.locals) {post : Int32 → St → Prop} (hret : RetI p l e R s m args below meth c Q 0 0 wM G A cX12_noble post) {ih4 : Int32 → Int32 → St → Prop} (h4 : ∀ (x1 : Int32) (x2 : Int32) (z0 : St), ih4 x1 x2 z0 → Xw p l e R s m args below meth c Q 0 0 wM G A z0 4 [(0, .ref (ad G 100)), (1, .int x1), (2, .int x2)] 4 []) (x1 : Int32) (x2 : Int32) (z0 : St) (hB : B_M_noble_4 post ih4 x1 x2 z0) : Xw p l e R s m args below meth c Q 0 0 wM G A z0 4 [(0, .ref (ad G 100)), (1, .int x1), (2, .int x2)] 4 [] := by
  intro H locs ls hP hD hS hl
  have hx := S.1
  have hb := S.2.1
  refine lv_iload_n hx hb dX12_noble_4 rfl (lv_at hl 2 rfl) ?_
  refine lv_aload_n hx hb dX12_noble_5 rfl (lv_at hl 0 rfl) ?_
  refine xMg_100_guests S hE hP lk_X12_284 dX12_noble_6 ?_
  refine lv_icmp_ge (tgt := 65) hx hb dX12_noble_9 (by decide) (fun c1 => ?_) (fun c1 => ?_)
  · have hB := hB.1 c1
    refine lv_iload_n hx hb dX12_noble_65 rfl (lv_at hl 1 rfl) ?_
    exact hret _ _ _ _ _ _ dX12_noble_66 hB hP hD hS
  · have hB := hB.2 c1
    refine lv_aload_n hx hb dX12_noble_12 rfl (lv_at hl 0 rfl) ?_
    refine lv_iload_n hx hb dX12_noble_13 rfl (lv_at hl 2 rfl) ?_
    refine lv_aload_n hx hb dX12_noble_14 rfl (lv_at hl 0 rfl) ?_
    refine xMg_100_now S hE hP lk_X12_61 dX12_noble_15 ?_
    refine lv_bipush (v := 24) hx hb dX12_noble_18 (by decide) ?_
    refine xMk_113 S hE hP 24 (by decide) (by unfold vp_in; decide) dX12_noble_20 ?_
    refine xcVi [.int x2, .int (gA z0 113 24)] S hE hA hP hD hS (c_M_makesNow l G z0 H.size x2 (gA z0 113 24) _) hB (gw_c lk_X12_447 (gw_c wi_X12_makesNow (gw_c we_X12_X12_makesNow_X12_makesNow (gw_c wn_X12 (gw_c wc_X12_makesNow (fun _ h9 => h9)))))) hd_X12_makesNow rfl rfl (Nat.le_trans (Nat.le_of_ble_eq_true rfl) hRf) (Nat.le_trans (Nat.le_of_ble_eq_true rfl) hRl) ⟨Nat.zero_le _, Nat.zero_le _⟩ (va_recv hE.1 hP (ci := 11) (q0 := 0) rfl rfl) rfl hl.1 rfl (Nat.le_of_ble_eq_true rfl) dX12_noble_21 (fun r2 z1 H locs hB hP hD hS => ?_)
    refine lv_istore_n (lv' := [(3, .int r2), (0, .ref (ad G 100)), (1, .int x1), (2, .int x2)]) hx hb dX12_noble_24 rfl hl (by decide) rfl (fun ls hl => ?_)
    refine lv_iload_n hx hb dX12_noble_25 rfl (lv_at hl 2 rfl) ?_
    refine lv_iload_n hx hb dX12_noble_26 rfl (lv_at hl 0 rfl) ?_
    refine lv_iconst (v := -1) hx hb dX12_noble_27 (by decide) ?_
    refine lv_icmp_eq (tgt := 56) hx hb dX12_noble_28 (by decide) (fun c3 => ?_) (fun c3 => ?_)
    · have hB := hB.1 c3
      exact w_M_noble_56 S hE hA hRf hRl hret h4 x2 x1 z1 hB _ _ _ hP hD hS (lv_sub hl [1, 3] rfl)
    · have hB := hB.2 c3
      refine lv_aload_n hx hb dX12_noble_31 rfl (lv_at hl 1 rfl) ?_
      refine lv_iload_n hx hb dX12_noble_32 rfl (lv_at hl 0 rfl) ?_
      refine xcVi [.int r2] S hE hA hP hD hS (c_M_quality l G z1 H.size r2 _) hB (gw_c lk_X12_296 (gw_c wi_X12_quality (gw_c we_X12_X12_quality_X12_quality (gw_c wn_X12 (gw_c wc_X12_quality (fun _ h9 => h9)))))) hd_X12_quality rfl rfl (Nat.le_trans (Nat.le_of_ble_eq_true rfl) hRf) (Nat.le_trans (Nat.le_of_ble_eq_true rfl) hRl) ⟨Nat.zero_le _, Nat.zero_le _⟩ (va_recv hE.1 hP (ci := 11) (q0 := 0) rfl rfl) rfl hl.1 rfl (Nat.le_of_ble_eq_true rfl) dX12_noble_33 (fun r4 z2 H locs hB hP hD hS => ?_)
      refine lv_aload_n hx hb dX12_noble_36 rfl (lv_at hl 1 rfl) ?_
      refine lv_aload_n hx hb dX12_noble_37 rfl (lv_at hl 1 rfl) ?_
      refine xMg_100_now S hE hP lk_X12_61 dX12_noble_38 ?_
      refine lv_bipush (v := 24) hx hb dX12_noble_41 (by decide) ?_
      refine xMk_113 S hE hP 24 (by decide) (by unfold vp_in; decide) dX12_noble_43 ?_
      refine xcVi [.int (gA z2 113 24)] S hE hA hP hD hS (c_M_quality l G z2 H.size (gA z2 113 24) _) hB (gw_c lk_X12_296 (gw_c wi_X12_quality (gw_c we_X12_X12_quality_X12_quality (gw_c wn_X12 (gw_c wc_X12_quality (fun _ h9 => h9)))))) hd_X12_quality rfl rfl (Nat.le_trans (Nat.le_of_ble_eq_true rfl) hRf) (Nat.le_trans (Nat.le_of_ble_eq_true rfl) hRl) ⟨Nat.zero_le _, Nat.zero_le _⟩ (va_recv hE.1 hP (ci := 11) (q0 := 0) rfl rfl) rfl hl.1 rfl (Nat.le_of_ble_eq_true rfl) dX12_noble_44 (fun r5 z3 H locs hB hP hD hS => ?_)
      refine lv_icmp_le (tgt := 56) hx hb dX12_noble_47 (by decide) (fun c6 => ?_) (fun c6 => ?_)
      · have hB := hB.1 c6
        exact w_M_noble_56 S hE hA hRf hRl hret h4 x2 x1 z3 hB _ _ _ hP hD hS (lv_sub hl [1, 3] rfl)
      · have hB := hB.2 c6
        refine lv_iconst (v := 1) hx hb dX12_noble_50 (by decide) ?_
        refine lv_iload_n hx hb dX12_noble_51 rfl (lv_at hl 3 rfl) ?_
        refine lv_ishl hx hb dX12_noble_52 ?_
        refine lv_goto (tgt := 57) hx hb dX12_noble_53 (by decide) ?_
        exact w_M_noble_57 S hE hA hRf hRl hret h4 x2 ((1 : Int32) <<< (x2 &&& 31)) x1 z3 hB _ _ _ hP hD hS (lv_sub hl [1, 3] rfl)
def L_M_noble_4 (post : Int32 → St → Prop) : Nat → Int32 → Int32 → St → Prop
  | 0 => fun _ _ _ => False
  | n + 1 => B_M_noble_4 post (L_M_noble_4 post n)
theorem wl_M_noble_4 {p : Program} {l : Launch} {e : Env} {R : Room} {s : State} {m : MethodId} {args : Array Value} {below : List Frame} {meth : Method} {c : Code} {Q : State → Prop} {G : GX} {A : Nat → Prop} (S : CallFix p m c cX12_noble 4 s args GW RX12) (hE : env G A s s.heap) (hA : ∀ q, s.heap.size ≤ q → A q) (hRf : 63 ≤ R.frames) (hRl : 1769 ≤ R.locals) {post : Int32 → St → Prop} (hret : RetI p l e R s m args below meth c Q 0 0 wM G A cX12_noble post) : ∀ (n : Nat) (x1 : Int32) (x2 : Int32) (z0 : St), L_M_noble_4 post n x1 x2 z0 → Xw p l e R s m args below meth c Q 0 0 wM G A z0 4 [(0, .ref (ad G 100)), (1, .int x1), (2, .int x2)] 4 [] := by
  intro n
  induction n with
  | zero => intro x1 x2 z0 hB; exact absurd hB id
  | succ n ih => exact fun x1 x2 z0 hB => w_M_noble_4 S hE hA hRf hRl hret ih x1 x2 z0 hB
def S_M_noble (post : Int32 → St → Prop) (z0 : St) : Prop :=
  (∃ n1, L_M_noble_4 post n1 (0 : Int32) (0 : Int32) z0)
set_option maxHeartbeats 4000000 in
set_option maxRecDepth 100000 in
theorem w_M_noble_0 {p : Program} {l : Launch} {e : Env} {R : Room} {s : State} {m : MethodId} {args : Array Value} {below : List Frame} {meth : Method} {c : Code} {Q : State → Prop} {G : GX} {A : Nat → Prop} (S : CallFix p m c cX12_noble 4 s args GW RX12) (hE : env G A s s.heap) (hA : ∀ q, s.heap.size ≤ q → A q) (hRf : 63 ≤ R.frames) (hRl : 1769 ≤ R.locals) {post : Int32 → St → Prop} (hret : RetI p l e R s m args below meth c Q 0 0 wM G A cX12_noble post) (z0 : St) (hB : S_M_noble post z0) : Xw p l e R s m args below meth c Q 0 0 wM G A z0 4 [(0, .ref (ad G 100))] 0 [] := by
  intro H locs ls hP hD hS hl
  have hx := S.1
  have hb := S.2.1
  refine lv_iconst (v := 0) hx hb dX12_noble_0 (by decide) ?_
  refine lv_istore_n (lv' := [(1, .int (0 : Int32)), (0, .ref (ad G 100))]) hx hb dX12_noble_1 rfl hl (by decide) rfl (fun ls hl => ?_)
  refine lv_iconst (v := 0) hx hb dX12_noble_2 (by decide) ?_
  refine lv_istore_n (lv' := [(2, .int (0 : Int32)), (1, .int (0 : Int32)), (0, .ref (ad G 100))]) hx hb dX12_noble_3 rfl hl (by decide) rfl (fun ls hl => ?_)
  obtain ⟨n1, hB⟩ := hB
  exact wl_M_noble_4 S hE hA hRf hRl hret n1 (0 : Int32) (0 : Int32) z0 hB _ _ _ hP hD hS (lv_sub hl [2, 1, 0] rfl)
set_option maxHeartbeats 4000000 in
set_option maxRecDepth 100000 in
theorem c_M_noble (l : Launch) (G : GX) (z0 : St) (sz : Nat) (post : Int32 → St → Prop) : MetI l wM yX12_noble cX12_noble 4 (some .int) ({ frames := 63, cells := 0, slots := 0, locals := 1769 }) [.ref (ad G 100)] G z0 sz (S_M_noble post z0) post := by
  refine Met.ofW (cc := cX12_noble) (maxL := 4) (ret := (some .int)) (by decide) rfl ?_
  intro p e s m args below meth c s₁ B hml hv
  obtain ⟨rfl, hsz, hP, hD0, hE, hB⟩ := hv
  have S : CallFix p m c cX12_noble 4 s _ GW RX12 := ⟨B.exec, B.bytes, hml, findClass_of_methodNamed B.named, fun w h => atoms_spec (ws := Cond.code yX12_noble cX12_noble 4 (some .int) :: GW) B.pre w (List.mem_cons_of_mem _ h)⟩
  have hlocks := B.notSynchronized
  subst hsz
  have hD := hD0.self (sz := s.heap.size)
  generalize hAe : va_A (wM G z0) s.heap.size = A at hD hE ⊢
  have hA : ∀ q : Nat, s.heap.size ≤ q → A q := fun q h => by rw [← hAe]; exact Or.inr h
  have hS : va_S A s.heap s.heap [] := va_S.rf
  have hl := lv_entry ([.ref (ad G 100)]) (n := 4) (Nat.le_of_ble_eq_true rfl)
  rw [lg_entry_eq]
  generalize (lg_sl ([.ref (ad G 100)]) ++ List.replicate (4 - (lg_sl ([.ref (ad G 100)])).length) Slot.unset).toArray = ls at hl ⊢
  have hl : lv_has ls 4 [(0, .ref (ad G 100))] := hl
  refine w_M_noble_0 S hE hA (Nat.le_refl _) (Nat.le_refl _) ?_  z0 hB _ _ _ hP hD hS hl
  intro pc ls r σ H locs hd hp hP hD hS
  exact W.iret (v := r) B.exec B.bytes B.returns (fun t ht hW => ⟨⟨r, σ, rfl, hp, by rw [ht]; exact hP, hD⟩, hS.F ht⟩) hS.2.2 hd
def S_M_all (post : Int32 → St → Prop) (x1 : Int32) (z0 : St) : Prop :=
  (∀ z1 : St, z1 = sI z0 100 (0 : Int32) → (((gI z1 112) = 0 → (post (-1 : Int32) z1)) ∧ (¬ (gI z1 112) = 0 → ((x1 = (0 : Int32) → (S_M_greatest (fun (r2 : Int32) (z2 : St) => (post r2 z2)) (1 : Int32) z1)) ∧ (¬ x1 = (0 : Int32) → ((x1 = (1 : Int32) → (S_M_greatest (fun (r3 : Int32) (z3 : St) => (post r3 z3)) (0 : Int32) z1)) ∧ (¬ x1 = (1 : Int32) → ((x1 = (2 : Int32) → (S_M_greatest (fun (r4 : Int32) (z4 : St) => (post r4 z4)) (2 : Int32) z1)) ∧ (¬ x1 = (2 : Int32) → ((x1 = (3 : Int32) → (S_M_loved (fun (r5 : Int32) (z5 : St) => (post r5 z5)) z1)) ∧ (¬ x1 = (3 : Int32) → ((x1 = (4 : Int32) → (S_M_middle (fun (r6 : Int32) (z6 : St) => (post r6 z6)) z1)) ∧ (¬ x1 = (4 : Int32) → ((x1 = (5 : Int32) → (S_M_pagesOf (fun (r7 : Int32) (z7 : St) => (post r7 z7)) (-1 : Int32) z1)) ∧ (¬ x1 = (5 : Int32) → ((x1 = (6 : Int32) → (S_M_poorest (fun (r8 : Int32) (z8 : St) => (post r8 z8)) z1)) ∧ (¬ x1 = (6 : Int32) → ((x1 = (7 : Int32) → (S_M_noble (fun (r9 : Int32) (z9 : St) => (post r9 z9)) z1)) ∧ (¬ x1 = (7 : Int32) → (post (-1 : Int32) z1))))))))))))))))))))
set_option maxHeartbeats 4000000 in
set_option maxRecDepth 100000 in
theorem w_M_all_0 {p : Program} {l : Launch} {e : Env} {R : Room} {s : State} {m : MethodId} {args : Array Value} {below : List Frame} {meth : Method} {c : Code} {Q : State → Prop} {G : GX} {A : Nat → Prop} (S : CallFix p m c cX12_all 2 s args GW RX12) (hE : env G A s s.heap) (hA : ∀ q, s.heap.size ≤ q → A q) (hRf : 64 ≤ R.frames) (hRl : 1792 ≤ R.locals) {post : Int32 → St → Prop} (hret : RetI p l e R s m args below meth c Q 0 0 wM G A cX12_all post) (x1 : Int32) (z0 : St) (hB : S_M_all post x1 z0) : Xw p l e R s m args below meth c Q 0 0 wM G A z0 2 [(0, .ref (ad G 100)), (1, .int x1)] 0 [] := by
  intro H locs ls hP hD hS hl
  have hx := S.1
  have hb := S.2.1
  refine lv_aload_n hx hb dX12_all_0 rfl (lv_at hl 0 rfl) ?_
  refine lv_iconst (v := 0) hx hb dX12_all_1 (by decide) ?_
  obtain ⟨z1, ez1⟩ : ∃ z9, z9 = sI z0 100 (0 : Int32) := ⟨_, rfl⟩
  have hB := hB z1 ez1
  refine xMp_100_thrown S hE hP hD hS lk_X12_89 dX12_all_2 (fun H locs hP hD hS => ?_)
  rw [← ez1] at hP hD
  refine lv_aload_n hx hb dX12_all_5 rfl (lv_at hl 0 rfl) ?_
  refine xMg_100_guests S hE hP lk_X12_284 dX12_all_6 ?_
  refine lv_if_ne (tgt := 14) hx hb dX12_all_9 (by decide) (fun c1 => ?_) (fun c1 => ?_)
  · have hB := hB.2 c1
    refine lv_iload_n hx hb dX12_all_14 rfl (lv_at hl 1 rfl) ?_
    -- switch
    by_cases q0 : x1 = (0 : Int32)
    · have hB := hB.1 q0
      refine lv_tableIn (tgt := 60) (off := 45) hx hb dX12_all_15 (by rw [q0]; decide) (by rw [q0]; decide) (by rw [q0]; decide) (by decide) ?_
      refine lv_aload_n hx hb dX12_all_60 rfl (lv_at hl 0 rfl) ?_
      refine lv_iconst (v := 1) hx hb dX12_all_61 (by decide) ?_
      refine xcVi [.int (1 : Int32)] S hE hA hP hD hS (c_M_greatest l G z1 H.size (1 : Int32) _) hB (gw_c lk_X12_453 (gw_c wi_X12_greatest (gw_c we_X12_X12_greatest_X12_greatest (gw_c wn_X12 (gw_c wc_X12_greatest (fun _ h9 => h9)))))) hd_X12_greatest rfl rfl (Nat.le_trans (Nat.le_of_ble_eq_true rfl) hRf) (Nat.le_trans (Nat.le_of_ble_eq_true rfl) hRl) ⟨Nat.zero_le _, Nat.zero_le _⟩ (va_recv hE.1 hP (ci := 11) (q0 := 0) rfl rfl) rfl hl.1 rfl (Nat.le_of_ble_eq_true rfl) dX12_all_62 (fun r2 z2 H locs hB hP hD hS => ?_)
      exact hret _ _ _ _ _ _ dX12_all_65 hB hP hD hS
    have hB := hB.2 q0
    by_cases q1 : x1 = (1 : Int32)
    · have hB := hB.1 q1
      refine lv_tableIn (tgt := 66) (off := 51) hx hb dX12_all_15 (by rw [q1]; decide) (by rw [q1]; decide) (by rw [q1]; decide) (by decide) ?_
      refine lv_aload_n hx hb dX12_all_66 rfl (lv_at hl 0 rfl) ?_
      refine lv_iconst (v := 0) hx hb dX12_all_67 (by decide) ?_
      refine xcVi [.int (0 : Int32)] S hE hA hP hD hS (c_M_greatest l G z1 H.size (0 : Int32) _) hB (gw_c lk_X12_453 (gw_c wi_X12_greatest (gw_c we_X12_X12_greatest_X12_greatest (gw_c wn_X12 (gw_c wc_X12_greatest (fun _ h9 => h9)))))) hd_X12_greatest rfl rfl (Nat.le_trans (Nat.le_of_ble_eq_true rfl) hRf) (Nat.le_trans (Nat.le_of_ble_eq_true rfl) hRl) ⟨Nat.zero_le _, Nat.zero_le _⟩ (va_recv hE.1 hP (ci := 11) (q0 := 0) rfl rfl) rfl hl.1 rfl (Nat.le_of_ble_eq_true rfl) dX12_all_68 (fun r3 z3 H locs hB hP hD hS => ?_)
      exact hret _ _ _ _ _ _ dX12_all_71 hB hP hD hS
    have hB := hB.2 q1
    by_cases q2 : x1 = (2 : Int32)
    · have hB := hB.1 q2
      refine lv_tableIn (tgt := 72) (off := 57) hx hb dX12_all_15 (by rw [q2]; decide) (by rw [q2]; decide) (by rw [q2]; decide) (by decide) ?_
      refine lv_aload_n hx hb dX12_all_72 rfl (lv_at hl 0 rfl) ?_
      refine lv_iconst (v := 2) hx hb dX12_all_73 (by decide) ?_
      refine xcVi [.int (2 : Int32)] S hE hA hP hD hS (c_M_greatest l G z1 H.size (2 : Int32) _) hB (gw_c lk_X12_453 (gw_c wi_X12_greatest (gw_c we_X12_X12_greatest_X12_greatest (gw_c wn_X12 (gw_c wc_X12_greatest (fun _ h9 => h9)))))) hd_X12_greatest rfl rfl (Nat.le_trans (Nat.le_of_ble_eq_true rfl) hRf) (Nat.le_trans (Nat.le_of_ble_eq_true rfl) hRl) ⟨Nat.zero_le _, Nat.zero_le _⟩ (va_recv hE.1 hP (ci := 11) (q0 := 0) rfl rfl) rfl hl.1 rfl (Nat.le_of_ble_eq_true rfl) dX12_all_74 (fun r4 z4 H locs hB hP hD hS => ?_)
      exact hret _ _ _ _ _ _ dX12_all_77 hB hP hD hS
    have hB := hB.2 q2
    by_cases q3 : x1 = (3 : Int32)
    · have hB := hB.1 q3
      refine lv_tableIn (tgt := 78) (off := 63) hx hb dX12_all_15 (by rw [q3]; decide) (by rw [q3]; decide) (by rw [q3]; decide) (by decide) ?_
      refine lv_aload_n hx hb dX12_all_78 rfl (lv_at hl 0 rfl) ?_
      refine xcVi [] S hE hA hP hD hS (c_M_loved l G z1 H.size _) hB (gw_c lk_X12_456 (gw_c wi_X12_loved (gw_c we_X12_X12_loved_X12_loved (gw_c wn_X12 (gw_c wc_X12_loved (fun _ h9 => h9)))))) hd_X12_loved rfl rfl (Nat.le_trans (Nat.le_of_ble_eq_true rfl) hRf) (Nat.le_trans (Nat.le_of_ble_eq_true rfl) hRl) ⟨Nat.zero_le _, Nat.zero_le _⟩ (va_recv hE.1 hP (ci := 11) (q0 := 0) rfl rfl) rfl hl.1 rfl (Nat.le_of_ble_eq_true rfl) dX12_all_79 (fun r5 z5 H locs hB hP hD hS => ?_)
      exact hret _ _ _ _ _ _ dX12_all_82 hB hP hD hS
    have hB := hB.2 q3
    by_cases q4 : x1 = (4 : Int32)
    · have hB := hB.1 q4
      refine lv_tableIn (tgt := 83) (off := 68) hx hb dX12_all_15 (by rw [q4]; decide) (by rw [q4]; decide) (by rw [q4]; decide) (by decide) ?_
      refine lv_aload_n hx hb dX12_all_83 rfl (lv_at hl 0 rfl) ?_
      refine xcVi [] S hE hA hP hD hS (c_M_middle l G z1 H.size _) hB (gw_c lk_X12_459 (gw_c wi_X12_middle (gw_c we_X12_X12_middle_X12_middle (gw_c wn_X12 (gw_c wc_X12_middle (fun _ h9 => h9)))))) hd_X12_middle rfl rfl (Nat.le_trans (Nat.le_of_ble_eq_true rfl) hRf) (Nat.le_trans (Nat.le_of_ble_eq_true rfl) hRl) ⟨Nat.zero_le _, Nat.zero_le _⟩ (va_recv hE.1 hP (ci := 11) (q0 := 0) rfl rfl) rfl hl.1 rfl (Nat.le_of_ble_eq_true rfl) dX12_all_84 (fun r6 z6 H locs hB hP hD hS => ?_)
      exact hret _ _ _ _ _ _ dX12_all_87 hB hP hD hS
    have hB := hB.2 q4
    by_cases q5 : x1 = (5 : Int32)
    · have hB := hB.1 q5
      refine lv_tableIn (tgt := 88) (off := 73) hx hb dX12_all_15 (by rw [q5]; decide) (by rw [q5]; decide) (by rw [q5]; decide) (by decide) ?_
      refine lv_aload_n hx hb dX12_all_88 rfl (lv_at hl 0 rfl) ?_
      refine lv_iconst (v := -1) hx hb dX12_all_89 (by decide) ?_
      refine xcVi [.int (-1 : Int32)] S hE hA hP hD hS (c_M_pagesOf l G z1 H.size (-1 : Int32) _) hB (gw_c lk_X12_462 (gw_c wi_X12_pagesOf (gw_c we_X12_X12_pagesOf_X12_pagesOf (gw_c wn_X12 (gw_c wc_X12_pagesOf (fun _ h9 => h9)))))) hd_X12_pagesOf rfl rfl (Nat.le_trans (Nat.le_of_ble_eq_true rfl) hRf) (Nat.le_trans (Nat.le_of_ble_eq_true rfl) hRl) ⟨Nat.zero_le _, Nat.zero_le _⟩ (va_recv hE.1 hP (ci := 11) (q0 := 0) rfl rfl) rfl hl.1 rfl (Nat.le_of_ble_eq_true rfl) dX12_all_90 (fun r7 z7 H locs hB hP hD hS => ?_)
      exact hret _ _ _ _ _ _ dX12_all_93 hB hP hD hS
    have hB := hB.2 q5
    by_cases q6 : x1 = (6 : Int32)
    · have hB := hB.1 q6
      refine lv_tableIn (tgt := 94) (off := 79) hx hb dX12_all_15 (by rw [q6]; decide) (by rw [q6]; decide) (by rw [q6]; decide) (by decide) ?_
      refine lv_aload_n hx hb dX12_all_94 rfl (lv_at hl 0 rfl) ?_
      refine xcVi [] S hE hA hP hD hS (c_M_poorest l G z1 H.size _) hB (gw_c lk_X12_465 (gw_c wi_X12_poorest (gw_c we_X12_X12_poorest_X12_poorest (gw_c wn_X12 (gw_c wc_X12_poorest (fun _ h9 => h9)))))) hd_X12_poorest rfl rfl (Nat.le_trans (Nat.le_of_ble_eq_true rfl) hRf) (Nat.le_trans (Nat.le_of_ble_eq_true rfl) hRl) ⟨Nat.zero_le _, Nat.zero_le _⟩ (va_recv hE.1 hP (ci := 11) (q0 := 0) rfl rfl) rfl hl.1 rfl (Nat.le_of_ble_eq_true rfl) dX12_all_95 (fun r8 z8 H locs hB hP hD hS => ?_)
      exact hret _ _ _ _ _ _ dX12_all_98 hB hP hD hS
    have hB := hB.2 q6
    by_cases q7 : x1 = (7 : Int32)
    · have hB := hB.1 q7
      refine lv_tableIn (tgt := 99) (off := 84) hx hb dX12_all_15 (by rw [q7]; decide) (by rw [q7]; decide) (by rw [q7]; decide) (by decide) ?_
      refine lv_aload_n hx hb dX12_all_99 rfl (lv_at hl 0 rfl) ?_
      refine xcVi [] S hE hA hP hD hS (c_M_noble l G z1 H.size _) hB (gw_c lk_X12_468 (gw_c wi_X12_noble (gw_c we_X12_X12_noble_X12_noble (gw_c wn_X12 (gw_c wc_X12_noble (fun _ h9 => h9)))))) hd_X12_noble rfl rfl (Nat.le_trans (Nat.le_of_ble_eq_true rfl) hRf) (Nat.le_trans (Nat.le_of_ble_eq_true rfl) hRl) ⟨Nat.zero_le _, Nat.zero_le _⟩ (va_recv hE.1 hP (ci := 11) (q0 := 0) rfl rfl) rfl hl.1 rfl (Nat.le_of_ble_eq_true rfl) dX12_all_100 (fun r9 z9 H locs hB hP hD hS => ?_)
      exact hret _ _ _ _ _ _ dX12_all_103 hB hP hD hS
    have hB := hB.2 q7
    have t0 := lv_neT q0 (show ((0 : Int32)).toInt = 0 by decide)
    have t1 := lv_neT q1 (show ((1 : Int32)).toInt = 1 by decide)
    have t2 := lv_neT q2 (show ((2 : Int32)).toInt = 2 by decide)
    have t3 := lv_neT q3 (show ((3 : Int32)).toInt = 3 by decide)
    have t4 := lv_neT q4 (show ((4 : Int32)).toInt = 4 by decide)
    have t5 := lv_neT q5 (show ((5 : Int32)).toInt = 5 by decide)
    have t6 := lv_neT q6 (show ((6 : Int32)).toInt = 6 by decide)
    have t7 := lv_neT q7 (show ((7 : Int32)).toInt = 7 by decide)
    refine lv_tableOut (tgt := 104) hx hb dX12_all_15 (by omega) (by decide) ?_
    refine lv_iconst (v := -1) hx hb dX12_all_104 (by decide) ?_
    exact hret _ _ _ _ _ _ dX12_all_105 hB hP hD hS
  · have hB := hB.1 c1
    refine lv_iconst (v := -1) hx hb dX12_all_12 (by decide) ?_
    exact hret _ _ _ _ _ _ dX12_all_13 hB hP hD hS
set_option maxHeartbeats 4000000 in
set_option maxRecDepth 100000 in
theorem c_M_all (l : Launch) (G : GX) (z0 : St) (sz : Nat) (x1 : Int32) (post : Int32 → St → Prop) : MetI l wM yX12_all cX12_all 2 (some .int) ({ frames := 64, cells := 0, slots := 0, locals := 1792 }) [.ref (ad G 100), .int x1] G z0 sz (S_M_all post x1 z0) post := by
  refine Met.ofW (cc := cX12_all) (maxL := 2) (ret := (some .int)) (by decide) rfl ?_
  intro p e s m args below meth c s₁ B hml hv
  obtain ⟨rfl, hsz, hP, hD0, hE, hB⟩ := hv
  have S : CallFix p m c cX12_all 2 s _ GW RX12 := ⟨B.exec, B.bytes, hml, findClass_of_methodNamed B.named, fun w h => atoms_spec (ws := Cond.code yX12_all cX12_all 2 (some .int) :: GW) B.pre w (List.mem_cons_of_mem _ h)⟩
  have hlocks := B.notSynchronized
  subst hsz
  have hD := hD0.self (sz := s.heap.size)
  generalize hAe : va_A (wM G z0) s.heap.size = A at hD hE ⊢
  have hA : ∀ q : Nat, s.heap.size ≤ q → A q := fun q h => by rw [← hAe]; exact Or.inr h
  have hS : va_S A s.heap s.heap [] := va_S.rf
  have hl := lv_entry ([.ref (ad G 100), .int x1]) (n := 2) (Nat.le_of_ble_eq_true rfl)
  rw [lg_entry_eq]
  generalize (lg_sl ([.ref (ad G 100), .int x1]) ++ List.replicate (2 - (lg_sl ([.ref (ad G 100), .int x1])).length) Slot.unset).toArray = ls at hl ⊢
  have hl : lv_has ls 2 [(0, .ref (ad G 100)), (1, .int x1)] := hl
  refine w_M_all_0 S hE hA (Nat.le_refl _) (Nat.le_refl _) ?_ x1 z0 hB _ _ _ hP hD hS hl
  intro pc ls r σ H locs hd hp hP hD hS
  exact W.iret (v := r) B.exec B.bytes B.returns (fun t ht hW => ⟨⟨r, σ, rfl, hp, by rw [ht]; exact hP, hD⟩, hS.F ht⟩) hS.2.2 hd
def B_M_affords_57 (post : Int32 → St → Prop) (ih19 : Int32 → Int32 → Int32 → St → Prop) (x1 : Int32) (x3 : Int32) (s0 : Int32) (s1 : Int32) (z0 : St) : Prop :=
  (∀ v1 : Int32, v1 = (s1 ||| s0) → (∀ v2 : Int32, v2 = x3 + (1 : Int32) → (ih19 x1 v1 v2 z0)))
set_option maxHeartbeats 4000000 in
set_option maxRecDepth 100000 in
theorem w_M_affords_57 {p : Program} {l : Launch} {e : Env} {R : Room} {s : State} {m : MethodId} {args : Array Value} {below : List Frame} {meth : Method} {c : Code} {Q : State → Prop} {G : GX} {A : Nat → Prop} (S : CallFix p m c cX12_affords 4 s args GW RX12) (hE : env G A s s.heap) (hA : ∀ q, s.heap.size ≤ q → A q) (hRf : 1 ≤ R.frames) (hRl : 21 ≤ R.locals) {post : Int32 → St → Prop} (hret : RetI p l e R s m args below meth c Q 0 0 wM G A cX12_affords post) {ih19 : Int32 → Int32 → Int32 → St → Prop} (h19 : ∀ (x1 : Int32) (x2 : Int32) (x3 : Int32) (z0 : St), ih19 x1 x2 x3 z0 → Xw p l e R s m args below meth c Q 0 0 wM G A z0 4 [(0, .ref (ad G 100)), (1, .int x1), (2, .int x2), (3, .int x3)] 19 []) (x1 : Int32) (x3 : Int32) (s0 : Int32) (s1 : Int32) (z0 : St) (hB : B_M_affords_57 post ih19 x1 x3 s0 s1 z0) : Xw p l e R s m args below meth c Q 0 0 wM G A z0 4 [(0, .ref (ad G 100)), (1, .int x1), (3, .int x3)] 57 [.int s0, .int s1] := by
  intro H locs ls hP hD hS hl
  have hx := S.1
  have hb := S.2.1
  refine lv_ior hx hb dX12_affords_57 ?_
  refine lv_topi (fun v1 ev1 => ?_)
  have hB := hB v1 ev1
  refine lv_istore_n (lv' := [(2, .int v1), (0, .ref (ad G 100)), (1, .int x1), (3, .int x3)]) hx hb dX12_affords_58 rfl hl (by decide) rfl (fun ls hl => ?_)
  obtain ⟨v2, ev2⟩ : ∃ y9, y9 = x3 + (1 : Int32) := ⟨_, rfl⟩
  have hB := hB v2 ev2
  refine lv_iinc (v := v2) (lv' := [(3, .int v2), (2, .int v1), (0, .ref (ad G 100)), (1, .int x1)]) hx hb dX12_affords_59 hl (k := 3) rfl (by rw [ev2]; rfl) (by decide) rfl (fun ls hl => ?_)
  refine lv_goto (tgt := 19) hx hb dX12_affords_62 (by decide) ?_
  exact h19 x1 v1 v2 z0 hB _ _ _ hP hD hS (lv_sub hl [2, 3, 1, 0] rfl)
def B_M_affords_19 (post : Int32 → St → Prop) (ih19 : Int32 → Int32 → Int32 → St → Prop) (x1 : Int32) (x2 : Int32) (x3 : Int32) (z0 : St) : Prop :=
  (((gI z0 111) ≤ x3 → (post x2 z0)) ∧ (¬ (gI z0 111) ≤ x3 → (vp_in ((18 : Int32) + x3) 269 ∧ (vp_in (((3 : Int32) * x1) + (0 : Int32)) 269 ∧ (((gA z0 113 (((3 : Int32) * x1) + (0 : Int32)).toNatClampNeg) < (gA z0 113 ((18 : Int32) + x3).toNatClampNeg) → (B_M_affords_57 post ih19 x1 x3 (0 : Int32) x2 z0)) ∧ (¬ (gA z0 113 (((3 : Int32) * x1) + (0 : Int32)).toNatClampNeg) < (gA z0 113 ((18 : Int32) + x3).toNatClampNeg) → (B_M_affords_57 post ih19 x1 x3 ((1 : Int32) <<< (x3 &&& 31)) x2 z0)))))))
set_option maxHeartbeats 4000000 in
set_option maxRecDepth 100000 in
theorem w_M_affords_19 {p : Program} {l : Launch} {e : Env} {R : Room} {s : State} {m : MethodId} {args : Array Value} {below : List Frame} {meth : Method} {c : Code} {Q : State → Prop} {G : GX} {A : Nat → Prop} (S : CallFix p m c cX12_affords 4 s args GW RX12) (hE : env G A s s.heap) (hA : ∀ q, s.heap.size ≤ q → A q) (hRf : 1 ≤ R.frames) (hRl : 21 ≤ R.locals) {post : Int32 → St → Prop} (hret : RetI p l e R s m args below meth c Q 0 0 wM G A cX12_affords post) {ih19 : Int32 → Int32 → Int32 → St → Prop} (h19 : ∀ (x1 : Int32) (x2 : Int32) (x3 : Int32) (z0 : St), ih19 x1 x2 x3 z0 → Xw p l e R s m args below meth c Q 0 0 wM G A z0 4 [(0, .ref (ad G 100)), (1, .int x1), (2, .int x2), (3, .int x3)] 19 []) (x1 : Int32) (x2 : Int32) (x3 : Int32) (z0 : St) (hB : B_M_affords_19 post ih19 x1 x2 x3 z0) : Xw p l e R s m args below meth c Q 0 0 wM G A z0 4 [(0, .ref (ad G 100)), (1, .int x1), (2, .int x2), (3, .int x3)] 19 [] := by
  intro H locs ls hP hD hS hl
  have hx := S.1
  have hb := S.2.1
  refine lv_iload_n hx hb dX12_affords_19 rfl (lv_at hl 3 rfl) ?_
  refine lv_aload_n hx hb dX12_affords_20 rfl (lv_at hl 0 rfl) ?_
  refine xMg_100_drinks S hE hP lk_X12_281 dX12_affords_21 ?_
  refine lv_icmp_ge (tgt := 65) hx hb dX12_affords_24 (by decide) (fun c1 => ?_) (fun c1 => ?_)
  · have hB := hB.1 c1
    refine lv_iload_n hx hb dX12_affords_65 rfl (lv_at hl 2 rfl) ?_
    exact hret _ _ _ _ _ _ dX12_affords_66 hB hP hD hS
  · have hB := hB.2 c1
    refine lv_iload_n hx hb dX12_affords_27 rfl (lv_at hl 2 rfl) ?_
    refine lv_aload_n hx hb dX12_affords_28 rfl (lv_at hl 0 rfl) ?_
    refine xMg_100_now S hE hP lk_X12_61 dX12_affords_29 ?_
    refine lv_bipush (v := 18) hx hb dX12_affords_32 (by decide) ?_
    refine lv_iload_n hx hb dX12_affords_34 rfl (lv_at hl 3 rfl) ?_
    refine lv_iadd hx hb dX12_affords_35 ?_
    obtain ⟨hi, hB⟩ := hB
    refine xMl_113 S hE hP hi dX12_affords_36 ?_
    refine lv_aload_n hx hb dX12_affords_37 rfl (lv_at hl 0 rfl) ?_
    refine xMg_100_now S hE hP lk_X12_61 dX12_affords_38 ?_
    refine lv_iconst (v := 3) hx hb dX12_affords_41 (by decide) ?_
    refine lv_iload_n hx hb dX12_affords_42 rfl (lv_at hl 1 rfl) ?_
    refine lv_imul hx hb dX12_affords_43 ?_
    refine lv_iconst (v := 0) hx hb dX12_affords_44 (by decide) ?_
    refine lv_iadd hx hb dX12_affords_45 ?_
    obtain ⟨hi, hB⟩ := hB
    refine xMl_113 S hE hP hi dX12_affords_46 ?_
    refine lv_icmp_gt (tgt := 56) hx hb dX12_affords_47 (by decide) (fun c2 => ?_) (fun c2 => ?_)
    · have hB := hB.1 c2
      refine lv_iconst (v := 0) hx hb dX12_affords_56 (by decide) ?_
      exact w_M_affords_57 S hE hA hRf hRl hret h19 x1 x3 (0 : Int32) x2 z0 hB _ _ _ hP hD hS (lv_sub hl [0, 1, 3] rfl)
    · have hB := hB.2 c2
      refine lv_iconst (v := 1) hx hb dX12_affords_50 (by decide) ?_
      refine lv_iload_n hx hb dX12_affords_51 rfl (lv_at hl 3 rfl) ?_
      refine lv_ishl hx hb dX12_affords_52 ?_
      refine lv_goto (tgt := 57) hx hb dX12_affords_53 (by decide) ?_
      exact w_M_affords_57 S hE hA hRf hRl hret h19 x1 x3 ((1 : Int32) <<< (x3 &&& 31)) x2 z0 hB _ _ _ hP hD hS (lv_sub hl [0, 1, 3] rfl)
def L_M_affords_19 (post : Int32 → St → Prop) : Nat → Int32 → Int32 → Int32 → St → Prop
  | 0 => fun _ _ _ _ => False
  | n + 1 => B_M_affords_19 post (L_M_affords_19 post n)
theorem wl_M_affords_19 {p : Program} {l : Launch} {e : Env} {R : Room} {s : State} {m : MethodId} {args : Array Value} {below : List Frame} {meth : Method} {c : Code} {Q : State → Prop} {G : GX} {A : Nat → Prop} (S : CallFix p m c cX12_affords 4 s args GW RX12) (hE : env G A s s.heap) (hA : ∀ q, s.heap.size ≤ q → A q) (hRf : 1 ≤ R.frames) (hRl : 21 ≤ R.locals) {post : Int32 → St → Prop} (hret : RetI p l e R s m args below meth c Q 0 0 wM G A cX12_affords post) : ∀ (n : Nat) (x1 : Int32) (x2 : Int32) (x3 : Int32) (z0 : St), L_M_affords_19 post n x1 x2 x3 z0 → Xw p l e R s m args below meth c Q 0 0 wM G A z0 4 [(0, .ref (ad G 100)), (1, .int x1), (2, .int x2), (3, .int x3)] 19 [] := by
  intro n
  induction n with
  | zero => intro x1 x2 x3 z0 hB; exact absurd hB id
  | succ n ih => exact fun x1 x2 x3 z0 hB => w_M_affords_19 S hE hA hRf hRl hret ih x1 x2 x3 z0 hB
def S_M_affords (post : Int32 → St → Prop) (x1 : Int32) (z0 : St) : Prop :=
  (∀ z1 : St, z1 = sI z0 100 (0 : Int32) → (S_M_isGuest (fun (r1 : Int32) (z2 : St) => ((r1 = 0 → (post (-1 : Int32) z2)) ∧ (¬ r1 = 0 → (∃ n3, L_M_affords_19 post n3 x1 (0 : Int32) (0 : Int32) z2)))) x1 z1))
set_option maxHeartbeats 4000000 in
set_option maxRecDepth 100000 in
theorem w_M_affords_0 {p : Program} {l : Launch} {e : Env} {R : Room} {s : State} {m : MethodId} {args : Array Value} {below : List Frame} {meth : Method} {c : Code} {Q : State → Prop} {G : GX} {A : Nat → Prop} (S : CallFix p m c cX12_affords 4 s args GW RX12) (hE : env G A s s.heap) (hA : ∀ q, s.heap.size ≤ q → A q) (hRf : 1 ≤ R.frames) (hRl : 21 ≤ R.locals) {post : Int32 → St → Prop} (hret : RetI p l e R s m args below meth c Q 0 0 wM G A cX12_affords post) (x1 : Int32) (z0 : St) (hB : S_M_affords post x1 z0) : Xw p l e R s m args below meth c Q 0 0 wM G A z0 4 [(0, .ref (ad G 100)), (1, .int x1)] 0 [] := by
  intro H locs ls hP hD hS hl
  have hx := S.1
  have hb := S.2.1
  refine lv_aload_n hx hb dX12_affords_0 rfl (lv_at hl 0 rfl) ?_
  refine lv_iconst (v := 0) hx hb dX12_affords_1 (by decide) ?_
  obtain ⟨z1, ez1⟩ : ∃ z9, z9 = sI z0 100 (0 : Int32) := ⟨_, rfl⟩
  have hB := hB z1 ez1
  refine xMp_100_thrown S hE hP hD hS lk_X12_89 dX12_affords_2 (fun H locs hP hD hS => ?_)
  rw [← ez1] at hP hD
  refine lv_aload_n hx hb dX12_affords_5 rfl (lv_at hl 0 rfl) ?_
  refine lv_iload_n hx hb dX12_affords_6 rfl (lv_at hl 1 rfl) ?_
  refine xcVi [.int x1] S hE hA hP hD hS (c_M_isGuest l G z1 H.size x1 _) hB (gw_c lk_X12_322 (gw_c wi_X12_isGuest (gw_c we_X12_X12_isGuest_X12_isGuest (gw_c wn_X12 (gw_c wc_X12_isGuest (fun _ h9 => h9)))))) hd_X12_isGuest rfl rfl (Nat.le_trans (Nat.le_of_ble_eq_true rfl) hRf) (Nat.le_trans (Nat.le_of_ble_eq_true rfl) hRl) ⟨Nat.zero_le _, Nat.zero_le _⟩ (va_recv hE.1 hP (ci := 11) (q0 := 0) rfl rfl) rfl hl.1 rfl (Nat.le_of_ble_eq_true rfl) dX12_affords_7 (fun r1 z2 H locs hB hP hD hS => ?_)
  refine lv_if_ne (tgt := 15) hx hb dX12_affords_10 (by decide) (fun c2 => ?_) (fun c2 => ?_)
  · have hB := hB.2 c2
    refine lv_iconst (v := 0) hx hb dX12_affords_15 (by decide) ?_
    refine lv_istore_n (lv' := [(2, .int (0 : Int32)), (0, .ref (ad G 100)), (1, .int x1)]) hx hb dX12_affords_16 rfl hl (by decide) rfl (fun ls hl => ?_)
    refine lv_iconst (v := 0) hx hb dX12_affords_17 (by decide) ?_
    refine lv_istore_n (lv' := [(3, .int (0 : Int32)), (2, .int (0 : Int32)), (0, .ref (ad G 100)), (1, .int x1)]) hx hb dX12_affords_18 rfl hl (by decide) rfl (fun ls hl => ?_)
    obtain ⟨n3, hB⟩ := hB
    exact wl_M_affords_19 S hE hA hRf hRl hret n3 x1 (0 : Int32) (0 : Int32) z2 hB _ _ _ hP hD hS (lv_sub hl [2, 3, 1, 0] rfl)
  · have hB := hB.1 c2
    refine lv_iconst (v := -1) hx hb dX12_affords_13 (by decide) ?_
    exact hret _ _ _ _ _ _ dX12_affords_14 hB hP hD hS
set_option maxHeartbeats 4000000 in
set_option maxRecDepth 100000 in
theorem c_M_affords (l : Launch) (G : GX) (z0 : St) (sz : Nat) (x1 : Int32) (post : Int32 → St → Prop) : MetI l wM yX12_affords cX12_affords 4 (some .int) ({ frames := 1, cells := 0, slots := 0, locals := 21 }) [.ref (ad G 100), .int x1] G z0 sz (S_M_affords post x1 z0) post := by
  refine Met.ofW (cc := cX12_affords) (maxL := 4) (ret := (some .int)) (by decide) rfl ?_
  intro p e s m args below meth c s₁ B hml hv
  obtain ⟨rfl, hsz, hP, hD0, hE, hB⟩ := hv
  have S : CallFix p m c cX12_affords 4 s _ GW RX12 := ⟨B.exec, B.bytes, hml, findClass_of_methodNamed B.named, fun w h => atoms_spec (ws := Cond.code yX12_affords cX12_affords 4 (some .int) :: GW) B.pre w (List.mem_cons_of_mem _ h)⟩
  have hlocks := B.notSynchronized
  subst hsz
  have hD := hD0.self (sz := s.heap.size)
  generalize hAe : va_A (wM G z0) s.heap.size = A at hD hE ⊢
  have hA : ∀ q : Nat, s.heap.size ≤ q → A q := fun q h => by rw [← hAe]; exact Or.inr h
  have hS : va_S A s.heap s.heap [] := va_S.rf
  have hl := lv_entry ([.ref (ad G 100), .int x1]) (n := 4) (Nat.le_of_ble_eq_true rfl)
  rw [lg_entry_eq]
  generalize (lg_sl ([.ref (ad G 100), .int x1]) ++ List.replicate (4 - (lg_sl ([.ref (ad G 100), .int x1])).length) Slot.unset).toArray = ls at hl ⊢
  have hl : lv_has ls 4 [(0, .ref (ad G 100)), (1, .int x1)] := hl
  refine w_M_affords_0 S hE hA (Nat.le_refl _) (Nat.le_refl _) ?_ x1 z0 hB _ _ _ hP hD hS hl
  intro pc ls r σ H locs hd hp hP hD hS
  exact W.iret (v := r) B.exec B.bytes B.returns (fun t ht hW => ⟨⟨r, σ, rfl, hp, by rw [ht]; exact hP, hD⟩, hS.F ht⟩) hS.2.2 hd
def S_M_brought (post : Int32 → St → Prop) (x1 : Int32) (z0 : St) : Prop :=
  (∀ z1 : St, z1 = sI z0 100 (0 : Int32) → (S_M_isDrink (fun (r1 : Int32) (z2 : St) => ((r1 = 0 → (post (-1 : Int32) z2)) ∧ (¬ r1 = 0 → (S_M_pagesOf (fun (r3 : Int32) (z3 : St) => (post r3 z3)) x1 z2)))) x1 z1))
set_option maxHeartbeats 4000000 in
set_option maxRecDepth 100000 in
theorem w_M_brought_0 {p : Program} {l : Launch} {e : Env} {R : Room} {s : State} {m : MethodId} {args : Array Value} {below : List Frame} {meth : Method} {c : Code} {Q : State → Prop} {G : GX} {A : Nat → Prop} (S : CallFix p m c cX12_brought 2 s args GW RX12) (hE : env G A s s.heap) (hA : ∀ q, s.heap.size ≤ q → A q) (hRf : 2 ≤ R.frames) (hRl : 45 ≤ R.locals) {post : Int32 → St → Prop} (hret : RetI p l e R s m args below meth c Q 0 0 wM G A cX12_brought post) (x1 : Int32) (z0 : St) (hB : S_M_brought post x1 z0) : Xw p l e R s m args below meth c Q 0 0 wM G A z0 2 [(0, .ref (ad G 100)), (1, .int x1)] 0 [] := by
  intro H locs ls hP hD hS hl
  have hx := S.1
  have hb := S.2.1
  refine lv_aload_n hx hb dX12_brought_0 rfl (lv_at hl 0 rfl) ?_
  refine lv_iconst (v := 0) hx hb dX12_brought_1 (by decide) ?_
  obtain ⟨z1, ez1⟩ : ∃ z9, z9 = sI z0 100 (0 : Int32) := ⟨_, rfl⟩
  have hB := hB z1 ez1
  refine xMp_100_thrown S hE hP hD hS lk_X12_89 dX12_brought_2 (fun H locs hP hD hS => ?_)
  rw [← ez1] at hP hD
  refine lv_aload_n hx hb dX12_brought_5 rfl (lv_at hl 0 rfl) ?_
  refine lv_iload_n hx hb dX12_brought_6 rfl (lv_at hl 1 rfl) ?_
  refine xcVi [.int x1] S hE hA hP hD hS (c_M_isDrink l G z1 H.size x1 _) hB (gw_c lk_X12_319 (gw_c wi_X12_isDrink (gw_c we_X12_X12_isDrink_X12_isDrink (gw_c wn_X12 (gw_c wc_X12_isDrink (fun _ h9 => h9)))))) hd_X12_isDrink rfl rfl (Nat.le_trans (Nat.le_of_ble_eq_true rfl) hRf) (Nat.le_trans (Nat.le_of_ble_eq_true rfl) hRl) ⟨Nat.zero_le _, Nat.zero_le _⟩ (va_recv hE.1 hP (ci := 11) (q0 := 0) rfl rfl) rfl hl.1 rfl (Nat.le_of_ble_eq_true rfl) dX12_brought_7 (fun r1 z2 H locs hB hP hD hS => ?_)
  refine lv_if_eq (tgt := 21) hx hb dX12_brought_10 (by decide) (fun c2 => ?_) (fun c2 => ?_)
  · have hB := hB.1 c2
    refine lv_iconst (v := -1) hx hb dX12_brought_21 (by decide) ?_
    exact hret _ _ _ _ _ _ dX12_brought_22 hB hP hD hS
  · have hB := hB.2 c2
    refine lv_aload_n hx hb dX12_brought_13 rfl (lv_at hl 0 rfl) ?_
    refine lv_iload_n hx hb dX12_brought_14 rfl (lv_at hl 1 rfl) ?_
    refine xcVi [.int x1] S hE hA hP hD hS (c_M_pagesOf l G z2 H.size x1 _) hB (gw_c lk_X12_462 (gw_c wi_X12_pagesOf (gw_c we_X12_X12_pagesOf_X12_pagesOf (gw_c wn_X12 (gw_c wc_X12_pagesOf (fun _ h9 => h9)))))) hd_X12_pagesOf rfl rfl (Nat.le_trans (Nat.le_of_ble_eq_true rfl) hRf) (Nat.le_trans (Nat.le_of_ble_eq_true rfl) hRl) ⟨Nat.zero_le _, Nat.zero_le _⟩ (va_recv hE.1 hP (ci := 11) (q0 := 0) rfl rfl) rfl hl.1 rfl (Nat.le_of_ble_eq_true rfl) dX12_brought_15 (fun r3 z3 H locs hB hP hD hS => ?_)
    refine lv_goto (tgt := 22) hx hb dX12_brought_18 (by decide) ?_
    exact hret _ _ _ _ _ _ dX12_brought_22 hB hP hD hS
set_option maxHeartbeats 4000000 in
set_option maxRecDepth 100000 in
theorem c_M_brought (l : Launch) (G : GX) (z0 : St) (sz : Nat) (x1 : Int32) (post : Int32 → St → Prop) : MetI l wM yX12_brought cX12_brought 2 (some .int) ({ frames := 2, cells := 0, slots := 0, locals := 45 }) [.ref (ad G 100), .int x1] G z0 sz (S_M_brought post x1 z0) post := by
  refine Met.ofW (cc := cX12_brought) (maxL := 2) (ret := (some .int)) (by decide) rfl ?_
  intro p e s m args below meth c s₁ B hml hv
  obtain ⟨rfl, hsz, hP, hD0, hE, hB⟩ := hv
  have S : CallFix p m c cX12_brought 2 s _ GW RX12 := ⟨B.exec, B.bytes, hml, findClass_of_methodNamed B.named, fun w h => atoms_spec (ws := Cond.code yX12_brought cX12_brought 2 (some .int) :: GW) B.pre w (List.mem_cons_of_mem _ h)⟩
  have hlocks := B.notSynchronized
  subst hsz
  have hD := hD0.self (sz := s.heap.size)
  generalize hAe : va_A (wM G z0) s.heap.size = A at hD hE ⊢
  have hA : ∀ q : Nat, s.heap.size ≤ q → A q := fun q h => by rw [← hAe]; exact Or.inr h
  have hS : va_S A s.heap s.heap [] := va_S.rf
  have hl := lv_entry ([.ref (ad G 100), .int x1]) (n := 2) (Nat.le_of_ble_eq_true rfl)
  rw [lg_entry_eq]
  generalize (lg_sl ([.ref (ad G 100), .int x1]) ++ List.replicate (2 - (lg_sl ([.ref (ad G 100), .int x1])).length) Slot.unset).toArray = ls at hl ⊢
  have hl : lv_has ls 2 [(0, .ref (ad G 100)), (1, .int x1)] := hl
  refine w_M_brought_0 S hE hA (Nat.le_refl _) (Nat.le_refl _) ?_ x1 z0 hB _ _ _ hP hD hS hl
  intro pc ls r σ H locs hd hp hP hD hS
  exact W.iret (v := r) B.exec B.bytes B.returns (fun t ht hW => ⟨⟨r, σ, rfl, hp, by rw [ht]; exact hP, hD⟩, hS.F ht⟩) hS.2.2 hd
def B_M_saves_25 (post : Int32 → St → Prop) (ih25 : Int32 → Int32 → Int32 → St → Prop) (x1 : Int32) (x2 : Int32) (x3 : Int32) (z0 : St) : Prop :=
  (((100 : Int32) ≤ x3 → (post (-1 : Int32) z0)) ∧ (¬ (100 : Int32) ≤ x3 → (vp_in (((3 : Int32) * x1) + (0 : Int32)) 269 ∧ (S_Math_min_7cf53_M (fun (r2 : Int32) (z1 : St) => (vp_in ((18 : Int32) + x2) 269 ∧ ((r2 < (gA z1 113 ((18 : Int32) + x2).toNatClampNeg) → (∀ v4 : Int32, v4 = x3 + (1 : Int32) → (ih25 x1 x2 v4 z1))) ∧ (¬ r2 < (gA z1 113 ((18 : Int32) + x2).toNatClampNeg) → (post x3 z1))))) (99 : Int32) ((gA z0 113 (((3 : Int32) * x1) + (0 : Int32)).toNatClampNeg) + (x3 * (gA z0 105 1))) z0))))
set_option maxHeartbeats 4000000 in
set_option maxRecDepth 100000 in
theorem w_M_saves_25 {p : Program} {l : Launch} {e : Env} {R : Room} {s : State} {m : MethodId} {args : Array Value} {below : List Frame} {meth : Method} {c : Code} {Q : State → Prop} {G : GX} {A : Nat → Prop} (S : CallFix p m c cX12_saves 4 s args GW RX12) (hE : env G A s s.heap) (hA : ∀ q, s.heap.size ≤ q → A q) (hRf : 1 ≤ R.frames) (hRl : 21 ≤ R.locals) {post : Int32 → St → Prop} (hret : RetI p l e R s m args below meth c Q 0 0 wM G A cX12_saves post) {ih25 : Int32 → Int32 → Int32 → St → Prop} (h25 : ∀ (x1 : Int32) (x2 : Int32) (x3 : Int32) (z0 : St), ih25 x1 x2 x3 z0 → Xw p l e R s m args below meth c Q 0 0 wM G A z0 4 [(0, .ref (ad G 100)), (1, .int x1), (2, .int x2), (3, .int x3)] 25 []) (x1 : Int32) (x2 : Int32) (x3 : Int32) (z0 : St) (hB : B_M_saves_25 post ih25 x1 x2 x3 z0) : Xw p l e R s m args below meth c Q 0 0 wM G A z0 4 [(0, .ref (ad G 100)), (1, .int x1), (2, .int x2), (3, .int x3)] 25 [] := by
  intro H locs ls hP hD hS hl
  have hx := S.1
  have hb := S.2.1
  refine lv_iload_n hx hb dX12_saves_25 rfl (lv_at hl 3 rfl) ?_
  refine lv_bipush (v := 100) hx hb dX12_saves_26 (by decide) ?_
  refine lv_icmp_ge (tgt := 75) hx hb dX12_saves_28 (by decide) (fun c1 => ?_) (fun c1 => ?_)
  · have hB := hB.1 c1
    refine lv_iconst (v := -1) hx hb dX12_saves_75 (by decide) ?_
    exact hret _ _ _ _ _ _ dX12_saves_76 hB hP hD hS
  · have hB := hB.2 c1
    refine lv_bipush (v := 99) hx hb dX12_saves_31 (by decide) ?_
    refine lv_aload_n hx hb dX12_saves_33 rfl (lv_at hl 0 rfl) ?_
    refine xMg_100_now S hE hP lk_X12_61 dX12_saves_34 ?_
    refine lv_iconst (v := 3) hx hb dX12_saves_37 (by decide) ?_
    refine lv_iload_n hx hb dX12_saves_38 rfl (lv_at hl 1 rfl) ?_
    refine lv_imul hx hb dX12_saves_39 ?_
    refine lv_iconst (v := 0) hx hb dX12_saves_40 (by decide) ?_
    refine lv_iadd hx hb dX12_saves_41 ?_
    obtain ⟨hi, hB⟩ := hB
    refine xMl_113 S hE hP hi dX12_saves_42 ?_
    refine lv_iload_n hx hb dX12_saves_43 rfl (lv_at hl 3 rfl) ?_
    refine lv_aload_n hx hb dX12_saves_44 rfl (lv_at hl 0 rfl) ?_
    refine xMg_100_rule S hE hP lk_X12_37 dX12_saves_45 ?_
    refine lv_iconst (v := 1) hx hb dX12_saves_48 (by decide) ?_
    refine xMk_105 S hE hP 1 (by decide) (by unfold vp_in; decide) dX12_saves_49 ?_
    refine lv_imul hx hb dX12_saves_50 ?_
    refine lv_iadd hx hb dX12_saves_51 ?_
    refine xcSi [.int (99 : Int32), .int ((gA z0 113 (((3 : Int32) * x1) + (0 : Int32)).toNatClampNeg) + (x3 * (gA z0 105 1)))] S hE hA hP hD hS (c_Math_min_7cf53_M l G z0 H.size (99 : Int32) ((gA z0 113 (((3 : Int32) * x1) + (0 : Int32)).toNatClampNeg) + (x3 * (gA z0 105 1))) _) hB (gw_c lk_X12_299 (gw_c wt_J9_min_7cf53 (gw_c wn_J9 (gw_c wc_J9_min_7cf53 (fun _ h9 => h9))))) hs_J9_min_7cf53 rfl rfl (Nat.le_trans (Nat.le_of_ble_eq_true rfl) hRf) (Nat.le_trans (Nat.le_of_ble_eq_true rfl) hRl) ⟨Nat.zero_le _, Nat.zero_le _⟩ rfl hl.1 rfl (Nat.le_of_ble_eq_true rfl) dX12_saves_52 (fun r2 z1 H locs hB hP hD hS => ?_)
    refine lv_aload_n hx hb dX12_saves_55 rfl (lv_at hl 0 rfl) ?_
    refine xMg_100_now S hE hP lk_X12_61 dX12_saves_56 ?_
    refine lv_bipush (v := 18) hx hb dX12_saves_59 (by decide) ?_
    refine lv_iload_n hx hb dX12_saves_61 rfl (lv_at hl 2 rfl) ?_
    refine lv_iadd hx hb dX12_saves_62 ?_
    obtain ⟨hi, hB⟩ := hB
    refine xMl_113 S hE hP hi dX12_saves_63 ?_
    refine lv_icmp_lt (tgt := 69) hx hb dX12_saves_64 (by decide) (fun c3 => ?_) (fun c3 => ?_)
    · have hB := hB.1 c3
      obtain ⟨v4, ev4⟩ : ∃ y9, y9 = x3 + (1 : Int32) := ⟨_, rfl⟩
      have hB := hB v4 ev4
      refine lv_iinc (v := v4) (lv' := [(3, .int v4), (0, .ref (ad G 100)), (1, .int x1), (2, .int x2)]) hx hb dX12_saves_69 hl (k := 3) rfl (by rw [ev4]; rfl) (by decide) rfl (fun ls hl => ?_)
      refine lv_goto (tgt := 25) hx hb dX12_saves_72 (by decide) ?_
      exact h25 x1 x2 v4 z1 hB _ _ _ hP hD hS (lv_sub hl [1, 2, 3, 0] rfl)
    · have hB := hB.2 c3
      refine lv_iload_n hx hb dX12_saves_67 rfl (lv_at hl 3 rfl) ?_
      exact hret _ _ _ _ _ _ dX12_saves_68 hB hP hD hS
def L_M_saves_25 (post : Int32 → St → Prop) : Nat → Int32 → Int32 → Int32 → St → Prop
  | 0 => fun _ _ _ _ => False
  | n + 1 => B_M_saves_25 post (L_M_saves_25 post n)
theorem wl_M_saves_25 {p : Program} {l : Launch} {e : Env} {R : Room} {s : State} {m : MethodId} {args : Array Value} {below : List Frame} {meth : Method} {c : Code} {Q : State → Prop} {G : GX} {A : Nat → Prop} (S : CallFix p m c cX12_saves 4 s args GW RX12) (hE : env G A s s.heap) (hA : ∀ q, s.heap.size ≤ q → A q) (hRf : 1 ≤ R.frames) (hRl : 21 ≤ R.locals) {post : Int32 → St → Prop} (hret : RetI p l e R s m args below meth c Q 0 0 wM G A cX12_saves post) : ∀ (n : Nat) (x1 : Int32) (x2 : Int32) (x3 : Int32) (z0 : St), L_M_saves_25 post n x1 x2 x3 z0 → Xw p l e R s m args below meth c Q 0 0 wM G A z0 4 [(0, .ref (ad G 100)), (1, .int x1), (2, .int x2), (3, .int x3)] 25 [] := by
  intro n
  induction n with
  | zero => intro x1 x2 x3 z0 hB; exact absurd hB id
  | succ n ih => exact fun x1 x2 x3 z0 hB => w_M_saves_25 S hE hA hRf hRl hret ih x1 x2 x3 z0 hB
def S_M_saves (post : Int32 → St → Prop) (x1 : Int32) (x2 : Int32) (z0 : St) : Prop :=
  (∀ z1 : St, z1 = sI z0 100 (0 : Int32) → (S_M_isGuest (fun (r1 : Int32) (z2 : St) => ((r1 = 0 → (post (-1 : Int32) z2)) ∧ (¬ r1 = 0 → (S_M_isDrink (fun (r3 : Int32) (z3 : St) => ((r3 = 0 → (post (-1 : Int32) z3)) ∧ (¬ r3 = 0 → (∃ n5, L_M_saves_25 post n5 x1 x2 (0 : Int32) z3)))) x2 z2)))) x1 z1))
set_option maxHeartbeats 4000000 in
set_option maxRecDepth 100000 in
theorem w_M_saves_0 {p : Program} {l : Launch} {e : Env} {R : Room} {s : State} {m : MethodId} {args : Array Value} {below : List Frame} {meth : Method} {c : Code} {Q : State → Prop} {G : GX} {A : Nat → Prop} (S : CallFix p m c cX12_saves 4 s args GW RX12) (hE : env G A s s.heap) (hA : ∀ q, s.heap.size ≤ q → A q) (hRf : 1 ≤ R.frames) (hRl : 21 ≤ R.locals) {post : Int32 → St → Prop} (hret : RetI p l e R s m args below meth c Q 0 0 wM G A cX12_saves post) (x1 : Int32) (x2 : Int32) (z0 : St) (hB : S_M_saves post x1 x2 z0) : Xw p l e R s m args below meth c Q 0 0 wM G A z0 4 [(0, .ref (ad G 100)), (1, .int x1), (2, .int x2)] 0 [] := by
  intro H locs ls hP hD hS hl
  have hx := S.1
  have hb := S.2.1
  refine lv_aload_n hx hb dX12_saves_0 rfl (lv_at hl 0 rfl) ?_
  refine lv_iconst (v := 0) hx hb dX12_saves_1 (by decide) ?_
  obtain ⟨z1, ez1⟩ : ∃ z9, z9 = sI z0 100 (0 : Int32) := ⟨_, rfl⟩
  have hB := hB z1 ez1
  refine xMp_100_thrown S hE hP hD hS lk_X12_89 dX12_saves_2 (fun H locs hP hD hS => ?_)
  rw [← ez1] at hP hD
  refine lv_aload_n hx hb dX12_saves_5 rfl (lv_at hl 0 rfl) ?_
  refine lv_iload_n hx hb dX12_saves_6 rfl (lv_at hl 1 rfl) ?_
  refine xcVi [.int x1] S hE hA hP hD hS (c_M_isGuest l G z1 H.size x1 _) hB (gw_c lk_X12_322 (gw_c wi_X12_isGuest (gw_c we_X12_X12_isGuest_X12_isGuest (gw_c wn_X12 (gw_c wc_X12_isGuest (fun _ h9 => h9)))))) hd_X12_isGuest rfl rfl (Nat.le_trans (Nat.le_of_ble_eq_true rfl) hRf) (Nat.le_trans (Nat.le_of_ble_eq_true rfl) hRl) ⟨Nat.zero_le _, Nat.zero_le _⟩ (va_recv hE.1 hP (ci := 11) (q0 := 0) rfl rfl) rfl hl.1 rfl (Nat.le_of_ble_eq_true rfl) dX12_saves_7 (fun r1 z2 H locs hB hP hD hS => ?_)
  refine lv_if_eq (tgt := 21) hx hb dX12_saves_10 (by decide) (fun c2 => ?_) (fun c2 => ?_)
  · have hB := hB.1 c2
    refine lv_iconst (v := -1) hx hb dX12_saves_21 (by decide) ?_
    exact hret _ _ _ _ _ _ dX12_saves_22 hB hP hD hS
  · have hB := hB.2 c2
    refine lv_aload_n hx hb dX12_saves_13 rfl (lv_at hl 0 rfl) ?_
    refine lv_iload_n hx hb dX12_saves_14 rfl (lv_at hl 2 rfl) ?_
    refine xcVi [.int x2] S hE hA hP hD hS (c_M_isDrink l G z2 H.size x2 _) hB (gw_c lk_X12_319 (gw_c wi_X12_isDrink (gw_c we_X12_X12_isDrink_X12_isDrink (gw_c wn_X12 (gw_c wc_X12_isDrink (fun _ h9 => h9)))))) hd_X12_isDrink rfl rfl (Nat.le_trans (Nat.le_of_ble_eq_true rfl) hRf) (Nat.le_trans (Nat.le_of_ble_eq_true rfl) hRl) ⟨Nat.zero_le _, Nat.zero_le _⟩ (va_recv hE.1 hP (ci := 11) (q0 := 0) rfl rfl) rfl hl.1 rfl (Nat.le_of_ble_eq_true rfl) dX12_saves_15 (fun r3 z3 H locs hB hP hD hS => ?_)
    refine lv_if_ne (tgt := 23) hx hb dX12_saves_18 (by decide) (fun c4 => ?_) (fun c4 => ?_)
    · have hB := hB.2 c4
      refine lv_iconst (v := 0) hx hb dX12_saves_23 (by decide) ?_
      refine lv_istore_n (lv' := [(3, .int (0 : Int32)), (0, .ref (ad G 100)), (1, .int x1), (2, .int x2)]) hx hb dX12_saves_24 rfl hl (by decide) rfl (fun ls hl => ?_)
      obtain ⟨n5, hB⟩ := hB
      exact wl_M_saves_25 S hE hA hRf hRl hret n5 x1 x2 (0 : Int32) z3 hB _ _ _ hP hD hS (lv_sub hl [1, 2, 3, 0] rfl)
    · have hB := hB.1 c4
      refine lv_iconst (v := -1) hx hb dX12_saves_21 (by decide) ?_
      exact hret _ _ _ _ _ _ dX12_saves_22 hB hP hD hS
set_option maxHeartbeats 4000000 in
set_option maxRecDepth 100000 in
theorem c_M_saves (l : Launch) (G : GX) (z0 : St) (sz : Nat) (x1 : Int32) (x2 : Int32) (post : Int32 → St → Prop) : MetI l wM yX12_saves cX12_saves 4 (some .int) ({ frames := 1, cells := 0, slots := 0, locals := 21 }) [.ref (ad G 100), .int x1, .int x2] G z0 sz (S_M_saves post x1 x2 z0) post := by
  refine Met.ofW (cc := cX12_saves) (maxL := 4) (ret := (some .int)) (by decide) rfl ?_
  intro p e s m args below meth c s₁ B hml hv
  obtain ⟨rfl, hsz, hP, hD0, hE, hB⟩ := hv
  have S : CallFix p m c cX12_saves 4 s _ GW RX12 := ⟨B.exec, B.bytes, hml, findClass_of_methodNamed B.named, fun w h => atoms_spec (ws := Cond.code yX12_saves cX12_saves 4 (some .int) :: GW) B.pre w (List.mem_cons_of_mem _ h)⟩
  have hlocks := B.notSynchronized
  subst hsz
  have hD := hD0.self (sz := s.heap.size)
  generalize hAe : va_A (wM G z0) s.heap.size = A at hD hE ⊢
  have hA : ∀ q : Nat, s.heap.size ≤ q → A q := fun q h => by rw [← hAe]; exact Or.inr h
  have hS : va_S A s.heap s.heap [] := va_S.rf
  have hl := lv_entry ([.ref (ad G 100), .int x1, .int x2]) (n := 4) (Nat.le_of_ble_eq_true rfl)
  rw [lg_entry_eq]
  generalize (lg_sl ([.ref (ad G 100), .int x1, .int x2]) ++ List.replicate (4 - (lg_sl ([.ref (ad G 100), .int x1, .int x2])).length) Slot.unset).toArray = ls at hl ⊢
  have hl : lv_has ls 4 [(0, .ref (ad G 100)), (1, .int x1), (2, .int x2)] := hl
  refine w_M_saves_0 S hE hA (Nat.le_refl _) (Nat.le_refl _) ?_ x1 x2 z0 hB _ _ _ hP hD hS hl
  intro pc ls r σ H locs hd hp hP hD hS
  exact W.iret (v := r) B.exec B.bytes B.returns (fun t ht hW => ⟨⟨r, σ, rfl, hp, by rw [ht]; exact hP, hD⟩, hS.F ht⟩) hS.2.2 hd
def B_M_image_16 (post : Int32 → St → Prop) (ih16 : Int32 → St → Prop) (x1 : Int32) (z0 : St) : Prop :=
  (((269 : Int32) ≤ x1 → (∀ z1 : St, z1 = sI z0 129 (1 : Int32) → (post (gA z1 113 27) z1))) ∧ (¬ (269 : Int32) ≤ x1 → (vp_in x1 269 ∧ (vp_in x1 269 ∧ (∀ z2 : St, z2 = sA z0 119 x1.toNatClampNeg (gA z0 113 x1.toNatClampNeg) → (∀ v2 : Int32, v2 = x1 + (1 : Int32) → (ih16 v2 z2)))))))
set_option maxHeartbeats 4000000 in
set_option maxRecDepth 100000 in
theorem w_M_image_16 {p : Program} {l : Launch} {e : Env} {R : Room} {s : State} {m : MethodId} {args : Array Value} {below : List Frame} {meth : Method} {c : Code} {Q : State → Prop} {G : GX} {A : Nat → Prop} (S : CallFix p m c cX12_image 2 s args GW RX12) (hE : env G A s s.heap) (hA : ∀ q, s.heap.size ≤ q → A q) (hRf : 0 ≤ R.frames) (hRl : 0 ≤ R.locals) {post : Int32 → St → Prop} (hret : RetI p l e R s m args below meth c Q 0 0 wM G A cX12_image post) {ih16 : Int32 → St → Prop} (h16 : ∀ (x1 : Int32) (z0 : St), ih16 x1 z0 → Xw p l e R s m args below meth c Q 0 0 wM G A z0 2 [(0, .ref (ad G 100)), (1, .int x1)] 16 []) (x1 : Int32) (z0 : St) (hB : B_M_image_16 post ih16 x1 z0) : Xw p l e R s m args below meth c Q 0 0 wM G A z0 2 [(0, .ref (ad G 100)), (1, .int x1)] 16 [] := by
  intro H locs ls hP hD hS hl
  have hx := S.1
  have hb := S.2.1
  refine lv_iload_n hx hb dX12_image_16 rfl (lv_at hl 1 rfl) ?_
  refine lv_sipush (v := 269) hx hb dX12_image_17 (by decide) ?_
  refine lv_icmp_ge (tgt := 41) hx hb dX12_image_20 (by decide) (fun c1 => ?_) (fun c1 => ?_)
  · have hB := hB.1 c1
    refine lv_aload_n hx hb dX12_image_41 rfl (lv_at hl 0 rfl) ?_
    refine lv_iconst (v := 1) hx hb dX12_image_42 (by decide) ?_
    obtain ⟨z1, ez1⟩ : ∃ z9, z9 = sI z0 129 (1 : Int32) := ⟨_, rfl⟩
    have hB := hB z1 ez1
    refine xMp_100_hasImage S hE hP hD hS lk_X12_293 (by decide) dX12_image_43 (fun H locs hP hD hS => ?_)
    rw [← ez1] at hP hD
    refine lv_aload_n hx hb dX12_image_46 rfl (lv_at hl 0 rfl) ?_
    refine xMg_100_now S hE hP lk_X12_61 dX12_image_47 ?_
    refine lv_bipush (v := 27) hx hb dX12_image_50 (by decide) ?_
    refine xMk_113 S hE hP 27 (by decide) (by unfold vp_in; decide) dX12_image_52 ?_
    exact hret _ _ _ _ _ _ dX12_image_53 hB hP hD hS
  · have hB := hB.2 c1
    refine lv_aload_n hx hb dX12_image_23 rfl (lv_at hl 0 rfl) ?_
    refine xMg_100_imageRow S hE hP lk_X12_86 dX12_image_24 ?_
    refine lv_iload_n hx hb dX12_image_27 rfl (lv_at hl 1 rfl) ?_
    refine lv_aload_n hx hb dX12_image_28 rfl (lv_at hl 0 rfl) ?_
    refine xMg_100_now S hE hP lk_X12_61 dX12_image_29 ?_
    refine lv_iload_n hx hb dX12_image_32 rfl (lv_at hl 1 rfl) ?_
    obtain ⟨hi, hB⟩ := hB
    refine xMl_113 S hE hP hi dX12_image_33 ?_
    obtain ⟨hi, hB⟩ := hB
    obtain ⟨z2, ez2⟩ : ∃ z9, z9 = sA z0 119 x1.toNatClampNeg (gA z0 113 x1.toNatClampNeg) := ⟨_, rfl⟩
    have hB := hB z2 ez2
    refine xMs_119 S hE hP hD hS _ rfl hi dX12_image_34 (fun H locs hP hD hS => ?_)
    rw [← ez2] at hP hD
    obtain ⟨v2, ev2⟩ : ∃ y9, y9 = x1 + (1 : Int32) := ⟨_, rfl⟩
    have hB := hB v2 ev2
    refine lv_iinc (v := v2) (lv' := [(1, .int v2), (0, .ref (ad G 100))]) hx hb dX12_image_35 hl (k := 1) rfl (by rw [ev2]; rfl) (by decide) rfl (fun ls hl => ?_)
    refine lv_goto (tgt := 16) hx hb dX12_image_38 (by decide) ?_
    exact h16 v2 z2 hB _ _ _ hP hD hS (lv_sub hl [1, 0] rfl)
def L_M_image_16 (post : Int32 → St → Prop) : Nat → Int32 → St → Prop
  | 0 => fun _ _ => False
  | n + 1 => B_M_image_16 post (L_M_image_16 post n)
theorem wl_M_image_16 {p : Program} {l : Launch} {e : Env} {R : Room} {s : State} {m : MethodId} {args : Array Value} {below : List Frame} {meth : Method} {c : Code} {Q : State → Prop} {G : GX} {A : Nat → Prop} (S : CallFix p m c cX12_image 2 s args GW RX12) (hE : env G A s s.heap) (hA : ∀ q, s.heap.size ≤ q → A q) (hRf : 0 ≤ R.frames) (hRl : 0 ≤ R.locals) {post : Int32 → St → Prop} (hret : RetI p l e R s m args below meth c Q 0 0 wM G A cX12_image post) : ∀ (n : Nat) (x1 : Int32) (z0 : St), L_M_image_16 post n x1 z0 → Xw p l e R s m args below meth c Q 0 0 wM G A z0 2 [(0, .ref (ad G 100)), (1, .int x1)] 16 [] := by
  intro n
  induction n with
  | zero => intro x1 z0 hB; exact absurd hB id
  | succ n ih => exact fun x1 z0 hB => w_M_image_16 S hE hA hRf hRl hret ih x1 z0 hB
def S_M_image (post : Int32 → St → Prop) (z0 : St) : Prop :=
  (∀ z1 : St, z1 = sI z0 100 (0 : Int32) → (((gI z1 112) = 0 → (post (-1 : Int32) z1)) ∧ (¬ (gI z1 112) = 0 → (∃ n2, L_M_image_16 post n2 (0 : Int32) z1))))
set_option maxHeartbeats 4000000 in
set_option maxRecDepth 100000 in
theorem w_M_image_0 {p : Program} {l : Launch} {e : Env} {R : Room} {s : State} {m : MethodId} {args : Array Value} {below : List Frame} {meth : Method} {c : Code} {Q : State → Prop} {G : GX} {A : Nat → Prop} (S : CallFix p m c cX12_image 2 s args GW RX12) (hE : env G A s s.heap) (hA : ∀ q, s.heap.size ≤ q → A q) (hRf : 0 ≤ R.frames) (hRl : 0 ≤ R.locals) {post : Int32 → St → Prop} (hret : RetI p l e R s m args below meth c Q 0 0 wM G A cX12_image post) (z0 : St) (hB : S_M_image post z0) : Xw p l e R s m args below meth c Q 0 0 wM G A z0 2 [(0, .ref (ad G 100))] 0 [] := by
  intro H locs ls hP hD hS hl
  have hx := S.1
  have hb := S.2.1
  refine lv_aload_n hx hb dX12_image_0 rfl (lv_at hl 0 rfl) ?_
  refine lv_iconst (v := 0) hx hb dX12_image_1 (by decide) ?_
  obtain ⟨z1, ez1⟩ : ∃ z9, z9 = sI z0 100 (0 : Int32) := ⟨_, rfl⟩
  have hB := hB z1 ez1
  refine xMp_100_thrown S hE hP hD hS lk_X12_89 dX12_image_2 (fun H locs hP hD hS => ?_)
  rw [← ez1] at hP hD
  refine lv_aload_n hx hb dX12_image_5 rfl (lv_at hl 0 rfl) ?_
  refine xMg_100_guests S hE hP lk_X12_284 dX12_image_6 ?_
  refine lv_if_ne (tgt := 14) hx hb dX12_image_9 (by decide) (fun c1 => ?_) (fun c1 => ?_)
  · have hB := hB.2 c1
    refine lv_iconst (v := 0) hx hb dX12_image_14 (by decide) ?_
    refine lv_istore_n (lv' := [(1, .int (0 : Int32)), (0, .ref (ad G 100))]) hx hb dX12_image_15 rfl hl (by decide) rfl (fun ls hl => ?_)
    obtain ⟨n2, hB⟩ := hB
    exact wl_M_image_16 S hE hA hRf hRl hret n2 (0 : Int32) z1 hB _ _ _ hP hD hS (lv_sub hl [1, 0] rfl)
  · have hB := hB.1 c1
    refine lv_iconst (v := -1) hx hb dX12_image_12 (by decide) ?_
    exact hret _ _ _ _ _ _ dX12_image_13 hB hP hD hS
set_option maxHeartbeats 4000000 in
set_option maxRecDepth 100000 in
theorem c_M_image (l : Launch) (G : GX) (z0 : St) (sz : Nat) (post : Int32 → St → Prop) : MetI l wM yX12_image cX12_image 2 (some .int) ({ frames := 0, cells := 0, slots := 0, locals := 0 }) [.ref (ad G 100)] G z0 sz (S_M_image post z0) post := by
  refine Met.ofW (cc := cX12_image) (maxL := 2) (ret := (some .int)) (by decide) rfl ?_
  intro p e s m args below meth c s₁ B hml hv
  obtain ⟨rfl, hsz, hP, hD0, hE, hB⟩ := hv
  have S : CallFix p m c cX12_image 2 s _ GW RX12 := ⟨B.exec, B.bytes, hml, findClass_of_methodNamed B.named, fun w h => atoms_spec (ws := Cond.code yX12_image cX12_image 2 (some .int) :: GW) B.pre w (List.mem_cons_of_mem _ h)⟩
  have hlocks := B.notSynchronized
  subst hsz
  have hD := hD0.self (sz := s.heap.size)
  generalize hAe : va_A (wM G z0) s.heap.size = A at hD hE ⊢
  have hA : ∀ q : Nat, s.heap.size ≤ q → A q := fun q h => by rw [← hAe]; exact Or.inr h
  have hS : va_S A s.heap s.heap [] := va_S.rf
  have hl := lv_entry ([.ref (ad G 100)]) (n := 2) (Nat.le_of_ble_eq_true rfl)
  rw [lg_entry_eq]
  generalize (lg_sl ([.ref (ad G 100)]) ++ List.replicate (2 - (lg_sl ([.ref (ad G 100)])).length) Slot.unset).toArray = ls at hl ⊢
  have hl : lv_has ls 2 [(0, .ref (ad G 100))] := hl
  refine w_M_image_0 S hE hA (Nat.le_refl _) (Nat.le_refl _) ?_  z0 hB _ _ _ hP hD hS hl
  intro pc ls r σ H locs hd hp hP hD hS
  exact W.iret (v := r) B.exec B.bytes B.returns (fun t ht hW => ⟨⟨r, σ, rfl, hp, by rw [ht]; exact hP, hD⟩, hS.F ht⟩) hS.2.2 hd
def B_M_back_16 (post : Int32 → St → Prop) (ih16 : Int32 → St → Prop) (x1 : Int32) (z0 : St) : Prop :=
  (((269 : Int32) ≤ x1 → (∀ z1 : St, z1 = sI z0 119 (0 : Int32) → (post (gA z1 113 27) z1))) ∧ (¬ (269 : Int32) ≤ x1 → (vp_in x1 269 ∧ (vp_in x1 269 ∧ (∀ z2 : St, z2 = sA z0 113 x1.toNatClampNeg (gA z0 119 x1.toNatClampNeg) → (∀ v2 : Int32, v2 = x1 + (1 : Int32) → (ih16 v2 z2)))))))
set_option maxHeartbeats 4000000 in
set_option maxRecDepth 100000 in
theorem w_M_back_16 {p : Program} {l : Launch} {e : Env} {R : Room} {s : State} {m : MethodId} {args : Array Value} {below : List Frame} {meth : Method} {c : Code} {Q : State → Prop} {G : GX} {A : Nat → Prop} (S : CallFix p m c cX12_back 2 s args GW RX12) (hE : env G A s s.heap) (hA : ∀ q, s.heap.size ≤ q → A q) (hRf : 0 ≤ R.frames) (hRl : 0 ≤ R.locals) {post : Int32 → St → Prop} (hret : RetI p l e R s m args below meth c Q 0 0 wM G A cX12_back post) {ih16 : Int32 → St → Prop} (h16 : ∀ (x1 : Int32) (z0 : St), ih16 x1 z0 → Xw p l e R s m args below meth c Q 0 0 wM G A z0 2 [(0, .ref (ad G 100)), (1, .int x1)] 16 []) (x1 : Int32) (z0 : St) (hB : B_M_back_16 post ih16 x1 z0) : Xw p l e R s m args below meth c Q 0 0 wM G A z0 2 [(0, .ref (ad G 100)), (1, .int x1)] 16 [] := by
  intro H locs ls hP hD hS hl
  have hx := S.1
  have hb := S.2.1
  refine lv_iload_n hx hb dX12_back_16 rfl (lv_at hl 1 rfl) ?_
  refine lv_sipush (v := 269) hx hb dX12_back_17 (by decide) ?_
  refine lv_icmp_ge (tgt := 41) hx hb dX12_back_20 (by decide) (fun c1 => ?_) (fun c1 => ?_)
  · have hB := hB.1 c1
    refine lv_aload_n hx hb dX12_back_41 rfl (lv_at hl 0 rfl) ?_
    refine lv_iconst (v := 0) hx hb dX12_back_42 (by decide) ?_
    obtain ⟨z1, ez1⟩ : ∃ z9, z9 = sI z0 119 (0 : Int32) := ⟨_, rfl⟩
    have hB := hB z1 ez1
    refine xMp_100_acts S hE hP hD hS lk_X12_290 dX12_back_43 (fun H locs hP hD hS => ?_)
    rw [← ez1] at hP hD
    refine lv_aload_n hx hb dX12_back_46 rfl (lv_at hl 0 rfl) ?_
    refine xMg_100_now S hE hP lk_X12_61 dX12_back_47 ?_
    refine lv_bipush (v := 27) hx hb dX12_back_50 (by decide) ?_
    refine xMk_113 S hE hP 27 (by decide) (by unfold vp_in; decide) dX12_back_52 ?_
    exact hret _ _ _ _ _ _ dX12_back_53 hB hP hD hS
  · have hB := hB.2 c1
    refine lv_aload_n hx hb dX12_back_23 rfl (lv_at hl 0 rfl) ?_
    refine xMg_100_now S hE hP lk_X12_61 dX12_back_24 ?_
    refine lv_iload_n hx hb dX12_back_27 rfl (lv_at hl 1 rfl) ?_
    refine lv_aload_n hx hb dX12_back_28 rfl (lv_at hl 0 rfl) ?_
    refine xMg_100_imageRow S hE hP lk_X12_86 dX12_back_29 ?_
    refine lv_iload_n hx hb dX12_back_32 rfl (lv_at hl 1 rfl) ?_
    obtain ⟨hi, hB⟩ := hB
    refine xMl_119 S hE hP hi dX12_back_33 ?_
    obtain ⟨hi, hB⟩ := hB
    obtain ⟨z2, ez2⟩ : ∃ z9, z9 = sA z0 113 x1.toNatClampNeg (gA z0 119 x1.toNatClampNeg) := ⟨_, rfl⟩
    have hB := hB z2 ez2
    refine xMs_113 S hE hP hD hS _ rfl hi dX12_back_34 (fun H locs hP hD hS => ?_)
    rw [← ez2] at hP hD
    obtain ⟨v2, ev2⟩ : ∃ y9, y9 = x1 + (1 : Int32) := ⟨_, rfl⟩
    have hB := hB v2 ev2
    refine lv_iinc (v := v2) (lv' := [(1, .int v2), (0, .ref (ad G 100))]) hx hb dX12_back_35 hl (k := 1) rfl (by rw [ev2]; rfl) (by decide) rfl (fun ls hl => ?_)
    refine lv_goto (tgt := 16) hx hb dX12_back_38 (by decide) ?_
    exact h16 v2 z2 hB _ _ _ hP hD hS (lv_sub hl [1, 0] rfl)
def L_M_back_16 (post : Int32 → St → Prop) : Nat → Int32 → St → Prop
  | 0 => fun _ _ => False
  | n + 1 => B_M_back_16 post (L_M_back_16 post n)
theorem wl_M_back_16 {p : Program} {l : Launch} {e : Env} {R : Room} {s : State} {m : MethodId} {args : Array Value} {below : List Frame} {meth : Method} {c : Code} {Q : State → Prop} {G : GX} {A : Nat → Prop} (S : CallFix p m c cX12_back 2 s args GW RX12) (hE : env G A s s.heap) (hA : ∀ q, s.heap.size ≤ q → A q) (hRf : 0 ≤ R.frames) (hRl : 0 ≤ R.locals) {post : Int32 → St → Prop} (hret : RetI p l e R s m args below meth c Q 0 0 wM G A cX12_back post) : ∀ (n : Nat) (x1 : Int32) (z0 : St), L_M_back_16 post n x1 z0 → Xw p l e R s m args below meth c Q 0 0 wM G A z0 2 [(0, .ref (ad G 100)), (1, .int x1)] 16 [] := by
  intro n
  induction n with
  | zero => intro x1 z0 hB; exact absurd hB id
  | succ n ih => exact fun x1 z0 hB => w_M_back_16 S hE hA hRf hRl hret ih x1 z0 hB
def S_M_back (post : Int32 → St → Prop) (z0 : St) : Prop :=
  (∀ z1 : St, z1 = sI z0 100 (0 : Int32) → (((gI z1 129) = 0 → (post (-1 : Int32) z1)) ∧ (¬ (gI z1 129) = 0 → (∃ n2, L_M_back_16 post n2 (0 : Int32) z1))))
set_option maxHeartbeats 4000000 in
set_option maxRecDepth 100000 in
theorem w_M_back_0 {p : Program} {l : Launch} {e : Env} {R : Room} {s : State} {m : MethodId} {args : Array Value} {below : List Frame} {meth : Method} {c : Code} {Q : State → Prop} {G : GX} {A : Nat → Prop} (S : CallFix p m c cX12_back 2 s args GW RX12) (hE : env G A s s.heap) (hA : ∀ q, s.heap.size ≤ q → A q) (hRf : 0 ≤ R.frames) (hRl : 0 ≤ R.locals) {post : Int32 → St → Prop} (hret : RetI p l e R s m args below meth c Q 0 0 wM G A cX12_back post) (z0 : St) (hB : S_M_back post z0) : Xw p l e R s m args below meth c Q 0 0 wM G A z0 2 [(0, .ref (ad G 100))] 0 [] := by
  intro H locs ls hP hD hS hl
  have hx := S.1
  have hb := S.2.1
  refine lv_aload_n hx hb dX12_back_0 rfl (lv_at hl 0 rfl) ?_
  refine lv_iconst (v := 0) hx hb dX12_back_1 (by decide) ?_
  obtain ⟨z1, ez1⟩ : ∃ z9, z9 = sI z0 100 (0 : Int32) := ⟨_, rfl⟩
  have hB := hB z1 ez1
  refine xMp_100_thrown S hE hP hD hS lk_X12_89 dX12_back_2 (fun H locs hP hD hS => ?_)
  rw [← ez1] at hP hD
  refine lv_aload_n hx hb dX12_back_5 rfl (lv_at hl 0 rfl) ?_
  refine xMg_100_hasImage S hE hP lk_X12_293 dX12_back_6 ?_
  refine lv_if_ne (tgt := 14) hx hb dX12_back_9 (by decide) (fun c1 => ?_) (fun c1 => ?_)
  · have hB := hB.2 c1
    refine lv_iconst (v := 0) hx hb dX12_back_14 (by decide) ?_
    refine lv_istore_n (lv' := [(1, .int (0 : Int32)), (0, .ref (ad G 100))]) hx hb dX12_back_15 rfl hl (by decide) rfl (fun ls hl => ?_)
    obtain ⟨n2, hB⟩ := hB
    exact wl_M_back_16 S hE hA hRf hRl hret n2 (0 : Int32) z1 hB _ _ _ hP hD hS (lv_sub hl [1, 0] rfl)
  · have hB := hB.1 c1
    refine lv_iconst (v := -1) hx hb dX12_back_12 (by decide) ?_
    exact hret _ _ _ _ _ _ dX12_back_13 hB hP hD hS
set_option maxHeartbeats 4000000 in
set_option maxRecDepth 100000 in
theorem c_M_back (l : Launch) (G : GX) (z0 : St) (sz : Nat) (post : Int32 → St → Prop) : MetI l wM yX12_back cX12_back 2 (some .int) ({ frames := 0, cells := 0, slots := 0, locals := 0 }) [.ref (ad G 100)] G z0 sz (S_M_back post z0) post := by
  refine Met.ofW (cc := cX12_back) (maxL := 2) (ret := (some .int)) (by decide) rfl ?_
  intro p e s m args below meth c s₁ B hml hv
  obtain ⟨rfl, hsz, hP, hD0, hE, hB⟩ := hv
  have S : CallFix p m c cX12_back 2 s _ GW RX12 := ⟨B.exec, B.bytes, hml, findClass_of_methodNamed B.named, fun w h => atoms_spec (ws := Cond.code yX12_back cX12_back 2 (some .int) :: GW) B.pre w (List.mem_cons_of_mem _ h)⟩
  have hlocks := B.notSynchronized
  subst hsz
  have hD := hD0.self (sz := s.heap.size)
  generalize hAe : va_A (wM G z0) s.heap.size = A at hD hE ⊢
  have hA : ∀ q : Nat, s.heap.size ≤ q → A q := fun q h => by rw [← hAe]; exact Or.inr h
  have hS : va_S A s.heap s.heap [] := va_S.rf
  have hl := lv_entry ([.ref (ad G 100)]) (n := 2) (Nat.le_of_ble_eq_true rfl)
  rw [lg_entry_eq]
  generalize (lg_sl ([.ref (ad G 100)]) ++ List.replicate (2 - (lg_sl ([.ref (ad G 100)])).length) Slot.unset).toArray = ls at hl ⊢
  have hl : lv_has ls 2 [(0, .ref (ad G 100))] := hl
  refine w_M_back_0 S hE hA (Nat.le_refl _) (Nat.le_refl _) ?_  z0 hB _ _ _ hP hD hS hl
  intro pc ls r σ H locs hd hp hP hD hS
  exact W.iret (v := r) B.exec B.bytes B.returns (fun t ht hW => ⟨⟨r, σ, rfl, hp, by rw [ht]; exact hP, hD⟩, hS.F ht⟩) hS.2.2 hd
def B_M_count_126 (post : Int32 → St → Prop) (ih126 : Int32 → Int32 → St → Prop) (x2 : Int32) (x3 : Int32) (z0 : St) : Prop :=
  (((gI z0 112) ≤ x3 → (post x2 z0)) ∧ (¬ (gI z0 112) ≤ x3 → (vp_in (((3 : Int32) * x3) + (2 : Int32)) 269 ∧ (∀ v2 : Int32, v2 = (x2 + (gA z0 113 (((3 : Int32) * x3) + (2 : Int32)).toNatClampNeg)) → (∀ v3 : Int32, v3 = x3 + (1 : Int32) → (ih126 v2 v3 z0))))))
set_option maxHeartbeats 4000000 in
set_option maxRecDepth 100000 in
theorem w_M_count_126 {p : Program} {l : Launch} {e : Env} {R : Room} {s : State} {m : MethodId} {args : Array Value} {below : List Frame} {meth : Method} {c : Code} {Q : State → Prop} {G : GX} {A : Nat → Prop} (S : CallFix p m c cX12_count 4 s args GW RX12) (hE : env G A s s.heap) (hA : ∀ q, s.heap.size ≤ q → A q) (hRf : 0 ≤ R.frames) (hRl : 0 ≤ R.locals) {post : Int32 → St → Prop} (hret : RetI p l e R s m args below meth c Q 0 0 wM G A cX12_count post) {ih126 : Int32 → Int32 → St → Prop} (h126 : ∀ (x2 : Int32) (x3 : Int32) (z0 : St), ih126 x2 x3 z0 → Xw p l e R s m args below meth c Q 0 0 wM G A z0 4 [(0, .ref (ad G 100)), (2, .int x2), (3, .int x3)] 126 []) (x2 : Int32) (x3 : Int32) (z0 : St) (hB : B_M_count_126 post ih126 x2 x3 z0) : Xw p l e R s m args below meth c Q 0 0 wM G A z0 4 [(0, .ref (ad G 100)), (2, .int x2), (3, .int x3)] 126 [] := by
  intro H locs ls hP hD hS hl
  have hx := S.1
  have hb := S.2.1
  refine lv_iload_n hx hb dX12_count_126 rfl (lv_at hl 2 rfl) ?_
  refine lv_aload_n hx hb dX12_count_127 rfl (lv_at hl 0 rfl) ?_
  refine xMg_100_guests S hE hP lk_X12_284 dX12_count_128 ?_
  refine lv_icmp_ge (tgt := 153) hx hb dX12_count_131 (by decide) (fun c1 => ?_) (fun c1 => ?_)
  · have hB := hB.1 c1
    refine lv_iload_n hx hb dX12_count_153 rfl (lv_at hl 1 rfl) ?_
    exact hret _ _ _ _ _ _ dX12_count_154 hB hP hD hS
  · have hB := hB.2 c1
    refine lv_iload_n hx hb dX12_count_134 rfl (lv_at hl 1 rfl) ?_
    refine lv_aload_n hx hb dX12_count_135 rfl (lv_at hl 0 rfl) ?_
    refine xMg_100_now S hE hP lk_X12_61 dX12_count_136 ?_
    refine lv_iconst (v := 3) hx hb dX12_count_139 (by decide) ?_
    refine lv_iload_n hx hb dX12_count_140 rfl (lv_at hl 2 rfl) ?_
    refine lv_imul hx hb dX12_count_141 ?_
    refine lv_iconst (v := 2) hx hb dX12_count_142 (by decide) ?_
    refine lv_iadd hx hb dX12_count_143 ?_
    obtain ⟨hi, hB⟩ := hB
    refine xMl_113 S hE hP hi dX12_count_144 ?_
    refine lv_iadd hx hb dX12_count_145 ?_
    refine lv_topi (fun v2 ev2 => ?_)
    have hB := hB v2 ev2
    refine lv_istore_n (lv' := [(2, .int v2), (0, .ref (ad G 100)), (3, .int x3)]) hx hb dX12_count_146 rfl hl (by decide) rfl (fun ls hl => ?_)
    obtain ⟨v3, ev3⟩ : ∃ y9, y9 = x3 + (1 : Int32) := ⟨_, rfl⟩
    have hB := hB v3 ev3
    refine lv_iinc (v := v3) (lv' := [(3, .int v3), (2, .int v2), (0, .ref (ad G 100))]) hx hb dX12_count_147 hl (k := 2) rfl (by rw [ev3]; rfl) (by decide) rfl (fun ls hl => ?_)
    refine lv_goto (tgt := 126) hx hb dX12_count_150 (by decide) ?_
    exact h126 v2 v3 z0 hB _ _ _ hP hD hS (lv_sub hl [2, 1, 0] rfl)
def L_M_count_126 (post : Int32 → St → Prop) : Nat → Int32 → Int32 → St → Prop
  | 0 => fun _ _ _ => False
  | n + 1 => B_M_count_126 post (L_M_count_126 post n)
theorem wl_M_count_126 {p : Program} {l : Launch} {e : Env} {R : Room} {s : State} {m : MethodId} {args : Array Value} {below : List Frame} {meth : Method} {c : Code} {Q : State → Prop} {G : GX} {A : Nat → Prop} (S : CallFix p m c cX12_count 4 s args GW RX12) (hE : env G A s s.heap) (hA : ∀ q, s.heap.size ≤ q → A q) (hRf : 0 ≤ R.frames) (hRl : 0 ≤ R.locals) {post : Int32 → St → Prop} (hret : RetI p l e R s m args below meth c Q 0 0 wM G A cX12_count post) : ∀ (n : Nat) (x2 : Int32) (x3 : Int32) (z0 : St), L_M_count_126 post n x2 x3 z0 → Xw p l e R s m args below meth c Q 0 0 wM G A z0 4 [(0, .ref (ad G 100)), (2, .int x2), (3, .int x3)] 126 [] := by
  intro n
  induction n with
  | zero => intro x2 x3 z0 hB; exact absurd hB id
  | succ n ih => exact fun x2 x3 z0 hB => w_M_count_126 S hE hA hRf hRl hret ih x2 x3 z0 hB
def S_M_count (post : Int32 → St → Prop) (x1 : Int32) (z0 : St) : Prop :=
  (∀ z1 : St, z1 = sI z0 100 (0 : Int32) → ((x1 = (0 : Int32) → (post (gI z1 112) z1)) ∧ (¬ x1 = (0 : Int32) → ((x1 = (1 : Int32) → (post (gI z1 111) z1)) ∧ (¬ x1 = (1 : Int32) → ((x1 = (2 : Int32) → (post (gI z1 102) z1)) ∧ (¬ x1 = (2 : Int32) → ((x1 = (3 : Int32) → (post (gI z1 115) z1)) ∧ (¬ x1 = (3 : Int32) → ((x1 = (4 : Int32) → (post (gI z1 101) z1)) ∧ (¬ x1 = (4 : Int32) → ((x1 = (5 : Int32) → (post (gI z1 117) z1)) ∧ (¬ x1 = (5 : Int32) → ((x1 = (6 : Int32) → (post (gA z1 113 27) z1)) ∧ (¬ x1 = (6 : Int32) → ((x1 = (7 : Int32) → (post (gA z1 113 25) z1)) ∧ (¬ x1 = (7 : Int32) → ((x1 = (8 : Int32) → (∃ n1, L_M_count_126 post n1 (0 : Int32) (0 : Int32) z1)) ∧ (¬ x1 = (8 : Int32) → ((x1 = (9 : Int32) → (post (gI z1 118) z1)) ∧ (¬ x1 = (9 : Int32) → ((x1 = (10 : Int32) → (post (gI z1 128) z1)) ∧ (¬ x1 = (10 : Int32) → ((x1 = (11 : Int32) → (post (gA z1 113 26) z1)) ∧ (¬ x1 = (11 : Int32) → ((x1 = (12 : Int32) → (post (gA z1 113 28) z1)) ∧ (¬ x1 = (12 : Int32) → ((x1 = (13 : Int32) → (post (gI z1 119) z1)) ∧ (¬ x1 = (13 : Int32) → (post (-1000000 : Int32) z1))))))))))))))))))))))))))))))
set_option maxHeartbeats 4000000 in
set_option maxRecDepth 100000 in
theorem w_M_count_0 {p : Program} {l : Launch} {e : Env} {R : Room} {s : State} {m : MethodId} {args : Array Value} {below : List Frame} {meth : Method} {c : Code} {Q : State → Prop} {G : GX} {A : Nat → Prop} (S : CallFix p m c cX12_count 4 s args GW RX12) (hE : env G A s s.heap) (hA : ∀ q, s.heap.size ≤ q → A q) (hRf : 0 ≤ R.frames) (hRl : 0 ≤ R.locals) {post : Int32 → St → Prop} (hret : RetI p l e R s m args below meth c Q 0 0 wM G A cX12_count post) (x1 : Int32) (z0 : St) (hB : S_M_count post x1 z0) : Xw p l e R s m args below meth c Q 0 0 wM G A z0 4 [(0, .ref (ad G 100)), (1, .int x1)] 0 [] := by
  intro H locs ls hP hD hS hl
  have hx := S.1
  have hb := S.2.1
  refine lv_aload_n hx hb dX12_count_0 rfl (lv_at hl 0 rfl) ?_
  refine lv_iconst (v := 0) hx hb dX12_count_1 (by decide) ?_
  obtain ⟨z1, ez1⟩ : ∃ z9, z9 = sI z0 100 (0 : Int32) := ⟨_, rfl⟩
  have hB := hB z1 ez1
  refine xMp_100_thrown S hE hP hD hS lk_X12_89 dX12_count_2 (fun H locs hP hD hS => ?_)
  rw [← ez1] at hP hD
  refine lv_iload_n hx hb dX12_count_5 rfl (lv_at hl 1 rfl) ?_
  -- switch
  by_cases q0 : x1 = (0 : Int32)
  · have hB := hB.1 q0
    refine lv_tableIn (tgt := 76) (off := 70) hx hb dX12_count_6 (by rw [q0]; decide) (by rw [q0]; decide) (by rw [q0]; decide) (by decide) ?_
    refine lv_aload_n hx hb dX12_count_76 rfl (lv_at hl 0 rfl) ?_
    refine xMg_100_guests S hE hP lk_X12_284 dX12_count_77 ?_
    exact hret _ _ _ _ _ _ dX12_count_80 hB hP hD hS
  have hB := hB.2 q0
  by_cases q1 : x1 = (1 : Int32)
  · have hB := hB.1 q1
    refine lv_tableIn (tgt := 81) (off := 75) hx hb dX12_count_6 (by rw [q1]; decide) (by rw [q1]; decide) (by rw [q1]; decide) (by decide) ?_
    refine lv_aload_n hx hb dX12_count_81 rfl (lv_at hl 0 rfl) ?_
    refine xMg_100_drinks S hE hP lk_X12_281 dX12_count_82 ?_
    exact hret _ _ _ _ _ _ dX12_count_85 hB hP hD hS
  have hB := hB.2 q1
  by_cases q2 : x1 = (2 : Int32)
  · have hB := hB.1 q2
    refine lv_tableIn (tgt := 86) (off := 80) hx hb dX12_count_6 (by rw [q2]; decide) (by rw [q2]; decide) (by rw [q2]; decide) (by decide) ?_
    refine lv_aload_n hx hb dX12_count_86 rfl (lv_at hl 0 rfl) ?_
    refine xMg_100_lawMany S hE hP lk_X12_273 dX12_count_87 ?_
    exact hret _ _ _ _ _ _ dX12_count_90 hB hP hD hS
  have hB := hB.2 q2
  by_cases q3 : x1 = (3 : Int32)
  · have hB := hB.1 q3
    refine lv_tableIn (tgt := 91) (off := 85) hx hb dX12_count_6 (by rw [q3]; decide) (by rw [q3]; decide) (by rw [q3]; decide) (by decide) ?_
    refine lv_aload_n hx hb dX12_count_91 rfl (lv_at hl 0 rfl) ?_
    refine xMg_100_winters S hE hP lk_X12_276 dX12_count_92 ?_
    exact hret _ _ _ _ _ _ dX12_count_95 hB hP hD hS
  have hB := hB.2 q3
  by_cases q4 : x1 = (4 : Int32)
  · have hB := hB.1 q4
    refine lv_tableIn (tgt := 96) (off := 90) hx hb dX12_count_6 (by rw [q4]; decide) (by rw [q4]; decide) (by rw [q4]; decide) (by decide) ?_
    refine lv_aload_n hx hb dX12_count_96 rfl (lv_at hl 0 rfl) ?_
    refine xMg_100_length S hE hP lk_X12_102 dX12_count_97 ?_
    exact hret _ _ _ _ _ _ dX12_count_100 hB hP hD hS
  have hB := hB.2 q4
  by_cases q5 : x1 = (5 : Int32)
  · have hB := hB.1 q5
    refine lv_tableIn (tgt := 101) (off := 95) hx hb dX12_count_6 (by rw [q5]; decide) (by rw [q5]; decide) (by rw [q5]; decide) (by decide) ?_
    refine lv_aload_n hx hb dX12_count_101 rfl (lv_at hl 0 rfl) ?_
    refine xMg_100_law S hE hP lk_X12_67 dX12_count_102 ?_
    exact hret _ _ _ _ _ _ dX12_count_105 hB hP hD hS
  have hB := hB.2 q5
  by_cases q6 : x1 = (6 : Int32)
  · have hB := hB.1 q6
    refine lv_tableIn (tgt := 106) (off := 100) hx hb dX12_count_6 (by rw [q6]; decide) (by rw [q6]; decide) (by rw [q6]; decide) (by decide) ?_
    refine lv_aload_n hx hb dX12_count_106 rfl (lv_at hl 0 rfl) ?_
    refine xMg_100_now S hE hP lk_X12_61 dX12_count_107 ?_
    refine lv_bipush (v := 27) hx hb dX12_count_110 (by decide) ?_
    refine xMk_113 S hE hP 27 (by decide) (by unfold vp_in; decide) dX12_count_112 ?_
    exact hret _ _ _ _ _ _ dX12_count_113 hB hP hD hS
  have hB := hB.2 q6
  by_cases q7 : x1 = (7 : Int32)
  · have hB := hB.1 q7
    refine lv_tableIn (tgt := 114) (off := 108) hx hb dX12_count_6 (by rw [q7]; decide) (by rw [q7]; decide) (by rw [q7]; decide) (by decide) ?_
    refine lv_aload_n hx hb dX12_count_114 rfl (lv_at hl 0 rfl) ?_
    refine xMg_100_now S hE hP lk_X12_61 dX12_count_115 ?_
    refine lv_bipush (v := 25) hx hb dX12_count_118 (by decide) ?_
    refine xMk_113 S hE hP 25 (by decide) (by unfold vp_in; decide) dX12_count_120 ?_
    exact hret _ _ _ _ _ _ dX12_count_121 hB hP hD hS
  have hB := hB.2 q7
  by_cases q8 : x1 = (8 : Int32)
  · have hB := hB.1 q8
    refine lv_tableIn (tgt := 122) (off := 116) hx hb dX12_count_6 (by rw [q8]; decide) (by rw [q8]; decide) (by rw [q8]; decide) (by decide) ?_
    refine lv_iconst (v := 0) hx hb dX12_count_122 (by decide) ?_
    refine lv_istore_n (lv' := [(2, .int (0 : Int32)), (0, .ref (ad G 100)), (1, .int x1)]) hx hb dX12_count_123 rfl hl (by decide) rfl (fun ls hl => ?_)
    refine lv_iconst (v := 0) hx hb dX12_count_124 (by decide) ?_
    refine lv_istore_n (lv' := [(3, .int (0 : Int32)), (2, .int (0 : Int32)), (0, .ref (ad G 100)), (1, .int x1)]) hx hb dX12_count_125 rfl hl (by decide) rfl (fun ls hl => ?_)
    obtain ⟨n1, hB⟩ := hB
    exact wl_M_count_126 S hE hA hRf hRl hret n1 (0 : Int32) (0 : Int32) z1 hB _ _ _ hP hD hS (lv_sub hl [2, 1, 0] rfl)
  have hB := hB.2 q8
  by_cases q9 : x1 = (9 : Int32)
  · have hB := hB.1 q9
    refine lv_tableIn (tgt := 155) (off := 149) hx hb dX12_count_6 (by rw [q9]; decide) (by rw [q9]; decide) (by rw [q9]; decide) (by decide) ?_
    refine lv_aload_n hx hb dX12_count_155 rfl (lv_at hl 0 rfl) ?_
    refine xMg_100_snowy S hE hP lk_X12_71 dX12_count_156 ?_
    exact hret _ _ _ _ _ _ dX12_count_159 hB hP hD hS
  have hB := hB.2 q9
  by_cases q10 : x1 = (10 : Int32)
  · have hB := hB.1 q10
    refine lv_tableIn (tgt := 160) (off := 154) hx hb dX12_count_6 (by rw [q10]; decide) (by rw [q10]; decide) (by rw [q10]; decide) (by decide) ?_
    refine lv_aload_n hx hb dX12_count_160 rfl (lv_at hl 0 rfl) ?_
    refine xMg_100_sights S hE hP lk_X12_287 dX12_count_161 ?_
    exact hret _ _ _ _ _ _ dX12_count_164 hB hP hD hS
  have hB := hB.2 q10
  by_cases q11 : x1 = (11 : Int32)
  · have hB := hB.1 q11
    refine lv_tableIn (tgt := 165) (off := 159) hx hb dX12_count_6 (by rw [q11]; decide) (by rw [q11]; decide) (by rw [q11]; decide) (by decide) ?_
    refine lv_aload_n hx hb dX12_count_165 rfl (lv_at hl 0 rfl) ?_
    refine xMg_100_now S hE hP lk_X12_61 dX12_count_166 ?_
    refine lv_bipush (v := 26) hx hb dX12_count_169 (by decide) ?_
    refine xMk_113 S hE hP 26 (by decide) (by unfold vp_in; decide) dX12_count_171 ?_
    exact hret _ _ _ _ _ _ dX12_count_172 hB hP hD hS
  have hB := hB.2 q11
  by_cases q12 : x1 = (12 : Int32)
  · have hB := hB.1 q12
    refine lv_tableIn (tgt := 173) (off := 167) hx hb dX12_count_6 (by rw [q12]; decide) (by rw [q12]; decide) (by rw [q12]; decide) (by decide) ?_
    refine lv_aload_n hx hb dX12_count_173 rfl (lv_at hl 0 rfl) ?_
    refine xMg_100_now S hE hP lk_X12_61 dX12_count_174 ?_
    refine lv_bipush (v := 28) hx hb dX12_count_177 (by decide) ?_
    refine xMk_113 S hE hP 28 (by decide) (by unfold vp_in; decide) dX12_count_179 ?_
    exact hret _ _ _ _ _ _ dX12_count_180 hB hP hD hS
  have hB := hB.2 q12
  by_cases q13 : x1 = (13 : Int32)
  · have hB := hB.1 q13
    refine lv_tableIn (tgt := 181) (off := 175) hx hb dX12_count_6 (by rw [q13]; decide) (by rw [q13]; decide) (by rw [q13]; decide) (by decide) ?_
    refine lv_aload_n hx hb dX12_count_181 rfl (lv_at hl 0 rfl) ?_
    refine xMg_100_acts S hE hP lk_X12_290 dX12_count_182 ?_
    exact hret _ _ _ _ _ _ dX12_count_185 hB hP hD hS
  have hB := hB.2 q13
  have t0 := lv_neT q0 (show ((0 : Int32)).toInt = 0 by decide)
  have t1 := lv_neT q1 (show ((1 : Int32)).toInt = 1 by decide)
  have t2 := lv_neT q2 (show ((2 : Int32)).toInt = 2 by decide)
  have t3 := lv_neT q3 (show ((3 : Int32)).toInt = 3 by decide)
  have t4 := lv_neT q4 (show ((4 : Int32)).toInt = 4 by decide)
  have t5 := lv_neT q5 (show ((5 : Int32)).toInt = 5 by decide)
  have t6 := lv_neT q6 (show ((6 : Int32)).toInt = 6 by decide)
  have t7 := lv_neT q7 (show ((7 : Int32)).toInt = 7 by decide)
  have t8 := lv_neT q8 (show ((8 : Int32)).toInt = 8 by decide)
  have t9 := lv_neT q9 (show ((9 : Int32)).toInt = 9 by decide)
  have t10 := lv_neT q10 (show ((10 : Int32)).toInt = 10 by decide)
  have t11 := lv_neT q11 (show ((11 : Int32)).toInt = 11 by decide)
  have t12 := lv_neT q12 (show ((12 : Int32)).toInt = 12 by decide)
  have t13 := lv_neT q13 (show ((13 : Int32)).toInt = 13 by decide)
  refine lv_tableOut (tgt := 186) hx hb dX12_count_6 (by omega) (by decide) ?_
  refine lv_ldcw hx hb S.2.2.2.1 (S.2.2.2.2 _ lk_X12_366) dX12_count_186 ?_
  exact hret _ _ _ _ _ _ dX12_count_189 hB hP hD hS
set_option maxHeartbeats 4000000 in
set_option maxRecDepth 100000 in
theorem c_M_count (l : Launch) (G : GX) (z0 : St) (sz : Nat) (x1 : Int32) (post : Int32 → St → Prop) : MetI l wM yX12_count cX12_count 4 (some .int) ({ frames := 0, cells := 0, slots := 0, locals := 0 }) [.ref (ad G 100), .int x1] G z0 sz (S_M_count post x1 z0) post := by
  refine Met.ofW (cc := cX12_count) (maxL := 4) (ret := (some .int)) (by decide) rfl ?_
  intro p e s m args below meth c s₁ B hml hv
  obtain ⟨rfl, hsz, hP, hD0, hE, hB⟩ := hv
  have S : CallFix p m c cX12_count 4 s _ GW RX12 := ⟨B.exec, B.bytes, hml, findClass_of_methodNamed B.named, fun w h => atoms_spec (ws := Cond.code yX12_count cX12_count 4 (some .int) :: GW) B.pre w (List.mem_cons_of_mem _ h)⟩
  have hlocks := B.notSynchronized
  subst hsz
  have hD := hD0.self (sz := s.heap.size)
  generalize hAe : va_A (wM G z0) s.heap.size = A at hD hE ⊢
  have hA : ∀ q : Nat, s.heap.size ≤ q → A q := fun q h => by rw [← hAe]; exact Or.inr h
  have hS : va_S A s.heap s.heap [] := va_S.rf
  have hl := lv_entry ([.ref (ad G 100), .int x1]) (n := 4) (Nat.le_of_ble_eq_true rfl)
  rw [lg_entry_eq]
  generalize (lg_sl ([.ref (ad G 100), .int x1]) ++ List.replicate (4 - (lg_sl ([.ref (ad G 100), .int x1])).length) Slot.unset).toArray = ls at hl ⊢
  have hl : lv_has ls 4 [(0, .ref (ad G 100)), (1, .int x1)] := hl
  refine w_M_count_0 S hE hA (Nat.le_refl _) (Nat.le_refl _) ?_ x1 z0 hB _ _ _ hP hD hS hl
  intro pc ls r σ H locs hd hp hP hD hS
  exact W.iret (v := r) B.exec B.bytes B.returns (fun t ht hW => ⟨⟨r, σ, rfl, hp, by rw [ht]; exact hP, hD⟩, hS.F ht⟩) hS.2.2 hd
def S_M_thrown (post : Int32 → St → Prop) (z0 : St) : Prop :=
  (post (gI z0 100) z0)
set_option maxHeartbeats 4000000 in
set_option maxRecDepth 100000 in
theorem w_M_thrown_0 {p : Program} {l : Launch} {e : Env} {R : Room} {s : State} {m : MethodId} {args : Array Value} {below : List Frame} {meth : Method} {c : Code} {Q : State → Prop} {G : GX} {A : Nat → Prop} (S : CallFix p m c cX12_thrown 1 s args GW RX12) (hE : env G A s s.heap) (hA : ∀ q, s.heap.size ≤ q → A q) (hRf : 0 ≤ R.frames) (hRl : 0 ≤ R.locals) {post : Int32 → St → Prop} (hret : RetI p l e R s m args below meth c Q 0 0 wM G A cX12_thrown post) (z0 : St) (hB : S_M_thrown post z0) : Xw p l e R s m args below meth c Q 0 0 wM G A z0 1 [(0, .ref (ad G 100))] 0 [] := by
  intro H locs ls hP hD hS hl
  have hx := S.1
  have hb := S.2.1
  refine lv_aload_n hx hb dX12_thrown_0 rfl (lv_at hl 0 rfl) ?_
  refine xMg_100_thrown S hE hP lk_X12_89 dX12_thrown_1 ?_
  exact hret _ _ _ _ _ _ dX12_thrown_4 hB hP hD hS
set_option maxHeartbeats 4000000 in
set_option maxRecDepth 100000 in
theorem c_M_thrown (l : Launch) (G : GX) (z0 : St) (sz : Nat) (post : Int32 → St → Prop) : MetI l wM yX12_thrown cX12_thrown 1 (some .int) ({ frames := 0, cells := 0, slots := 0, locals := 0 }) [.ref (ad G 100)] G z0 sz (S_M_thrown post z0) post := by
  refine Met.ofW (cc := cX12_thrown) (maxL := 1) (ret := (some .int)) (by decide) rfl ?_
  intro p e s m args below meth c s₁ B hml hv
  obtain ⟨rfl, hsz, hP, hD0, hE, hB⟩ := hv
  have S : CallFix p m c cX12_thrown 1 s _ GW RX12 := ⟨B.exec, B.bytes, hml, findClass_of_methodNamed B.named, fun w h => atoms_spec (ws := Cond.code yX12_thrown cX12_thrown 1 (some .int) :: GW) B.pre w (List.mem_cons_of_mem _ h)⟩
  have hlocks := B.notSynchronized
  subst hsz
  have hD := hD0.self (sz := s.heap.size)
  generalize hAe : va_A (wM G z0) s.heap.size = A at hD hE ⊢
  have hA : ∀ q : Nat, s.heap.size ≤ q → A q := fun q h => by rw [← hAe]; exact Or.inr h
  have hS : va_S A s.heap s.heap [] := va_S.rf
  have hl := lv_entry ([.ref (ad G 100)]) (n := 1) (Nat.le_of_ble_eq_true rfl)
  rw [lg_entry_eq]
  generalize (lg_sl ([.ref (ad G 100)]) ++ List.replicate (1 - (lg_sl ([.ref (ad G 100)])).length) Slot.unset).toArray = ls at hl ⊢
  have hl : lv_has ls 1 [(0, .ref (ad G 100))] := hl
  refine w_M_thrown_0 S hE hA (Nat.le_refl _) (Nat.le_refl _) ?_  z0 hB _ _ _ hP hD hS hl
  intro pc ls r σ H locs hd hp hP hD hS
  exact W.iret (v := r) B.exec B.bytes B.returns (fun t ht hW => ⟨⟨r, σ, rfl, hp, by rw [ht]; exact hP, hD⟩, hS.F ht⟩) hS.2.2 hd
