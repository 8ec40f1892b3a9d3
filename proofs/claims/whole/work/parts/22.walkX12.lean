def B_M_text_378 (post : Int32 → St → Prop) (ih378 : Int32 → St → Prop) (x3 : Int32) (z0 : St) : Prop :=
  (((gI z0 111) ≤ x3 → (∀ z1 : St, z1 = sA z0 113 24 (gA z0 105 0) → (∀ z2 : St, z2 = sI z1 128 (0 : Int32) → (∀ z3 : St, z3 = sI z2 119 (0 : Int32) → (∀ z4 : St, z4 = sI z3 129 (0 : Int32) → (post (gI z4 112) z4)))))) ∧ (¬ (gI z0 111) ≤ x3 → (vp_in (((2 : Int32) * x3) + (1 : Int32)) 12 ∧ (vp_in ((18 : Int32) + x3) 269 ∧ (∀ z5 : St, z5 = sA z0 113 ((18 : Int32) + x3).toNatClampNeg (gA z0 107 (((2 : Int32) * x3) + (1 : Int32)).toNatClampNeg) → (∀ v2 : Int32, v2 = x3 + (1 : Int32) → (ih378 v2 z5)))))))
set_option maxHeartbeats 4000000 in
set_option maxRecDepth 100000 in
theorem w_M_text_378 {p : Program} {l : Launch} {e : Env} {R : Room} {s : State} {m : MethodId} {args : Array Value} {below : List Frame} {meth : Method} {c : Code} {Q : State → Prop} {G : GX} {A : Nat → Prop} (S : CallFix p m c cX12_text 4 s args GW RX12) (hE : env G A s s.heap) (hA : ∀ q, s.heap.size ≤ q → A q) (hRf : 61 ≤ R.frames) (hRl : 1712 ≤ R.locals) {post : Int32 → St → Prop} (hret : RetI p l e R s m args below meth c Q 0 0 wM G A cX12_text post) {ih378 : Int32 → St → Prop} (h378 : ∀ (x3 : Int32) (z0 : St), ih378 x3 z0 → Xw p l e R s m args below meth c Q 0 0 wM G A z0 4 [(0, .ref (ad G 100)), (3, .int x3)] 378 []) (x3 : Int32) (z0 : St) (hB : B_M_text_378 post ih378 x3 z0) : Xw p l e R s m args below meth c Q 0 0 wM G A z0 4 [(0, .ref (ad G 100)), (3, .int x3)] 378 [] := by
  intro H locs ls hP hD hS hl
  have hx := S.1
  have hb := S.2.1
  refine lv_iload_n hx hb dX12_text_378 rfl (lv_at hl 1 rfl) ?_
  refine lv_aload_n hx hb dX12_text_379 rfl (lv_at hl 0 rfl) ?_
  refine xMg_100_drinks S hE hP lk_X12_281 dX12_text_380 ?_
  refine lv_icmp_ge (tgt := 411) hx hb dX12_text_383 (by decide) (fun c1 => ?_) (fun c1 => ?_)
  · have hB := hB.1 c1
    refine lv_aload_n hx hb dX12_text_411 rfl (lv_at hl 0 rfl) ?_
    refine xMg_100_now S hE hP lk_X12_61 dX12_text_412 ?_
    refine lv_bipush (v := 24) hx hb dX12_text_415 (by decide) ?_
    refine lv_aload_n hx hb dX12_text_417 rfl (lv_at hl 0 rfl) ?_
    refine xMg_100_rule S hE hP lk_X12_37 dX12_text_418 ?_
    refine lv_iconst (v := 0) hx hb dX12_text_421 (by decide) ?_
    refine xMk_105 S hE hP 0 (by decide) (by unfold vp_in; decide) dX12_text_422 ?_
    obtain ⟨z1, ez1⟩ : ∃ z9, z9 = sA z0 113 24 (gA z0 105 0) := ⟨_, rfl⟩
    have hB := hB z1 ez1
    refine xMs_113 S hE hP hD hS 24 (by decide) (by unfold vp_in; decide) dX12_text_423 (fun H locs hP hD hS => ?_)
    rw [← ez1] at hP hD
    refine lv_aload_n hx hb dX12_text_424 rfl (lv_at hl 0 rfl) ?_
    refine lv_iconst (v := 0) hx hb dX12_text_425 (by decide) ?_
    obtain ⟨z2, ez2⟩ : ∃ z9, z9 = sI z1 128 (0 : Int32) := ⟨_, rfl⟩
    have hB := hB z2 ez2
    refine xMp_100_sights S hE hP hD hS lk_X12_287 dX12_text_426 (fun H locs hP hD hS => ?_)
    rw [← ez2] at hP hD
    refine lv_aload_n hx hb dX12_text_429 rfl (lv_at hl 0 rfl) ?_
    refine lv_iconst (v := 0) hx hb dX12_text_430 (by decide) ?_
    obtain ⟨z3, ez3⟩ : ∃ z9, z9 = sI z2 119 (0 : Int32) := ⟨_, rfl⟩
    have hB := hB z3 ez3
    refine xMp_100_acts S hE hP hD hS lk_X12_290 dX12_text_431 (fun H locs hP hD hS => ?_)
    rw [← ez3] at hP hD
    refine lv_aload_n hx hb dX12_text_434 rfl (lv_at hl 0 rfl) ?_
    refine lv_iconst (v := 0) hx hb dX12_text_435 (by decide) ?_
    obtain ⟨z4, ez4⟩ : ∃ z9, z9 = sI z3 129 (0 : Int32) := ⟨_, rfl⟩
    have hB := hB z4 ez4
    refine xMp_100_hasImage S hE hP hD hS lk_X12_293 (by decide) dX12_text_436 (fun H locs hP hD hS => ?_)
    rw [← ez4] at hP hD
    refine lv_aload_n hx hb dX12_text_439 rfl (lv_at hl 0 rfl) ?_
    refine xMg_100_guests S hE hP lk_X12_284 dX12_text_440 ?_
    exact hret _ _ _ _ _ _ dX12_text_443 hB hP hD hS
  · have hB := hB.2 c1
    refine lv_aload_n hx hb dX12_text_386 rfl (lv_at hl 0 rfl) ?_
    refine xMg_100_now S hE hP lk_X12_61 dX12_text_387 ?_
    refine lv_bipush (v := 18) hx hb dX12_text_390 (by decide) ?_
    refine lv_iload_n hx hb dX12_text_392 rfl (lv_at hl 1 rfl) ?_
    refine lv_iadd hx hb dX12_text_393 ?_
    refine lv_aload_n hx hb dX12_text_394 rfl (lv_at hl 0 rfl) ?_
    refine xMg_100_drink S hE hP lk_X12_43 dX12_text_395 ?_
    refine lv_iconst (v := 2) hx hb dX12_text_398 (by decide) ?_
    refine lv_iload_n hx hb dX12_text_399 rfl (lv_at hl 1 rfl) ?_
    refine lv_imul hx hb dX12_text_400 ?_
    refine lv_iconst (v := 1) hx hb dX12_text_401 (by decide) ?_
    refine lv_iadd hx hb dX12_text_402 ?_
    obtain ⟨hi, hB⟩ := hB
    refine xMl_107 S hE hP hi dX12_text_403 ?_
    obtain ⟨hi, hB⟩ := hB
    obtain ⟨z5, ez5⟩ : ∃ z9, z9 = sA z0 113 ((18 : Int32) + x3).toNatClampNeg (gA z0 107 (((2 : Int32) * x3) + (1 : Int32)).toNatClampNeg) := ⟨_, rfl⟩
    have hB := hB z5 ez5
    refine xMs_113 S hE hP hD hS _ rfl hi dX12_text_404 (fun H locs hP hD hS => ?_)
    rw [← ez5] at hP hD
    obtain ⟨v2, ev2⟩ : ∃ y9, y9 = x3 + (1 : Int32) := ⟨_, rfl⟩
    have hB := hB v2 ev2
    refine lv_iinc (v := v2) (lv' := [(3, .int v2), (0, .ref (ad G 100))]) hx hb dX12_text_405 hl (k := 1) rfl (by rw [ev2]; rfl) (by decide) rfl (fun ls hl => ?_)
    refine lv_goto (tgt := 378) hx hb dX12_text_408 (by decide) ?_
    exact h378 v2 z5 hB _ _ _ hP hD hS (lv_sub hl [1, 0] rfl)
def L_M_text_378 (post : Int32 → St → Prop) : Nat → Int32 → St → Prop
  | 0 => fun _ _ => False
  | n + 1 => B_M_text_378 post (L_M_text_378 post n)
theorem wl_M_text_378 {p : Program} {l : Launch} {e : Env} {R : Room} {s : State} {m : MethodId} {args : Array Value} {below : List Frame} {meth : Method} {c : Code} {Q : State → Prop} {G : GX} {A : Nat → Prop} (S : CallFix p m c cX12_text 4 s args GW RX12) (hE : env G A s s.heap) (hA : ∀ q, s.heap.size ≤ q → A q) (hRf : 61 ≤ R.frames) (hRl : 1712 ≤ R.locals) {post : Int32 → St → Prop} (hret : RetI p l e R s m args below meth c Q 0 0 wM G A cX12_text post) : ∀ (n : Nat) (x3 : Int32) (z0 : St), L_M_text_378 post n x3 z0 → Xw p l e R s m args below meth c Q 0 0 wM G A z0 4 [(0, .ref (ad G 100)), (3, .int x3)] 378 [] := by
  intro n
  induction n with
  | zero => intro x3 z0 hB; exact absurd hB id
  | succ n ih => exact fun x3 z0 hB => w_M_text_378 S hE hA hRf hRl hret ih x3 z0 hB
def B_M_text_322 (post : Int32 → St → Prop) (ih322 : Int32 → St → Prop) (x3 : Int32) (z0 : St) : Prop :=
  (((gI z0 112) ≤ x3 → (∃ n2, L_M_text_378 post n2 (0 : Int32) z0)) ∧ (¬ (gI z0 112) ≤ x3 → (vp_in (((3 : Int32) * x3) + (1 : Int32)) 18 ∧ (vp_in (((3 : Int32) * x3) + (0 : Int32)) 269 ∧ (∀ z1 : St, z1 = sA z0 113 (((3 : Int32) * x3) + (0 : Int32)).toNatClampNeg (gA z0 109 (((3 : Int32) * x3) + (1 : Int32)).toNatClampNeg) → (vp_in (((3 : Int32) * x3) + (2 : Int32)) 18 ∧ (vp_in (((3 : Int32) * x3) + (1 : Int32)) 269 ∧ (∀ z2 : St, z2 = sA z1 113 (((3 : Int32) * x3) + (1 : Int32)).toNatClampNeg (gA z1 109 (((3 : Int32) * x3) + (2 : Int32)).toNatClampNeg) → (∀ v3 : Int32, v3 = x3 + (1 : Int32) → (ih322 v3 z2))))))))))
set_option maxHeartbeats 4000000 in
set_option maxRecDepth 100000 in
theorem w_M_text_322 {p : Program} {l : Launch} {e : Env} {R : Room} {s : State} {m : MethodId} {args : Array Value} {below : List Frame} {meth : Method} {c : Code} {Q : State → Prop} {G : GX} {A : Nat → Prop} (S : CallFix p m c cX12_text 4 s args GW RX12) (hE : env G A s s.heap) (hA : ∀ q, s.heap.size ≤ q → A q) (hRf : 61 ≤ R.frames) (hRl : 1712 ≤ R.locals) {post : Int32 → St → Prop} (hret : RetI p l e R s m args below meth c Q 0 0 wM G A cX12_text post) {ih322 : Int32 → St → Prop} (h322 : ∀ (x3 : Int32) (z0 : St), ih322 x3 z0 → Xw p l e R s m args below meth c Q 0 0 wM G A z0 4 [(0, .ref (ad G 100)), (3, .int x3)] 322 []) (x3 : Int32) (z0 : St) (hB : B_M_text_322 post ih322 x3 z0) : Xw p l e R s m args below meth c Q 0 0 wM G A z0 4 [(0, .ref (ad G 100)), (3, .int x3)] 322 [] := by
  intro H locs ls hP hD hS hl
  have hx := S.1
  have hb := S.2.1
  refine lv_iload_n hx hb dX12_text_322 rfl (lv_at hl 1 rfl) ?_
  refine lv_aload_n hx hb dX12_text_323 rfl (lv_at hl 0 rfl) ?_
  refine xMg_100_guests S hE hP lk_X12_284 dX12_text_324 ?_
  refine lv_icmp_ge (tgt := 376) hx hb dX12_text_327 (by decide) (fun c1 => ?_) (fun c1 => ?_)
  · have hB := hB.1 c1
    refine lv_iconst (v := 0) hx hb dX12_text_376 (by decide) ?_
    refine lv_istore_n (lv' := [(3, .int (0 : Int32)), (0, .ref (ad G 100))]) hx hb dX12_text_377 rfl hl (by decide) rfl (fun ls hl => ?_)
    obtain ⟨n2, hB⟩ := hB
    exact wl_M_text_378 S hE hA hRf hRl hret n2 (0 : Int32) z0 hB _ _ _ hP hD hS (lv_sub hl [1, 0] rfl)
  · have hB := hB.2 c1
    refine lv_aload_n hx hb dX12_text_330 rfl (lv_at hl 0 rfl) ?_
    refine xMg_100_now S hE hP lk_X12_61 dX12_text_331 ?_
    refine lv_iconst (v := 3) hx hb dX12_text_334 (by decide) ?_
    refine lv_iload_n hx hb dX12_text_335 rfl (lv_at hl 1 rfl) ?_
    refine lv_imul hx hb dX12_text_336 ?_
    refine lv_iconst (v := 0) hx hb dX12_text_337 (by decide) ?_
    refine lv_iadd hx hb dX12_text_338 ?_
    refine lv_aload_n hx hb dX12_text_339 rfl (lv_at hl 0 rfl) ?_
    refine xMg_100_guest S hE hP lk_X12_49 dX12_text_340 ?_
    refine lv_iconst (v := 3) hx hb dX12_text_343 (by decide) ?_
    refine lv_iload_n hx hb dX12_text_344 rfl (lv_at hl 1 rfl) ?_
    refine lv_imul hx hb dX12_text_345 ?_
    refine lv_iconst (v := 1) hx hb dX12_text_346 (by decide) ?_
    refine lv_iadd hx hb dX12_text_347 ?_
    obtain ⟨hi, hB⟩ := hB
    refine xMl_109 S hE hP hi dX12_text_348 ?_
    obtain ⟨hi, hB⟩ := hB
    obtain ⟨z1, ez1⟩ : ∃ z9, z9 = sA z0 113 (((3 : Int32) * x3) + (0 : Int32)).toNatClampNeg (gA z0 109 (((3 : Int32) * x3) + (1 : Int32)).toNatClampNeg) := ⟨_, rfl⟩
    have hB := hB z1 ez1
    refine xMs_113 S hE hP hD hS _ rfl hi dX12_text_349 (fun H locs hP hD hS => ?_)
    rw [← ez1] at hP hD
    refine lv_aload_n hx hb dX12_text_350 rfl (lv_at hl 0 rfl) ?_
    refine xMg_100_now S hE hP lk_X12_61 dX12_text_351 ?_
    refine lv_iconst (v := 3) hx hb dX12_text_354 (by decide) ?_
    refine lv_iload_n hx hb dX12_text_355 rfl (lv_at hl 1 rfl) ?_
    refine lv_imul hx hb dX12_text_356 ?_
    refine lv_iconst (v := 1) hx hb dX12_text_357 (by decide) ?_
    refine lv_iadd hx hb dX12_text_358 ?_
    refine lv_aload_n hx hb dX12_text_359 rfl (lv_at hl 0 rfl) ?_
    refine xMg_100_guest S hE hP lk_X12_49 dX12_text_360 ?_
    refine lv_iconst (v := 3) hx hb dX12_text_363 (by decide) ?_
    refine lv_iload_n hx hb dX12_text_364 rfl (lv_at hl 1 rfl) ?_
    refine lv_imul hx hb dX12_text_365 ?_
    refine lv_iconst (v := 2) hx hb dX12_text_366 (by decide) ?_
    refine lv_iadd hx hb dX12_text_367 ?_
    obtain ⟨hi, hB⟩ := hB
    refine xMl_109 S hE hP hi dX12_text_368 ?_
    obtain ⟨hi, hB⟩ := hB
    obtain ⟨z2, ez2⟩ : ∃ z9, z9 = sA z1 113 (((3 : Int32) * x3) + (1 : Int32)).toNatClampNeg (gA z1 109 (((3 : Int32) * x3) + (2 : Int32)).toNatClampNeg) := ⟨_, rfl⟩
    have hB := hB z2 ez2
    refine xMs_113 S hE hP hD hS _ rfl hi dX12_text_369 (fun H locs hP hD hS => ?_)
    rw [← ez2] at hP hD
    obtain ⟨v3, ev3⟩ : ∃ y9, y9 = x3 + (1 : Int32) := ⟨_, rfl⟩
    have hB := hB v3 ev3
    refine lv_iinc (v := v3) (lv' := [(3, .int v3), (0, .ref (ad G 100))]) hx hb dX12_text_370 hl (k := 1) rfl (by rw [ev3]; rfl) (by decide) rfl (fun ls hl => ?_)
    refine lv_goto (tgt := 322) hx hb dX12_text_373 (by decide) ?_
    exact h322 v3 z2 hB _ _ _ hP hD hS (lv_sub hl [1, 0] rfl)
def L_M_text_322 (post : Int32 → St → Prop) : Nat → Int32 → St → Prop
  | 0 => fun _ _ => False
  | n + 1 => B_M_text_322 post (L_M_text_322 post n)
theorem wl_M_text_322 {p : Program} {l : Launch} {e : Env} {R : Room} {s : State} {m : MethodId} {args : Array Value} {below : List Frame} {meth : Method} {c : Code} {Q : State → Prop} {G : GX} {A : Nat → Prop} (S : CallFix p m c cX12_text 4 s args GW RX12) (hE : env G A s s.heap) (hA : ∀ q, s.heap.size ≤ q → A q) (hRf : 61 ≤ R.frames) (hRl : 1712 ≤ R.locals) {post : Int32 → St → Prop} (hret : RetI p l e R s m args below meth c Q 0 0 wM G A cX12_text post) : ∀ (n : Nat) (x3 : Int32) (z0 : St), L_M_text_322 post n x3 z0 → Xw p l e R s m args below meth c Q 0 0 wM G A z0 4 [(0, .ref (ad G 100)), (3, .int x3)] 322 [] := by
  intro n
  induction n with
  | zero => intro x3 z0 hB; exact absurd hB id
  | succ n ih => exact fun x3 z0 hB => w_M_text_322 S hE hA hRf hRl hret ih x3 z0 hB
def B_M_text_300 (post : Int32 → St → Prop) (ih300 : Int32 → St → Prop) (x3 : Int32) (z0 : St) : Prop :=
  (((269 : Int32) ≤ x3 → (∃ n2, L_M_text_322 post n2 (0 : Int32) z0)) ∧ (¬ (269 : Int32) ≤ x3 → (vp_in x3 269 ∧ (∀ z1 : St, z1 = sA z0 113 x3.toNatClampNeg (0 : Int32) → (∀ v3 : Int32, v3 = x3 + (1 : Int32) → (ih300 v3 z1))))))
set_option maxHeartbeats 4000000 in
set_option maxRecDepth 100000 in
theorem w_M_text_300 {p : Program} {l : Launch} {e : Env} {R : Room} {s : State} {m : MethodId} {args : Array Value} {below : List Frame} {meth : Method} {c : Code} {Q : State → Prop} {G : GX} {A : Nat → Prop} (S : CallFix p m c cX12_text 4 s args GW RX12) (hE : env G A s s.heap) (hA : ∀ q, s.heap.size ≤ q → A q) (hRf : 61 ≤ R.frames) (hRl : 1712 ≤ R.locals) {post : Int32 → St → Prop} (hret : RetI p l e R s m args below meth c Q 0 0 wM G A cX12_text post) {ih300 : Int32 → St → Prop} (h300 : ∀ (x3 : Int32) (z0 : St), ih300 x3 z0 → Xw p l e R s m args below meth c Q 0 0 wM G A z0 4 [(0, .ref (ad G 100)), (3, .int x3)] 300 []) (x3 : Int32) (z0 : St) (hB : B_M_text_300 post ih300 x3 z0) : Xw p l e R s m args below meth c Q 0 0 wM G A z0 4 [(0, .ref (ad G 100)), (3, .int x3)] 300 [] := by
  intro H locs ls hP hD hS hl
  have hx := S.1
  have hb := S.2.1
  refine lv_iload_n hx hb dX12_text_300 rfl (lv_at hl 1 rfl) ?_
  refine lv_sipush (v := 269) hx hb dX12_text_301 (by decide) ?_
  refine lv_icmp_ge (tgt := 320) hx hb dX12_text_304 (by decide) (fun c1 => ?_) (fun c1 => ?_)
  · have hB := hB.1 c1
    refine lv_iconst (v := 0) hx hb dX12_text_320 (by decide) ?_
    refine lv_istore_n (lv' := [(3, .int (0 : Int32)), (0, .ref (ad G 100))]) hx hb dX12_text_321 rfl hl (by decide) rfl (fun ls hl => ?_)
    obtain ⟨n2, hB⟩ := hB
    exact wl_M_text_322 S hE hA hRf hRl hret n2 (0 : Int32) z0 hB _ _ _ hP hD hS (lv_sub hl [1, 0] rfl)
  · have hB := hB.2 c1
    refine lv_aload_n hx hb dX12_text_307 rfl (lv_at hl 0 rfl) ?_
    refine xMg_100_now S hE hP lk_X12_61 dX12_text_308 ?_
    refine lv_iload_n hx hb dX12_text_311 rfl (lv_at hl 1 rfl) ?_
    refine lv_iconst (v := 0) hx hb dX12_text_312 (by decide) ?_
    obtain ⟨hi, hB⟩ := hB
    obtain ⟨z1, ez1⟩ : ∃ z9, z9 = sA z0 113 x3.toNatClampNeg (0 : Int32) := ⟨_, rfl⟩
    have hB := hB z1 ez1
    refine xMs_113 S hE hP hD hS _ rfl hi dX12_text_313 (fun H locs hP hD hS => ?_)
    rw [← ez1] at hP hD
    obtain ⟨v3, ev3⟩ : ∃ y9, y9 = x3 + (1 : Int32) := ⟨_, rfl⟩
    have hB := hB v3 ev3
    refine lv_iinc (v := v3) (lv' := [(3, .int v3), (0, .ref (ad G 100))]) hx hb dX12_text_314 hl (k := 1) rfl (by rw [ev3]; rfl) (by decide) rfl (fun ls hl => ?_)
    refine lv_goto (tgt := 300) hx hb dX12_text_317 (by decide) ?_
    exact h300 v3 z1 hB _ _ _ hP hD hS (lv_sub hl [1, 0] rfl)
def L_M_text_300 (post : Int32 → St → Prop) : Nat → Int32 → St → Prop
  | 0 => fun _ _ => False
  | n + 1 => B_M_text_300 post (L_M_text_300 post n)
theorem wl_M_text_300 {p : Program} {l : Launch} {e : Env} {R : Room} {s : State} {m : MethodId} {args : Array Value} {below : List Frame} {meth : Method} {c : Code} {Q : State → Prop} {G : GX} {A : Nat → Prop} (S : CallFix p m c cX12_text 4 s args GW RX12) (hE : env G A s s.heap) (hA : ∀ q, s.heap.size ≤ q → A q) (hRf : 61 ≤ R.frames) (hRl : 1712 ≤ R.locals) {post : Int32 → St → Prop} (hret : RetI p l e R s m args below meth c Q 0 0 wM G A cX12_text post) : ∀ (n : Nat) (x3 : Int32) (z0 : St), L_M_text_300 post n x3 z0 → Xw p l e R s m args below meth c Q 0 0 wM G A z0 4 [(0, .ref (ad G 100)), (3, .int x3)] 300 [] := by
  intro n
  induction n with
  | zero => intro x3 z0 hB; exact absurd hB id
  | succ n ih => exact fun x3 z0 hB => w_M_text_300 S hE hA hRf hRl hret ih x3 z0 hB
def B_M_text_274 (post : Int32 → St → Prop) (ih274 : Int32 → St → Prop) (x3 : Int32) (z0 : St) : Prop :=
  (((18 : Int32) ≤ x3 → (∃ n2, L_M_text_300 post n2 (0 : Int32) z0)) ∧ (¬ (18 : Int32) ≤ x3 → (vp_in x3 18 ∧ (vp_in x3 18 ∧ (∀ z1 : St, z1 = sA z0 109 x3.toNatClampNeg (gA z0 110 x3.toNatClampNeg) → (∀ v3 : Int32, v3 = x3 + (1 : Int32) → (ih274 v3 z1)))))))
set_option maxHeartbeats 4000000 in
set_option maxRecDepth 100000 in
theorem w_M_text_274 {p : Program} {l : Launch} {e : Env} {R : Room} {s : State} {m : MethodId} {args : Array Value} {below : List Frame} {meth : Method} {c : Code} {Q : State → Prop} {G : GX} {A : Nat → Prop} (S : CallFix p m c cX12_text 4 s args GW RX12) (hE : env G A s s.heap) (hA : ∀ q, s.heap.size ≤ q → A q) (hRf : 61 ≤ R.frames) (hRl : 1712 ≤ R.locals) {post : Int32 → St → Prop} (hret : RetI p l e R s m args below meth c Q 0 0 wM G A cX12_text post) {ih274 : Int32 → St → Prop} (h274 : ∀ (x3 : Int32) (z0 : St), ih274 x3 z0 → Xw p l e R s m args below meth c Q 0 0 wM G A z0 4 [(0, .ref (ad G 100)), (3, .int x3)] 274 []) (x3 : Int32) (z0 : St) (hB : B_M_text_274 post ih274 x3 z0) : Xw p l e R s m args below meth c Q 0 0 wM G A z0 4 [(0, .ref (ad G 100)), (3, .int x3)] 274 [] := by
  intro H locs ls hP hD hS hl
  have hx := S.1
  have hb := S.2.1
  refine lv_iload_n hx hb dX12_text_274 rfl (lv_at hl 1 rfl) ?_
  refine lv_bipush (v := 18) hx hb dX12_text_275 (by decide) ?_
  refine lv_icmp_ge (tgt := 298) hx hb dX12_text_277 (by decide) (fun c1 => ?_) (fun c1 => ?_)
  · have hB := hB.1 c1
    refine lv_iconst (v := 0) hx hb dX12_text_298 (by decide) ?_
    refine lv_istore_n (lv' := [(3, .int (0 : Int32)), (0, .ref (ad G 100))]) hx hb dX12_text_299 rfl hl (by decide) rfl (fun ls hl => ?_)
    obtain ⟨n2, hB⟩ := hB
    exact wl_M_text_300 S hE hA hRf hRl hret n2 (0 : Int32) z0 hB _ _ _ hP hD hS (lv_sub hl [1, 0] rfl)
  · have hB := hB.2 c1
    refine lv_aload_n hx hb dX12_text_280 rfl (lv_at hl 0 rfl) ?_
    refine xMg_100_guest S hE hP lk_X12_49 dX12_text_281 ?_
    refine lv_iload_n hx hb dX12_text_284 rfl (lv_at hl 1 rfl) ?_
    refine lv_aload_n hx hb dX12_text_285 rfl (lv_at hl 0 rfl) ?_
    refine xMg_100_guestRead S hE hP lk_X12_52 dX12_text_286 ?_
    refine lv_iload_n hx hb dX12_text_289 rfl (lv_at hl 1 rfl) ?_
    obtain ⟨hi, hB⟩ := hB
    refine xMl_110 S hE hP hi dX12_text_290 ?_
    obtain ⟨hi, hB⟩ := hB
    obtain ⟨z1, ez1⟩ : ∃ z9, z9 = sA z0 109 x3.toNatClampNeg (gA z0 110 x3.toNatClampNeg) := ⟨_, rfl⟩
    have hB := hB z1 ez1
    refine xMs_109 S hE hP hD hS _ rfl hi dX12_text_291 (fun H locs hP hD hS => ?_)
    rw [← ez1] at hP hD
    obtain ⟨v3, ev3⟩ : ∃ y9, y9 = x3 + (1 : Int32) := ⟨_, rfl⟩
    have hB := hB v3 ev3
    refine lv_iinc (v := v3) (lv' := [(3, .int v3), (0, .ref (ad G 100))]) hx hb dX12_text_292 hl (k := 1) rfl (by rw [ev3]; rfl) (by decide) rfl (fun ls hl => ?_)
    refine lv_goto (tgt := 274) hx hb dX12_text_295 (by decide) ?_
    exact h274 v3 z1 hB _ _ _ hP hD hS (lv_sub hl [1, 0] rfl)
def L_M_text_274 (post : Int32 → St → Prop) : Nat → Int32 → St → Prop
  | 0 => fun _ _ => False
  | n + 1 => B_M_text_274 post (L_M_text_274 post n)
theorem wl_M_text_274 {p : Program} {l : Launch} {e : Env} {R : Room} {s : State} {m : MethodId} {args : Array Value} {below : List Frame} {meth : Method} {c : Code} {Q : State → Prop} {G : GX} {A : Nat → Prop} (S : CallFix p m c cX12_text 4 s args GW RX12) (hE : env G A s s.heap) (hA : ∀ q, s.heap.size ≤ q → A q) (hRf : 61 ≤ R.frames) (hRl : 1712 ≤ R.locals) {post : Int32 → St → Prop} (hret : RetI p l e R s m args below meth c Q 0 0 wM G A cX12_text post) : ∀ (n : Nat) (x3 : Int32) (z0 : St), L_M_text_274 post n x3 z0 → Xw p l e R s m args below meth c Q 0 0 wM G A z0 4 [(0, .ref (ad G 100)), (3, .int x3)] 274 [] := by
  intro n
  induction n with
  | zero => intro x3 z0 hB; exact absurd hB id
  | succ n ih => exact fun x3 z0 hB => w_M_text_274 S hE hA hRf hRl hret ih x3 z0 hB
def B_M_text_248 (post : Int32 → St → Prop) (ih248 : Int32 → St → Prop) (x3 : Int32) (z0 : St) : Prop :=
  (((12 : Int32) ≤ x3 → (∃ n2, L_M_text_274 post n2 (0 : Int32) z0)) ∧ (¬ (12 : Int32) ≤ x3 → (vp_in x3 12 ∧ (vp_in x3 12 ∧ (∀ z1 : St, z1 = sA z0 107 x3.toNatClampNeg (gA z0 108 x3.toNatClampNeg) → (∀ v3 : Int32, v3 = x3 + (1 : Int32) → (ih248 v3 z1)))))))
set_option maxHeartbeats 4000000 in
set_option maxRecDepth 100000 in
theorem w_M_text_248 {p : Program} {l : Launch} {e : Env} {R : Room} {s : State} {m : MethodId} {args : Array Value} {below : List Frame} {meth : Method} {c : Code} {Q : State → Prop} {G : GX} {A : Nat → Prop} (S : CallFix p m c cX12_text 4 s args GW RX12) (hE : env G A s s.heap) (hA : ∀ q, s.heap.size ≤ q → A q) (hRf : 61 ≤ R.frames) (hRl : 1712 ≤ R.locals) {post : Int32 → St → Prop} (hret : RetI p l e R s m args below meth c Q 0 0 wM G A cX12_text post) {ih248 : Int32 → St → Prop} (h248 : ∀ (x3 : Int32) (z0 : St), ih248 x3 z0 → Xw p l e R s m args below meth c Q 0 0 wM G A z0 4 [(0, .ref (ad G 100)), (3, .int x3)] 248 []) (x3 : Int32) (z0 : St) (hB : B_M_text_248 post ih248 x3 z0) : Xw p l e R s m args below meth c Q 0 0 wM G A z0 4 [(0, .ref (ad G 100)), (3, .int x3)] 248 [] := by
  intro H locs ls hP hD hS hl
  have hx := S.1
  have hb := S.2.1
  refine lv_iload_n hx hb dX12_text_248 rfl (lv_at hl 1 rfl) ?_
  refine lv_bipush (v := 12) hx hb dX12_text_249 (by decide) ?_
  refine lv_icmp_ge (tgt := 272) hx hb dX12_text_251 (by decide) (fun c1 => ?_) (fun c1 => ?_)
  · have hB := hB.1 c1
    refine lv_iconst (v := 0) hx hb dX12_text_272 (by decide) ?_
    refine lv_istore_n (lv' := [(3, .int (0 : Int32)), (0, .ref (ad G 100))]) hx hb dX12_text_273 rfl hl (by decide) rfl (fun ls hl => ?_)
    obtain ⟨n2, hB⟩ := hB
    exact wl_M_text_274 S hE hA hRf hRl hret n2 (0 : Int32) z0 hB _ _ _ hP hD hS (lv_sub hl [1, 0] rfl)
  · have hB := hB.2 c1
    refine lv_aload_n hx hb dX12_text_254 rfl (lv_at hl 0 rfl) ?_
    refine xMg_100_drink S hE hP lk_X12_43 dX12_text_255 ?_
    refine lv_iload_n hx hb dX12_text_258 rfl (lv_at hl 1 rfl) ?_
    refine lv_aload_n hx hb dX12_text_259 rfl (lv_at hl 0 rfl) ?_
    refine xMg_100_drinkRead S hE hP lk_X12_46 dX12_text_260 ?_
    refine lv_iload_n hx hb dX12_text_263 rfl (lv_at hl 1 rfl) ?_
    obtain ⟨hi, hB⟩ := hB
    refine xMl_108 S hE hP hi dX12_text_264 ?_
    obtain ⟨hi, hB⟩ := hB
    obtain ⟨z1, ez1⟩ : ∃ z9, z9 = sA z0 107 x3.toNatClampNeg (gA z0 108 x3.toNatClampNeg) := ⟨_, rfl⟩
    have hB := hB z1 ez1
    refine xMs_107 S hE hP hD hS _ rfl hi dX12_text_265 (fun H locs hP hD hS => ?_)
    rw [← ez1] at hP hD
    obtain ⟨v3, ev3⟩ : ∃ y9, y9 = x3 + (1 : Int32) := ⟨_, rfl⟩
    have hB := hB v3 ev3
    refine lv_iinc (v := v3) (lv' := [(3, .int v3), (0, .ref (ad G 100))]) hx hb dX12_text_266 hl (k := 1) rfl (by rw [ev3]; rfl) (by decide) rfl (fun ls hl => ?_)
    refine lv_goto (tgt := 248) hx hb dX12_text_269 (by decide) ?_
    exact h248 v3 z1 hB _ _ _ hP hD hS (lv_sub hl [1, 0] rfl)
def L_M_text_248 (post : Int32 → St → Prop) : Nat → Int32 → St → Prop
  | 0 => fun _ _ => False
  | n + 1 => B_M_text_248 post (L_M_text_248 post n)
theorem wl_M_text_248 {p : Program} {l : Launch} {e : Env} {R : Room} {s : State} {m : MethodId} {args : Array Value} {below : List Frame} {meth : Method} {c : Code} {Q : State → Prop} {G : GX} {A : Nat → Prop} (S : CallFix p m c cX12_text 4 s args GW RX12) (hE : env G A s s.heap) (hA : ∀ q, s.heap.size ≤ q → A q) (hRf : 61 ≤ R.frames) (hRl : 1712 ≤ R.locals) {post : Int32 → St → Prop} (hret : RetI p l e R s m args below meth c Q 0 0 wM G A cX12_text post) : ∀ (n : Nat) (x3 : Int32) (z0 : St), L_M_text_248 post n x3 z0 → Xw p l e R s m args below meth c Q 0 0 wM G A z0 4 [(0, .ref (ad G 100)), (3, .int x3)] 248 [] := by
  intro n
  induction n with
  | zero => intro x3 z0 hB; exact absurd hB id
  | succ n ih => exact fun x3 z0 hB => w_M_text_248 S hE hA hRf hRl hret ih x3 z0 hB
def B_M_text_223 (post : Int32 → St → Prop) (ih223 : Int32 → St → Prop) (x3 : Int32) (z0 : St) : Prop :=
  (((3 : Int32) ≤ x3 → (∃ n2, L_M_text_248 post n2 (0 : Int32) z0)) ∧ (¬ (3 : Int32) ≤ x3 → (vp_in x3 3 ∧ (vp_in x3 3 ∧ (∀ z1 : St, z1 = sA z0 105 x3.toNatClampNeg (gA z0 106 x3.toNatClampNeg) → (∀ v3 : Int32, v3 = x3 + (1 : Int32) → (ih223 v3 z1)))))))
set_option maxHeartbeats 4000000 in
set_option maxRecDepth 100000 in
theorem w_M_text_223 {p : Program} {l : Launch} {e : Env} {R : Room} {s : State} {m : MethodId} {args : Array Value} {below : List Frame} {meth : Method} {c : Code} {Q : State → Prop} {G : GX} {A : Nat → Prop} (S : CallFix p m c cX12_text 4 s args GW RX12) (hE : env G A s s.heap) (hA : ∀ q, s.heap.size ≤ q → A q) (hRf : 61 ≤ R.frames) (hRl : 1712 ≤ R.locals) {post : Int32 → St → Prop} (hret : RetI p l e R s m args below meth c Q 0 0 wM G A cX12_text post) {ih223 : Int32 → St → Prop} (h223 : ∀ (x3 : Int32) (z0 : St), ih223 x3 z0 → Xw p l e R s m args below meth c Q 0 0 wM G A z0 4 [(0, .ref (ad G 100)), (3, .int x3)] 223 []) (x3 : Int32) (z0 : St) (hB : B_M_text_223 post ih223 x3 z0) : Xw p l e R s m args below meth c Q 0 0 wM G A z0 4 [(0, .ref (ad G 100)), (3, .int x3)] 223 [] := by
  intro H locs ls hP hD hS hl
  have hx := S.1
  have hb := S.2.1
  refine lv_iload_n hx hb dX12_text_223 rfl (lv_at hl 1 rfl) ?_
  refine lv_iconst (v := 3) hx hb dX12_text_224 (by decide) ?_
  refine lv_icmp_ge (tgt := 246) hx hb dX12_text_225 (by decide) (fun c1 => ?_) (fun c1 => ?_)
  · have hB := hB.1 c1
    refine lv_iconst (v := 0) hx hb dX12_text_246 (by decide) ?_
    refine lv_istore_n (lv' := [(3, .int (0 : Int32)), (0, .ref (ad G 100))]) hx hb dX12_text_247 rfl hl (by decide) rfl (fun ls hl => ?_)
    obtain ⟨n2, hB⟩ := hB
    exact wl_M_text_248 S hE hA hRf hRl hret n2 (0 : Int32) z0 hB _ _ _ hP hD hS (lv_sub hl [1, 0] rfl)
  · have hB := hB.2 c1
    refine lv_aload_n hx hb dX12_text_228 rfl (lv_at hl 0 rfl) ?_
    refine xMg_100_rule S hE hP lk_X12_37 dX12_text_229 ?_
    refine lv_iload_n hx hb dX12_text_232 rfl (lv_at hl 1 rfl) ?_
    refine lv_aload_n hx hb dX12_text_233 rfl (lv_at hl 0 rfl) ?_
    refine xMg_100_ruleRead S hE hP lk_X12_40 dX12_text_234 ?_
    refine lv_iload_n hx hb dX12_text_237 rfl (lv_at hl 1 rfl) ?_
    obtain ⟨hi, hB⟩ := hB
    refine xMl_106 S hE hP hi dX12_text_238 ?_
    obtain ⟨hi, hB⟩ := hB
    obtain ⟨z1, ez1⟩ : ∃ z9, z9 = sA z0 105 x3.toNatClampNeg (gA z0 106 x3.toNatClampNeg) := ⟨_, rfl⟩
    have hB := hB z1 ez1
    refine xMs_105 S hE hP hD hS _ rfl hi dX12_text_239 (fun H locs hP hD hS => ?_)
    rw [← ez1] at hP hD
    obtain ⟨v3, ev3⟩ : ∃ y9, y9 = x3 + (1 : Int32) := ⟨_, rfl⟩
    have hB := hB v3 ev3
    refine lv_iinc (v := v3) (lv' := [(3, .int v3), (0, .ref (ad G 100))]) hx hb dX12_text_240 hl (k := 1) rfl (by rw [ev3]; rfl) (by decide) rfl (fun ls hl => ?_)
    refine lv_goto (tgt := 223) hx hb dX12_text_243 (by decide) ?_
    exact h223 v3 z1 hB _ _ _ hP hD hS (lv_sub hl [1, 0] rfl)
def L_M_text_223 (post : Int32 → St → Prop) : Nat → Int32 → St → Prop
  | 0 => fun _ _ => False
  | n + 1 => B_M_text_223 post (L_M_text_223 post n)
theorem wl_M_text_223 {p : Program} {l : Launch} {e : Env} {R : Room} {s : State} {m : MethodId} {args : Array Value} {below : List Frame} {meth : Method} {c : Code} {Q : State → Prop} {G : GX} {A : Nat → Prop} (S : CallFix p m c cX12_text 4 s args GW RX12) (hE : env G A s s.heap) (hA : ∀ q, s.heap.size ≤ q → A q) (hRf : 61 ≤ R.frames) (hRl : 1712 ≤ R.locals) {post : Int32 → St → Prop} (hret : RetI p l e R s m args below meth c Q 0 0 wM G A cX12_text post) : ∀ (n : Nat) (x3 : Int32) (z0 : St), L_M_text_223 post n x3 z0 → Xw p l e R s m args below meth c Q 0 0 wM G A z0 4 [(0, .ref (ad G 100)), (3, .int x3)] 223 [] := by
  intro n
  induction n with
  | zero => intro x3 z0 hB; exact absurd hB id
  | succ n ih => exact fun x3 z0 hB => w_M_text_223 S hE hA hRf hRl hret ih x3 z0 hB
def B_M_text_137 (post : Int32 → St → Prop) (ih137 : Int32 → St → Prop) (x3 : Int32) (z0 : St) : Prop :=
  (((32 : Int32) ≤ x3 → (vp_in (gI z0 115) 5 ∧ (∀ z1 : St, z1 = sA z0 112 (gI z0 115).toNatClampNeg (gA z0 112 4) → (∀ z2 : St, z2 = sI z1 115 ((gI z1 115) + (1 : Int32)) → (post ((gI z2 115) - (1 : Int32)) z2))))) ∧ (¬ (32 : Int32) ≤ x3 → (vp_in ((128 : Int32) + x3) 160 ∧ (vp_in (((32 : Int32) * (gI z0 115)) + x3) 160 ∧ (∀ z3 : St, z3 = sA z0 111 (((32 : Int32) * (gI z0 115)) + x3).toNatClampNeg (gA z0 111 ((128 : Int32) + x3).toNatClampNeg) → (∀ v2 : Int32, v2 = x3 + (1 : Int32) → (ih137 v2 z3)))))))
set_option maxHeartbeats 4000000 in
set_option maxRecDepth 100000 in
theorem w_M_text_137 {p : Program} {l : Launch} {e : Env} {R : Room} {s : State} {m : MethodId} {args : Array Value} {below : List Frame} {meth : Method} {c : Code} {Q : State → Prop} {G : GX} {A : Nat → Prop} (S : CallFix p m c cX12_text 4 s args GW RX12) (hE : env G A s s.heap) (hA : ∀ q, s.heap.size ≤ q → A q) (hRf : 61 ≤ R.frames) (hRl : 1712 ≤ R.locals) {post : Int32 → St → Prop} (hret : RetI p l e R s m args below meth c Q 0 0 wM G A cX12_text post) {ih137 : Int32 → St → Prop} (h137 : ∀ (x3 : Int32) (z0 : St), ih137 x3 z0 → Xw p l e R s m args below meth c Q 0 0 wM G A z0 4 [(0, .ref (ad G 100)), (3, .int x3)] 137 []) (x3 : Int32) (z0 : St) (hB : B_M_text_137 post ih137 x3 z0) : Xw p l e R s m args below meth c Q 0 0 wM G A z0 4 [(0, .ref (ad G 100)), (3, .int x3)] 137 [] := by
  intro H locs ls hP hD hS hl
  have hx := S.1
  have hb := S.2.1
  refine lv_iload_n hx hb dX12_text_137 rfl (lv_at hl 1 rfl) ?_
  refine lv_bipush (v := 32) hx hb dX12_text_138 (by decide) ?_
  refine lv_icmp_ge (tgt := 173) hx hb dX12_text_140 (by decide) (fun c1 => ?_) (fun c1 => ?_)
  · have hB := hB.1 c1
    refine lv_aload_n hx hb dX12_text_173 rfl (lv_at hl 0 rfl) ?_
    refine xMg_100_winterLong S hE hP lk_X12_58 dX12_text_174 ?_
    refine lv_aload_n hx hb dX12_text_177 rfl (lv_at hl 0 rfl) ?_
    refine xMg_100_winters S hE hP lk_X12_276 dX12_text_178 ?_
    refine lv_aload_n hx hb dX12_text_181 rfl (lv_at hl 0 rfl) ?_
    refine xMg_100_winterLong S hE hP lk_X12_58 dX12_text_182 ?_
    refine lv_iconst (v := 4) hx hb dX12_text_185 (by decide) ?_
    refine xMk_112 S hE hP 4 (by decide) (by unfold vp_in; decide) dX12_text_186 ?_
    obtain ⟨hi, hB⟩ := hB
    obtain ⟨z1, ez1⟩ : ∃ z9, z9 = sA z0 112 (gI z0 115).toNatClampNeg (gA z0 112 4) := ⟨_, rfl⟩
    have hB := hB z1 ez1
    refine xMs_112 S hE hP hD hS _ rfl hi dX12_text_187 (fun H locs hP hD hS => ?_)
    rw [← ez1] at hP hD
    refine lv_aload_n hx hb dX12_text_188 rfl (lv_at hl 0 rfl) ?_
    refine lv_dup hx hb dX12_text_189 rfl ?_
    refine xMg_100_winters S hE hP lk_X12_276 dX12_text_190 ?_
    refine lv_iconst (v := 1) hx hb dX12_text_193 (by decide) ?_
    refine lv_iadd hx hb dX12_text_194 ?_
    obtain ⟨z2, ez2⟩ : ∃ z9, z9 = sI z1 115 ((gI z1 115) + (1 : Int32)) := ⟨_, rfl⟩
    have hB := hB z2 ez2
    refine xMp_100_winters S hE hP hD hS lk_X12_276 dX12_text_195 (fun H locs hP hD hS => ?_)
    rw [← ez2] at hP hD
    refine lv_aload_n hx hb dX12_text_198 rfl (lv_at hl 0 rfl) ?_
    refine xMg_100_winters S hE hP lk_X12_276 dX12_text_199 ?_
    refine lv_iconst (v := 1) hx hb dX12_text_202 (by decide) ?_
    refine lv_isub hx hb dX12_text_203 ?_
    exact hret _ _ _ _ _ _ dX12_text_204 hB hP hD hS
  · have hB := hB.2 c1
    refine lv_aload_n hx hb dX12_text_143 rfl (lv_at hl 0 rfl) ?_
    refine xMg_100_winter S hE hP lk_X12_55 dX12_text_144 ?_
    refine lv_bipush (v := 32) hx hb dX12_text_147 (by decide) ?_
    refine lv_aload_n hx hb dX12_text_149 rfl (lv_at hl 0 rfl) ?_
    refine xMg_100_winters S hE hP lk_X12_276 dX12_text_150 ?_
    refine lv_imul hx hb dX12_text_153 ?_
    refine lv_iload_n hx hb dX12_text_154 rfl (lv_at hl 1 rfl) ?_
    refine lv_iadd hx hb dX12_text_155 ?_
    refine lv_aload_n hx hb dX12_text_156 rfl (lv_at hl 0 rfl) ?_
    refine xMg_100_winter S hE hP lk_X12_55 dX12_text_157 ?_
    refine lv_sipush (v := 128) hx hb dX12_text_160 (by decide) ?_
    refine lv_iload_n hx hb dX12_text_163 rfl (lv_at hl 1 rfl) ?_
    refine lv_iadd hx hb dX12_text_164 ?_
    obtain ⟨hi, hB⟩ := hB
    refine xMl_111 S hE hP hi dX12_text_165 ?_
    obtain ⟨hi, hB⟩ := hB
    obtain ⟨z3, ez3⟩ : ∃ z9, z9 = sA z0 111 (((32 : Int32) * (gI z0 115)) + x3).toNatClampNeg (gA z0 111 ((128 : Int32) + x3).toNatClampNeg) := ⟨_, rfl⟩
    have hB := hB z3 ez3
    refine xMs_111 S hE hP hD hS _ rfl hi dX12_text_166 (fun H locs hP hD hS => ?_)
    rw [← ez3] at hP hD
    obtain ⟨v2, ev2⟩ : ∃ y9, y9 = x3 + (1 : Int32) := ⟨_, rfl⟩
    have hB := hB v2 ev2
    refine lv_iinc (v := v2) (lv' := [(3, .int v2), (0, .ref (ad G 100))]) hx hb dX12_text_167 hl (k := 1) rfl (by rw [ev2]; rfl) (by decide) rfl (fun ls hl => ?_)
    refine lv_goto (tgt := 137) hx hb dX12_text_170 (by decide) ?_
    exact h137 v2 z3 hB _ _ _ hP hD hS (lv_sub hl [1, 0] rfl)
def L_M_text_137 (post : Int32 → St → Prop) : Nat → Int32 → St → Prop
  | 0 => fun _ _ => False
  | n + 1 => B_M_text_137 post (L_M_text_137 post n)
theorem wl_M_text_137 {p : Program} {l : Launch} {e : Env} {R : Room} {s : State} {m : MethodId} {args : Array Value} {below : List Frame} {meth : Method} {c : Code} {Q : State → Prop} {G : GX} {A : Nat → Prop} (S : CallFix p m c cX12_text 4 s args GW RX12) (hE : env G A s s.heap) (hA : ∀ q, s.heap.size ≤ q → A q) (hRf : 61 ≤ R.frames) (hRl : 1712 ≤ R.locals) {post : Int32 → St → Prop} (hret : RetI p l e R s m args below meth c Q 0 0 wM G A cX12_text post) : ∀ (n : Nat) (x3 : Int32) (z0 : St), L_M_text_137 post n x3 z0 → Xw p l e R s m args below meth c Q 0 0 wM G A z0 4 [(0, .ref (ad G 100)), (3, .int x3)] 137 [] := by
  intro n
  induction n with
  | zero => intro x3 z0 hB; exact absurd hB id
  | succ n ih => exact fun x3 z0 hB => w_M_text_137 S hE hA hRf hRl hret ih x3 z0 hB
def B_M_text_71 (post : Int32 → St → Prop) (ih71 : Int32 → Int32 → St → Prop) (x2 : Int32) (x3 : Int32) (z0 : St) : Prop :=
  ((x2 ≤ x3 → (vp_in (gI z0 102) 4 ∧ (∀ z1 : St, z1 = sA z0 103 (gI z0 102).toNatClampNeg x2 → (∀ z2 : St, z2 = sI z1 102 ((gI z1 102) + (1 : Int32)) → (post ((gI z2 102) - (1 : Int32)) z2))))) ∧ (¬ x2 ≤ x3 → (vp_in x3 240 ∧ (vp_in (((240 : Int32) * (gI z0 102)) + x3) 960 ∧ (∀ z3 : St, z3 = sA z0 102 (((240 : Int32) * (gI z0 102)) + x3).toNatClampNeg (vp_nar .byte (gA z0 101 x3.toNatClampNeg)) → (∀ v2 : Int32, v2 = x3 + (1 : Int32) → (ih71 x2 v2 z3)))))))
set_option maxHeartbeats 4000000 in
set_option maxRecDepth 100000 in
theorem w_M_text_71 {p : Program} {l : Launch} {e : Env} {R : Room} {s : State} {m : MethodId} {args : Array Value} {below : List Frame} {meth : Method} {c : Code} {Q : State → Prop} {G : GX} {A : Nat → Prop} (S : CallFix p m c cX12_text 4 s args GW RX12) (hE : env G A s s.heap) (hA : ∀ q, s.heap.size ≤ q → A q) (hRf : 61 ≤ R.frames) (hRl : 1712 ≤ R.locals) {post : Int32 → St → Prop} (hret : RetI p l e R s m args below meth c Q 0 0 wM G A cX12_text post) {ih71 : Int32 → Int32 → St → Prop} (h71 : ∀ (x2 : Int32) (x3 : Int32) (z0 : St), ih71 x2 x3 z0 → Xw p l e R s m args below meth c Q 0 0 wM G A z0 4 [(0, .ref (ad G 100)), (2, .int x2), (3, .int x3)] 71 []) (x2 : Int32) (x3 : Int32) (z0 : St) (hB : B_M_text_71 post ih71 x2 x3 z0) : Xw p l e R s m args below meth c Q 0 0 wM G A z0 4 [(0, .ref (ad G 100)), (2, .int x2), (3, .int x3)] 71 [] := by
  intro H locs ls hP hD hS hl
  have hx := S.1
  have hb := S.2.1
  refine lv_iload_n hx hb dX12_text_71 rfl (lv_at hl 2 rfl) ?_
  refine lv_iload_n hx hb dX12_text_72 rfl (lv_at hl 1 rfl) ?_
  refine lv_icmp_ge (tgt := 103) hx hb dX12_text_73 (by decide) (fun c1 => ?_) (fun c1 => ?_)
  · have hB := hB.1 c1
    refine lv_aload_n hx hb dX12_text_103 rfl (lv_at hl 0 rfl) ?_
    refine xMg_100_textLong S hE hP lk_X12_16 dX12_text_104 ?_
    refine lv_aload_n hx hb dX12_text_107 rfl (lv_at hl 0 rfl) ?_
    refine xMg_100_lawMany S hE hP lk_X12_273 dX12_text_108 ?_
    refine lv_iload_n hx hb dX12_text_111 rfl (lv_at hl 1 rfl) ?_
    obtain ⟨hi, hB⟩ := hB
    obtain ⟨z1, ez1⟩ : ∃ z9, z9 = sA z0 103 (gI z0 102).toNatClampNeg x2 := ⟨_, rfl⟩
    have hB := hB z1 ez1
    refine xMs_103 S hE hP hD hS _ rfl hi dX12_text_112 (fun H locs hP hD hS => ?_)
    rw [← ez1] at hP hD
    refine lv_aload_n hx hb dX12_text_113 rfl (lv_at hl 0 rfl) ?_
    refine lv_dup hx hb dX12_text_114 rfl ?_
    refine xMg_100_lawMany S hE hP lk_X12_273 dX12_text_115 ?_
    refine lv_iconst (v := 1) hx hb dX12_text_118 (by decide) ?_
    refine lv_iadd hx hb dX12_text_119 ?_
    obtain ⟨z2, ez2⟩ : ∃ z9, z9 = sI z1 102 ((gI z1 102) + (1 : Int32)) := ⟨_, rfl⟩
    have hB := hB z2 ez2
    refine xMp_100_lawMany S hE hP hD hS lk_X12_273 dX12_text_120 (fun H locs hP hD hS => ?_)
    rw [← ez2] at hP hD
    refine lv_aload_n hx hb dX12_text_123 rfl (lv_at hl 0 rfl) ?_
    refine xMg_100_lawMany S hE hP lk_X12_273 dX12_text_124 ?_
    refine lv_iconst (v := 1) hx hb dX12_text_127 (by decide) ?_
    refine lv_isub hx hb dX12_text_128 ?_
    exact hret _ _ _ _ _ _ dX12_text_129 hB hP hD hS
  · have hB := hB.2 c1
    refine lv_aload_n hx hb dX12_text_76 rfl (lv_at hl 0 rfl) ?_
    refine xMg_100_texts S hE hP lk_X12_13 dX12_text_77 ?_
    refine lv_sipush (v := 240) hx hb dX12_text_80 (by decide) ?_
    refine lv_aload_n hx hb dX12_text_83 rfl (lv_at hl 0 rfl) ?_
    refine xMg_100_lawMany S hE hP lk_X12_273 dX12_text_84 ?_
    refine lv_imul hx hb dX12_text_87 ?_
    refine lv_iload_n hx hb dX12_text_88 rfl (lv_at hl 2 rfl) ?_
    refine lv_iadd hx hb dX12_text_89 ?_
    refine lv_aload_n hx hb dX12_text_90 rfl (lv_at hl 0 rfl) ?_
    refine xMg_100_tape S hE hP lk_X12_9 dX12_text_91 ?_
    refine lv_iload_n hx hb dX12_text_94 rfl (lv_at hl 2 rfl) ?_
    obtain ⟨hi, hB⟩ := hB
    refine xMl_101 S hE hP hi dX12_text_95 ?_
    obtain ⟨hi, hB⟩ := hB
    obtain ⟨z3, ez3⟩ : ∃ z9, z9 = sA z0 102 (((240 : Int32) * (gI z0 102)) + x3).toNatClampNeg (vp_nar .byte (gA z0 101 x3.toNatClampNeg)) := ⟨_, rfl⟩
    have hB := hB z3 ez3
    refine xMs_102 S hE hP hD hS _ rfl hi dX12_text_96 (fun H locs hP hD hS => ?_)
    rw [← ez3] at hP hD
    obtain ⟨v2, ev2⟩ : ∃ y9, y9 = x3 + (1 : Int32) := ⟨_, rfl⟩
    have hB := hB v2 ev2
    refine lv_iinc (v := v2) (lv' := [(3, .int v2), (0, .ref (ad G 100)), (2, .int x2)]) hx hb dX12_text_97 hl (k := 2) rfl (by rw [ev2]; rfl) (by decide) rfl (fun ls hl => ?_)
    refine lv_goto (tgt := 71) hx hb dX12_text_100 (by decide) ?_
    exact h71 x2 v2 z3 hB _ _ _ hP hD hS (lv_sub hl [1, 2, 0] rfl)
def L_M_text_71 (post : Int32 → St → Prop) : Nat → Int32 → Int32 → St → Prop
  | 0 => fun _ _ _ => False
  | n + 1 => B_M_text_71 post (L_M_text_71 post n)
theorem wl_M_text_71 {p : Program} {l : Launch} {e : Env} {R : Room} {s : State} {m : MethodId} {args : Array Value} {below : List Frame} {meth : Method} {c : Code} {Q : State → Prop} {G : GX} {A : Nat → Prop} (S : CallFix p m c cX12_text 4 s args GW RX12) (hE : env G A s s.heap) (hA : ∀ q, s.heap.size ≤ q → A q) (hRf : 61 ≤ R.frames) (hRl : 1712 ≤ R.locals) {post : Int32 → St → Prop} (hret : RetI p l e R s m args below meth c Q 0 0 wM G A cX12_text post) : ∀ (n : Nat) (x2 : Int32) (x3 : Int32) (z0 : St), L_M_text_71 post n x2 x3 z0 → Xw p l e R s m args below meth c Q 0 0 wM G A z0 4 [(0, .ref (ad G 100)), (2, .int x2), (3, .int x3)] 71 [] := by
  intro n
  induction n with
  | zero => intro x2 x3 z0 hB; exact absurd hB id
  | succ n ih => exact fun x2 x3 z0 hB => w_M_text_71 S hE hA hRf hRl hret ih x2 x3 z0 hB
def B_M_text_43 (post : Int32 → St → Prop) (x1 : Int32) (z0 : St) : Prop :=
  (S_M_fault (fun (r1 : Int32) (z1 : St) => ((r1 = (-1 : Int32) → (∀ v3 : Int32, v3 = (gI z1 101) → (∀ z2 : St, z2 = sI z1 101 (0 : Int32) → ((x1 = (1 : Int32) → (∃ n8, L_M_text_71 post n8 v3 (0 : Int32) z2)) ∧ (¬ x1 = (1 : Int32) → ((x1 = (2 : Int32) → (∃ n7, L_M_text_137 post n7 (0 : Int32) z2)) ∧ (¬ x1 = (2 : Int32) → (∀ z3 : St, z3 = sI z2 111 (gI z2 113) → (∀ z4 : St, z4 = sI z3 112 (gI z3 114) → (∃ n6, L_M_text_223 post n6 (0 : Int32) z4)))))))))) ∧ (¬ r1 = (-1 : Int32) → (post (-1 : Int32) z1)))) x1 z0)
set_option maxHeartbeats 4000000 in
set_option maxRecDepth 100000 in
theorem w_M_text_43 {p : Program} {l : Launch} {e : Env} {R : Room} {s : State} {m : MethodId} {args : Array Value} {below : List Frame} {meth : Method} {c : Code} {Q : State → Prop} {G : GX} {A : Nat → Prop} (S : CallFix p m c cX12_text 4 s args GW RX12) (hE : env G A s s.heap) (hA : ∀ q, s.heap.size ≤ q → A q) (hRf : 61 ≤ R.frames) (hRl : 1712 ≤ R.locals) {post : Int32 → St → Prop} (hret : RetI p l e R s m args below meth c Q 0 0 wM G A cX12_text post) (x1 : Int32) (z0 : St) (hB : B_M_text_43 post x1 z0) : Xw p l e R s m args below meth c Q 0 0 wM G A z0 4 [(0, .ref (ad G 100)), (1, .int x1)] 43 [] := by
  intro H locs ls hP hD hS hl
  have hx := S.1
  have hb := S.2.1
  refine lv_aload_n hx hb dX12_text_43 rfl (lv_at hl 0 rfl) ?_
  refine lv_iload_n hx hb dX12_text_44 rfl (lv_at hl 1 rfl) ?_
  refine xcVi [.int x1] S hE hA hP hD hS (c_M_fault l G z0 H.size x1 _) hB (gw_c lk_X12_279 (gw_c wi_X12_fault (gw_c we_X12_X12_fault_X12_fault (gw_c wn_X12 (gw_c wc_X12_fault (fun _ h9 => h9)))))) hd_X12_fault rfl rfl (Nat.le_trans (Nat.le_of_ble_eq_true rfl) hRf) (Nat.le_trans (Nat.le_of_ble_eq_true rfl) hRl) ⟨Nat.zero_le _, Nat.zero_le _⟩ (va_recv hE.1 hP (ci := 11) (q0 := 0) rfl rfl) rfl hl.1 rfl (Nat.le_of_ble_eq_true rfl) dX12_text_45 (fun r1 z1 H locs hB hP hD hS => ?_)
  refine lv_iconst (v := -1) hx hb dX12_text_48 (by decide) ?_
  refine lv_icmp_eq (tgt := 54) hx hb dX12_text_49 (by decide) (fun c2 => ?_) (fun c2 => ?_)
  · have hB := hB.1 c2
    refine lv_aload_n hx hb dX12_text_54 rfl (lv_at hl 0 rfl) ?_
    refine xMg_100_length S hE hP lk_X12_102 dX12_text_55 ?_
    refine lv_topi (fun v3 ev3 => ?_)
    have hB := hB v3 ev3
    refine lv_istore_n (lv' := [(2, .int v3), (0, .ref (ad G 100)), (1, .int x1)]) hx hb dX12_text_58 rfl hl (by decide) rfl (fun ls hl => ?_)
    refine lv_aload_n hx hb dX12_text_59 rfl (lv_at hl 1 rfl) ?_
    refine lv_iconst (v := 0) hx hb dX12_text_60 (by decide) ?_
    obtain ⟨z2, ez2⟩ : ∃ z9, z9 = sI z1 101 (0 : Int32) := ⟨_, rfl⟩
    have hB := hB z2 ez2
    refine xMp_100_length S hE hP hD hS lk_X12_102 dX12_text_61 (fun H locs hP hD hS => ?_)
    rw [← ez2] at hP hD
    refine lv_iload_n hx hb dX12_text_64 rfl (lv_at hl 2 rfl) ?_
    refine lv_iconst (v := 1) hx hb dX12_text_65 (by decide) ?_
    refine lv_icmp_ne (tgt := 130) hx hb dX12_text_66 (by decide) (fun c4 => ?_) (fun c4 => ?_)
    · have hB := hB.2 c4
      refine lv_iload_n hx hb dX12_text_130 rfl (lv_at hl 2 rfl) ?_
      refine lv_iconst (v := 2) hx hb dX12_text_131 (by decide) ?_
      refine lv_icmp_ne (tgt := 205) hx hb dX12_text_132 (by decide) (fun c5 => ?_) (fun c5 => ?_)
      · have hB := hB.2 c5
        refine lv_aload_n hx hb dX12_text_205 rfl (lv_at hl 1 rfl) ?_
        refine lv_aload_n hx hb dX12_text_206 rfl (lv_at hl 1 rfl) ?_
        refine xMg_100_drinksRead S hE hP lk_X12_231 dX12_text_207 ?_
        obtain ⟨z3, ez3⟩ : ∃ z9, z9 = sI z2 111 (gI z2 113) := ⟨_, rfl⟩
        have hB := hB z3 ez3
        refine xMp_100_drinks S hE hP hD hS lk_X12_281 dX12_text_210 (fun H locs hP hD hS => ?_)
        rw [← ez3] at hP hD
        refine lv_aload_n hx hb dX12_text_213 rfl (lv_at hl 1 rfl) ?_
        refine lv_aload_n hx hb dX12_text_214 rfl (lv_at hl 1 rfl) ?_
        refine xMg_100_guestsRead S hE hP lk_X12_234 dX12_text_215 ?_
        obtain ⟨z4, ez4⟩ : ∃ z9, z9 = sI z3 112 (gI z3 114) := ⟨_, rfl⟩
        have hB := hB z4 ez4
        refine xMp_100_guests S hE hP hD hS lk_X12_284 dX12_text_218 (fun H locs hP hD hS => ?_)
        rw [← ez4] at hP hD
        refine lv_iconst (v := 0) hx hb dX12_text_221 (by decide) ?_
        refine lv_istore_n (lv' := [(3, .int (0 : Int32)), (2, .int v3), (0, .ref (ad G 100)), (1, .int x1)]) hx hb dX12_text_222 rfl hl (by decide) rfl (fun ls hl => ?_)
        obtain ⟨n6, hB⟩ := hB
        exact wl_M_text_223 S hE hA hRf hRl hret n6 (0 : Int32) z4 hB _ _ _ hP hD hS (lv_sub hl [2, 0] rfl)
      · have hB := hB.1 c5
        refine lv_iconst (v := 0) hx hb dX12_text_135 (by decide) ?_
        refine lv_istore_n (lv' := [(3, .int (0 : Int32)), (2, .int v3), (0, .ref (ad G 100)), (1, .int x1)]) hx hb dX12_text_136 rfl hl (by decide) rfl (fun ls hl => ?_)
        obtain ⟨n7, hB⟩ := hB
        exact wl_M_text_137 S hE hA hRf hRl hret n7 (0 : Int32) z2 hB _ _ _ hP hD hS (lv_sub hl [2, 0] rfl)
    · have hB := hB.1 c4
      refine lv_iconst (v := 0) hx hb dX12_text_69 (by decide) ?_
      refine lv_istore_n (lv' := [(3, .int (0 : Int32)), (2, .int v3), (0, .ref (ad G 100)), (1, .int x1)]) hx hb dX12_text_70 rfl hl (by decide) rfl (fun ls hl => ?_)
      obtain ⟨n8, hB⟩ := hB
      exact wl_M_text_71 S hE hA hRf hRl hret n8 v3 (0 : Int32) z2 hB _ _ _ hP hD hS (lv_sub hl [2, 1, 0] rfl)
  · have hB := hB.2 c2
    refine lv_iconst (v := -1) hx hb dX12_text_52 (by decide) ?_
    exact hret _ _ _ _ _ _ dX12_text_53 hB hP hD hS
def B_M_text_30 (post : Int32 → St → Prop) (x1 : Int32) (z0 : St) : Prop :=
  ((x1 = (2 : Int32) → (((gI z0 115) = (4 : Int32) → (post (-1 : Int32) z0)) ∧ (¬ (gI z0 115) = (4 : Int32) → (B_M_text_43 post x1 z0)))) ∧ (¬ x1 = (2 : Int32) → (B_M_text_43 post x1 z0)))
set_option maxHeartbeats 4000000 in
set_option maxRecDepth 100000 in
theorem w_M_text_30 {p : Program} {l : Launch} {e : Env} {R : Room} {s : State} {m : MethodId} {args : Array Value} {below : List Frame} {meth : Method} {c : Code} {Q : State → Prop} {G : GX} {A : Nat → Prop} (S : CallFix p m c cX12_text 4 s args GW RX12) (hE : env G A s s.heap) (hA : ∀ q, s.heap.size ≤ q → A q) (hRf : 61 ≤ R.frames) (hRl : 1712 ≤ R.locals) {post : Int32 → St → Prop} (hret : RetI p l e R s m args below meth c Q 0 0 wM G A cX12_text post) (x1 : Int32) (z0 : St) (hB : B_M_text_30 post x1 z0) : Xw p l e R s m args below meth c Q 0 0 wM G A z0 4 [(0, .ref (ad G 100)), (1, .int x1)] 30 [] := by
  intro H locs ls hP hD hS hl
  have hx := S.1
  have hb := S.2.1
  refine lv_iload_n hx hb dX12_text_30 rfl (lv_at hl 1 rfl) ?_
  refine lv_iconst (v := 2) hx hb dX12_text_31 (by decide) ?_
  refine lv_icmp_ne (tgt := 43) hx hb dX12_text_32 (by decide) (fun c1 => ?_) (fun c1 => ?_)
  · have hB := hB.2 c1
    exact w_M_text_43 S hE hA hRf hRl hret x1 z0 hB _ _ _ hP hD hS (lv_sub hl [0, 1] rfl)
  · have hB := hB.1 c1
    refine lv_aload_n hx hb dX12_text_35 rfl (lv_at hl 0 rfl) ?_
    refine xMg_100_winters S hE hP lk_X12_276 dX12_text_36 ?_
    refine lv_iconst (v := 4) hx hb dX12_text_39 (by decide) ?_
    refine lv_icmp_eq (tgt := 52) hx hb dX12_text_40 (by decide) (fun c2 => ?_) (fun c2 => ?_)
    · have hB := hB.1 c2
      refine lv_iconst (v := -1) hx hb dX12_text_52 (by decide) ?_
      exact hret _ _ _ _ _ _ dX12_text_53 hB hP hD hS
    · have hB := hB.2 c2
      exact w_M_text_43 S hE hA hRf hRl hret x1 z0 hB _ _ _ hP hD hS (lv_sub hl [0, 1] rfl)
def S_M_text (post : Int32 → St → Prop) (x1 : Int32) (z0 : St) : Prop :=
  (∀ z1 : St, z1 = sI z0 100 (0 : Int32) → (S_M_isIn (fun (r1 : Int32) (z2 : St) => ((r1 = 0 → (post (-1 : Int32) z2)) ∧ (¬ r1 = 0 → ((x1 = (1 : Int32) → (((gI z2 102) = (4 : Int32) → (post (-1 : Int32) z2)) ∧ (¬ (gI z2 102) = (4 : Int32) → (B_M_text_30 post x1 z2)))) ∧ (¬ x1 = (1 : Int32) → (B_M_text_30 post x1 z2)))))) ((x1).toInt64) (0 : Int64) (2 : Int64) z1))
set_option maxHeartbeats 4000000 in
set_option maxRecDepth 100000 in
theorem w_M_text_0 {p : Program} {l : Launch} {e : Env} {R : Room} {s : State} {m : MethodId} {args : Array Value} {below : List Frame} {meth : Method} {c : Code} {Q : State → Prop} {G : GX} {A : Nat → Prop} (S : CallFix p m c cX12_text 4 s args GW RX12) (hE : env G A s s.heap) (hA : ∀ q, s.heap.size ≤ q → A q) (hRf : 61 ≤ R.frames) (hRl : 1712 ≤ R.locals) {post : Int32 → St → Prop} (hret : RetI p l e R s m args below meth c Q 0 0 wM G A cX12_text post) (x1 : Int32) (z0 : St) (hB : S_M_text post x1 z0) : Xw p l e R s m args below meth c Q 0 0 wM G A z0 4 [(0, .ref (ad G 100)), (1, .int x1)] 0 [] := by
  intro H locs ls hP hD hS hl
  have hx := S.1
  have hb := S.2.1
  refine lv_aload_n hx hb dX12_text_0 rfl (lv_at hl 0 rfl) ?_
  refine lv_iconst (v := 0) hx hb dX12_text_1 (by decide) ?_
  obtain ⟨z1, ez1⟩ : ∃ z9, z9 = sI z0 100 (0 : Int32) := ⟨_, rfl⟩
  have hB := hB z1 ez1
  refine xMp_100_thrown S hE hP hD hS lk_X12_89 dX12_text_2 (fun H locs hP hD hS => ?_)
  rw [← ez1] at hP hD
  refine lv_iload_n hx hb dX12_text_5 rfl (lv_at hl 1 rfl) ?_
  refine lv_i2l hx hb dX12_text_6 rfl ?_
  refine lv_lconst (v := 0) hx hb dX12_text_7 (by decide) ?_
  refine lv_ldc2 hx hb S.2.2.2.1 (S.2.2.2.2 _ lk_X12_258) dX12_text_8 ?_
  refine xcSi [.long ((x1).toInt64), .long (0 : Int64), .long (2 : Int64)] S hE hA hP hD hS (c_M_isIn l G z1 H.size ((x1).toInt64) (0 : Int64) (2 : Int64) _) hB (gw_c lk_X12_260 (gw_c wt_X12_isIn (gw_c wn_X12 (gw_c wc_X12_isIn (fun _ h9 => h9))))) hs_X12_isIn rfl rfl (Nat.le_trans (Nat.le_of_ble_eq_true rfl) hRf) (Nat.le_trans (Nat.le_of_ble_eq_true rfl) hRl) ⟨Nat.zero_le _, Nat.zero_le _⟩ rfl hl.1 rfl (Nat.le_of_ble_eq_true rfl) dX12_text_11 (fun r1 z2 H locs hB hP hD hS => ?_)
  refine lv_if_eq (tgt := 52) hx hb dX12_text_14 (by decide) (fun c2 => ?_) (fun c2 => ?_)
  · have hB := hB.1 c2
    refine lv_iconst (v := -1) hx hb dX12_text_52 (by decide) ?_
    exact hret _ _ _ _ _ _ dX12_text_53 hB hP hD hS
  · have hB := hB.2 c2
    refine lv_iload_n hx hb dX12_text_17 rfl (lv_at hl 1 rfl) ?_
    refine lv_iconst (v := 1) hx hb dX12_text_18 (by decide) ?_
    refine lv_icmp_ne (tgt := 30) hx hb dX12_text_19 (by decide) (fun c3 => ?_) (fun c3 => ?_)
    · have hB := hB.2 c3
      exact w_M_text_30 S hE hA hRf hRl hret x1 z2 hB _ _ _ hP hD hS (lv_sub hl [0, 1] rfl)
    · have hB := hB.1 c3
      refine lv_aload_n hx hb dX12_text_22 rfl (lv_at hl 0 rfl) ?_
      refine xMg_100_lawMany S hE hP lk_X12_273 dX12_text_23 ?_
      refine lv_iconst (v := 4) hx hb dX12_text_26 (by decide) ?_
      refine lv_icmp_eq (tgt := 52) hx hb dX12_text_27 (by decide) (fun c4 => ?_) (fun c4 => ?_)
      · have hB := hB.1 c4
        refine lv_iconst (v := -1) hx hb dX12_text_52 (by decide) ?_
        exact hret _ _ _ _ _ _ dX12_text_53 hB hP hD hS
      · have hB := hB.2 c4
        exact w_M_text_30 S hE hA hRf hRl hret x1 z2 hB _ _ _ hP hD hS (lv_sub hl [0, 1] rfl)
set_option maxHeartbeats 4000000 in
set_option maxRecDepth 100000 in
theorem c_M_text (l : Launch) (G : GX) (z0 : St) (sz : Nat) (x1 : Int32) (post : Int32 → St → Prop) : MetI l wM yX12_text cX12_text 4 (some .int) ({ frames := 61, cells := 0, slots := 0, locals := 1712 }) [.ref (ad G 100), .int x1] G z0 sz (S_M_text post x1 z0) post := by
  refine Met.ofW (cc := cX12_text) (maxL := 4) (ret := (some .int)) (by decide) rfl ?_
  intro p e s m args below meth c s₁ B hml hv
  obtain ⟨rfl, hsz, hP, hD0, hE, hB⟩ := hv
  have S : CallFix p m c cX12_text 4 s _ GW RX12 := ⟨B.exec, B.bytes, hml, findClass_of_methodNamed B.named, fun w h => atoms_spec (ws := Cond.code yX12_text cX12_text 4 (some .int) :: GW) B.pre w (List.mem_cons_of_mem _ h)⟩
  have hlocks := B.notSynchronized
  subst hsz
  have hD := hD0.self (sz := s.heap.size)
  generalize hAe : va_A (wM G z0) s.heap.size = A at hD hE ⊢
  have hA : ∀ q : Nat, s.heap.size ≤ q → A q := fun q h => by rw [← hAe]; exact Or.inr h
  have hS : va_S A s.heap s.heap [] := va_S.rf
  have hl := lv_entry ([.ref (ad G 100), .int x1]) (n := 4) (Nat.le_of_ble_eq_true rfl)
  rw [lg_entry_eq]
  generalize (lg_sl ([.ref (ad G 100), .int x1]) ++ List.replicate (4 - (lg_sl ([.ref (ad G 100), .int x1])).length) Slot.unset).toArray = ls at hl ⊢
  have hl : lv_has ls 4 [(0, .ref (ad G 100)), (1, .int x1)] := hl
  refine w_M_text_0 S hE hA (Nat.le_refl _) (Nat.le_refl _) ?_ x1 z0 hB _ _ _ hP hD hS hl
  intro pc ls r σ H locs hd hp hP hD hS
  exact W.iret (v := r) B.exec B.bytes B.returns (fun t ht hW => ⟨⟨r, σ, rfl, hp, by rw [ht]; exact hP, hD⟩, hS.F ht⟩) hS.2.2 hd
def S_M_rule (post : Int32 → St → Prop) (x1 : Int32) (z0 : St) : Prop :=
  (∀ z1 : St, z1 = sI z0 100 (0 : Int32) → (((gI z1 112) = 0 → (post (-1 : Int32) z1)) ∧ (¬ (gI z1 112) = 0 → (S_M_isIn (fun (r2 : Int32) (z2 : St) => ((r2 = 0 → (post (-1 : Int32) z2)) ∧ (¬ r2 = 0 → ((x1 = 0 → (post (gA z2 113 24) z2)) ∧ (¬ x1 = 0 → (vp_in x1 3 ∧ (post (gA z2 105 x1.toNatClampNeg) z2))))))) ((x1).toInt64) (0 : Int64) (2 : Int64) z1))))
set_option maxHeartbeats 4000000 in
set_option maxRecDepth 100000 in
theorem w_M_rule_0 {p : Program} {l : Launch} {e : Env} {R : Room} {s : State} {m : MethodId} {args : Array Value} {below : List Frame} {meth : Method} {c : Code} {Q : State → Prop} {G : GX} {A : Nat → Prop} (S : CallFix p m c cX12_rule 2 s args GW RX12) (hE : env G A s s.heap) (hA : ∀ q, s.heap.size ≤ q → A q) (hRf : 1 ≤ R.frames) (hRl : 25 ≤ R.locals) {post : Int32 → St → Prop} (hret : RetI p l e R s m args below meth c Q 0 0 wM G A cX12_rule post) (x1 : Int32) (z0 : St) (hB : S_M_rule post x1 z0) : Xw p l e R s m args below meth c Q 0 0 wM G A z0 2 [(0, .ref (ad G 100)), (1, .int x1)] 0 [] := by
  intro H locs ls hP hD hS hl
  have hx := S.1
  have hb := S.2.1
  refine lv_aload_n hx hb dX12_rule_0 rfl (lv_at hl 0 rfl) ?_
  refine lv_iconst (v := 0) hx hb dX12_rule_1 (by decide) ?_
  obtain ⟨z1, ez1⟩ : ∃ z9, z9 = sI z0 100 (0 : Int32) := ⟨_, rfl⟩
  have hB := hB z1 ez1
  refine xMp_100_thrown S hE hP hD hS lk_X12_89 dX12_rule_2 (fun H locs hP hD hS => ?_)
  rw [← ez1] at hP hD
  refine lv_aload_n hx hb dX12_rule_5 rfl (lv_at hl 0 rfl) ?_
  refine xMg_100_guests S hE hP lk_X12_284 dX12_rule_6 ?_
  refine lv_if_eq (tgt := 24) hx hb dX12_rule_9 (by decide) (fun c1 => ?_) (fun c1 => ?_)
  · have hB := hB.1 c1
    refine lv_iconst (v := -1) hx hb dX12_rule_24 (by decide) ?_
    exact hret _ _ _ _ _ _ dX12_rule_25 hB hP hD hS
  · have hB := hB.2 c1
    refine lv_iload_n hx hb dX12_rule_12 rfl (lv_at hl 1 rfl) ?_
    refine lv_i2l hx hb dX12_rule_13 rfl ?_
    refine lv_lconst (v := 0) hx hb dX12_rule_14 (by decide) ?_
    refine lv_ldc2 hx hb S.2.2.2.1 (S.2.2.2.2 _ lk_X12_258) dX12_rule_15 ?_
    refine xcSi [.long ((x1).toInt64), .long (0 : Int64), .long (2 : Int64)] S hE hA hP hD hS (c_M_isIn l G z1 H.size ((x1).toInt64) (0 : Int64) (2 : Int64) _) hB (gw_c lk_X12_260 (gw_c wt_X12_isIn (gw_c wn_X12 (gw_c wc_X12_isIn (fun _ h9 => h9))))) hs_X12_isIn rfl rfl (Nat.le_trans (Nat.le_of_ble_eq_true rfl) hRf) (Nat.le_trans (Nat.le_of_ble_eq_true rfl) hRl) ⟨Nat.zero_le _, Nat.zero_le _⟩ rfl hl.1 rfl (Nat.le_of_ble_eq_true rfl) dX12_rule_18 (fun r2 z2 H locs hB hP hD hS => ?_)
    refine lv_if_ne (tgt := 26) hx hb dX12_rule_21 (by decide) (fun c3 => ?_) (fun c3 => ?_)
    · have hB := hB.2 c3
      refine lv_iload_n hx hb dX12_rule_26 rfl (lv_at hl 1 rfl) ?_
      refine lv_if_ne (tgt := 40) hx hb dX12_rule_27 (by decide) (fun c4 => ?_) (fun c4 => ?_)
      · have hB := hB.2 c4
        refine lv_aload_n hx hb dX12_rule_40 rfl (lv_at hl 0 rfl) ?_
        refine xMg_100_rule S hE hP lk_X12_37 dX12_rule_41 ?_
        refine lv_iload_n hx hb dX12_rule_44 rfl (lv_at hl 1 rfl) ?_
        obtain ⟨hi, hB⟩ := hB
        refine xMl_105 S hE hP hi dX12_rule_45 ?_
        exact hret _ _ _ _ _ _ dX12_rule_46 hB hP hD hS
      · have hB := hB.1 c4
        refine lv_aload_n hx hb dX12_rule_30 rfl (lv_at hl 0 rfl) ?_
        refine xMg_100_now S hE hP lk_X12_61 dX12_rule_31 ?_
        refine lv_bipush (v := 24) hx hb dX12_rule_34 (by decide) ?_
        refine xMk_113 S hE hP 24 (by decide) (by unfold vp_in; decide) dX12_rule_36 ?_
        refine lv_goto (tgt := 46) hx hb dX12_rule_37 (by decide) ?_
        exact hret _ _ _ _ _ _ dX12_rule_46 hB hP hD hS
    · have hB := hB.1 c3
      refine lv_iconst (v := -1) hx hb dX12_rule_24 (by decide) ?_
      exact hret _ _ _ _ _ _ dX12_rule_25 hB hP hD hS
set_option maxHeartbeats 4000000 in
set_option maxRecDepth 100000 in
theorem c_M_rule (l : Launch) (G : GX) (z0 : St) (sz : Nat) (x1 : Int32) (post : Int32 → St → Prop) : MetI l wM yX12_rule cX12_rule 2 (some .int) ({ frames := 1, cells := 0, slots := 0, locals := 25 }) [.ref (ad G 100), .int x1] G z0 sz (S_M_rule post x1 z0) post := by
  refine Met.ofW (cc := cX12_rule) (maxL := 2) (ret := (some .int)) (by decide) rfl ?_
  intro p e s m args below meth c s₁ B hml hv
  obtain ⟨rfl, hsz, hP, hD0, hE, hB⟩ := hv
  have S : CallFix p m c cX12_rule 2 s _ GW RX12 := ⟨B.exec, B.bytes, hml, findClass_of_methodNamed B.named, fun w h => atoms_spec (ws := Cond.code yX12_rule cX12_rule 2 (some .int) :: GW) B.pre w (List.mem_cons_of_mem _ h)⟩
  have hlocks := B.notSynchronized
  subst hsz
  have hD := hD0.self (sz := s.heap.size)
  generalize hAe : va_A (wM G z0) s.heap.size = A at hD hE ⊢
  have hA : ∀ q : Nat, s.heap.size ≤ q → A q := fun q h => by rw [← hAe]; exact Or.inr h
  have hS : va_S A s.heap s.heap [] := va_S.rf
  have hl := lv_entry ([.ref (ad G 100), .int x1]) (n := 2) (Nat.le_of_ble_eq_true rfl)
  rw [lg_entry_eq]
  generalize (lg_sl ([.ref (ad G 100), .int x1]) ++ List.replicate (2 - (lg_sl ([.ref (ad G 100), .int x1])).length) Slot.unset).toArray = ls at hl ⊢
  have hl : lv_has ls 2 [(0, .ref (ad G 100)), (1, .int x1)] := hl
  refine w_M_rule_0 S hE hA (Nat.le_refl _) (Nat.le_refl _) ?_ x1 z0 hB _ _ _ hP hD hS hl
  intro pc ls r σ H locs hd hp hP hD hS
  exact W.iret (v := r) B.exec B.bytes B.returns (fun t ht hW => ⟨⟨r, σ, rfl, hp, by rw [ht]; exact hP, hD⟩, hS.F ht⟩) hS.2.2 hd
def S_M_isDrink (post : Int32 → St → Prop) (x1 : Int32) (z0 : St) : Prop :=
  ((x1 < 0 → (post (0 : Int32) z0)) ∧ (¬ x1 < 0 → (((gI z0 111) ≤ x1 → (post (0 : Int32) z0)) ∧ (¬ (gI z0 111) ≤ x1 → (post (1 : Int32) z0)))))
set_option maxHeartbeats 4000000 in
set_option maxRecDepth 100000 in
theorem w_M_isDrink_0 {p : Program} {l : Launch} {e : Env} {R : Room} {s : State} {m : MethodId} {args : Array Value} {below : List Frame} {meth : Method} {c : Code} {Q : State → Prop} {G : GX} {A : Nat → Prop} (S : CallFix p m c cX12_isDrink 2 s args GW RX12) (hE : env G A s s.heap) (hA : ∀ q, s.heap.size ≤ q → A q) (hRf : 0 ≤ R.frames) (hRl : 0 ≤ R.locals) {post : Int32 → St → Prop} (hret : RetZ p l e R s m args below meth c Q 0 0 wM G A cX12_isDrink post) (x1 : Int32) (z0 : St) (hB : S_M_isDrink post x1 z0) : Xw p l e R s m args below meth c Q 0 0 wM G A z0 2 [(0, .ref (ad G 100)), (1, .int x1)] 0 [] := by
  intro H locs ls hP hD hS hl
  have hx := S.1
  have hb := S.2.1
  refine lv_iload_n hx hb dX12_isDrink_0 rfl (lv_at hl 1 rfl) ?_
  refine lv_if_lt (tgt := 16) hx hb dX12_isDrink_1 (by decide) (fun c1 => ?_) (fun c1 => ?_)
  · have hB := hB.1 c1
    refine lv_iconst (v := 0) hx hb dX12_isDrink_16 (by decide) ?_
    exact hret _ _ _ _ _ _ dX12_isDrink_17 ⟨by decide, hB⟩ hP hD hS
  · have hB := hB.2 c1
    refine lv_iload_n hx hb dX12_isDrink_4 rfl (lv_at hl 1 rfl) ?_
    refine lv_aload_n hx hb dX12_isDrink_5 rfl (lv_at hl 0 rfl) ?_
    refine xMg_100_drinks S hE hP lk_X12_281 dX12_isDrink_6 ?_
    refine lv_icmp_ge (tgt := 16) hx hb dX12_isDrink_9 (by decide) (fun c2 => ?_) (fun c2 => ?_)
    · have hB := hB.1 c2
      refine lv_iconst (v := 0) hx hb dX12_isDrink_16 (by decide) ?_
      exact hret _ _ _ _ _ _ dX12_isDrink_17 ⟨by decide, hB⟩ hP hD hS
    · have hB := hB.2 c2
      refine lv_iconst (v := 1) hx hb dX12_isDrink_12 (by decide) ?_
      refine lv_goto (tgt := 17) hx hb dX12_isDrink_13 (by decide) ?_
      exact hret _ _ _ _ _ _ dX12_isDrink_17 ⟨by decide, hB⟩ hP hD hS
set_option maxHeartbeats 4000000 in
set_option maxRecDepth 100000 in
theorem c_M_isDrink (l : Launch) (G : GX) (z0 : St) (sz : Nat) (x1 : Int32) (post : Int32 → St → Prop) : MetI l wM yX12_isDrink cX12_isDrink 2 (some .boolean) ({ frames := 0, cells := 0, slots := 0, locals := 0 }) [.ref (ad G 100), .int x1] G z0 sz (S_M_isDrink post x1 z0) post := by
  refine Met.ofW (cc := cX12_isDrink) (maxL := 2) (ret := (some .boolean)) (by decide) rfl ?_
  intro p e s m args below meth c s₁ B hml hv
  obtain ⟨rfl, hsz, hP, hD0, hE, hB⟩ := hv
  have S : CallFix p m c cX12_isDrink 2 s _ GW RX12 := ⟨B.exec, B.bytes, hml, findClass_of_methodNamed B.named, fun w h => atoms_spec (ws := Cond.code yX12_isDrink cX12_isDrink 2 (some .boolean) :: GW) B.pre w (List.mem_cons_of_mem _ h)⟩
  have hlocks := B.notSynchronized
  subst hsz
  have hD := hD0.self (sz := s.heap.size)
  generalize hAe : va_A (wM G z0) s.heap.size = A at hD hE ⊢
  have hA : ∀ q : Nat, s.heap.size ≤ q → A q := fun q h => by rw [← hAe]; exact Or.inr h
  have hS : va_S A s.heap s.heap [] := va_S.rf
  have hl := lv_entry ([.ref (ad G 100), .int x1]) (n := 2) (Nat.le_of_ble_eq_true rfl)
  rw [lg_entry_eq]
  generalize (lg_sl ([.ref (ad G 100), .int x1]) ++ List.replicate (2 - (lg_sl ([.ref (ad G 100), .int x1])).length) Slot.unset).toArray = ls at hl ⊢
  have hl : lv_has ls 2 [(0, .ref (ad G 100)), (1, .int x1)] := hl
  refine w_M_isDrink_0 S hE hA (Nat.le_refl _) (Nat.le_refl _) ?_ x1 z0 hB _ _ _ hP hD hS hl
  intro pc ls r σ H locs hd hp hP hD hS
  exact W.zret (v := r) B.exec B.bytes B.returns (xboolc r hp.1) (fun t ht hW => ⟨⟨r, σ, rfl, hp.2, by rw [ht]; exact hP, hD⟩, hS.F ht⟩) hS.2.2 hd
def S_M_quality (post : Int32 → St → Prop) (x1 : Int32) (z0 : St) : Prop :=
  (vp_in ((2 : Int32) * x1) 12 ∧ (post (gA z0 107 ((2 : Int32) * x1).toNatClampNeg) z0))
set_option maxHeartbeats 4000000 in
set_option maxRecDepth 100000 in
theorem w_M_quality_0 {p : Program} {l : Launch} {e : Env} {R : Room} {s : State} {m : MethodId} {args : Array Value} {below : List Frame} {meth : Method} {c : Code} {Q : State → Prop} {G : GX} {A : Nat → Prop} (S : CallFix p m c cX12_quality 2 s args GW RX12) (hE : env G A s s.heap) (hA : ∀ q, s.heap.size ≤ q → A q) (hRf : 0 ≤ R.frames) (hRl : 0 ≤ R.locals) {post : Int32 → St → Prop} (hret : RetI p l e R s m args below meth c Q 0 0 wM G A cX12_quality post) (x1 : Int32) (z0 : St) (hB : S_M_quality post x1 z0) : Xw p l e R s m args below meth c Q 0 0 wM G A z0 2 [(0, .ref (ad G 100)), (1, .int x1)] 0 [] := by
  intro H locs ls hP hD hS hl
  have hx := S.1
  have hb := S.2.1
  refine lv_aload_n hx hb dX12_quality_0 rfl (lv_at hl 0 rfl) ?_
  refine xMg_100_drink S hE hP lk_X12_43 dX12_quality_1 ?_
  refine lv_iconst (v := 2) hx hb dX12_quality_4 (by decide) ?_
  refine lv_iload_n hx hb dX12_quality_5 rfl (lv_at hl 1 rfl) ?_
  refine lv_imul hx hb dX12_quality_6 ?_
  obtain ⟨hi, hB⟩ := hB
  refine xMl_107 S hE hP hi dX12_quality_7 ?_
  exact hret _ _ _ _ _ _ dX12_quality_8 hB hP hD hS
set_option maxHeartbeats 4000000 in
set_option maxRecDepth 100000 in
theorem c_M_quality (l : Launch) (G : GX) (z0 : St) (sz : Nat) (x1 : Int32) (post : Int32 → St → Prop) : MetI l wM yX12_quality cX12_quality 2 (some .int) ({ frames := 0, cells := 0, slots := 0, locals := 0 }) [.ref (ad G 100), .int x1] G z0 sz (S_M_quality post x1 z0) post := by
  refine Met.ofW (cc := cX12_quality) (maxL := 2) (ret := (some .int)) (by decide) rfl ?_
  intro p e s m args below meth c s₁ B hml hv
  obtain ⟨rfl, hsz, hP, hD0, hE, hB⟩ := hv
  have S : CallFix p m c cX12_quality 2 s _ GW RX12 := ⟨B.exec, B.bytes, hml, findClass_of_methodNamed B.named, fun w h => atoms_spec (ws := Cond.code yX12_quality cX12_quality 2 (some .int) :: GW) B.pre w (List.mem_cons_of_mem _ h)⟩
  have hlocks := B.notSynchronized
  subst hsz
  have hD := hD0.self (sz := s.heap.size)
  generalize hAe : va_A (wM G z0) s.heap.size = A at hD hE ⊢
  have hA : ∀ q : Nat, s.heap.size ≤ q → A q := fun q h => by rw [← hAe]; exact Or.inr h
  have hS : va_S A s.heap s.heap [] := va_S.rf
  have hl := lv_entry ([.ref (ad G 100), .int x1]) (n := 2) (Nat.le_of_ble_eq_true rfl)
  rw [lg_entry_eq]
  generalize (lg_sl ([.ref (ad G 100), .int x1]) ++ List.replicate (2 - (lg_sl ([.ref (ad G 100), .int x1])).length) Slot.unset).toArray = ls at hl ⊢
  have hl : lv_has ls 2 [(0, .ref (ad G 100)), (1, .int x1)] := hl
  refine w_M_quality_0 S hE hA (Nat.le_refl _) (Nat.le_refl _) ?_ x1 z0 hB _ _ _ hP hD hS hl
  intro pc ls r σ H locs hd hp hP hD hS
  exact W.iret (v := r) B.exec B.bytes B.returns (fun t ht hW => ⟨⟨r, σ, rfl, hp, by rw [ht]; exact hP, hD⟩, hS.F ht⟩) hS.2.2 hd
def S_M_drink (post : Int32 → St → Prop) (x1 : Int32) (x2 : Int32) (z0 : St) : Prop :=
  (∀ z1 : St, z1 = sI z0 100 (0 : Int32) → (S_M_isDrink (fun (r1 : Int32) (z2 : St) => ((r1 = 0 → (post (-1 : Int32) z2)) ∧ (¬ r1 = 0 → (S_M_isIn (fun (r3 : Int32) (z3 : St) => ((r3 = 0 → (post (-1 : Int32) z3)) ∧ (¬ r3 = 0 → ((x2 = 0 → (S_M_quality (fun (r6 : Int32) (z4 : St) => (post r6 z4)) x1 z3)) ∧ (¬ x2 = 0 → (vp_in ((18 : Int32) + x1) 269 ∧ (post (gA z3 113 ((18 : Int32) + x1).toNatClampNeg) z3))))))) ((x2).toInt64) (0 : Int64) (1 : Int64) z2)))) x1 z1))
set_option maxHeartbeats 4000000 in
set_option maxRecDepth 100000 in
theorem w_M_drink_0 {p : Program} {l : Launch} {e : Env} {R : Room} {s : State} {m : MethodId} {args : Array Value} {below : List Frame} {meth : Method} {c : Code} {Q : State → Prop} {G : GX} {A : Nat → Prop} (S : CallFix p m c cX12_drink 3 s args GW RX12) (hE : env G A s s.heap) (hA : ∀ q, s.heap.size ≤ q → A q) (hRf : 1 ≤ R.frames) (hRl : 25 ≤ R.locals) {post : Int32 → St → Prop} (hret : RetI p l e R s m args below meth c Q 0 0 wM G A cX12_drink post) (x1 : Int32) (x2 : Int32) (z0 : St) (hB : S_M_drink post x1 x2 z0) : Xw p l e R s m args below meth c Q 0 0 wM G A z0 3 [(0, .ref (ad G 100)), (1, .int x1), (2, .int x2)] 0 [] := by
  intro H locs ls hP hD hS hl
  have hx := S.1
  have hb := S.2.1
  refine lv_aload_n hx hb dX12_drink_0 rfl (lv_at hl 0 rfl) ?_
  refine lv_iconst (v := 0) hx hb dX12_drink_1 (by decide) ?_
  obtain ⟨z1, ez1⟩ : ∃ z9, z9 = sI z0 100 (0 : Int32) := ⟨_, rfl⟩
  have hB := hB z1 ez1
  refine xMp_100_thrown S hE hP hD hS lk_X12_89 dX12_drink_2 (fun H locs hP hD hS => ?_)
  rw [← ez1] at hP hD
  refine lv_aload_n hx hb dX12_drink_5 rfl (lv_at hl 0 rfl) ?_
  refine lv_iload_n hx hb dX12_drink_6 rfl (lv_at hl 1 rfl) ?_
  refine xcVi [.int x1] S hE hA hP hD hS (c_M_isDrink l G z1 H.size x1 _) hB (gw_c lk_X12_319 (gw_c wi_X12_isDrink (gw_c we_X12_X12_isDrink_X12_isDrink (gw_c wn_X12 (gw_c wc_X12_isDrink (fun _ h9 => h9)))))) hd_X12_isDrink rfl rfl (Nat.le_trans (Nat.le_of_ble_eq_true rfl) hRf) (Nat.le_trans (Nat.le_of_ble_eq_true rfl) hRl) ⟨Nat.zero_le _, Nat.zero_le _⟩ (va_recv hE.1 hP (ci := 11) (q0 := 0) rfl rfl) rfl hl.1 rfl (Nat.le_of_ble_eq_true rfl) dX12_drink_7 (fun r1 z2 H locs hB hP hD hS => ?_)
  refine lv_if_eq (tgt := 23) hx hb dX12_drink_10 (by decide) (fun c2 => ?_) (fun c2 => ?_)
  · have hB := hB.1 c2
    refine lv_iconst (v := -1) hx hb dX12_drink_23 (by decide) ?_
    exact hret _ _ _ _ _ _ dX12_drink_24 hB hP hD hS
  · have hB := hB.2 c2
    refine lv_iload_n hx hb dX12_drink_13 rfl (lv_at hl 2 rfl) ?_
    refine lv_i2l hx hb dX12_drink_14 rfl ?_
    refine lv_lconst (v := 0) hx hb dX12_drink_15 (by decide) ?_
    refine lv_lconst (v := 1) hx hb dX12_drink_16 (by decide) ?_
    refine xcSi [.long ((x2).toInt64), .long (0 : Int64), .long (1 : Int64)] S hE hA hP hD hS (c_M_isIn l G z2 H.size ((x2).toInt64) (0 : Int64) (1 : Int64) _) hB (gw_c lk_X12_260 (gw_c wt_X12_isIn (gw_c wn_X12 (gw_c wc_X12_isIn (fun _ h9 => h9))))) hs_X12_isIn rfl rfl (Nat.le_trans (Nat.le_of_ble_eq_true rfl) hRf) (Nat.le_trans (Nat.le_of_ble_eq_true rfl) hRl) ⟨Nat.zero_le _, Nat.zero_le _⟩ rfl hl.1 rfl (Nat.le_of_ble_eq_true rfl) dX12_drink_17 (fun r3 z3 H locs hB hP hD hS => ?_)
    refine lv_if_ne (tgt := 25) hx hb dX12_drink_20 (by decide) (fun c4 => ?_) (fun c4 => ?_)
    · have hB := hB.2 c4
      refine lv_iload_n hx hb dX12_drink_25 rfl (lv_at hl 2 rfl) ?_
      refine lv_if_ne (tgt := 37) hx hb dX12_drink_26 (by decide) (fun c5 => ?_) (fun c5 => ?_)
      · have hB := hB.2 c5
        refine lv_aload_n hx hb dX12_drink_37 rfl (lv_at hl 0 rfl) ?_
        refine xMg_100_now S hE hP lk_X12_61 dX12_drink_38 ?_
        refine lv_bipush (v := 18) hx hb dX12_drink_41 (by decide) ?_
        refine lv_iload_n hx hb dX12_drink_43 rfl (lv_at hl 1 rfl) ?_
        refine lv_iadd hx hb dX12_drink_44 ?_
        obtain ⟨hi, hB⟩ := hB
        refine xMl_113 S hE hP hi dX12_drink_45 ?_
        exact hret _ _ _ _ _ _ dX12_drink_46 hB hP hD hS
      · have hB := hB.1 c5
        refine lv_aload_n hx hb dX12_drink_29 rfl (lv_at hl 0 rfl) ?_
        refine lv_iload_n hx hb dX12_drink_30 rfl (lv_at hl 1 rfl) ?_
        refine xcVi [.int x1] S hE hA hP hD hS (c_M_quality l G z3 H.size x1 _) hB (gw_c lk_X12_296 (gw_c wi_X12_quality (gw_c we_X12_X12_quality_X12_quality (gw_c wn_X12 (gw_c wc_X12_quality (fun _ h9 => h9)))))) hd_X12_quality rfl rfl (Nat.le_trans (Nat.le_of_ble_eq_true rfl) hRf) (Nat.le_trans (Nat.le_of_ble_eq_true rfl) hRl) ⟨Nat.zero_le _, Nat.zero_le _⟩ (va_recv hE.1 hP (ci := 11) (q0 := 0) rfl rfl) rfl hl.1 rfl (Nat.le_of_ble_eq_true rfl) dX12_drink_31 (fun r6 z4 H locs hB hP hD hS => ?_)
        refine lv_goto (tgt := 46) hx hb dX12_drink_34 (by decide) ?_
        exact hret _ _ _ _ _ _ dX12_drink_46 hB hP hD hS
    · have hB := hB.1 c4
      refine lv_iconst (v := -1) hx hb dX12_drink_23 (by decide) ?_
      exact hret _ _ _ _ _ _ dX12_drink_24 hB hP hD hS
set_option maxHeartbeats 4000000 in
set_option maxRecDepth 100000 in
theorem c_M_drink (l : Launch) (G : GX) (z0 : St) (sz : Nat) (x1 : Int32) (x2 : Int32) (post : Int32 → St → Prop) : MetI l wM yX12_drink cX12_drink 3 (some .int) ({ frames := 1, cells := 0, slots := 0, locals := 25 }) [.ref (ad G 100), .int x1, .int x2] G z0 sz (S_M_drink post x1 x2 z0) post := by
  refine Met.ofW (cc := cX12_drink) (maxL := 3) (ret := (some .int)) (by decide) rfl ?_
  intro p e s m args below meth c s₁ B hml hv
  obtain ⟨rfl, hsz, hP, hD0, hE, hB⟩ := hv
  have S : CallFix p m c cX12_drink 3 s _ GW RX12 := ⟨B.exec, B.bytes, hml, findClass_of_methodNamed B.named, fun w h => atoms_spec (ws := Cond.code yX12_drink cX12_drink 3 (some .int) :: GW) B.pre w (List.mem_cons_of_mem _ h)⟩
  have hlocks := B.notSynchronized
  subst hsz
  have hD := hD0.self (sz := s.heap.size)
  generalize hAe : va_A (wM G z0) s.heap.size = A at hD hE ⊢
  have hA : ∀ q : Nat, s.heap.size ≤ q → A q := fun q h => by rw [← hAe]; exact Or.inr h
  have hS : va_S A s.heap s.heap [] := va_S.rf
  have hl := lv_entry ([.ref (ad G 100), .int x1, .int x2]) (n := 3) (Nat.le_of_ble_eq_true rfl)
  rw [lg_entry_eq]
  generalize (lg_sl ([.ref (ad G 100), .int x1, .int x2]) ++ List.replicate (3 - (lg_sl ([.ref (ad G 100), .int x1, .int x2])).length) Slot.unset).toArray = ls at hl ⊢
  have hl : lv_has ls 3 [(0, .ref (ad G 100)), (1, .int x1), (2, .int x2)] := hl
  refine w_M_drink_0 S hE hA (Nat.le_refl _) (Nat.le_refl _) ?_ x1 x2 z0 hB _ _ _ hP hD hS hl
  intro pc ls r σ H locs hd hp hP hD hS
  exact W.iret (v := r) B.exec B.bytes B.returns (fun t ht hW => ⟨⟨r, σ, rfl, hp, by rw [ht]; exact hP, hD⟩, hS.F ht⟩) hS.2.2 hd
def S_M_isGuest (post : Int32 → St → Prop) (x1 : Int32) (z0 : St) : Prop :=
  ((x1 < 0 → (post (0 : Int32) z0)) ∧ (¬ x1 < 0 → (((gI z0 112) ≤ x1 → (post (0 : Int32) z0)) ∧ (¬ (gI z0 112) ≤ x1 → (post (1 : Int32) z0)))))
set_option maxHeartbeats 4000000 in
set_option maxRecDepth 100000 in
theorem w_M_isGuest_0 {p : Program} {l : Launch} {e : Env} {R : Room} {s : State} {m : MethodId} {args : Array Value} {below : List Frame} {meth : Method} {c : Code} {Q : State → Prop} {G : GX} {A : Nat → Prop} (S : CallFix p m c cX12_isGuest 2 s args GW RX12) (hE : env G A s s.heap) (hA : ∀ q, s.heap.size ≤ q → A q) (hRf : 0 ≤ R.frames) (hRl : 0 ≤ R.locals) {post : Int32 → St → Prop} (hret : RetZ p l e R s m args below meth c Q 0 0 wM G A cX12_isGuest post) (x1 : Int32) (z0 : St) (hB : S_M_isGuest post x1 z0) : Xw p l e R s m args below meth c Q 0 0 wM G A z0 2 [(0, .ref (ad G 100)), (1, .int x1)] 0 [] := by
  intro H locs ls hP hD hS hl
  have hx := S.1
  have hb := S.2.1
  refine lv_iload_n hx hb dX12_isGuest_0 rfl (lv_at hl 1 rfl) ?_
  refine lv_if_lt (tgt := 16) hx hb dX12_isGuest_1 (by decide) (fun c1 => ?_) (fun c1 => ?_)
  · have hB := hB.1 c1
    refine lv_iconst (v := 0) hx hb dX12_isGuest_16 (by decide) ?_
    exact hret _ _ _ _ _ _ dX12_isGuest_17 ⟨by decide, hB⟩ hP hD hS
  · have hB := hB.2 c1
    refine lv_iload_n hx hb dX12_isGuest_4 rfl (lv_at hl 1 rfl) ?_
    refine lv_aload_n hx hb dX12_isGuest_5 rfl (lv_at hl 0 rfl) ?_
    refine xMg_100_guests S hE hP lk_X12_284 dX12_isGuest_6 ?_
    refine lv_icmp_ge (tgt := 16) hx hb dX12_isGuest_9 (by decide) (fun c2 => ?_) (fun c2 => ?_)
    · have hB := hB.1 c2
      refine lv_iconst (v := 0) hx hb dX12_isGuest_16 (by decide) ?_
      exact hret _ _ _ _ _ _ dX12_isGuest_17 ⟨by decide, hB⟩ hP hD hS
    · have hB := hB.2 c2
      refine lv_iconst (v := 1) hx hb dX12_isGuest_12 (by decide) ?_
      refine lv_goto (tgt := 17) hx hb dX12_isGuest_13 (by decide) ?_
      exact hret _ _ _ _ _ _ dX12_isGuest_17 ⟨by decide, hB⟩ hP hD hS
set_option maxHeartbeats 4000000 in
set_option maxRecDepth 100000 in
theorem c_M_isGuest (l : Launch) (G : GX) (z0 : St) (sz : Nat) (x1 : Int32) (post : Int32 → St → Prop) : MetI l wM yX12_isGuest cX12_isGuest 2 (some .boolean) ({ frames := 0, cells := 0, slots := 0, locals := 0 }) [.ref (ad G 100), .int x1] G z0 sz (S_M_isGuest post x1 z0) post := by
  refine Met.ofW (cc := cX12_isGuest) (maxL := 2) (ret := (some .boolean)) (by decide) rfl ?_
  intro p e s m args below meth c s₁ B hml hv
  obtain ⟨rfl, hsz, hP, hD0, hE, hB⟩ := hv
  have S : CallFix p m c cX12_isGuest 2 s _ GW RX12 := ⟨B.exec, B.bytes, hml, findClass_of_methodNamed B.named, fun w h => atoms_spec (ws := Cond.code yX12_isGuest cX12_isGuest 2 (some .boolean) :: GW) B.pre w (List.mem_cons_of_mem _ h)⟩
  have hlocks := B.notSynchronized
  subst hsz
  have hD := hD0.self (sz := s.heap.size)
  generalize hAe : va_A (wM G z0) s.heap.size = A at hD hE ⊢
  have hA : ∀ q : Nat, s.heap.size ≤ q → A q := fun q h => by rw [← hAe]; exact Or.inr h
  have hS : va_S A s.heap s.heap [] := va_S.rf
  have hl := lv_entry ([.ref (ad G 100), .int x1]) (n := 2) (Nat.le_of_ble_eq_true rfl)
  rw [lg_entry_eq]
  generalize (lg_sl ([.ref (ad G 100), .int x1]) ++ List.replicate (2 - (lg_sl ([.ref (ad G 100), .int x1])).length) Slot.unset).toArray = ls at hl ⊢
  have hl : lv_has ls 2 [(0, .ref (ad G 100)), (1, .int x1)] := hl
  refine w_M_isGuest_0 S hE hA (Nat.le_refl _) (Nat.le_refl _) ?_ x1 z0 hB _ _ _ hP hD hS hl
  intro pc ls r σ H locs hd hp hP hD hS
  exact W.zret (v := r) B.exec B.bytes B.returns (xboolc r hp.1) (fun t ht hW => ⟨⟨r, σ, rfl, hp.2, by rw [ht]; exact hP, hD⟩, hS.F ht⟩) hS.2.2 hd
def B_M_guest_26 (post : Int32 → St → Prop) (x1 : Int32) (x2 : Int32) (s0 : Int32) (z0 : St) : Prop :=
  (∀ z1 : St, z1 = sI z0 100 s0 → (((gI z1 100) ≤ 0 → ((x2 = 0 → (vp_in ((3 : Int32) * x1) 18 ∧ (post (gA z1 109 ((3 : Int32) * x1).toNatClampNeg) z1))) ∧ (¬ x2 = 0 → (vp_in ((((3 : Int32) * x1) + x2) - (1 : Int32)) 269 ∧ (post (gA z1 113 ((((3 : Int32) * x1) + x2) - (1 : Int32)).toNatClampNeg) z1))))) ∧ (¬ (gI z1 100) ≤ 0 → (post (0 : Int32) z1))))
set_option maxHeartbeats 4000000 in
set_option maxRecDepth 100000 in
theorem w_M_guest_26 {p : Program} {l : Launch} {e : Env} {R : Room} {s : State} {m : MethodId} {args : Array Value} {below : List Frame} {meth : Method} {c : Code} {Q : State → Prop} {G : GX} {A : Nat → Prop} (S : CallFix p m c cX12_guest 3 s args GW RX12) (hE : env G A s s.heap) (hA : ∀ q, s.heap.size ≤ q → A q) (hRf : 1 ≤ R.frames) (hRl : 25 ≤ R.locals) {post : Int32 → St → Prop} (hret : RetI p l e R s m args below meth c Q 0 0 wM G A cX12_guest post) (x1 : Int32) (x2 : Int32) (s0 : Int32) (z0 : St) (hB : B_M_guest_26 post x1 x2 s0 z0) : Xw p l e R s m args below meth c Q 0 0 wM G A z0 3 [(0, .ref (ad G 100)), (1, .int x1), (2, .int x2)] 26 [.int s0, .ref (ad G 100)] := by
  intro H locs ls hP hD hS hl
  have hx := S.1
  have hb := S.2.1
  obtain ⟨z1, ez1⟩ : ∃ z9, z9 = sI z0 100 s0 := ⟨_, rfl⟩
  have hB := hB z1 ez1
  refine xMp_100_thrown S hE hP hD hS lk_X12_89 dX12_guest_26 (fun H locs hP hD hS => ?_)
  rw [← ez1] at hP hD
  refine lv_aload_n hx hb dX12_guest_29 rfl (lv_at hl 0 rfl) ?_
  refine xMg_100_thrown S hE hP lk_X12_89 dX12_guest_30 ?_
  refine lv_if_le (tgt := 38) hx hb dX12_guest_33 (by decide) (fun c1 => ?_) (fun c1 => ?_)
  · have hB := hB.1 c1
    refine lv_iload_n hx hb dX12_guest_38 rfl (lv_at hl 2 rfl) ?_
    refine lv_if_ne (tgt := 53) hx hb dX12_guest_39 (by decide) (fun c2 => ?_) (fun c2 => ?_)
    · have hB := hB.2 c2
      refine lv_aload_n hx hb dX12_guest_53 rfl (lv_at hl 0 rfl) ?_
      refine xMg_100_now S hE hP lk_X12_61 dX12_guest_54 ?_
      refine lv_iconst (v := 3) hx hb dX12_guest_57 (by decide) ?_
      refine lv_iload_n hx hb dX12_guest_58 rfl (lv_at hl 1 rfl) ?_
      refine lv_imul hx hb dX12_guest_59 ?_
      refine lv_iload_n hx hb dX12_guest_60 rfl (lv_at hl 2 rfl) ?_
      refine lv_iadd hx hb dX12_guest_61 ?_
      refine lv_iconst (v := 1) hx hb dX12_guest_62 (by decide) ?_
      refine lv_isub hx hb dX12_guest_63 ?_
      obtain ⟨hi, hB⟩ := hB
      refine xMl_113 S hE hP hi dX12_guest_64 ?_
      exact hret _ _ _ _ _ _ dX12_guest_65 hB hP hD hS
    · have hB := hB.1 c2
      refine lv_aload_n hx hb dX12_guest_42 rfl (lv_at hl 0 rfl) ?_
      refine xMg_100_guest S hE hP lk_X12_49 dX12_guest_43 ?_
      refine lv_iconst (v := 3) hx hb dX12_guest_46 (by decide) ?_
      refine lv_iload_n hx hb dX12_guest_47 rfl (lv_at hl 1 rfl) ?_
      refine lv_imul hx hb dX12_guest_48 ?_
      obtain ⟨hi, hB⟩ := hB
      refine xMl_109 S hE hP hi dX12_guest_49 ?_
      refine lv_goto (tgt := 65) hx hb dX12_guest_50 (by decide) ?_
      exact hret _ _ _ _ _ _ dX12_guest_65 hB hP hD hS
  · have hB := hB.2 c1
    refine lv_iconst (v := 0) hx hb dX12_guest_36 (by decide) ?_
    exact hret _ _ _ _ _ _ dX12_guest_37 hB hP hD hS
def B_M_guest_25 (post : Int32 → St → Prop) (x1 : Int32) (x2 : Int32) (z0 : St) : Prop :=
  (B_M_guest_26 post x1 x2 (1 : Int32) z0)
set_option maxHeartbeats 4000000 in
set_option maxRecDepth 100000 in
theorem w_M_guest_25 {p : Program} {l : Launch} {e : Env} {R : Room} {s : State} {m : MethodId} {args : Array Value} {below : List Frame} {meth : Method} {c : Code} {Q : State → Prop} {G : GX} {A : Nat → Prop} (S : CallFix p m c cX12_guest 3 s args GW RX12) (hE : env G A s s.heap) (hA : ∀ q, s.heap.size ≤ q → A q) (hRf : 1 ≤ R.frames) (hRl : 25 ≤ R.locals) {post : Int32 → St → Prop} (hret : RetI p l e R s m args below meth c Q 0 0 wM G A cX12_guest post) (x1 : Int32) (x2 : Int32) (z0 : St) (hB : B_M_guest_25 post x1 x2 z0) : Xw p l e R s m args below meth c Q 0 0 wM G A z0 3 [(0, .ref (ad G 100)), (1, .int x1), (2, .int x2)] 25 [.ref (ad G 100)] := by
  intro H locs ls hP hD hS hl
  have hx := S.1
  have hb := S.2.1
  refine lv_iconst (v := 1) hx hb dX12_guest_25 (by decide) ?_
  exact w_M_guest_26 S hE hA hRf hRl hret x1 x2 (1 : Int32) z0 hB _ _ _ hP hD hS (lv_sub hl [0, 1, 2] rfl)
def S_M_guest (post : Int32 → St → Prop) (x1 : Int32) (x2 : Int32) (z0 : St) : Prop :=
  (S_M_isGuest (fun (r1 : Int32) (z1 : St) => ((r1 = 0 → (B_M_guest_25 post x1 x2 z1)) ∧ (¬ r1 = 0 → (S_M_isIn (fun (r3 : Int32) (z2 : St) => ((r3 = 0 → (B_M_guest_25 post x1 x2 z2)) ∧ (¬ r3 = 0 → (B_M_guest_26 post x1 x2 (0 : Int32) z2)))) ((x2).toInt64) (0 : Int64) (3 : Int64) z1)))) x1 z0)
set_option maxHeartbeats 4000000 in
set_option maxRecDepth 100000 in
theorem w_M_guest_0 {p : Program} {l : Launch} {e : Env} {R : Room} {s : State} {m : MethodId} {args : Array Value} {below : List Frame} {meth : Method} {c : Code} {Q : State → Prop} {G : GX} {A : Nat → Prop} (S : CallFix p m c cX12_guest 3 s args GW RX12) (hE : env G A s s.heap) (hA : ∀ q, s.heap.size ≤ q → A q) (hRf : 1 ≤ R.frames) (hRl : 25 ≤ R.locals) {post : Int32 → St → Prop} (hret : RetI p l e R s m args below meth c Q 0 0 wM G A cX12_guest post) (x1 : Int32) (x2 : Int32) (z0 : St) (hB : S_M_guest post x1 x2 z0) : Xw p l e R s m args below meth c Q 0 0 wM G A z0 3 [(0, .ref (ad G 100)), (1, .int x1), (2, .int x2)] 0 [] := by
  intro H locs ls hP hD hS hl
  have hx := S.1
  have hb := S.2.1
  refine lv_aload_n hx hb dX12_guest_0 rfl (lv_at hl 0 rfl) ?_
  refine lv_aload_n hx hb dX12_guest_1 rfl (lv_at hl 0 rfl) ?_
  refine lv_iload_n hx hb dX12_guest_2 rfl (lv_at hl 1 rfl) ?_
  refine xcVi [.int x1] S hE hA hP hD hS (c_M_isGuest l G z0 H.size x1 _) hB (gw_c lk_X12_322 (gw_c wi_X12_isGuest (gw_c we_X12_X12_isGuest_X12_isGuest (gw_c wn_X12 (gw_c wc_X12_isGuest (fun _ h9 => h9)))))) hd_X12_isGuest rfl rfl (Nat.le_trans (Nat.le_of_ble_eq_true rfl) hRf) (Nat.le_trans (Nat.le_of_ble_eq_true rfl) hRl) ⟨Nat.zero_le _, Nat.zero_le _⟩ (va_recv hE.1 hP (ci := 11) (q0 := 0) rfl rfl) rfl hl.1 rfl (Nat.le_of_ble_eq_true rfl) dX12_guest_3 (fun r1 z1 H locs hB hP hD hS => ?_)
  refine lv_if_eq (tgt := 25) hx hb dX12_guest_6 (by decide) (fun c2 => ?_) (fun c2 => ?_)
  · have hB := hB.1 c2
    exact w_M_guest_25 S hE hA hRf hRl hret x1 x2 z1 hB _ _ _ hP hD hS (lv_sub hl [0, 1, 2] rfl)
  · have hB := hB.2 c2
    refine lv_iload_n hx hb dX12_guest_9 rfl (lv_at hl 2 rfl) ?_
    refine lv_i2l hx hb dX12_guest_10 rfl ?_
    refine lv_lconst (v := 0) hx hb dX12_guest_11 (by decide) ?_
    refine lv_ldc2 hx hb S.2.2.2.1 (S.2.2.2.2 _ lk_X12_325) dX12_guest_12 ?_
    refine xcSi [.long ((x2).toInt64), .long (0 : Int64), .long (3 : Int64)] S hE hA hP hD hS (c_M_isIn l G z1 H.size ((x2).toInt64) (0 : Int64) (3 : Int64) _) hB (gw_c lk_X12_260 (gw_c wt_X12_isIn (gw_c wn_X12 (gw_c wc_X12_isIn (fun _ h9 => h9))))) hs_X12_isIn rfl rfl (Nat.le_trans (Nat.le_of_ble_eq_true rfl) hRf) (Nat.le_trans (Nat.le_of_ble_eq_true rfl) hRl) ⟨Nat.zero_le _, Nat.zero_le _⟩ rfl hl.1 rfl (Nat.le_of_ble_eq_true rfl) dX12_guest_15 (fun r3 z2 H locs hB hP hD hS => ?_)
    refine lv_if_eq (tgt := 25) hx hb dX12_guest_18 (by decide) (fun c4 => ?_) (fun c4 => ?_)
    · have hB := hB.1 c4
      exact w_M_guest_25 S hE hA hRf hRl hret x1 x2 z2 hB _ _ _ hP hD hS (lv_sub hl [0, 1, 2] rfl)
    · have hB := hB.2 c4
      refine lv_iconst (v := 0) hx hb dX12_guest_21 (by decide) ?_
      refine lv_goto (tgt := 26) hx hb dX12_guest_22 (by decide) ?_
      exact w_M_guest_26 S hE hA hRf hRl hret x1 x2 (0 : Int32) z2 hB _ _ _ hP hD hS (lv_sub hl [0, 1, 2] rfl)
set_option maxHeartbeats 4000000 in
set_option maxRecDepth 100000 in
theorem c_M_guest (l : Launch) (G : GX) (z0 : St) (sz : Nat) (x1 : Int32) (x2 : Int32) (post : Int32 → St → Prop) : MetI l wM yX12_guest cX12_guest 3 (some .int) ({ frames := 1, cells := 0, slots := 0, locals := 25 }) [.ref (ad G 100), .int x1, .int x2] G z0 sz (S_M_guest post x1 x2 z0) post := by
  refine Met.ofW (cc := cX12_guest) (maxL := 3) (ret := (some .int)) (by decide) rfl ?_
  intro p e s m args below meth c s₁ B hml hv
  obtain ⟨rfl, hsz, hP, hD0, hE, hB⟩ := hv
  have S : CallFix p m c cX12_guest 3 s _ GW RX12 := ⟨B.exec, B.bytes, hml, findClass_of_methodNamed B.named, fun w h => atoms_spec (ws := Cond.code yX12_guest cX12_guest 3 (some .int) :: GW) B.pre w (List.mem_cons_of_mem _ h)⟩
  have hlocks := B.notSynchronized
  subst hsz
  have hD := hD0.self (sz := s.heap.size)
  generalize hAe : va_A (wM G z0) s.heap.size = A at hD hE ⊢
  have hA : ∀ q : Nat, s.heap.size ≤ q → A q := fun q h => by rw [← hAe]; exact Or.inr h
  have hS : va_S A s.heap s.heap [] := va_S.rf
  have hl := lv_entry ([.ref (ad G 100), .int x1, .int x2]) (n := 3) (Nat.le_of_ble_eq_true rfl)
  rw [lg_entry_eq]
  generalize (lg_sl ([.ref (ad G 100), .int x1, .int x2]) ++ List.replicate (3 - (lg_sl ([.ref (ad G 100), .int x1, .int x2])).length) Slot.unset).toArray = ls at hl ⊢
  have hl : lv_has ls 3 [(0, .ref (ad G 100)), (1, .int x1), (2, .int x2)] := hl
  refine w_M_guest_0 S hE hA (Nat.le_refl _) (Nat.le_refl _) ?_ x1 x2 z0 hB _ _ _ hP hD hS hl
  intro pc ls r σ H locs hd hp hP hD hS
  exact W.iret (v := r) B.exec B.bytes B.returns (fun t ht hW => ⟨⟨r, σ, rfl, hp, by rw [ht]; exact hP, hD⟩, hS.F ht⟩) hS.2.2 hd
def B_M_law_28 (post : Int32 → St → Prop) (x1 : Int32) (z0 : St) : Prop :=
  (∀ z1 : St, z1 = sI z0 117 x1 → (post (1 : Int32) z1))
set_option maxHeartbeats 4000000 in
set_option maxRecDepth 100000 in
theorem w_M_law_28 {p : Program} {l : Launch} {e : Env} {R : Room} {s : State} {m : MethodId} {args : Array Value} {below : List Frame} {meth : Method} {c : Code} {Q : State → Prop} {G : GX} {A : Nat → Prop} (S : CallFix p m c cX12_law 2 s args GW RX12) (hE : env G A s s.heap) (hA : ∀ q, s.heap.size ≤ q → A q) (hRf : 1 ≤ R.frames) (hRl : 25 ≤ R.locals) {post : Int32 → St → Prop} (hret : RetZ p l e R s m args below meth c Q 0 0 wM G A cX12_law post) (x1 : Int32) (z0 : St) (hB : B_M_law_28 post x1 z0) : Xw p l e R s m args below meth c Q 0 0 wM G A z0 2 [(0, .ref (ad G 100)), (1, .int x1)] 28 [] := by
  intro H locs ls hP hD hS hl
  have hx := S.1
  have hb := S.2.1
  refine lv_aload_n hx hb dX12_law_28 rfl (lv_at hl 0 rfl) ?_
  refine lv_iload_n hx hb dX12_law_29 rfl (lv_at hl 1 rfl) ?_
  obtain ⟨z1, ez1⟩ : ∃ z9, z9 = sI z0 117 x1 := ⟨_, rfl⟩
  have hB := hB z1 ez1
  refine xMp_100_law S hE hP hD hS lk_X12_67 dX12_law_30 (fun H locs hP hD hS => ?_)
  rw [← ez1] at hP hD
  refine lv_iconst (v := 1) hx hb dX12_law_33 (by decide) ?_
  exact hret _ _ _ _ _ _ dX12_law_34 ⟨by decide, hB⟩ hP hD hS
def S_M_law (post : Int32 → St → Prop) (x1 : Int32) (z0 : St) : Prop :=
  (∀ z1 : St, z1 = sI z0 100 (0 : Int32) → ((x1 = (-1 : Int32) → (B_M_law_28 post x1 z1)) ∧ (¬ x1 = (-1 : Int32) → (S_M_isIn (fun (r2 : Int32) (z2 : St) => ((r2 = 0 → (post (0 : Int32) z2)) ∧ (¬ r2 = 0 → (B_M_law_28 post x1 z2)))) ((x1).toInt64) (0 : Int64) ((((gI z1 102) - (1 : Int32))).toInt64) z1))))
set_option maxHeartbeats 4000000 in
set_option maxRecDepth 100000 in
theorem w_M_law_0 {p : Program} {l : Launch} {e : Env} {R : Room} {s : State} {m : MethodId} {args : Array Value} {below : List Frame} {meth : Method} {c : Code} {Q : State → Prop} {G : GX} {A : Nat → Prop} (S : CallFix p m c cX12_law 2 s args GW RX12) (hE : env G A s s.heap) (hA : ∀ q, s.heap.size ≤ q → A q) (hRf : 1 ≤ R.frames) (hRl : 25 ≤ R.locals) {post : Int32 → St → Prop} (hret : RetZ p l e R s m args below meth c Q 0 0 wM G A cX12_law post) (x1 : Int32) (z0 : St) (hB : S_M_law post x1 z0) : Xw p l e R s m args below meth c Q 0 0 wM G A z0 2 [(0, .ref (ad G 100)), (1, .int x1)] 0 [] := by
  intro H locs ls hP hD hS hl
  have hx := S.1
  have hb := S.2.1
  refine lv_aload_n hx hb dX12_law_0 rfl (lv_at hl 0 rfl) ?_
  refine lv_iconst (v := 0) hx hb dX12_law_1 (by decide) ?_
  obtain ⟨z1, ez1⟩ : ∃ z9, z9 = sI z0 100 (0 : Int32) := ⟨_, rfl⟩
  have hB := hB z1 ez1
  refine xMp_100_thrown S hE hP hD hS lk_X12_89 dX12_law_2 (fun H locs hP hD hS => ?_)
  rw [← ez1] at hP hD
  refine lv_iload_n hx hb dX12_law_5 rfl (lv_at hl 1 rfl) ?_
  refine lv_iconst (v := -1) hx hb dX12_law_6 (by decide) ?_
  refine lv_icmp_eq (tgt := 28) hx hb dX12_law_7 (by decide) (fun c1 => ?_) (fun c1 => ?_)
  · have hB := hB.1 c1
    exact w_M_law_28 S hE hA hRf hRl hret x1 z1 hB _ _ _ hP hD hS (lv_sub hl [0, 1] rfl)
  · have hB := hB.2 c1
    refine lv_iload_n hx hb dX12_law_10 rfl (lv_at hl 1 rfl) ?_
    refine lv_i2l hx hb dX12_law_11 rfl ?_
    refine lv_lconst (v := 0) hx hb dX12_law_12 (by decide) ?_
    refine lv_aload_n hx hb dX12_law_13 rfl (lv_at hl 0 rfl) ?_
    refine xMg_100_lawMany S hE hP lk_X12_273 dX12_law_14 ?_
    refine lv_iconst (v := 1) hx hb dX12_law_17 (by decide) ?_
    refine lv_isub hx hb dX12_law_18 ?_
    refine lv_i2l hx hb dX12_law_19 rfl ?_
    refine xcSi [.long ((x1).toInt64), .long (0 : Int64), .long ((((gI z1 102) - (1 : Int32))).toInt64)] S hE hA hP hD hS (c_M_isIn l G z1 H.size ((x1).toInt64) (0 : Int64) ((((gI z1 102) - (1 : Int32))).toInt64) _) hB (gw_c lk_X12_260 (gw_c wt_X12_isIn (gw_c wn_X12 (gw_c wc_X12_isIn (fun _ h9 => h9))))) hs_X12_isIn rfl rfl (Nat.le_trans (Nat.le_of_ble_eq_true rfl) hRf) (Nat.le_trans (Nat.le_of_ble_eq_true rfl) hRl) ⟨Nat.zero_le _, Nat.zero_le _⟩ rfl hl.1 rfl (Nat.le_of_ble_eq_true rfl) dX12_law_20 (fun r2 z2 H locs hB hP hD hS => ?_)
    refine lv_if_ne (tgt := 28) hx hb dX12_law_23 (by decide) (fun c3 => ?_) (fun c3 => ?_)
    · have hB := hB.2 c3
      exact w_M_law_28 S hE hA hRf hRl hret x1 z2 hB _ _ _ hP hD hS (lv_sub hl [0, 1] rfl)
    · have hB := hB.1 c3
      refine lv_iconst (v := 0) hx hb dX12_law_26 (by decide) ?_
      exact hret _ _ _ _ _ _ dX12_law_27 ⟨by decide, hB⟩ hP hD hS
set_option maxHeartbeats 4000000 in
set_option maxRecDepth 100000 in
theorem c_M_law (l : Launch) (G : GX) (z0 : St) (sz : Nat) (x1 : Int32) (post : Int32 → St → Prop) : MetI l wM yX12_law cX12_law 2 (some .boolean) ({ frames := 1, cells := 0, slots := 0, locals := 25 }) [.ref (ad G 100), .int x1] G z0 sz (S_M_law post x1 z0) post := by
  refine Met.ofW (cc := cX12_law) (maxL := 2) (ret := (some .boolean)) (by decide) rfl ?_
  intro p e s m args below meth c s₁ B hml hv
  obtain ⟨rfl, hsz, hP, hD0, hE, hB⟩ := hv
  have S : CallFix p m c cX12_law 2 s _ GW RX12 := ⟨B.exec, B.bytes, hml, findClass_of_methodNamed B.named, fun w h => atoms_spec (ws := Cond.code yX12_law cX12_law 2 (some .boolean) :: GW) B.pre w (List.mem_cons_of_mem _ h)⟩
  have hlocks := B.notSynchronized
  subst hsz
  have hD := hD0.self (sz := s.heap.size)
  generalize hAe : va_A (wM G z0) s.heap.size = A at hD hE ⊢
  have hA : ∀ q : Nat, s.heap.size ≤ q → A q := fun q h => by rw [← hAe]; exact Or.inr h
  have hS : va_S A s.heap s.heap [] := va_S.rf
  have hl := lv_entry ([.ref (ad G 100), .int x1]) (n := 2) (Nat.le_of_ble_eq_true rfl)
  rw [lg_entry_eq]
  generalize (lg_sl ([.ref (ad G 100), .int x1]) ++ List.replicate (2 - (lg_sl ([.ref (ad G 100), .int x1])).length) Slot.unset).toArray = ls at hl ⊢
  have hl : lv_has ls 2 [(0, .ref (ad G 100)), (1, .int x1)] := hl
  refine w_M_law_0 S hE hA (Nat.le_refl _) (Nat.le_refl _) ?_ x1 z0 hB _ _ _ hP hD hS hl
  intro pc ls r σ H locs hd hp hP hD hS
  exact W.zret (v := r) B.exec B.bytes B.returns (xboolc r hp.1) (fun t ht hW => ⟨⟨r, σ, rfl, hp.2, by rw [ht]; exact hP, hD⟩, hS.F ht⟩) hS.2.2 hd
def S_M_snow (post : Int32 → St → Prop) (x1 : Int32) (z0 : St) : Prop :=
  (∀ z1 : St, z1 = sI z0 100 (0 : Int32) → (S_M_isIn (fun (r1 : Int32) (z2 : St) => ((r1 = 0 → (post (0 : Int32) z2)) ∧ (¬ r1 = 0 → ((x1 = (gI z2 118) → (post (0 : Int32) z2)) ∧ (¬ x1 = (gI z2 118) → (∀ z3 : St, z3 = sI z2 118 x1 → (post (1 : Int32) z3))))))) ((x1).toInt64) (0 : Int64) (9 : Int64) z1))
set_option maxHeartbeats 4000000 in
set_option maxRecDepth 100000 in
theorem w_M_snow_0 {p : Program} {l : Launch} {e : Env} {R : Room} {s : State} {m : MethodId} {args : Array Value} {below : List Frame} {meth : Method} {c : Code} {Q : State → Prop} {G : GX} {A : Nat → Prop} (S : CallFix p m c cX12_snow 2 s args GW RX12) (hE : env G A s s.heap) (hA : ∀ q, s.heap.size ≤ q → A q) (hRf : 1 ≤ R.frames) (hRl : 25 ≤ R.locals) {post : Int32 → St → Prop} (hret : RetZ p l e R s m args below meth c Q 0 0 wM G A cX12_snow post) (x1 : Int32) (z0 : St) (hB : S_M_snow post x1 z0) : Xw p l e R s m args below meth c Q 0 0 wM G A z0 2 [(0, .ref (ad G 100)), (1, .int x1)] 0 [] := by
  intro H locs ls hP hD hS hl
  have hx := S.1
  have hb := S.2.1
  refine lv_aload_n hx hb dX12_snow_0 rfl (lv_at hl 0 rfl) ?_
  refine lv_iconst (v := 0) hx hb dX12_snow_1 (by decide) ?_
  obtain ⟨z1, ez1⟩ : ∃ z9, z9 = sI z0 100 (0 : Int32) := ⟨_, rfl⟩
  have hB := hB z1 ez1
  refine xMp_100_thrown S hE hP hD hS lk_X12_89 dX12_snow_2 (fun H locs hP hD hS => ?_)
  rw [← ez1] at hP hD
  refine lv_iload_n hx hb dX12_snow_5 rfl (lv_at hl 1 rfl) ?_
  refine lv_i2l hx hb dX12_snow_6 rfl ?_
  refine lv_lconst (v := 0) hx hb dX12_snow_7 (by decide) ?_
  refine lv_ldc2 hx hb S.2.2.2.1 (S.2.2.2.2 _ lk_X12_327) dX12_snow_8 ?_
  refine xcSi [.long ((x1).toInt64), .long (0 : Int64), .long (9 : Int64)] S hE hA hP hD hS (c_M_isIn l G z1 H.size ((x1).toInt64) (0 : Int64) (9 : Int64) _) hB (gw_c lk_X12_260 (gw_c wt_X12_isIn (gw_c wn_X12 (gw_c wc_X12_isIn (fun _ h9 => h9))))) hs_X12_isIn rfl rfl (Nat.le_trans (Nat.le_of_ble_eq_true rfl) hRf) (Nat.le_trans (Nat.le_of_ble_eq_true rfl) hRl) ⟨Nat.zero_le _, Nat.zero_le _⟩ rfl hl.1 rfl (Nat.le_of_ble_eq_true rfl) dX12_snow_11 (fun r1 z2 H locs hB hP hD hS => ?_)
  refine lv_if_eq (tgt := 25) hx hb dX12_snow_14 (by decide) (fun c2 => ?_) (fun c2 => ?_)
  · have hB := hB.1 c2
    refine lv_iconst (v := 0) hx hb dX12_snow_25 (by decide) ?_
    exact hret _ _ _ _ _ _ dX12_snow_26 ⟨by decide, hB⟩ hP hD hS
  · have hB := hB.2 c2
    refine lv_iload_n hx hb dX12_snow_17 rfl (lv_at hl 1 rfl) ?_
    refine lv_aload_n hx hb dX12_snow_18 rfl (lv_at hl 0 rfl) ?_
    refine xMg_100_snowy S hE hP lk_X12_71 dX12_snow_19 ?_
    refine lv_icmp_ne (tgt := 27) hx hb dX12_snow_22 (by decide) (fun c3 => ?_) (fun c3 => ?_)
    · have hB := hB.2 c3
      refine lv_aload_n hx hb dX12_snow_27 rfl (lv_at hl 0 rfl) ?_
      refine lv_iload_n hx hb dX12_snow_28 rfl (lv_at hl 1 rfl) ?_
      obtain ⟨z3, ez3⟩ : ∃ z9, z9 = sI z2 118 x1 := ⟨_, rfl⟩
      have hB := hB z3 ez3
      refine xMp_100_snowy S hE hP hD hS lk_X12_71 dX12_snow_29 (fun H locs hP hD hS => ?_)
      rw [← ez3] at hP hD
      refine lv_iconst (v := 1) hx hb dX12_snow_32 (by decide) ?_
      exact hret _ _ _ _ _ _ dX12_snow_33 ⟨by decide, hB⟩ hP hD hS
    · have hB := hB.1 c3
      refine lv_iconst (v := 0) hx hb dX12_snow_25 (by decide) ?_
      exact hret _ _ _ _ _ _ dX12_snow_26 ⟨by decide, hB⟩ hP hD hS
set_option maxHeartbeats 4000000 in
set_option maxRecDepth 100000 in
theorem c_M_snow (l : Launch) (G : GX) (z0 : St) (sz : Nat) (x1 : Int32) (post : Int32 → St → Prop) : MetI l wM yX12_snow cX12_snow 2 (some .boolean) ({ frames := 1, cells := 0, slots := 0, locals := 25 }) [.ref (ad G 100), .int x1] G z0 sz (S_M_snow post x1 z0) post := by
  refine Met.ofW (cc := cX12_snow) (maxL := 2) (ret := (some .boolean)) (by decide) rfl ?_
  intro p e s m args below meth c s₁ B hml hv
  obtain ⟨rfl, hsz, hP, hD0, hE, hB⟩ := hv
  have S : CallFix p m c cX12_snow 2 s _ GW RX12 := ⟨B.exec, B.bytes, hml, findClass_of_methodNamed B.named, fun w h => atoms_spec (ws := Cond.code yX12_snow cX12_snow 2 (some .boolean) :: GW) B.pre w (List.mem_cons_of_mem _ h)⟩
  have hlocks := B.notSynchronized
  subst hsz
  have hD := hD0.self (sz := s.heap.size)
  generalize hAe : va_A (wM G z0) s.heap.size = A at hD hE ⊢
  have hA : ∀ q : Nat, s.heap.size ≤ q → A q := fun q h => by rw [← hAe]; exact Or.inr h
  have hS : va_S A s.heap s.heap [] := va_S.rf
  have hl := lv_entry ([.ref (ad G 100), .int x1]) (n := 2) (Nat.le_of_ble_eq_true rfl)
  rw [lg_entry_eq]
  generalize (lg_sl ([.ref (ad G 100), .int x1]) ++ List.replicate (2 - (lg_sl ([.ref (ad G 100), .int x1])).length) Slot.unset).toArray = ls at hl ⊢
  have hl : lv_has ls 2 [(0, .ref (ad G 100)), (1, .int x1)] := hl
  refine w_M_snow_0 S hE hA (Nat.le_refl _) (Nat.le_refl _) ?_ x1 z0 hB _ _ _ hP hD hS hl
  intro pc ls r σ H locs hd hp hP hD hS
  exact W.zret (v := r) B.exec B.bytes B.returns (xboolc r hp.1) (fun t ht hW => ⟨⟨r, σ, rfl, hp.2, by rw [ht]; exact hP, hD⟩, hS.F ht⟩) hS.2.2 hd
def B_M_remember_52 (post : St → Prop) (ih52 : Int32 → St → Prop) (x1 : Int32) (z0 : St) : Prop :=
  (((269 : Int32) ≤ x1 → (∀ z1 : St, z1 = sI z0 119 ((gI z0 119) + (1 : Int32)) → (post z1))) ∧ (¬ (269 : Int32) ≤ x1 → (vp_in x1 269 ∧ (vp_in (((269 : Int32) * (gI z0 119)) + x1) 10760 ∧ (∀ z2 : St, z2 = sA z0 115 (((269 : Int32) * (gI z0 119)) + x1).toNatClampNeg (gA z0 113 x1.toNatClampNeg) → (∀ v2 : Int32, v2 = x1 + (1 : Int32) → (ih52 v2 z2)))))))
set_option maxHeartbeats 4000000 in
set_option maxRecDepth 100000 in
theorem w_M_remember_52 {p : Program} {l : Launch} {e : Env} {R : Room} {s : State} {m : MethodId} {args : Array Value} {below : List Frame} {meth : Method} {c : Code} {Q : State → Prop} {G : GX} {A : Nat → Prop} (S : CallFix p m c cX12_remember 2 s args GW RX12) (hE : env G A s s.heap) (hA : ∀ q, s.heap.size ≤ q → A q) (hRf : 0 ≤ R.frames) (hRl : 0 ≤ R.locals) {post : St → Prop} (hret : RetV p l e R s m args below meth c Q 0 0 wM G A cX12_remember post) {ih52 : Int32 → St → Prop} (h52 : ∀ (x1 : Int32) (z0 : St), ih52 x1 z0 → Xw p l e R s m args below meth c Q 0 0 wM G A z0 2 [(0, .ref (ad G 100)), (1, .int x1)] 52 []) (x1 : Int32) (z0 : St) (hB : B_M_remember_52 post ih52 x1 z0) : Xw p l e R s m args below meth c Q 0 0 wM G A z0 2 [(0, .ref (ad G 100)), (1, .int x1)] 52 [] := by
  intro H locs ls hP hD hS hl
  have hx := S.1
  have hb := S.2.1
  refine lv_iload_n hx hb dX12_remember_52 rfl (lv_at hl 1 rfl) ?_
  refine lv_sipush (v := 269) hx hb dX12_remember_53 (by decide) ?_
  refine lv_icmp_ge (tgt := 86) hx hb dX12_remember_56 (by decide) (fun c1 => ?_) (fun c1 => ?_)
  · have hB := hB.1 c1
    refine lv_aload_n hx hb dX12_remember_86 rfl (lv_at hl 0 rfl) ?_
    refine lv_dup hx hb dX12_remember_87 rfl ?_
    refine xMg_100_acts S hE hP lk_X12_290 dX12_remember_88 ?_
    refine lv_iconst (v := 1) hx hb dX12_remember_91 (by decide) ?_
    refine lv_iadd hx hb dX12_remember_92 ?_
    obtain ⟨z1, ez1⟩ : ∃ z9, z9 = sI z0 119 ((gI z0 119) + (1 : Int32)) := ⟨_, rfl⟩
    have hB := hB z1 ez1
    refine xMp_100_acts S hE hP hD hS lk_X12_290 dX12_remember_93 (fun H locs hP hD hS => ?_)
    rw [← ez1] at hP hD
    exact hret _ _ _ _ _ dX12_remember_96 hB hP hD hS
  · have hB := hB.2 c1
    refine lv_aload_n hx hb dX12_remember_59 rfl (lv_at hl 0 rfl) ?_
    refine xMg_100_undoRow S hE hP lk_X12_74 dX12_remember_60 ?_
    refine lv_sipush (v := 269) hx hb dX12_remember_63 (by decide) ?_
    refine lv_aload_n hx hb dX12_remember_66 rfl (lv_at hl 0 rfl) ?_
    refine xMg_100_acts S hE hP lk_X12_290 dX12_remember_67 ?_
    refine lv_imul hx hb dX12_remember_70 ?_
    refine lv_iload_n hx hb dX12_remember_71 rfl (lv_at hl 1 rfl) ?_
    refine lv_iadd hx hb dX12_remember_72 ?_
    refine lv_aload_n hx hb dX12_remember_73 rfl (lv_at hl 0 rfl) ?_
    refine xMg_100_now S hE hP lk_X12_61 dX12_remember_74 ?_
    refine lv_iload_n hx hb dX12_remember_77 rfl (lv_at hl 1 rfl) ?_
    obtain ⟨hi, hB⟩ := hB
    refine xMl_113 S hE hP hi dX12_remember_78 ?_
    obtain ⟨hi, hB⟩ := hB
    obtain ⟨z2, ez2⟩ : ∃ z9, z9 = sA z0 115 (((269 : Int32) * (gI z0 119)) + x1).toNatClampNeg (gA z0 113 x1.toNatClampNeg) := ⟨_, rfl⟩
    have hB := hB z2 ez2
    refine xMs_115 S hE hP hD hS _ rfl hi dX12_remember_79 (fun H locs hP hD hS => ?_)
    rw [← ez2] at hP hD
    obtain ⟨v2, ev2⟩ : ∃ y9, y9 = x1 + (1 : Int32) := ⟨_, rfl⟩
    have hB := hB v2 ev2
    refine lv_iinc (v := v2) (lv' := [(1, .int v2), (0, .ref (ad G 100))]) hx hb dX12_remember_80 hl (k := 1) rfl (by rw [ev2]; rfl) (by decide) rfl (fun ls hl => ?_)
    refine lv_goto (tgt := 52) hx hb dX12_remember_83 (by decide) ?_
    exact h52 v2 z2 hB _ _ _ hP hD hS (lv_sub hl [1, 0] rfl)
def L_M_remember_52 (post : St → Prop) : Nat → Int32 → St → Prop
  | 0 => fun _ _ => False
  | n + 1 => B_M_remember_52 post (L_M_remember_52 post n)
theorem wl_M_remember_52 {p : Program} {l : Launch} {e : Env} {R : Room} {s : State} {m : MethodId} {args : Array Value} {below : List Frame} {meth : Method} {c : Code} {Q : State → Prop} {G : GX} {A : Nat → Prop} (S : CallFix p m c cX12_remember 2 s args GW RX12) (hE : env G A s s.heap) (hA : ∀ q, s.heap.size ≤ q → A q) (hRf : 0 ≤ R.frames) (hRl : 0 ≤ R.locals) {post : St → Prop} (hret : RetV p l e R s m args below meth c Q 0 0 wM G A cX12_remember post) : ∀ (n : Nat) (x1 : Int32) (z0 : St), L_M_remember_52 post n x1 z0 → Xw p l e R s m args below meth c Q 0 0 wM G A z0 2 [(0, .ref (ad G 100)), (1, .int x1)] 52 [] := by
  intro n
  induction n with
  | zero => intro x1 z0 hB; exact absurd hB id
  | succ n ih => exact fun x1 z0 hB => w_M_remember_52 S hE hA hRf hRl hret ih x1 z0 hB
def B_M_remember_50 (post : St → Prop) (z0 : St) : Prop :=
  (∃ n1, L_M_remember_52 post n1 (0 : Int32) z0)
set_option maxHeartbeats 4000000 in
set_option maxRecDepth 100000 in
theorem w_M_remember_50 {p : Program} {l : Launch} {e : Env} {R : Room} {s : State} {m : MethodId} {args : Array Value} {below : List Frame} {meth : Method} {c : Code} {Q : State → Prop} {G : GX} {A : Nat → Prop} (S : CallFix p m c cX12_remember 2 s args GW RX12) (hE : env G A s s.heap) (hA : ∀ q, s.heap.size ≤ q → A q) (hRf : 0 ≤ R.frames) (hRl : 0 ≤ R.locals) {post : St → Prop} (hret : RetV p l e R s m args below meth c Q 0 0 wM G A cX12_remember post) (z0 : St) (hB : B_M_remember_50 post z0) : Xw p l e R s m args below meth c Q 0 0 wM G A z0 2 [(0, .ref (ad G 100))] 50 [] := by
  intro H locs ls hP hD hS hl
  have hx := S.1
  have hb := S.2.1
  refine lv_iconst (v := 0) hx hb dX12_remember_50 (by decide) ?_
  refine lv_istore_n (lv' := [(1, .int (0 : Int32)), (0, .ref (ad G 100))]) hx hb dX12_remember_51 rfl hl (by decide) rfl (fun ls hl => ?_)
  obtain ⟨n1, hB⟩ := hB
  exact wl_M_remember_52 S hE hA hRf hRl hret n1 (0 : Int32) z0 hB _ _ _ hP hD hS (lv_sub hl [1, 0] rfl)
def B_M_remember_11 (post : St → Prop) (ih11 : Int32 → St → Prop) (x1 : Int32) (z0 : St) : Prop :=
  (((10491 : Int32) ≤ x1 → (∀ z1 : St, z1 = sI z0 119 ((gI z0 119) - (1 : Int32)) → (B_M_remember_50 post z1))) ∧ (¬ (10491 : Int32) ≤ x1 → (vp_in (x1 + (269 : Int32)) 10760 ∧ (vp_in x1 10760 ∧ (∀ z2 : St, z2 = sA z0 115 x1.toNatClampNeg (gA z0 115 (x1 + (269 : Int32)).toNatClampNeg) → (∀ v2 : Int32, v2 = x1 + (1 : Int32) → (ih11 v2 z2)))))))
set_option maxHeartbeats 4000000 in
set_option maxRecDepth 100000 in
theorem w_M_remember_11 {p : Program} {l : Launch} {e : Env} {R : Room} {s : State} {m : MethodId} {args : Array Value} {below : List Frame} {meth : Method} {c : Code} {Q : State → Prop} {G : GX} {A : Nat → Prop} (S : CallFix p m c cX12_remember 2 s args GW RX12) (hE : env G A s s.heap) (hA : ∀ q, s.heap.size ≤ q → A q) (hRf : 0 ≤ R.frames) (hRl : 0 ≤ R.locals) {post : St → Prop} (hret : RetV p l e R s m args below meth c Q 0 0 wM G A cX12_remember post) {ih11 : Int32 → St → Prop} (h11 : ∀ (x1 : Int32) (z0 : St), ih11 x1 z0 → Xw p l e R s m args below meth c Q 0 0 wM G A z0 2 [(0, .ref (ad G 100)), (1, .int x1)] 11 []) (x1 : Int32) (z0 : St) (hB : B_M_remember_11 post ih11 x1 z0) : Xw p l e R s m args below meth c Q 0 0 wM G A z0 2 [(0, .ref (ad G 100)), (1, .int x1)] 11 [] := by
  intro H locs ls hP hD hS hl
  have hx := S.1
  have hb := S.2.1
  refine lv_iload_n hx hb dX12_remember_11 rfl (lv_at hl 1 rfl) ?_
  refine lv_sipush (v := 10491) hx hb dX12_remember_12 (by decide) ?_
  refine lv_icmp_ge (tgt := 40) hx hb dX12_remember_15 (by decide) (fun c1 => ?_) (fun c1 => ?_)
  · have hB := hB.1 c1
    refine lv_aload_n hx hb dX12_remember_40 rfl (lv_at hl 0 rfl) ?_
    refine lv_dup hx hb dX12_remember_41 rfl ?_
    refine xMg_100_acts S hE hP lk_X12_290 dX12_remember_42 ?_
    refine lv_iconst (v := 1) hx hb dX12_remember_45 (by decide) ?_
    refine lv_isub hx hb dX12_remember_46 ?_
    obtain ⟨z1, ez1⟩ : ∃ z9, z9 = sI z0 119 ((gI z0 119) - (1 : Int32)) := ⟨_, rfl⟩
    have hB := hB z1 ez1
    refine xMp_100_acts S hE hP hD hS lk_X12_290 dX12_remember_47 (fun H locs hP hD hS => ?_)
    rw [← ez1] at hP hD
    exact w_M_remember_50 S hE hA hRf hRl hret z1 hB _ _ _ hP hD hS (lv_sub hl [0] rfl)
  · have hB := hB.2 c1
    refine lv_aload_n hx hb dX12_remember_18 rfl (lv_at hl 0 rfl) ?_
    refine xMg_100_undoRow S hE hP lk_X12_74 dX12_remember_19 ?_
    refine lv_iload_n hx hb dX12_remember_22 rfl (lv_at hl 1 rfl) ?_
    refine lv_aload_n hx hb dX12_remember_23 rfl (lv_at hl 0 rfl) ?_
    refine xMg_100_undoRow S hE hP lk_X12_74 dX12_remember_24 ?_
    refine lv_iload_n hx hb dX12_remember_27 rfl (lv_at hl 1 rfl) ?_
    refine lv_sipush (v := 269) hx hb dX12_remember_28 (by decide) ?_
    refine lv_iadd hx hb dX12_remember_31 ?_
    obtain ⟨hi, hB⟩ := hB
    refine xMl_115 S hE hP hi dX12_remember_32 ?_
    obtain ⟨hi, hB⟩ := hB
    obtain ⟨z2, ez2⟩ : ∃ z9, z9 = sA z0 115 x1.toNatClampNeg (gA z0 115 (x1 + (269 : Int32)).toNatClampNeg) := ⟨_, rfl⟩
    have hB := hB z2 ez2
    refine xMs_115 S hE hP hD hS _ rfl hi dX12_remember_33 (fun H locs hP hD hS => ?_)
    rw [← ez2] at hP hD
    obtain ⟨v2, ev2⟩ : ∃ y9, y9 = x1 + (1 : Int32) := ⟨_, rfl⟩
    have hB := hB v2 ev2
    refine lv_iinc (v := v2) (lv' := [(1, .int v2), (0, .ref (ad G 100))]) hx hb dX12_remember_34 hl (k := 1) rfl (by rw [ev2]; rfl) (by decide) rfl (fun ls hl => ?_)
    refine lv_goto (tgt := 11) hx hb dX12_remember_37 (by decide) ?_
    exact h11 v2 z2 hB _ _ _ hP hD hS (lv_sub hl [1, 0] rfl)
def L_M_remember_11 (post : St → Prop) : Nat → Int32 → St → Prop
  | 0 => fun _ _ => False
  | n + 1 => B_M_remember_11 post (L_M_remember_11 post n)
theorem wl_M_remember_11 {p : Program} {l : Launch} {e : Env} {R : Room} {s : State} {m : MethodId} {args : Array Value} {below : List Frame} {meth : Method} {c : Code} {Q : State → Prop} {G : GX} {A : Nat → Prop} (S : CallFix p m c cX12_remember 2 s args GW RX12) (hE : env G A s s.heap) (hA : ∀ q, s.heap.size ≤ q → A q) (hRf : 0 ≤ R.frames) (hRl : 0 ≤ R.locals) {post : St → Prop} (hret : RetV p l e R s m args below meth c Q 0 0 wM G A cX12_remember post) : ∀ (n : Nat) (x1 : Int32) (z0 : St), L_M_remember_11 post n x1 z0 → Xw p l e R s m args below meth c Q 0 0 wM G A z0 2 [(0, .ref (ad G 100)), (1, .int x1)] 11 [] := by
  intro n
  induction n with
  | zero => intro x1 z0 hB; exact absurd hB id
  | succ n ih => exact fun x1 z0 hB => w_M_remember_11 S hE hA hRf hRl hret ih x1 z0 hB
def S_M_remember (post : St → Prop) (z0 : St) : Prop :=
  (((gI z0 119) = (40 : Int32) → (∃ n2, L_M_remember_11 post n2 (0 : Int32) z0)) ∧ (¬ (gI z0 119) = (40 : Int32) → (B_M_remember_50 post z0)))
set_option maxHeartbeats 4000000 in
set_option maxRecDepth 100000 in
theorem w_M_remember_0 {p : Program} {l : Launch} {e : Env} {R : Room} {s : State} {m : MethodId} {args : Array Value} {below : List Frame} {meth : Method} {c : Code} {Q : State → Prop} {G : GX} {A : Nat → Prop} (S : CallFix p m c cX12_remember 2 s args GW RX12) (hE : env G A s s.heap) (hA : ∀ q, s.heap.size ≤ q → A q) (hRf : 0 ≤ R.frames) (hRl : 0 ≤ R.locals) {post : St → Prop} (hret : RetV p l e R s m args below meth c Q 0 0 wM G A cX12_remember post) (z0 : St) (hB : S_M_remember post z0) : Xw p l e R s m args below meth c Q 0 0 wM G A z0 2 [(0, .ref (ad G 100))] 0 [] := by
  intro H locs ls hP hD hS hl
  have hx := S.1
  have hb := S.2.1
  refine lv_aload_n hx hb dX12_remember_0 rfl (lv_at hl 0 rfl) ?_
  refine xMg_100_acts S hE hP lk_X12_290 dX12_remember_1 ?_
  refine lv_bipush (v := 40) hx hb dX12_remember_4 (by decide) ?_
  refine lv_icmp_ne (tgt := 50) hx hb dX12_remember_6 (by decide) (fun c1 => ?_) (fun c1 => ?_)
  · have hB := hB.2 c1
    exact w_M_remember_50 S hE hA hRf hRl hret z0 hB _ _ _ hP hD hS (lv_sub hl [0] rfl)
  · have hB := hB.1 c1
    refine lv_iconst (v := 0) hx hb dX12_remember_9 (by decide) ?_
    refine lv_istore_n (lv' := [(1, .int (0 : Int32)), (0, .ref (ad G 100))]) hx hb dX12_remember_10 rfl hl (by decide) rfl (fun ls hl => ?_)
    obtain ⟨n2, hB⟩ := hB
    exact wl_M_remember_11 S hE hA hRf hRl hret n2 (0 : Int32) z0 hB _ _ _ hP hD hS (lv_sub hl [1, 0] rfl)
set_option maxHeartbeats 4000000 in
set_option maxRecDepth 100000 in
theorem c_M_remember (l : Launch) (G : GX) (z0 : St) (sz : Nat) (post : St → Prop) : MetV l wM yX12_remember cX12_remember 2 none ({ frames := 0, cells := 0, slots := 0, locals := 0 }) [.ref (ad G 100)] G z0 sz (S_M_remember post z0) post := by
  refine Met.ofW (cc := cX12_remember) (maxL := 2) (ret := none) (by decide) rfl ?_
  intro p e s m args below meth c s₁ B hml hv
  obtain ⟨rfl, hsz, hP, hD0, hE, hB⟩ := hv
  have S : CallFix p m c cX12_remember 2 s _ GW RX12 := ⟨B.exec, B.bytes, hml, findClass_of_methodNamed B.named, fun w h => atoms_spec (ws := Cond.code yX12_remember cX12_remember 2 none :: GW) B.pre w (List.mem_cons_of_mem _ h)⟩
  have hlocks := B.notSynchronized
  subst hsz
  have hD := hD0.self (sz := s.heap.size)
  generalize hAe : va_A (wM G z0) s.heap.size = A at hD hE ⊢
  have hA : ∀ q : Nat, s.heap.size ≤ q → A q := fun q h => by rw [← hAe]; exact Or.inr h
  have hS : va_S A s.heap s.heap [] := va_S.rf
  have hl := lv_entry ([.ref (ad G 100)]) (n := 2) (Nat.le_of_ble_eq_true rfl)
  rw [lg_entry_eq]
  generalize (lg_sl ([.ref (ad G 100)]) ++ List.replicate (2 - (lg_sl ([.ref (ad G 100)])).length) Slot.unset).toArray = ls at hl ⊢
  have hl : lv_has ls 2 [(0, .ref (ad G 100))] := hl
  refine w_M_remember_0 S hE hA (Nat.le_refl _) (Nat.le_refl _) ?_  z0 hB _ _ _ hP hD hS hl
  intro pc ls σ H locs hd hp hP hD hS
  exact W.vret B.exec B.bytes B.returns (fun t ht hW => ⟨⟨σ, rfl, hp, by rw [ht]; exact hP, hD⟩, hS.F ht⟩) hS.2.2 hd
def B_M_joyOf_20 (post : Int32 → St → Prop) (s0 : Int32) (s1 : Int32) (z0 : St) : Prop :=
  (post (s1 + s0) z0)
set_option maxHeartbeats 4000000 in
set_option maxRecDepth 100000 in
theorem w_M_joyOf_20 {p : Program} {l : Launch} {e : Env} {R : Room} {s : State} {m : MethodId} {args : Array Value} {below : List Frame} {meth : Method} {c : Code} {Q : State → Prop} {G : GX} {A : Nat → Prop} (S : CallFix p m c cX12_joyOf 3 s args GW RX12) (hE : env G A s s.heap) (hA : ∀ q, s.heap.size ≤ q → A q) (hRf : 1 ≤ R.frames) (hRl : 21 ≤ R.locals) {post : Int32 → St → Prop} (hret : RetI p l e R s m args below meth c Q 0 0 wM G A cX12_joyOf post) (s0 : Int32) (s1 : Int32) (z0 : St) (hB : B_M_joyOf_20 post s0 s1 z0) : Xw p l e R s m args below meth c Q 0 0 wM G A z0 3 [] 20 [.int s0, .int s1] := by
  intro H locs ls hP hD hS hl
  have hx := S.1
  have hb := S.2.1
  refine lv_iadd hx hb dX12_joyOf_20 ?_
  exact hret _ _ _ _ _ _ dX12_joyOf_21 hB hP hD hS
def S_M_joyOf (post : Int32 → St → Prop) (x1 : Int32) (x2 : Int32) (z0 : St) : Prop :=
  (S_M_quality (fun (r1 : Int32) (z1 : St) => ((x1 = x2 → (B_M_joyOf_20 post (gA z1 105 2) r1 z1)) ∧ (¬ x1 = x2 → (B_M_joyOf_20 post (0 : Int32) r1 z1)))) x2 z0)
set_option maxHeartbeats 4000000 in
set_option maxRecDepth 100000 in
theorem w_M_joyOf_0 {p : Program} {l : Launch} {e : Env} {R : Room} {s : State} {m : MethodId} {args : Array Value} {below : List Frame} {meth : Method} {c : Code} {Q : State → Prop} {G : GX} {A : Nat → Prop} (S : CallFix p m c cX12_joyOf 3 s args GW RX12) (hE : env G A s s.heap) (hA : ∀ q, s.heap.size ≤ q → A q) (hRf : 1 ≤ R.frames) (hRl : 21 ≤ R.locals) {post : Int32 → St → Prop} (hret : RetI p l e R s m args below meth c Q 0 0 wM G A cX12_joyOf post) (x1 : Int32) (x2 : Int32) (z0 : St) (hB : S_M_joyOf post x1 x2 z0) : Xw p l e R s m args below meth c Q 0 0 wM G A z0 3 [(0, .ref (ad G 100)), (1, .int x1), (2, .int x2)] 0 [] := by
  intro H locs ls hP hD hS hl
  have hx := S.1
  have hb := S.2.1
  refine lv_aload_n hx hb dX12_joyOf_0 rfl (lv_at hl 0 rfl) ?_
  refine lv_iload_n hx hb dX12_joyOf_1 rfl (lv_at hl 2 rfl) ?_
  refine xcVi [.int x2] S hE hA hP hD hS (c_M_quality l G z0 H.size x2 _) hB (gw_c lk_X12_296 (gw_c wi_X12_quality (gw_c we_X12_X12_quality_X12_quality (gw_c wn_X12 (gw_c wc_X12_quality (fun _ h9 => h9)))))) hd_X12_quality rfl rfl (Nat.le_trans (Nat.le_of_ble_eq_true rfl) hRf) (Nat.le_trans (Nat.le_of_ble_eq_true rfl) hRl) ⟨Nat.zero_le _, Nat.zero_le _⟩ (va_recv hE.1 hP (ci := 11) (q0 := 0) rfl rfl) rfl hl.1 rfl (Nat.le_of_ble_eq_true rfl) dX12_joyOf_2 (fun r1 z1 H locs hB hP hD hS => ?_)
  refine lv_iload_n hx hb dX12_joyOf_5 rfl (lv_at hl 1 rfl) ?_
  refine lv_iload_n hx hb dX12_joyOf_6 rfl (lv_at hl 2 rfl) ?_
  refine lv_icmp_ne (tgt := 19) hx hb dX12_joyOf_7 (by decide) (fun c2 => ?_) (fun c2 => ?_)
  · have hB := hB.2 c2
    refine lv_iconst (v := 0) hx hb dX12_joyOf_19 (by decide) ?_
    exact w_M_joyOf_20 S hE hA hRf hRl hret (0 : Int32) r1 z1 hB _ _ _ hP hD hS (lv_sub hl [] rfl)
  · have hB := hB.1 c2
    refine lv_aload_n hx hb dX12_joyOf_10 rfl (lv_at hl 0 rfl) ?_
    refine xMg_100_rule S hE hP lk_X12_37 dX12_joyOf_11 ?_
    refine lv_iconst (v := 2) hx hb dX12_joyOf_14 (by decide) ?_
    refine xMk_105 S hE hP 2 (by decide) (by unfold vp_in; decide) dX12_joyOf_15 ?_
    refine lv_goto (tgt := 20) hx hb dX12_joyOf_16 (by decide) ?_
    exact w_M_joyOf_20 S hE hA hRf hRl hret (gA z1 105 2) r1 z1 hB _ _ _ hP hD hS (lv_sub hl [] rfl)
set_option maxHeartbeats 4000000 in
set_option maxRecDepth 100000 in
theorem c_M_joyOf (l : Launch) (G : GX) (z0 : St) (sz : Nat) (x1 : Int32) (x2 : Int32) (post : Int32 → St → Prop) : MetI l wM yX12_joyOf cX12_joyOf 3 (some .int) ({ frames := 1, cells := 0, slots := 0, locals := 21 }) [.ref (ad G 100), .int x1, .int x2] G z0 sz (S_M_joyOf post x1 x2 z0) post := by
  refine Met.ofW (cc := cX12_joyOf) (maxL := 3) (ret := (some .int)) (by decide) rfl ?_
  intro p e s m args below meth c s₁ B hml hv
  obtain ⟨rfl, hsz, hP, hD0, hE, hB⟩ := hv
  have S : CallFix p m c cX12_joyOf 3 s _ GW RX12 := ⟨B.exec, B.bytes, hml, findClass_of_methodNamed B.named, fun w h => atoms_spec (ws := Cond.code yX12_joyOf cX12_joyOf 3 (some .int) :: GW) B.pre w (List.mem_cons_of_mem _ h)⟩
  have hlocks := B.notSynchronized
  subst hsz
  have hD := hD0.self (sz := s.heap.size)
  generalize hAe : va_A (wM G z0) s.heap.size = A at hD hE ⊢
  have hA : ∀ q : Nat, s.heap.size ≤ q → A q := fun q h => by rw [← hAe]; exact Or.inr h
  have hS : va_S A s.heap s.heap [] := va_S.rf
  have hl := lv_entry ([.ref (ad G 100), .int x1, .int x2]) (n := 3) (Nat.le_of_ble_eq_true rfl)
  rw [lg_entry_eq]
  generalize (lg_sl ([.ref (ad G 100), .int x1, .int x2]) ++ List.replicate (3 - (lg_sl ([.ref (ad G 100), .int x1, .int x2])).length) Slot.unset).toArray = ls at hl ⊢
  have hl : lv_has ls 3 [(0, .ref (ad G 100)), (1, .int x1), (2, .int x2)] := hl
  refine w_M_joyOf_0 S hE hA (Nat.le_refl _) (Nat.le_refl _) ?_ x1 x2 z0 hB _ _ _ hP hD hS hl
  intro pc ls r σ H locs hd hp hP hD hS
  exact W.iret (v := r) B.exec B.bytes B.returns (fun t ht hW => ⟨⟨r, σ, rfl, hp, by rw [ht]; exact hP, hD⟩, hS.F ht⟩) hS.2.2 hd
def S_Math_max_7cf53_M (post : Int32 → St → Prop) (x0 : Int32) (x1 : Int32) (z0 : St) : Prop :=
  ((x0 < x1 → (post x1 z0)) ∧ (¬ x0 < x1 → (post x0 z0)))
set_option maxHeartbeats 4000000 in
set_option maxRecDepth 100000 in
theorem w_Math_max_7cf53_M_0 {p : Program} {l : Launch} {e : Env} {R : Room} {s : State} {m : MethodId} {args : Array Value} {below : List Frame} {meth : Method} {c : Code} {Q : State → Prop} {G : GX} {A : Nat → Prop} (S : CallFix p m c cJ9_max_7cf53 2 s args GW RJ9) (hE : env G A s s.heap) (hA : ∀ q, s.heap.size ≤ q → A q) (hRf : 0 ≤ R.frames) (hRl : 0 ≤ R.locals) {post : Int32 → St → Prop} (hret : RetI p l e R s m args below meth c Q 0 0 wM G A cJ9_max_7cf53 post) (x0 : Int32) (x1 : Int32) (z0 : St) (hB : S_Math_max_7cf53_M post x0 x1 z0) : Xw p l e R s m args below meth c Q 0 0 wM G A z0 2 [(0, .int x0), (1, .int x1)] 0 [] := by
  intro H locs ls hP hD hS hl
  have hx := S.1
  have hb := S.2.1
  refine lv_iload_n hx hb dJ9_max_7cf53_0 rfl (lv_at hl 0 rfl) ?_
  refine lv_iload_n hx hb dJ9_max_7cf53_1 rfl (lv_at hl 1 rfl) ?_
  refine lv_icmp_lt (tgt := 9) hx hb dJ9_max_7cf53_2 (by decide) (fun c1 => ?_) (fun c1 => ?_)
  · have hB := hB.1 c1
    refine lv_iload_n hx hb dJ9_max_7cf53_9 rfl (lv_at hl 1 rfl) ?_
    exact hret _ _ _ _ _ _ dJ9_max_7cf53_10 hB hP hD hS
  · have hB := hB.2 c1
    refine lv_iload_n hx hb dJ9_max_7cf53_5 rfl (lv_at hl 0 rfl) ?_
    refine lv_goto (tgt := 10) hx hb dJ9_max_7cf53_6 (by decide) ?_
    exact hret _ _ _ _ _ _ dJ9_max_7cf53_10 hB hP hD hS
set_option maxHeartbeats 4000000 in
set_option maxRecDepth 100000 in
theorem c_Math_max_7cf53_M (l : Launch) (G : GX) (z0 : St) (sz : Nat) (x0 : Int32) (x1 : Int32) (post : Int32 → St → Prop) : MetI l wM yJ9_max_7cf53 cJ9_max_7cf53 2 (some .int) ({ frames := 0, cells := 0, slots := 0, locals := 0 }) [.int x0, .int x1] G z0 sz (S_Math_max_7cf53_M post x0 x1 z0) post := by
  refine Met.ofWF (cc := cJ9_max_7cf53) (maxL := 2) (ret := (some .int)) (by decide +kernel) rfl ?_
  intro p e s m args below meth c s₁ B hml hv
  obtain ⟨rfl, hsz, hP, hD0, hE, hB⟩ := hv
  have S : CallFix p m c cJ9_max_7cf53 2 s _ GW RJ9 := ⟨B.exec, B.bytes, hml, findClass_of_methodNamed B.named, fun w h => atoms_spec (ws := Cond.code yJ9_max_7cf53 cJ9_max_7cf53 2 (some .int) :: GW) B.pre w (List.mem_cons_of_mem _ h)⟩
  have hlocks := B.notSynchronized
  subst hsz
  have hD := hD0.self (sz := s.heap.size)
  generalize hAe : va_A (wM G z0) s.heap.size = A at hD hE ⊢
  have hA : ∀ q : Nat, s.heap.size ≤ q → A q := fun q h => by rw [← hAe]; exact Or.inr h
  have hS : va_S A s.heap s.heap [] := va_S.rf
  have hl := lv_entry ([.int x0, .int x1]) (n := 2) (Nat.le_of_ble_eq_true rfl)
  rw [lg_entry_eq]
  generalize (lg_sl ([.int x0, .int x1]) ++ List.replicate (2 - (lg_sl ([.int x0, .int x1])).length) Slot.unset).toArray = ls at hl ⊢
  have hl : lv_has ls 2 [(0, .int x0), (1, .int x1)] := hl
  refine w_Math_max_7cf53_M_0 S hE hA (Nat.le_refl _) (Nat.le_refl _) ?_ x0 x1 z0 hB _ _ _ hP hD hS hl
  intro pc ls r σ H locs hd hp hP hD hS
  exact W.iret (v := r) B.exec B.bytes B.returns (fun t ht hW => ⟨⟨r, σ, rfl, hp, by rw [ht]; exact hP, hD⟩, hS.F ht⟩) hS.2.2 hd
def S_Math_min_7cf53_M (post : Int32 → St → Prop) (x0 : Int32) (x1 : Int32) (z0 : St) : Prop :=
  ((x1 < x0 → (post x1 z0)) ∧ (¬ x1 < x0 → (post x0 z0)))
set_option maxHeartbeats 4000000 in
set_option maxRecDepth 100000 in
theorem w_Math_min_7cf53_M_0 {p : Program} {l : Launch} {e : Env} {R : Room} {s : State} {m : MethodId} {args : Array Value} {below : List Frame} {meth : Method} {c : Code} {Q : State → Prop} {G : GX} {A : Nat → Prop} (S : CallFix p m c cJ9_min_7cf53 2 s args GW RJ9) (hE : env G A s s.heap) (hA : ∀ q, s.heap.size ≤ q → A q) (hRf : 0 ≤ R.frames) (hRl : 0 ≤ R.locals) {post : Int32 → St → Prop} (hret : RetI p l e R s m args below meth c Q 0 0 wM G A cJ9_min_7cf53 post) (x0 : Int32) (x1 : Int32) (z0 : St) (hB : S_Math_min_7cf53_M post x0 x1 z0) : Xw p l e R s m args below meth c Q 0 0 wM G A z0 2 [(0, .int x0), (1, .int x1)] 0 [] := by
  intro H locs ls hP hD hS hl
  have hx := S.1
  have hb := S.2.1
  refine lv_iload_n hx hb dJ9_min_7cf53_0 rfl (lv_at hl 0 rfl) ?_
  refine lv_iload_n hx hb dJ9_min_7cf53_1 rfl (lv_at hl 1 rfl) ?_
  refine lv_icmp_gt (tgt := 9) hx hb dJ9_min_7cf53_2 (by decide) (fun c1 => ?_) (fun c1 => ?_)
  · have hB := hB.1 c1
    refine lv_iload_n hx hb dJ9_min_7cf53_9 rfl (lv_at hl 1 rfl) ?_
    exact hret _ _ _ _ _ _ dJ9_min_7cf53_10 hB hP hD hS
  · have hB := hB.2 c1
    refine lv_iload_n hx hb dJ9_min_7cf53_5 rfl (lv_at hl 0 rfl) ?_
    refine lv_goto (tgt := 10) hx hb dJ9_min_7cf53_6 (by decide) ?_
    exact hret _ _ _ _ _ _ dJ9_min_7cf53_10 hB hP hD hS
set_option maxHeartbeats 4000000 in
set_option maxRecDepth 100000 in
theorem c_Math_min_7cf53_M (l : Launch) (G : GX) (z0 : St) (sz : Nat) (x0 : Int32) (x1 : Int32) (post : Int32 → St → Prop) : MetI l wM yJ9_min_7cf53 cJ9_min_7cf53 2 (some .int) ({ frames := 0, cells := 0, slots := 0, locals := 0 }) [.int x0, .int x1] G z0 sz (S_Math_min_7cf53_M post x0 x1 z0) post := by
  refine Met.ofWF (cc := cJ9_min_7cf53) (maxL := 2) (ret := (some .int)) (by decide +kernel) rfl ?_
  intro p e s m args below meth c s₁ B hml hv
  obtain ⟨rfl, hsz, hP, hD0, hE, hB⟩ := hv
  have S : CallFix p m c cJ9_min_7cf53 2 s _ GW RJ9 := ⟨B.exec, B.bytes, hml, findClass_of_methodNamed B.named, fun w h => atoms_spec (ws := Cond.code yJ9_min_7cf53 cJ9_min_7cf53 2 (some .int) :: GW) B.pre w (List.mem_cons_of_mem _ h)⟩
  have hlocks := B.notSynchronized
  subst hsz
  have hD := hD0.self (sz := s.heap.size)
  generalize hAe : va_A (wM G z0) s.heap.size = A at hD hE ⊢
  have hA : ∀ q : Nat, s.heap.size ≤ q → A q := fun q h => by rw [← hAe]; exact Or.inr h
  have hS : va_S A s.heap s.heap [] := va_S.rf
  have hl := lv_entry ([.int x0, .int x1]) (n := 2) (Nat.le_of_ble_eq_true rfl)
  rw [lg_entry_eq]
  generalize (lg_sl ([.int x0, .int x1]) ++ List.replicate (2 - (lg_sl ([.int x0, .int x1])).length) Slot.unset).toArray = ls at hl ⊢
  have hl : lv_has ls 2 [(0, .int x0), (1, .int x1)] := hl
  refine w_Math_min_7cf53_M_0 S hE hA (Nat.le_refl _) (Nat.le_refl _) ?_ x0 x1 z0 hB _ _ _ hP hD hS hl
  intro pc ls r σ H locs hd hp hP hD hS
  exact W.iret (v := r) B.exec B.bytes B.returns (fun t ht hW => ⟨⟨r, σ, rfl, hp, by rw [ht]; exact hP, hD⟩, hS.F ht⟩) hS.2.2 hd
def S_M_moodBy (post : Int32 → St → Prop) (x0 : Int32) (x1 : Int32) (z0 : St) : Prop :=
  ((x1 < (6 : Int32) → (((4 : Int32) ≤ x1 → (post x0 z0)) ∧ (¬ (4 : Int32) ≤ x1 → (S_Math_max_7cf53_M (fun (r3 : Int32) (z1 : St) => (post r3 z1)) (0 : Int32) (x0 - (1 : Int32)) z0)))) ∧ (¬ x1 < (6 : Int32) → (S_Math_min_7cf53_M (fun (r4 : Int32) (z2 : St) => (post r4 z2)) (9 : Int32) (x0 + (1 : Int32)) z0)))
set_option maxHeartbeats 4000000 in
set_option maxRecDepth 100000 in
theorem w_M_moodBy_0 {p : Program} {l : Launch} {e : Env} {R : Room} {s : State} {m : MethodId} {args : Array Value} {below : List Frame} {meth : Method} {c : Code} {Q : State → Prop} {G : GX} {A : Nat → Prop} (S : CallFix p m c cX12_moodBy 2 s args GW RX12) (hE : env G A s s.heap) (hA : ∀ q, s.heap.size ≤ q → A q) (hRf : 1 ≤ R.frames) (hRl : 21 ≤ R.locals) {post : Int32 → St → Prop} (hret : RetI p l e R s m args below meth c Q 0 0 wM G A cX12_moodBy post) (x0 : Int32) (x1 : Int32) (z0 : St) (hB : S_M_moodBy post x0 x1 z0) : Xw p l e R s m args below meth c Q 0 0 wM G A z0 2 [(0, .int x0), (1, .int x1)] 0 [] := by
  intro H locs ls hP hD hS hl
  have hx := S.1
  have hb := S.2.1
  refine lv_iload_n hx hb dX12_moodBy_0 rfl (lv_at hl 1 rfl) ?_
  refine lv_bipush (v := 6) hx hb dX12_moodBy_1 (by decide) ?_
  refine lv_icmp_lt (tgt := 17) hx hb dX12_moodBy_3 (by decide) (fun c1 => ?_) (fun c1 => ?_)
  · have hB := hB.1 c1
    refine lv_iload_n hx hb dX12_moodBy_17 rfl (lv_at hl 1 rfl) ?_
    refine lv_iconst (v := 4) hx hb dX12_moodBy_18 (by decide) ?_
    refine lv_icmp_ge (tgt := 32) hx hb dX12_moodBy_19 (by decide) (fun c2 => ?_) (fun c2 => ?_)
    · have hB := hB.1 c2
      refine lv_iload_n hx hb dX12_moodBy_32 rfl (lv_at hl 0 rfl) ?_
      exact hret _ _ _ _ _ _ dX12_moodBy_33 hB hP hD hS
    · have hB := hB.2 c2
      refine lv_iconst (v := 0) hx hb dX12_moodBy_22 (by decide) ?_
      refine lv_iload_n hx hb dX12_moodBy_23 rfl (lv_at hl 0 rfl) ?_
      refine lv_iconst (v := 1) hx hb dX12_moodBy_24 (by decide) ?_
      refine lv_isub hx hb dX12_moodBy_25 ?_
      refine xcSi [.int (0 : Int32), .int (x0 - (1 : Int32))] S hE hA hP hD hS (c_Math_max_7cf53_M l G z0 H.size (0 : Int32) (x0 - (1 : Int32)) _) hB (gw_c lk_X12_301 (gw_c wt_J9_max_7cf53 (gw_c wn_J9 (gw_c wc_J9_max_7cf53 (fun _ h9 => h9))))) hs_J9_max_7cf53 rfl rfl (Nat.le_trans (Nat.le_of_ble_eq_true rfl) hRf) (Nat.le_trans (Nat.le_of_ble_eq_true rfl) hRl) ⟨Nat.zero_le _, Nat.zero_le _⟩ rfl hl.1 rfl (Nat.le_of_ble_eq_true rfl) dX12_moodBy_26 (fun r3 z1 H locs hB hP hD hS => ?_)
      refine lv_goto (tgt := 33) hx hb dX12_moodBy_29 (by decide) ?_
      exact hret _ _ _ _ _ _ dX12_moodBy_33 hB hP hD hS
  · have hB := hB.2 c1
    refine lv_bipush (v := 9) hx hb dX12_moodBy_6 (by decide) ?_
    refine lv_iload_n hx hb dX12_moodBy_8 rfl (lv_at hl 0 rfl) ?_
    refine lv_iconst (v := 1) hx hb dX12_moodBy_9 (by decide) ?_
    refine lv_iadd hx hb dX12_moodBy_10 ?_
    refine xcSi [.int (9 : Int32), .int (x0 + (1 : Int32))] S hE hA hP hD hS (c_Math_min_7cf53_M l G z0 H.size (9 : Int32) (x0 + (1 : Int32)) _) hB (gw_c lk_X12_299 (gw_c wt_J9_min_7cf53 (gw_c wn_J9 (gw_c wc_J9_min_7cf53 (fun _ h9 => h9))))) hs_J9_min_7cf53 rfl rfl (Nat.le_trans (Nat.le_of_ble_eq_true rfl) hRf) (Nat.le_trans (Nat.le_of_ble_eq_true rfl) hRl) ⟨Nat.zero_le _, Nat.zero_le _⟩ rfl hl.1 rfl (Nat.le_of_ble_eq_true rfl) dX12_moodBy_11 (fun r4 z2 H locs hB hP hD hS => ?_)
    refine lv_goto (tgt := 33) hx hb dX12_moodBy_14 (by decide) ?_
    exact hret _ _ _ _ _ _ dX12_moodBy_33 hB hP hD hS
set_option maxHeartbeats 4000000 in
set_option maxRecDepth 100000 in
theorem c_M_moodBy (l : Launch) (G : GX) (z0 : St) (sz : Nat) (x0 : Int32) (x1 : Int32) (post : Int32 → St → Prop) : MetI l wM yX12_moodBy cX12_moodBy 2 (some .int) ({ frames := 1, cells := 0, slots := 0, locals := 21 }) [.int x0, .int x1] G z0 sz (S_M_moodBy post x0 x1 z0) post := by
  refine Met.ofW (cc := cX12_moodBy) (maxL := 2) (ret := (some .int)) (by decide) rfl ?_
  intro p e s m args below meth c s₁ B hml hv
  obtain ⟨rfl, hsz, hP, hD0, hE, hB⟩ := hv
  have S : CallFix p m c cX12_moodBy 2 s _ GW RX12 := ⟨B.exec, B.bytes, hml, findClass_of_methodNamed B.named, fun w h => atoms_spec (ws := Cond.code yX12_moodBy cX12_moodBy 2 (some .int) :: GW) B.pre w (List.mem_cons_of_mem _ h)⟩
  have hlocks := B.notSynchronized
  subst hsz
  have hD := hD0.self (sz := s.heap.size)
  generalize hAe : va_A (wM G z0) s.heap.size = A at hD hE ⊢
  have hA : ∀ q : Nat, s.heap.size ≤ q → A q := fun q h => by rw [← hAe]; exact Or.inr h
  have hS : va_S A s.heap s.heap [] := va_S.rf
  have hl := lv_entry ([.int x0, .int x1]) (n := 2) (Nat.le_of_ble_eq_true rfl)
  rw [lg_entry_eq]
  generalize (lg_sl ([.int x0, .int x1]) ++ List.replicate (2 - (lg_sl ([.int x0, .int x1])).length) Slot.unset).toArray = ls at hl ⊢
  have hl : lv_has ls 2 [(0, .int x0), (1, .int x1)] := hl
  refine w_M_moodBy_0 S hE hA (Nat.le_refl _) (Nat.le_refl _) ?_ x0 x1 z0 hB _ _ _ hP hD hS hl
  intro pc ls r σ H locs hd hp hP hD hS
  exact W.iret (v := r) B.exec B.bytes B.returns (fun t ht hW => ⟨⟨r, σ, rfl, hp, by rw [ht]; exact hP, hD⟩, hS.F ht⟩) hS.2.2 hd
def S_Math_abs_0f7a4_M (post : Int32 → St → Prop) (x0 : Int32) (z0 : St) : Prop :=
  ((0 ≤ x0 → (post x0 z0)) ∧ (¬ 0 ≤ x0 → (post (-x0) z0)))
set_option maxHeartbeats 4000000 in
set_option maxRecDepth 100000 in
theorem w_Math_abs_0f7a4_M_0 {p : Program} {l : Launch} {e : Env} {R : Room} {s : State} {m : MethodId} {args : Array Value} {below : List Frame} {meth : Method} {c : Code} {Q : State → Prop} {G : GX} {A : Nat → Prop} (S : CallFix p m c cJ9_abs_0f7a4 1 s args GW RJ9) (hE : env G A s s.heap) (hA : ∀ q, s.heap.size ≤ q → A q) (hRf : 0 ≤ R.frames) (hRl : 0 ≤ R.locals) {post : Int32 → St → Prop} (hret : RetI p l e R s m args below meth c Q 0 0 wM G A cJ9_abs_0f7a4 post) (x0 : Int32) (z0 : St) (hB : S_Math_abs_0f7a4_M post x0 z0) : Xw p l e R s m args below meth c Q 0 0 wM G A z0 1 [(0, .int x0)] 0 [] := by
  intro H locs ls hP hD hS hl
  have hx := S.1
  have hb := S.2.1
  refine lv_iload_n hx hb dJ9_abs_0f7a4_0 rfl (lv_at hl 0 rfl) ?_
  refine lv_if_ge (tgt := 9) hx hb dJ9_abs_0f7a4_1 (by decide) (fun c1 => ?_) (fun c1 => ?_)
  · have hB := hB.1 c1
    refine lv_iload_n hx hb dJ9_abs_0f7a4_9 rfl (lv_at hl 0 rfl) ?_
    exact hret _ _ _ _ _ _ dJ9_abs_0f7a4_10 hB hP hD hS
  · have hB := hB.2 c1
    refine lv_iload_n hx hb dJ9_abs_0f7a4_4 rfl (lv_at hl 0 rfl) ?_
    refine lv_ineg hx hb dJ9_abs_0f7a4_5 ?_
    refine lv_goto (tgt := 10) hx hb dJ9_abs_0f7a4_6 (by decide) ?_
    exact hret _ _ _ _ _ _ dJ9_abs_0f7a4_10 hB hP hD hS
set_option maxHeartbeats 4000000 in
set_option maxRecDepth 100000 in
theorem c_Math_abs_0f7a4_M (l : Launch) (G : GX) (z0 : St) (sz : Nat) (x0 : Int32) (post : Int32 → St → Prop) : MetI l wM yJ9_abs_0f7a4 cJ9_abs_0f7a4 1 (some .int) ({ frames := 0, cells := 0, slots := 0, locals := 0 }) [.int x0] G z0 sz (S_Math_abs_0f7a4_M post x0 z0) post := by
  refine Met.ofWF (cc := cJ9_abs_0f7a4) (maxL := 1) (ret := (some .int)) (by decide +kernel) rfl ?_
  intro p e s m args below meth c s₁ B hml hv
  obtain ⟨rfl, hsz, hP, hD0, hE, hB⟩ := hv
  have S : CallFix p m c cJ9_abs_0f7a4 1 s _ GW RJ9 := ⟨B.exec, B.bytes, hml, findClass_of_methodNamed B.named, fun w h => atoms_spec (ws := Cond.code yJ9_abs_0f7a4 cJ9_abs_0f7a4 1 (some .int) :: GW) B.pre w (List.mem_cons_of_mem _ h)⟩
  have hlocks := B.notSynchronized
  subst hsz
  have hD := hD0.self (sz := s.heap.size)
  generalize hAe : va_A (wM G z0) s.heap.size = A at hD hE ⊢
  have hA : ∀ q : Nat, s.heap.size ≤ q → A q := fun q h => by rw [← hAe]; exact Or.inr h
  have hS : va_S A s.heap s.heap [] := va_S.rf
  have hl := lv_entry ([.int x0]) (n := 1) (Nat.le_of_ble_eq_true rfl)
  rw [lg_entry_eq]
  generalize (lg_sl ([.int x0]) ++ List.replicate (1 - (lg_sl ([.int x0])).length) Slot.unset).toArray = ls at hl ⊢
  have hl : lv_has ls 1 [(0, .int x0)] := hl
  refine w_Math_abs_0f7a4_M_0 S hE hA (Nat.le_refl _) (Nat.le_refl _) ?_ x0 z0 hB _ _ _ hP hD hS hl
  intro pc ls r σ H locs hd hp hP hD hS
  exact W.iret (v := r) B.exec B.bytes B.returns (fun t ht hW => ⟨⟨r, σ, rfl, hp, by rw [ht]; exact hP, hD⟩, hS.F ht⟩) hS.2.2 hd
def S_M_starts_r102 (post : St → Prop) (x2 : Int32) (x3 : Int32) (z0 : St) : Prop :=
  (∀ z1 : St, z1 = sT z0 1 102 → (∀ z2 : St, z2 = sI z1 103 x2 → (∀ z3 : St, z3 = sI z2 104 x3 → (∀ z4 : St, z4 = sI z3 105 (0 : Int32) → (∀ z5 : St, z5 = sI z4 106 (-1 : Int32) → (post z5))))))
set_option maxHeartbeats 4000000 in
set_option maxRecDepth 100000 in
theorem w_M_starts_r102_0 {p : Program} {l : Launch} {e : Env} {R : Room} {s : State} {m : MethodId} {args : Array Value} {below : List Frame} {meth : Method} {c : Code} {Q : State → Prop} {G : GX} {A : Nat → Prop} (S : CallFix p m c cX12_starts 4 s args GW RX12) (hE : env G A s s.heap) (hA : ∀ q, s.heap.size ≤ q → A q) (hRf : 0 ≤ R.frames) (hRl : 0 ≤ R.locals) {post : St → Prop} (hret : RetV p l e R s m args below meth c Q 0 0 wM G A cX12_starts post) (x2 : Int32) (x3 : Int32) (z0 : St) (hB : S_M_starts_r102 post x2 x3 z0) : Xw p l e R s m args below meth c Q 0 0 wM G A z0 4 [(0, .ref (ad G 100)), (1, .ref (ad G 102)), (2, .int x2), (3, .int x3)] 0 [] := by
  intro H locs ls hP hD hS hl
  have hx := S.1
  have hb := S.2.1
  refine lv_aload_n hx hb dX12_starts_0 rfl (lv_at hl 0 rfl) ?_
  refine lv_aload_n hx hb dX12_starts_1 rfl (lv_at hl 1 rfl) ?_
  obtain ⟨z1, ez1⟩ : ∃ z9, z9 = sT z0 1 102 := ⟨_, rfl⟩
  have hB := hB z1 ez1
  refine xMp_100_text S hE hP hD hS lk_X12_23 dX12_starts_2 (fun H locs hP hD hS => ?_)
  rw [← ez1] at hP hD
  refine lv_aload_n hx hb dX12_starts_5 rfl (lv_at hl 0 rfl) ?_
  refine lv_iload_n hx hb dX12_starts_6 rfl (lv_at hl 2 rfl) ?_
  obtain ⟨z2, ez2⟩ : ∃ z9, z9 = sI z1 103 x2 := ⟨_, rfl⟩
  have hB := hB z2 ez2
  refine xMp_100_begins S hE hP hD hS lk_X12_118 dX12_starts_7 (fun H locs hP hD hS => ?_)
  rw [← ez2] at hP hD
  refine lv_aload_n hx hb dX12_starts_10 rfl (lv_at hl 0 rfl) ?_
  refine lv_iload_n hx hb dX12_starts_11 rfl (lv_at hl 3 rfl) ?_
  obtain ⟨z3, ez3⟩ : ∃ z9, z9 = sI z2 104 x3 := ⟨_, rfl⟩
  have hB := hB z3 ez3
  refine xMp_100_ends S hE hP hD hS lk_X12_115 dX12_starts_12 (fun H locs hP hD hS => ?_)
  rw [← ez3] at hP hD
  refine lv_aload_n hx hb dX12_starts_15 rfl (lv_at hl 0 rfl) ?_
  refine lv_iconst (v := 0) hx hb dX12_starts_16 (by decide) ?_
  obtain ⟨z4, ez4⟩ : ∃ z9, z9 = sI z3 105 (0 : Int32) := ⟨_, rfl⟩
  have hB := hB z4 ez4
  refine xMp_100_at S hE hP hD hS lk_X12_112 dX12_starts_17 (fun H locs hP hD hS => ?_)
  rw [← ez4] at hP hD
  refine lv_aload_n hx hb dX12_starts_20 rfl (lv_at hl 0 rfl) ?_
  refine lv_iconst (v := -1) hx hb dX12_starts_21 (by decide) ?_
  obtain ⟨z5, ez5⟩ : ∃ z9, z9 = sI z4 106 (-1 : Int32) := ⟨_, rfl⟩
  have hB := hB z5 ez5
  refine xMp_100_fault S hE hP hD hS lk_X12_121 dX12_starts_22 (fun H locs hP hD hS => ?_)
  rw [← ez5] at hP hD
  exact hret _ _ _ _ _ dX12_starts_25 hB hP hD hS
set_option maxHeartbeats 4000000 in
set_option maxRecDepth 100000 in
theorem c_M_starts_r102 (l : Launch) (G : GX) (z0 : St) (sz : Nat) (x2 : Int32) (x3 : Int32) (post : St → Prop) : MetV l wM yX12_starts cX12_starts 4 none ({ frames := 0, cells := 0, slots := 0, locals := 0 }) [.ref (ad G 100), .ref (ad G 102), .int x2, .int x3] G z0 sz (S_M_starts_r102 post x2 x3 z0) post := by
  refine Met.ofW (cc := cX12_starts) (maxL := 4) (ret := none) (by decide) rfl ?_
  intro p e s m args below meth c s₁ B hml hv
  obtain ⟨rfl, hsz, hP, hD0, hE, hB⟩ := hv
  have S : CallFix p m c cX12_starts 4 s _ GW RX12 := ⟨B.exec, B.bytes, hml, findClass_of_methodNamed B.named, fun w h => atoms_spec (ws := Cond.code yX12_starts cX12_starts 4 none :: GW) B.pre w (List.mem_cons_of_mem _ h)⟩
  have hlocks := B.notSynchronized
  subst hsz
  have hD := hD0.self (sz := s.heap.size)
  generalize hAe : va_A (wM G z0) s.heap.size = A at hD hE ⊢
  have hA : ∀ q : Nat, s.heap.size ≤ q → A q := fun q h => by rw [← hAe]; exact Or.inr h
  have hS : va_S A s.heap s.heap [] := va_S.rf
  have hl := lv_entry ([.ref (ad G 100), .ref (ad G 102), .int x2, .int x3]) (n := 4) (Nat.le_of_ble_eq_true rfl)
  rw [lg_entry_eq]
  generalize (lg_sl ([.ref (ad G 100), .ref (ad G 102), .int x2, .int x3]) ++ List.replicate (4 - (lg_sl ([.ref (ad G 100), .ref (ad G 102), .int x2, .int x3])).length) Slot.unset).toArray = ls at hl ⊢
  have hl : lv_has ls 4 [(0, .ref (ad G 100)), (1, .ref (ad G 102)), (2, .int x2), (3, .int x3)] := hl
  refine w_M_starts_r102_0 S hE hA (Nat.le_refl _) (Nat.le_refl _) ?_ x2 x3 z0 hB _ _ _ hP hD hS hl
  intro pc ls σ H locs hd hp hP hD hS
  exact W.vret B.exec B.bytes B.returns (fun t ht hW => ⟨⟨σ, rfl, hp, by rw [ht]; exact hP, hD⟩, hS.F ht⟩) hS.2.2 hd
def B_M_goThrough_r102_66 (post : St → Prop) (z0 : St) : Prop :=
  (((gI z0 106) = (-1 : Int32) → (S_M_look (fun (r2 : Int32) (z1 : St) => ((r2 = (-1 : Int32) → (post z1)) ∧ (¬ r2 = (-1 : Int32) → (S_M_fails (fun (r4 : Int32) (z2 : St) => (post z2)) z1)))) z0)) ∧ (¬ (gI z0 106) = (-1 : Int32) → (post z0)))
set_option maxHeartbeats 4000000 in
set_option maxRecDepth 100000 in
theorem w_M_goThrough_r102_66 {p : Program} {l : Launch} {e : Env} {R : Room} {s : State} {m : MethodId} {args : Array Value} {below : List Frame} {meth : Method} {c : Code} {Q : State → Prop} {G : GX} {A : Nat → Prop} (S : CallFix p m c cX12_goThrough 4 s args GW RX12) (hE : env G A s s.heap) (hA : ∀ q, s.heap.size ≤ q → A q) (hRf : 59 ≤ R.frames) (hRl : 1668 ≤ R.locals) {post : St → Prop} (hret : RetV p l e R s m args below meth c Q 0 0 wM G A cX12_goThrough post) (z0 : St) (hB : B_M_goThrough_r102_66 post z0) : Xw p l e R s m args below meth c Q 0 0 wM G A z0 4 [(0, .ref (ad G 100))] 66 [] := by
  intro H locs ls hP hD hS hl
  have hx := S.1
  have hb := S.2.1
  refine lv_aload_n hx hb dX12_goThrough_66 rfl (lv_at hl 0 rfl) ?_
  refine xMg_100_fault S hE hP lk_X12_121 dX12_goThrough_67 ?_
  refine lv_iconst (v := -1) hx hb dX12_goThrough_70 (by decide) ?_
  refine lv_icmp_ne (tgt := 87) hx hb dX12_goThrough_71 (by decide) (fun c1 => ?_) (fun c1 => ?_)
  · have hB := hB.2 c1
    exact hret _ _ _ _ _ dX12_goThrough_87 hB hP hD hS
  · have hB := hB.1 c1
    refine lv_aload_n hx hb dX12_goThrough_74 rfl (lv_at hl 0 rfl) ?_
    refine xcVi [] S hE hA hP hD hS (c_M_look l G z0 H.size _) hB (gw_c lk_X12_131 (gw_c wi_X12_look (gw_c we_X12_X12_look_X12_look (gw_c wn_X12 (gw_c wc_X12_look (fun _ h9 => h9)))))) hd_X12_look rfl rfl (Nat.le_trans (Nat.le_of_ble_eq_true rfl) hRf) (Nat.le_trans (Nat.le_of_ble_eq_true rfl) hRl) ⟨Nat.zero_le _, Nat.zero_le _⟩ (va_recv hE.1 hP (ci := 11) (q0 := 0) rfl rfl) rfl hl.1 rfl (Nat.le_of_ble_eq_true rfl) dX12_goThrough_75 (fun r2 z1 H locs hB hP hD hS => ?_)
    refine lv_iconst (v := -1) hx hb dX12_goThrough_78 (by decide) ?_
    refine lv_icmp_eq (tgt := 87) hx hb dX12_goThrough_79 (by decide) (fun c3 => ?_) (fun c3 => ?_)
    · have hB := hB.1 c3
      exact hret _ _ _ _ _ dX12_goThrough_87 hB hP hD hS
    · have hB := hB.2 c3
      refine lv_aload_n hx hb dX12_goThrough_82 rfl (lv_at hl 0 rfl) ?_
      refine xcVi [] S hE hA hP hD hS (c_M_fails l G z1 H.size _) hB (gw_c lk_X12_127 (gw_c wi_X12_fails (gw_c we_X12_X12_fails_X12_fails (gw_c wn_X12 (gw_c wc_X12_fails (fun _ h9 => h9)))))) hd_X12_fails rfl rfl (Nat.le_trans (Nat.le_of_ble_eq_true rfl) hRf) (Nat.le_trans (Nat.le_of_ble_eq_true rfl) hRl) ⟨Nat.zero_le _, Nat.zero_le _⟩ (va_recv hE.1 hP (ci := 11) (q0 := 0) rfl rfl) rfl hl.1 rfl (Nat.le_of_ble_eq_true rfl) dX12_goThrough_83 (fun r4 z2 H locs hB hP hD hS => ?_)
      refine lv_pop hx hb dX12_goThrough_86 rfl ?_
      exact hret _ _ _ _ _ dX12_goThrough_87 hB hP hD hS
def B_M_goThrough_r102_32 (post : St → Prop) (ih32 : St → Prop) (z0 : St) : Prop :=
  (((gI z0 106) = (-1 : Int32) → (S_M_look (fun (r2 : Int32) (z1 : St) => ((r2 = (59 : Int32) → (∀ z2 : St, z2 = sI z1 105 ((gI z1 105) + (1 : Int32)) → (S_M_clause (fun (z3 : St) => (ih32 z3)) z2))) ∧ (¬ r2 = (59 : Int32) → (B_M_goThrough_r102_66 post z1)))) z0)) ∧ (¬ (gI z0 106) = (-1 : Int32) → (B_M_goThrough_r102_66 post z0)))
set_option maxHeartbeats 4000000 in
set_option maxRecDepth 100000 in
theorem w_M_goThrough_r102_32 {p : Program} {l : Launch} {e : Env} {R : Room} {s : State} {m : MethodId} {args : Array Value} {below : List Frame} {meth : Method} {c : Code} {Q : State → Prop} {G : GX} {A : Nat → Prop} (S : CallFix p m c cX12_goThrough 4 s args GW RX12) (hE : env G A s s.heap) (hA : ∀ q, s.heap.size ≤ q → A q) (hRf : 59 ≤ R.frames) (hRl : 1668 ≤ R.locals) {post : St → Prop} (hret : RetV p l e R s m args below meth c Q 0 0 wM G A cX12_goThrough post) {ih32 : St → Prop} (h32 : ∀ (z0 : St), ih32 z0 → Xw p l e R s m args below meth c Q 0 0 wM G A z0 4 [(0, .ref (ad G 100))] 32 []) (z0 : St) (hB : B_M_goThrough_r102_32 post ih32 z0) : Xw p l e R s m args below meth c Q 0 0 wM G A z0 4 [(0, .ref (ad G 100))] 32 [] := by
  intro H locs ls hP hD hS hl
  have hx := S.1
  have hb := S.2.1
  refine lv_aload_n hx hb dX12_goThrough_32 rfl (lv_at hl 0 rfl) ?_
  refine xMg_100_fault S hE hP lk_X12_121 dX12_goThrough_33 ?_
  refine lv_iconst (v := -1) hx hb dX12_goThrough_36 (by decide) ?_
  refine lv_icmp_ne (tgt := 66) hx hb dX12_goThrough_37 (by decide) (fun c1 => ?_) (fun c1 => ?_)
  · have hB := hB.2 c1
    exact w_M_goThrough_r102_66 S hE hA hRf hRl hret z0 hB _ _ _ hP hD hS (lv_sub hl [0] rfl)
  · have hB := hB.1 c1
    refine lv_aload_n hx hb dX12_goThrough_40 rfl (lv_at hl 0 rfl) ?_
    refine xcVi [] S hE hA hP hD hS (c_M_look l G z0 H.size _) hB (gw_c lk_X12_131 (gw_c wi_X12_look (gw_c we_X12_X12_look_X12_look (gw_c wn_X12 (gw_c wc_X12_look (fun _ h9 => h9)))))) hd_X12_look rfl rfl (Nat.le_trans (Nat.le_of_ble_eq_true rfl) hRf) (Nat.le_trans (Nat.le_of_ble_eq_true rfl) hRl) ⟨Nat.zero_le _, Nat.zero_le _⟩ (va_recv hE.1 hP (ci := 11) (q0 := 0) rfl rfl) rfl hl.1 rfl (Nat.le_of_ble_eq_true rfl) dX12_goThrough_41 (fun r2 z1 H locs hB hP hD hS => ?_)
    refine lv_bipush (v := 59) hx hb dX12_goThrough_44 (by decide) ?_
    refine lv_icmp_ne (tgt := 66) hx hb dX12_goThrough_46 (by decide) (fun c3 => ?_) (fun c3 => ?_)
    · have hB := hB.2 c3
      exact w_M_goThrough_r102_66 S hE hA hRf hRl hret z1 hB _ _ _ hP hD hS (lv_sub hl [0] rfl)
    · have hB := hB.1 c3
      refine lv_aload_n hx hb dX12_goThrough_49 rfl (lv_at hl 0 rfl) ?_
      refine lv_dup hx hb dX12_goThrough_50 rfl ?_
      refine xMg_100_at S hE hP lk_X12_112 dX12_goThrough_51 ?_
      refine lv_iconst (v := 1) hx hb dX12_goThrough_54 (by decide) ?_
      refine lv_iadd hx hb dX12_goThrough_55 ?_
      obtain ⟨z2, ez2⟩ : ∃ z9, z9 = sI z1 105 ((gI z1 105) + (1 : Int32)) := ⟨_, rfl⟩
      have hB := hB z2 ez2
      refine xMp_100_at S hE hP hD hS lk_X12_112 dX12_goThrough_56 (fun H locs hP hD hS => ?_)
      rw [← ez2] at hP hD
      refine lv_aload_n hx hb dX12_goThrough_59 rfl (lv_at hl 0 rfl) ?_
      refine xcVv [] S hE hA hP hD hS (c_M_clause l G z2 H.size _) hB (gw_c lk_X12_204 (gw_c wi_X12_clause (gw_c we_X12_X12_clause_X12_clause (gw_c wn_X12 (gw_c wc_X12_clause (fun _ h9 => h9)))))) hd_X12_clause rfl rfl (Nat.le_trans (Nat.le_of_ble_eq_true rfl) hRf) (Nat.le_trans (Nat.le_of_ble_eq_true rfl) hRl) ⟨Nat.zero_le _, Nat.zero_le _⟩ (va_recv hE.1 hP (ci := 11) (q0 := 0) rfl rfl) rfl hl.1 rfl (Nat.le_of_ble_eq_true rfl) dX12_goThrough_60 (fun z3 H locs hB hP hD hS => ?_)
      refine lv_goto (tgt := 32) hx hb dX12_goThrough_63 (by decide) ?_
      exact h32 z3 hB _ _ _ hP hD hS (lv_sub hl [0] rfl)
def L_M_goThrough_r102_32 (post : St → Prop) : Nat → St → Prop
  | 0 => fun _ => False
  | n + 1 => B_M_goThrough_r102_32 post (L_M_goThrough_r102_32 post n)
theorem wl_M_goThrough_r102_32 {p : Program} {l : Launch} {e : Env} {R : Room} {s : State} {m : MethodId} {args : Array Value} {below : List Frame} {meth : Method} {c : Code} {Q : State → Prop} {G : GX} {A : Nat → Prop} (S : CallFix p m c cX12_goThrough 4 s args GW RX12) (hE : env G A s s.heap) (hA : ∀ q, s.heap.size ≤ q → A q) (hRf : 59 ≤ R.frames) (hRl : 1668 ≤ R.locals) {post : St → Prop} (hret : RetV p l e R s m args below meth c Q 0 0 wM G A cX12_goThrough post) : ∀ (n : Nat) (z0 : St), L_M_goThrough_r102_32 post n z0 → Xw p l e R s m args below meth c Q 0 0 wM G A z0 4 [(0, .ref (ad G 100))] 32 [] := by
  intro n
  induction n with
  | zero => intro z0 hB; exact absurd hB id
  | succ n ih => exact fun z0 hB => w_M_goThrough_r102_32 S hE hA hRf hRl hret ih z0 hB
def S_M_goThrough_r102 (post : St → Prop) (x2 : Int32) (x3 : Int32) (z0 : St) : Prop :=
  (S_M_starts_r102 (fun (z1 : St) => (∀ z2 : St, z2 = sI z1 108 (121 : Int32) → (∀ z3 : St, z3 = sI z2 107 (0 : Int32) → (∀ z4 : St, z4 = sI z3 110 (0 : Int32) → (∀ z5 : St, z5 = sI z4 109 (0 : Int32) → (S_M_clause (fun (z6 : St) => (∃ n1, L_M_goThrough_r102_32 post n1 z6)) z5)))))) x2 x3 z0)
set_option maxHeartbeats 4000000 in
set_option maxRecDepth 100000 in
theorem w_M_goThrough_r102_0 {p : Program} {l : Launch} {e : Env} {R : Room} {s : State} {m : MethodId} {args : Array Value} {below : List Frame} {meth : Method} {c : Code} {Q : State → Prop} {G : GX} {A : Nat → Prop} (S : CallFix p m c cX12_goThrough 4 s args GW RX12) (hE : env G A s s.heap) (hA : ∀ q, s.heap.size ≤ q → A q) (hRf : 59 ≤ R.frames) (hRl : 1668 ≤ R.locals) {post : St → Prop} (hret : RetV p l e R s m args below meth c Q 0 0 wM G A cX12_goThrough post) (x2 : Int32) (x3 : Int32) (z0 : St) (hB : S_M_goThrough_r102 post x2 x3 z0) : Xw p l e R s m args below meth c Q 0 0 wM G A z0 4 [(0, .ref (ad G 100)), (1, .ref (ad G 102)), (2, .int x2), (3, .int x3)] 0 [] := by
  intro H locs ls hP hD hS hl
  have hx := S.1
  have hb := S.2.1
  refine lv_aload_n hx hb dX12_goThrough_0 rfl (lv_at hl 0 rfl) ?_
  refine lv_aload_n hx hb dX12_goThrough_1 rfl (lv_at hl 1 rfl) ?_
  refine lv_iload_n hx hb dX12_goThrough_2 rfl (lv_at hl 2 rfl) ?_
  refine lv_iload_n hx hb dX12_goThrough_3 rfl (lv_at hl 3 rfl) ?_
  refine xcVv [.ref (ad G 102), .int x2, .int x3] S hE hA hP hD hS (c_M_starts_r102 l G z0 H.size x2 x3 _) hB (gw_c lk_X12_200 (gw_c wi_X12_starts (gw_c we_X12_X12_starts_X12_starts (gw_c wn_X12 (gw_c wc_X12_starts (fun _ h9 => h9)))))) hd_X12_starts rfl rfl (Nat.le_trans (Nat.le_of_ble_eq_true rfl) hRf) (Nat.le_trans (Nat.le_of_ble_eq_true rfl) hRl) ⟨Nat.zero_le _, Nat.zero_le _⟩ (va_recv hE.1 hP (ci := 11) (q0 := 0) rfl rfl) rfl hl.1 rfl (Nat.le_of_ble_eq_true rfl) dX12_goThrough_4 (fun z1 H locs hB hP hD hS => ?_)
  refine lv_aload_n hx hb dX12_goThrough_7 rfl (lv_at hl 0 rfl) ?_
  refine lv_bipush (v := 121) hx hb dX12_goThrough_8 (by decide) ?_
  obtain ⟨z2, ez2⟩ : ∃ z9, z9 = sI z1 108 (121 : Int32) := ⟨_, rfl⟩
  have hB := hB z2 ez2
  refine xMp_100_label S hE hP hD hS lk_X12_194 dX12_goThrough_10 (fun H locs hP hD hS => ?_)
  rw [← ez2] at hP hD
  refine lv_aload_n hx hb dX12_goThrough_13 rfl (lv_at hl 0 rfl) ?_
  refine lv_iconst (v := 0) hx hb dX12_goThrough_14 (by decide) ?_
  obtain ⟨z3, ez3⟩ : ∃ z9, z9 = sI z2 107 (0 : Int32) := ⟨_, rfl⟩
  have hB := hB z3 ez3
  refine xMp_100_deep S hE hP hD hS lk_X12_124 dX12_goThrough_15 (fun H locs hP hD hS => ?_)
  rw [← ez3] at hP hD
  refine lv_aload_n hx hb dX12_goThrough_18 rfl (lv_at hl 0 rfl) ?_
  refine lv_iconst (v := 0) hx hb dX12_goThrough_19 (by decide) ?_
  obtain ⟨z4, ez4⟩ : ∃ z9, z9 = sI z3 110 (0 : Int32) := ⟨_, rfl⟩
  have hB := hB z4 ez4
  refine xMp_100_hasFound S hE hP hD hS lk_X12_190 (by decide) dX12_goThrough_20 (fun H locs hP hD hS => ?_)
  rw [← ez4] at hP hD
  refine lv_aload_n hx hb dX12_goThrough_23 rfl (lv_at hl 0 rfl) ?_
  refine lv_iconst (v := 0) hx hb dX12_goThrough_24 (by decide) ?_
  obtain ⟨z5, ez5⟩ : ∃ z9, z9 = sI z4 109 (0 : Int32) := ⟨_, rfl⟩
  have hB := hB z5 ez5
  refine xMp_100_found S hE hP hD hS lk_X12_197 dX12_goThrough_25 (fun H locs hP hD hS => ?_)
  rw [← ez5] at hP hD
  refine lv_aload_n hx hb dX12_goThrough_28 rfl (lv_at hl 0 rfl) ?_
  refine xcVv [] S hE hA hP hD hS (c_M_clause l G z5 H.size _) hB (gw_c lk_X12_204 (gw_c wi_X12_clause (gw_c we_X12_X12_clause_X12_clause (gw_c wn_X12 (gw_c wc_X12_clause (fun _ h9 => h9)))))) hd_X12_clause rfl rfl (Nat.le_trans (Nat.le_of_ble_eq_true rfl) hRf) (Nat.le_trans (Nat.le_of_ble_eq_true rfl) hRl) ⟨Nat.zero_le _, Nat.zero_le _⟩ (va_recv hE.1 hP (ci := 11) (q0 := 0) rfl rfl) rfl hl.1 rfl (Nat.le_of_ble_eq_true rfl) dX12_goThrough_29 (fun z6 H locs hB hP hD hS => ?_)
  obtain ⟨n1, hB⟩ := hB
  exact wl_M_goThrough_r102_32 S hE hA hRf hRl hret n1 z6 hB _ _ _ hP hD hS (lv_sub hl [0] rfl)
set_option maxHeartbeats 4000000 in
set_option maxRecDepth 100000 in
theorem c_M_goThrough_r102 (l : Launch) (G : GX) (z0 : St) (sz : Nat) (x2 : Int32) (x3 : Int32) (post : St → Prop) : MetV l wM yX12_goThrough cX12_goThrough 4 none ({ frames := 59, cells := 0, slots := 0, locals := 1668 }) [.ref (ad G 100), .ref (ad G 102), .int x2, .int x3] G z0 sz (S_M_goThrough_r102 post x2 x3 z0) post := by
  refine Met.ofW (cc := cX12_goThrough) (maxL := 4) (ret := none) (by decide) rfl ?_
  intro p e s m args below meth c s₁ B hml hv
  obtain ⟨rfl, hsz, hP, hD0, hE, hB⟩ := hv
  have S : CallFix p m c cX12_goThrough 4 s _ GW RX12 := ⟨B.exec, B.bytes, hml, findClass_of_methodNamed B.named, fun w h => atoms_spec (ws := Cond.code yX12_goThrough cX12_goThrough 4 none :: GW) B.pre w (List.mem_cons_of_mem _ h)⟩
  have hlocks := B.notSynchronized
  subst hsz
  have hD := hD0.self (sz := s.heap.size)
  generalize hAe : va_A (wM G z0) s.heap.size = A at hD hE ⊢
  have hA : ∀ q : Nat, s.heap.size ≤ q → A q := fun q h => by rw [← hAe]; exact Or.inr h
  have hS : va_S A s.heap s.heap [] := va_S.rf
  have hl := lv_entry ([.ref (ad G 100), .ref (ad G 102), .int x2, .int x3]) (n := 4) (Nat.le_of_ble_eq_true rfl)
  rw [lg_entry_eq]
  generalize (lg_sl ([.ref (ad G 100), .ref (ad G 102), .int x2, .int x3]) ++ List.replicate (4 - (lg_sl ([.ref (ad G 100), .ref (ad G 102), .int x2, .int x3])).length) Slot.unset).toArray = ls at hl ⊢
  have hl : lv_has ls 4 [(0, .ref (ad G 100)), (1, .ref (ad G 102)), (2, .int x2), (3, .int x3)] := hl
  refine w_M_goThrough_r102_0 S hE hA (Nat.le_refl _) (Nat.le_refl _) ?_ x2 x3 z0 hB _ _ _ hP hD hS hl
  intro pc ls σ H locs hd hp hP hD hS
  exact W.vret B.exec B.bytes B.returns (fun t ht hW => ⟨⟨σ, rfl, hp, by rw [ht]; exact hP, hD⟩, hS.F ht⟩) hS.2.2 hd
def B_M_brings_r113_233 (post : Int32 → St → Prop) (ih141 : Int32 → Int32 → Int32 → Int32 → St → Prop) (x4 : Int32) (x7 : Int32) (x8 : Int32) (x9 : Int32) (z0 : St) : Prop :=
  (∀ v1 : Int32, v1 = x9 + (1 : Int32) → (ih141 x4 x7 x8 v1 z0))
set_option maxHeartbeats 4000000 in
set_option maxRecDepth 100000 in
theorem w_M_brings_r113_233 {p : Program} {l : Launch} {e : Env} {R : Room} {s : State} {m : MethodId} {args : Array Value} {below : List Frame} {meth : Method} {c : Code} {Q : State → Prop} {G : GX} {A : Nat → Prop} (S : CallFix p m c cX12_brings 11 s args GW RX12) (hE : env G A s s.heap) (hA : ∀ q, s.heap.size ≤ q → A q) (hRf : 60 ≤ R.frames) (hRl : 1691 ≤ R.locals) {post : Int32 → St → Prop} (hret : RetI p l e R s m args below meth c Q 0 0 wM G A cX12_brings post) {ih141 : Int32 → Int32 → Int32 → Int32 → St → Prop} (h141 : ∀ (x4 : Int32) (x7 : Int32) (x8 : Int32) (x9 : Int32) (z0 : St), ih141 x4 x7 x8 x9 z0 → Xw p l e R s m args below meth c Q 0 0 wM G A z0 11 [(0, .ref (ad G 100)), (1, .ref (ad G 113)), (4, .int x4), (7, .int x7), (8, .int x8), (9, .int x9)] 141 []) (x4 : Int32) (x7 : Int32) (x8 : Int32) (x9 : Int32) (z0 : St) (hB : B_M_brings_r113_233 post ih141 x4 x7 x8 x9 z0) : Xw p l e R s m args below meth c Q 0 0 wM G A z0 11 [(0, .ref (ad G 100)), (1, .ref (ad G 113)), (4, .int x4), (7, .int x7), (8, .int x8), (9, .int x9)] 233 [] := by
  intro H locs ls hP hD hS hl
  have hx := S.1
  have hb := S.2.1
  obtain ⟨v1, ev1⟩ : ∃ y9, y9 = x9 + (1 : Int32) := ⟨_, rfl⟩
  have hB := hB v1 ev1
  refine lv_iinc (v := v1) (lv' := [(9, .int v1), (0, .ref (ad G 100)), (1, .ref (ad G 113)), (4, .int x4), (7, .int x7), (8, .int x8)]) hx hb dX12_brings_233 hl (k := 5) rfl (by rw [ev1]; rfl) (by decide) rfl (fun ls hl => ?_)
  refine lv_goto (tgt := 141) hx hb dX12_brings_236 (by decide) ?_
  exact h141 x4 x7 x8 v1 z0 hB _ _ _ hP hD hS (lv_sub hl [1, 2, 3, 4, 5, 0] rfl)
def B_M_brings_r113_229 (post : Int32 → St → Prop) (ih141 : Int32 → Int32 → Int32 → Int32 → St → Prop) (x4 : Int32) (x7 : Int32) (x9 : Int32) (z0 : St) : Prop :=
  (B_M_brings_r113_233 post ih141 x4 x7 x9 x9 z0)
set_option maxHeartbeats 4000000 in
set_option maxRecDepth 100000 in
theorem w_M_brings_r113_229 {p : Program} {l : Launch} {e : Env} {R : Room} {s : State} {m : MethodId} {args : Array Value} {below : List Frame} {meth : Method} {c : Code} {Q : State → Prop} {G : GX} {A : Nat → Prop} (S : CallFix p m c cX12_brings 11 s args GW RX12) (hE : env G A s s.heap) (hA : ∀ q, s.heap.size ≤ q → A q) (hRf : 60 ≤ R.frames) (hRl : 1691 ≤ R.locals) {post : Int32 → St → Prop} (hret : RetI p l e R s m args below meth c Q 0 0 wM G A cX12_brings post) {ih141 : Int32 → Int32 → Int32 → Int32 → St → Prop} (h141 : ∀ (x4 : Int32) (x7 : Int32) (x8 : Int32) (x9 : Int32) (z0 : St), ih141 x4 x7 x8 x9 z0 → Xw p l e R s m args below meth c Q 0 0 wM G A z0 11 [(0, .ref (ad G 100)), (1, .ref (ad G 113)), (4, .int x4), (7, .int x7), (8, .int x8), (9, .int x9)] 141 []) (x4 : Int32) (x7 : Int32) (x9 : Int32) (z0 : St) (hB : B_M_brings_r113_229 post ih141 x4 x7 x9 z0) : Xw p l e R s m args below meth c Q 0 0 wM G A z0 11 [(0, .ref (ad G 100)), (1, .ref (ad G 113)), (4, .int x4), (7, .int x7), (9, .int x9)] 229 [] := by
  intro H locs ls hP hD hS hl
  have hx := S.1
  have hb := S.2.1
  refine lv_iload hx hb dX12_brings_229 (lv_at hl 4 rfl) ?_
  refine lv_istore (lv' := [(8, .int x9), (0, .ref (ad G 100)), (1, .ref (ad G 113)), (4, .int x4), (7, .int x7), (9, .int x9)]) hx hb dX12_brings_231 hl (by decide) rfl (fun ls hl => ?_)
  exact w_M_brings_r113_233 S hE hA hRf hRl hret h141 x4 x7 x9 x9 z0 hB _ _ _ hP hD hS (lv_sub hl [1, 2, 3, 4, 0, 5] rfl)
def B_M_brings_r113_200 (post : Int32 → St → Prop) (ih141 : Int32 → Int32 → Int32 → Int32 → St → Prop) (x4 : Int32) (x7 : Int32) (x8 : Int32) (x9 : Int32) (s0 : Int32) (z0 : St) : Prop :=
  ((0 < s0 → (B_M_brings_r113_229 post ih141 x4 x7 x9 z0)) ∧ (¬ 0 < s0 → ((s0 = 0 → (vp_in ((18 : Int32) + x9) 269 ∧ (vp_in ((18 : Int32) + x8) 269 ∧ (((gA z0 113 ((18 : Int32) + x8).toNatClampNeg) ≤ (gA z0 113 ((18 : Int32) + x9).toNatClampNeg) → (B_M_brings_r113_233 post ih141 x4 x7 x8 x9 z0)) ∧ (¬ (gA z0 113 ((18 : Int32) + x8).toNatClampNeg) ≤ (gA z0 113 ((18 : Int32) + x9).toNatClampNeg) → (B_M_brings_r113_229 post ih141 x4 x7 x9 z0)))))) ∧ (¬ s0 = 0 → (B_M_brings_r113_233 post ih141 x4 x7 x8 x9 z0)))))
set_option maxHeartbeats 4000000 in
set_option maxRecDepth 100000 in
theorem w_M_brings_r113_200 {p : Program} {l : Launch} {e : Env} {R : Room} {s : State} {m : MethodId} {args : Array Value} {below : List Frame} {meth : Method} {c : Code} {Q : State → Prop} {G : GX} {A : Nat → Prop} (S : CallFix p m c cX12_brings 11 s args GW RX12) (hE : env G A s s.heap) (hA : ∀ q, s.heap.size ≤ q → A q) (hRf : 60 ≤ R.frames) (hRl : 1691 ≤ R.locals) {post : Int32 → St → Prop} (hret : RetI p l e R s m args below meth c Q 0 0 wM G A cX12_brings post) {ih141 : Int32 → Int32 → Int32 → Int32 → St → Prop} (h141 : ∀ (x4 : Int32) (x7 : Int32) (x8 : Int32) (x9 : Int32) (z0 : St), ih141 x4 x7 x8 x9 z0 → Xw p l e R s m args below meth c Q 0 0 wM G A z0 11 [(0, .ref (ad G 100)), (1, .ref (ad G 113)), (4, .int x4), (7, .int x7), (8, .int x8), (9, .int x9)] 141 []) (x4 : Int32) (x7 : Int32) (x8 : Int32) (x9 : Int32) (s0 : Int32) (z0 : St) (hB : B_M_brings_r113_200 post ih141 x4 x7 x8 x9 s0 z0) : Xw p l e R s m args below meth c Q 0 0 wM G A z0 11 [(0, .ref (ad G 100)), (1, .ref (ad G 113)), (4, .int x4), (7, .int x7), (8, .int x8), (9, .int x9)] 200 [.int s0] := by
  intro H locs ls hP hD hS hl
  have hx := S.1
  have hb := S.2.1
  refine lv_istore (lv' := [(10, .int s0), (0, .ref (ad G 100)), (1, .ref (ad G 113)), (4, .int x4), (7, .int x7), (8, .int x8), (9, .int x9)]) hx hb dX12_brings_200 hl (by decide) rfl (fun ls hl => ?_)
  refine lv_iload hx hb dX12_brings_202 (lv_at hl 0 rfl) ?_
  refine lv_if_gt (tgt := 229) hx hb dX12_brings_204 (by decide) (fun c1 => ?_) (fun c1 => ?_)
  · have hB := hB.1 c1
    exact w_M_brings_r113_229 S hE hA hRf hRl hret h141 x4 x7 x9 z0 hB _ _ _ hP hD hS (lv_sub hl [1, 2, 3, 4, 6] rfl)
  · have hB := hB.2 c1
    refine lv_iload hx hb dX12_brings_207 (lv_at hl 0 rfl) ?_
    refine lv_if_ne (tgt := 233) hx hb dX12_brings_209 (by decide) (fun c2 => ?_) (fun c2 => ?_)
    · have hB := hB.2 c2
      exact w_M_brings_r113_233 S hE hA hRf hRl hret h141 x4 x7 x8 x9 z0 hB _ _ _ hP hD hS (lv_sub hl [1, 2, 3, 4, 5, 6] rfl)
    · have hB := hB.1 c2
      refine lv_aload_n hx hb dX12_brings_212 rfl (lv_at hl 2 rfl) ?_
      refine lv_bipush (v := 18) hx hb dX12_brings_213 (by decide) ?_
      refine lv_iload hx hb dX12_brings_215 (lv_at hl 6 rfl) ?_
      refine lv_iadd hx hb dX12_brings_217 ?_
      obtain ⟨hi, hB⟩ := hB
      refine xMl_113 S hE hP hi dX12_brings_218 ?_
      refine lv_aload_n hx hb dX12_brings_219 rfl (lv_at hl 2 rfl) ?_
      refine lv_bipush (v := 18) hx hb dX12_brings_220 (by decide) ?_
      refine lv_iload hx hb dX12_brings_222 (lv_at hl 5 rfl) ?_
      refine lv_iadd hx hb dX12_brings_224 ?_
      obtain ⟨hi, hB⟩ := hB
      refine xMl_113 S hE hP hi dX12_brings_225 ?_
      refine lv_icmp_ge (tgt := 233) hx hb dX12_brings_226 (by decide) (fun c3 => ?_) (fun c3 => ?_)
      · have hB := hB.1 c3
        exact w_M_brings_r113_233 S hE hA hRf hRl hret h141 x4 x7 x8 x9 z0 hB _ _ _ hP hD hS (lv_sub hl [1, 2, 3, 4, 5, 6] rfl)
      · have hB := hB.2 c3
        exact w_M_brings_r113_229 S hE hA hRf hRl hret h141 x4 x7 x9 z0 hB _ _ _ hP hD hS (lv_sub hl [1, 2, 3, 4, 6] rfl)
def B_M_brings_r113_141 (post : Int32 → St → Prop) (ih141 : Int32 → Int32 → Int32 → Int32 → St → Prop) (x4 : Int32) (x7 : Int32) (x8 : Int32) (x9 : Int32) (z0 : St) : Prop :=
  (((gI z0 111) ≤ x9 → (post x8 z0)) ∧ (¬ (gI z0 111) ≤ x9 → (vp_in ((18 : Int32) + x9) 269 ∧ (((gA z0 113 ((18 : Int32) + x9).toNatClampNeg) ≤ x4 → ((x8 = (-1 : Int32) → (B_M_brings_r113_200 post ih141 x4 x7 x8 x9 (1 : Int32) z0)) ∧ (¬ x8 = (-1 : Int32) → (S_M_quality (fun (r4 : Int32) (z1 : St) => (S_Math_abs_0f7a4_M (fun (r5 : Int32) (z2 : St) => (S_M_quality (fun (r6 : Int32) (z3 : St) => (S_Math_abs_0f7a4_M (fun (r7 : Int32) (z4 : St) => (B_M_brings_r113_200 post ih141 x4 x7 x8 x9 (r5 - r7) z4)) (r6 - x7) z3)) x9 z2)) (r4 - x7) z1)) x8 z0)))) ∧ (¬ (gA z0 113 ((18 : Int32) + x9).toNatClampNeg) ≤ x4 → (B_M_brings_r113_233 post ih141 x4 x7 x8 x9 z0))))))
set_option maxHeartbeats 4000000 in
set_option maxRecDepth 100000 in
theorem w_M_brings_r113_141 {p : Program} {l : Launch} {e : Env} {R : Room} {s : State} {m : MethodId} {args : Array Value} {below : List Frame} {meth : Method} {c : Code} {Q : State → Prop} {G : GX} {A : Nat → Prop} (S : CallFix p m c cX12_brings 11 s args GW RX12) (hE : env G A s s.heap) (hA : ∀ q, s.heap.size ≤ q → A q) (hRf : 60 ≤ R.frames) (hRl : 1691 ≤ R.locals) {post : Int32 → St → Prop} (hret : RetI p l e R s m args below meth c Q 0 0 wM G A cX12_brings post) {ih141 : Int32 → Int32 → Int32 → Int32 → St → Prop} (h141 : ∀ (x4 : Int32) (x7 : Int32) (x8 : Int32) (x9 : Int32) (z0 : St), ih141 x4 x7 x8 x9 z0 → Xw p l e R s m args below meth c Q 0 0 wM G A z0 11 [(0, .ref (ad G 100)), (1, .ref (ad G 113)), (4, .int x4), (7, .int x7), (8, .int x8), (9, .int x9)] 141 []) (x4 : Int32) (x7 : Int32) (x8 : Int32) (x9 : Int32) (z0 : St) (hB : B_M_brings_r113_141 post ih141 x4 x7 x8 x9 z0) : Xw p l e R s m args below meth c Q 0 0 wM G A z0 11 [(0, .ref (ad G 100)), (1, .ref (ad G 113)), (4, .int x4), (7, .int x7), (8, .int x8), (9, .int x9)] 141 [] := by
  intro H locs ls hP hD hS hl
  have hx := S.1
  have hb := S.2.1
  refine lv_iload hx hb dX12_brings_141 (lv_at hl 5 rfl) ?_
  refine lv_aload_n hx hb dX12_brings_143 rfl (lv_at hl 0 rfl) ?_
  refine xMg_100_drinks S hE hP lk_X12_281 dX12_brings_144 ?_
  refine lv_icmp_ge (tgt := 239) hx hb dX12_brings_147 (by decide) (fun c1 => ?_) (fun c1 => ?_)
  · have hB := hB.1 c1
    refine lv_iload hx hb dX12_brings_239 (lv_at hl 4 rfl) ?_
    exact hret _ _ _ _ _ _ dX12_brings_241 hB hP hD hS
  · have hB := hB.2 c1
    refine lv_aload_n hx hb dX12_brings_150 rfl (lv_at hl 1 rfl) ?_
    refine lv_bipush (v := 18) hx hb dX12_brings_151 (by decide) ?_
    refine lv_iload hx hb dX12_brings_153 (lv_at hl 5 rfl) ?_
    refine lv_iadd hx hb dX12_brings_155 ?_
    obtain ⟨hi, hB⟩ := hB
    refine xMl_113 S hE hP hi dX12_brings_156 ?_
    refine lv_iload hx hb dX12_brings_157 (lv_at hl 2 rfl) ?_
    refine lv_icmp_le (tgt := 165) hx hb dX12_brings_159 (by decide) (fun c2 => ?_) (fun c2 => ?_)
    · have hB := hB.1 c2
      refine lv_iload hx hb dX12_brings_165 (lv_at hl 4 rfl) ?_
      refine lv_iconst (v := -1) hx hb dX12_brings_167 (by decide) ?_
      refine lv_icmp_ne (tgt := 175) hx hb dX12_brings_168 (by decide) (fun c3 => ?_) (fun c3 => ?_)
      · have hB := hB.2 c3
        refine lv_aload_n hx hb dX12_brings_175 rfl (lv_at hl 0 rfl) ?_
        refine lv_iload hx hb dX12_brings_176 (lv_at hl 4 rfl) ?_
        refine xcVi [.int x8] S hE hA hP hD hS (c_M_quality l G z0 H.size x8 _) hB (gw_c lk_X12_296 (gw_c wi_X12_quality (gw_c we_X12_X12_quality_X12_quality (gw_c wn_X12 (gw_c wc_X12_quality (fun _ h9 => h9)))))) hd_X12_quality rfl rfl (Nat.le_trans (Nat.le_of_ble_eq_true rfl) hRf) (Nat.le_trans (Nat.le_of_ble_eq_true rfl) hRl) ⟨Nat.zero_le _, Nat.zero_le _⟩ (va_recv hE.1 hP (ci := 11) (q0 := 0) rfl rfl) rfl hl.1 rfl (Nat.le_of_ble_eq_true rfl) dX12_brings_178 (fun r4 z1 H locs hB hP hD hS => ?_)
        refine lv_iload hx hb dX12_brings_181 (lv_at hl 3 rfl) ?_
        refine lv_isub hx hb dX12_brings_183 ?_
        refine xcSi [.int (r4 - x7)] S hE hA hP hD hS (c_Math_abs_0f7a4_M l G z1 H.size (r4 - x7) _) hB (gw_c lk_X12_303 (gw_c wt_J9_abs_0f7a4 (gw_c wn_J9 (gw_c wc_J9_abs_0f7a4 (fun _ h9 => h9))))) hs_J9_abs_0f7a4 rfl rfl (Nat.le_trans (Nat.le_of_ble_eq_true rfl) hRf) (Nat.le_trans (Nat.le_of_ble_eq_true rfl) hRl) ⟨Nat.zero_le _, Nat.zero_le _⟩ rfl hl.1 rfl (Nat.le_of_ble_eq_true rfl) dX12_brings_184 (fun r5 z2 H locs hB hP hD hS => ?_)
        refine lv_aload_n hx hb dX12_brings_187 rfl (lv_at hl 0 rfl) ?_
        refine lv_iload hx hb dX12_brings_188 (lv_at hl 5 rfl) ?_
        refine xcVi [.int x9] S hE hA hP hD hS (c_M_quality l G z2 H.size x9 _) hB (gw_c lk_X12_296 (gw_c wi_X12_quality (gw_c we_X12_X12_quality_X12_quality (gw_c wn_X12 (gw_c wc_X12_quality (fun _ h9 => h9)))))) hd_X12_quality rfl rfl (Nat.le_trans (Nat.le_of_ble_eq_true rfl) hRf) (Nat.le_trans (Nat.le_of_ble_eq_true rfl) hRl) ⟨Nat.zero_le _, Nat.zero_le _⟩ (va_recv hE.1 hP (ci := 11) (q0 := 0) rfl rfl) rfl hl.1 rfl (Nat.le_of_ble_eq_true rfl) dX12_brings_190 (fun r6 z3 H locs hB hP hD hS => ?_)
        refine lv_iload hx hb dX12_brings_193 (lv_at hl 3 rfl) ?_
        refine lv_isub hx hb dX12_brings_195 ?_
        refine xcSi [.int (r6 - x7)] S hE hA hP hD hS (c_Math_abs_0f7a4_M l G z3 H.size (r6 - x7) _) hB (gw_c lk_X12_303 (gw_c wt_J9_abs_0f7a4 (gw_c wn_J9 (gw_c wc_J9_abs_0f7a4 (fun _ h9 => h9))))) hs_J9_abs_0f7a4 rfl rfl (Nat.le_trans (Nat.le_of_ble_eq_true rfl) hRf) (Nat.le_trans (Nat.le_of_ble_eq_true rfl) hRl) ⟨Nat.zero_le _, Nat.zero_le _⟩ rfl hl.1 rfl (Nat.le_of_ble_eq_true rfl) dX12_brings_196 (fun r7 z4 H locs hB hP hD hS => ?_)
        refine lv_isub hx hb dX12_brings_199 ?_
        exact w_M_brings_r113_200 S hE hA hRf hRl hret h141 x4 x7 x8 x9 (r5 - r7) z4 hB _ _ _ hP hD hS (lv_sub hl [0, 1, 2, 3, 4, 5] rfl)
      · have hB := hB.1 c3
        refine lv_iconst (v := 1) hx hb dX12_brings_171 (by decide) ?_
        refine lv_goto (tgt := 200) hx hb dX12_brings_172 (by decide) ?_
        exact w_M_brings_r113_200 S hE hA hRf hRl hret h141 x4 x7 x8 x9 (1 : Int32) z0 hB _ _ _ hP hD hS (lv_sub hl [0, 1, 2, 3, 4, 5] rfl)
    · have hB := hB.2 c2
      refine lv_goto (tgt := 233) hx hb dX12_brings_162 (by decide) ?_
      exact w_M_brings_r113_233 S hE hA hRf hRl hret h141 x4 x7 x8 x9 z0 hB _ _ _ hP hD hS (lv_sub hl [0, 1, 2, 3, 4, 5] rfl)
def L_M_brings_r113_141 (post : Int32 → St → Prop) : Nat → Int32 → Int32 → Int32 → Int32 → St → Prop
  | 0 => fun _ _ _ _ _ => False
  | n + 1 => B_M_brings_r113_141 post (L_M_brings_r113_141 post n)
theorem wl_M_brings_r113_141 {p : Program} {l : Launch} {e : Env} {R : Room} {s : State} {m : MethodId} {args : Array Value} {below : List Frame} {meth : Method} {c : Code} {Q : State → Prop} {G : GX} {A : Nat → Prop} (S : CallFix p m c cX12_brings 11 s args GW RX12) (hE : env G A s s.heap) (hA : ∀ q, s.heap.size ≤ q → A q) (hRf : 60 ≤ R.frames) (hRl : 1691 ≤ R.locals) {post : Int32 → St → Prop} (hret : RetI p l e R s m args below meth c Q 0 0 wM G A cX12_brings post) : ∀ (n : Nat) (x4 : Int32) (x7 : Int32) (x8 : Int32) (x9 : Int32) (z0 : St), L_M_brings_r113_141 post n x4 x7 x8 x9 z0 → Xw p l e R s m args below meth c Q 0 0 wM G A z0 11 [(0, .ref (ad G 100)), (1, .ref (ad G 113)), (4, .int x4), (7, .int x7), (8, .int x8), (9, .int x9)] 141 [] := by
  intro n
  induction n with
  | zero => intro x4 x7 x8 x9 z0 hB; exact absurd hB id
  | succ n ih => exact fun x4 x7 x8 x9 z0 hB => w_M_brings_r113_141 S hE hA hRf hRl hret ih x4 x7 x8 x9 z0 hB
def B_M_brings_r113_122 (post : Int32 → St → Prop) (x4 : Int32) (x7 : Int32) (z0 : St) : Prop :=
  (S_Math_min_7cf53_M (fun (r1 : Int32) (z1 : St) => (S_Math_max_7cf53_M (fun (r2 : Int32) (z2 : St) => (∃ n3, L_M_brings_r113_141 post n3 x4 r2 (-1 : Int32) (0 : Int32) z2)) (0 : Int32) r1 z1)) (9 : Int32) x7 z0)
set_option maxHeartbeats 4000000 in
set_option maxRecDepth 100000 in
theorem w_M_brings_r113_122 {p : Program} {l : Launch} {e : Env} {R : Room} {s : State} {m : MethodId} {args : Array Value} {below : List Frame} {meth : Method} {c : Code} {Q : State → Prop} {G : GX} {A : Nat → Prop} (S : CallFix p m c cX12_brings 11 s args GW RX12) (hE : env G A s s.heap) (hA : ∀ q, s.heap.size ≤ q → A q) (hRf : 60 ≤ R.frames) (hRl : 1691 ≤ R.locals) {post : Int32 → St → Prop} (hret : RetI p l e R s m args below meth c Q 0 0 wM G A cX12_brings post) (x4 : Int32) (x7 : Int32) (z0 : St) (hB : B_M_brings_r113_122 post x4 x7 z0) : Xw p l e R s m args below meth c Q 0 0 wM G A z0 11 [(0, .ref (ad G 100)), (1, .ref (ad G 113)), (4, .int x4), (7, .int x7)] 122 [] := by
  intro H locs ls hP hD hS hl
  have hx := S.1
  have hb := S.2.1
  refine lv_iconst (v := 0) hx hb dX12_brings_122 (by decide) ?_
  refine lv_bipush (v := 9) hx hb dX12_brings_123 (by decide) ?_
  refine lv_iload hx hb dX12_brings_125 (lv_at hl 3 rfl) ?_
  refine xcSi [.int (9 : Int32), .int x7] S hE hA hP hD hS (c_Math_min_7cf53_M l G z0 H.size (9 : Int32) x7 _) hB (gw_c lk_X12_299 (gw_c wt_J9_min_7cf53 (gw_c wn_J9 (gw_c wc_J9_min_7cf53 (fun _ h9 => h9))))) hs_J9_min_7cf53 rfl rfl (Nat.le_trans (Nat.le_of_ble_eq_true rfl) hRf) (Nat.le_trans (Nat.le_of_ble_eq_true rfl) hRl) ⟨Nat.zero_le _, Nat.zero_le _⟩ rfl hl.1 rfl (Nat.le_of_ble_eq_true rfl) dX12_brings_127 (fun r1 z1 H locs hB hP hD hS => ?_)
  refine xcSi [.int (0 : Int32), .int r1] S hE hA hP hD hS (c_Math_max_7cf53_M l G z1 H.size (0 : Int32) r1 _) hB (gw_c lk_X12_301 (gw_c wt_J9_max_7cf53 (gw_c wn_J9 (gw_c wc_J9_max_7cf53 (fun _ h9 => h9))))) hs_J9_max_7cf53 rfl rfl (Nat.le_trans (Nat.le_of_ble_eq_true rfl) hRf) (Nat.le_trans (Nat.le_of_ble_eq_true rfl) hRl) ⟨Nat.zero_le _, Nat.zero_le _⟩ rfl hl.1 rfl (Nat.le_of_ble_eq_true rfl) dX12_brings_130 (fun r2 z2 H locs hB hP hD hS => ?_)
  refine lv_istore (lv' := [(7, .int r2), (0, .ref (ad G 100)), (1, .ref (ad G 113)), (4, .int x4)]) hx hb dX12_brings_133 hl (by decide) rfl (fun ls hl => ?_)
  refine lv_iconst (v := -1) hx hb dX12_brings_135 (by decide) ?_
  refine lv_istore (lv' := [(8, .int (-1 : Int32)), (7, .int r2), (0, .ref (ad G 100)), (1, .ref (ad G 113)), (4, .int x4)]) hx hb dX12_brings_136 hl (by decide) rfl (fun ls hl => ?_)
  refine lv_iconst (v := 0) hx hb dX12_brings_138 (by decide) ?_
  refine lv_istore (lv' := [(9, .int (0 : Int32)), (8, .int (-1 : Int32)), (7, .int r2), (0, .ref (ad G 100)), (1, .ref (ad G 113)), (4, .int x4)]) hx hb dX12_brings_139 hl (by decide) rfl (fun ls hl => ?_)
  obtain ⟨n3, hB⟩ := hB
  exact wl_M_brings_r113_141 S hE hA hRf hRl hret n3 x4 r2 (-1 : Int32) (0 : Int32) z2 hB _ _ _ hP hD hS (lv_sub hl [3, 4, 5, 2, 1, 0] rfl)
def B_M_brings_r113_58 (post : Int32 → St → Prop) (x4 : Int32) (x5 : Int32) (x6 : Int32) (s0 : Int32) (s1 : Int32) (z0 : St) : Prop :=
  (vp_in s1 128 ∧ (∀ z1 : St, z1 = sA z0 104 s1.toNatClampNeg s0 → (∀ z2 : St, z2 = sA z1 104 109 x4 → (∀ z3 : St, z3 = sA z2 104 110 x6 → (vp_in ((18 : Int32) + x5) 269 ∧ (∀ z4 : St, z4 = sA z3 104 112 (gA z3 113 ((18 : Int32) + x5).toNatClampNeg) → (vp_in (gI z4 117) 4 ∧ (S_M_goThrough_r102 (fun (z5 : St) => (∀ v1 : Int32, v1 = (gI z5 109) → (B_M_brings_r113_122 post x4 v1 z5))) ((240 : Int32) * (gI z4 117)) (gA z4 103 (gI z4 117).toNatClampNeg) z4))))))))
set_option maxHeartbeats 4000000 in
set_option maxRecDepth 100000 in
theorem w_M_brings_r113_58 {p : Program} {l : Launch} {e : Env} {R : Room} {s : State} {m : MethodId} {args : Array Value} {below : List Frame} {meth : Method} {c : Code} {Q : State → Prop} {G : GX} {A : Nat → Prop} (S : CallFix p m c cX12_brings 11 s args GW RX12) (hE : env G A s s.heap) (hA : ∀ q, s.heap.size ≤ q → A q) (hRf : 60 ≤ R.frames) (hRl : 1691 ≤ R.locals) {post : Int32 → St → Prop} (hret : RetI p l e R s m args below meth c Q 0 0 wM G A cX12_brings post) (x4 : Int32) (x5 : Int32) (x6 : Int32) (s0 : Int32) (s1 : Int32) (z0 : St) (hB : B_M_brings_r113_58 post x4 x5 x6 s0 s1 z0) : Xw p l e R s m args below meth c Q 0 0 wM G A z0 11 [(0, .ref (ad G 100)), (1, .ref (ad G 113)), (4, .int x4), (5, .int x5), (6, .int x6)] 58 [.int s0, .int s1, .ref (ad G 104)] := by
  intro H locs ls hP hD hS hl
  have hx := S.1
  have hb := S.2.1
  obtain ⟨hi, hB⟩ := hB
  obtain ⟨z1, ez1⟩ : ∃ z9, z9 = sA z0 104 s1.toNatClampNeg s0 := ⟨_, rfl⟩
  have hB := hB z1 ez1
  refine xMs_104 S hE hP hD hS _ rfl hi dX12_brings_58 (fun H locs hP hD hS => ?_)
  rw [← ez1] at hP hD
  refine lv_aload_n hx hb dX12_brings_59 rfl (lv_at hl 0 rfl) ?_
  refine xMg_100_letters S hE hP lk_X12_20 dX12_brings_60 ?_
  refine lv_bipush (v := 109) hx hb dX12_brings_63 (by decide) ?_
  refine lv_iload hx hb dX12_brings_65 (lv_at hl 2 rfl) ?_
  obtain ⟨z2, ez2⟩ : ∃ z9, z9 = sA z1 104 109 x4 := ⟨_, rfl⟩
  have hB := hB z2 ez2
  refine xMs_104 S hE hP hD hS 109 (by decide) (by unfold vp_in; decide) dX12_brings_67 (fun H locs hP hD hS => ?_)
  rw [← ez2] at hP hD
  refine lv_aload_n hx hb dX12_brings_68 rfl (lv_at hl 0 rfl) ?_
  refine xMg_100_letters S hE hP lk_X12_20 dX12_brings_69 ?_
  refine lv_bipush (v := 110) hx hb dX12_brings_72 (by decide) ?_
  refine lv_iload hx hb dX12_brings_74 (lv_at hl 4 rfl) ?_
  obtain ⟨z3, ez3⟩ : ∃ z9, z9 = sA z2 104 110 x6 := ⟨_, rfl⟩
  have hB := hB z3 ez3
  refine xMs_104 S hE hP hD hS 110 (by decide) (by unfold vp_in; decide) dX12_brings_76 (fun H locs hP hD hS => ?_)
  rw [← ez3] at hP hD
  refine lv_aload_n hx hb dX12_brings_77 rfl (lv_at hl 0 rfl) ?_
  refine xMg_100_letters S hE hP lk_X12_20 dX12_brings_78 ?_
  refine lv_bipush (v := 112) hx hb dX12_brings_81 (by decide) ?_
  refine lv_aload_n hx hb dX12_brings_83 rfl (lv_at hl 1 rfl) ?_
  refine lv_bipush (v := 18) hx hb dX12_brings_84 (by decide) ?_
  refine lv_iload hx hb dX12_brings_86 (lv_at hl 3 rfl) ?_
  refine lv_iadd hx hb dX12_brings_88 ?_
  obtain ⟨hi, hB⟩ := hB
  refine xMl_113 S hE hP hi dX12_brings_89 ?_
  obtain ⟨z4, ez4⟩ : ∃ z9, z9 = sA z3 104 112 (gA z3 113 ((18 : Int32) + x5).toNatClampNeg) := ⟨_, rfl⟩
  have hB := hB z4 ez4
  refine xMs_104 S hE hP hD hS 112 (by decide) (by unfold vp_in; decide) dX12_brings_90 (fun H locs hP hD hS => ?_)
  rw [← ez4] at hP hD
  refine lv_aload_n hx hb dX12_brings_91 rfl (lv_at hl 0 rfl) ?_
  refine lv_aload_n hx hb dX12_brings_92 rfl (lv_at hl 0 rfl) ?_
  refine xMg_100_texts S hE hP lk_X12_13 dX12_brings_93 ?_
  refine lv_sipush (v := 240) hx hb dX12_brings_96 (by decide) ?_
  refine lv_aload_n hx hb dX12_brings_99 rfl (lv_at hl 0 rfl) ?_
  refine xMg_100_law S hE hP lk_X12_67 dX12_brings_100 ?_
  refine lv_imul hx hb dX12_brings_103 ?_
  refine lv_aload_n hx hb dX12_brings_104 rfl (lv_at hl 0 rfl) ?_
  refine xMg_100_textLong S hE hP lk_X12_16 dX12_brings_105 ?_
  refine lv_aload_n hx hb dX12_brings_108 rfl (lv_at hl 0 rfl) ?_
  refine xMg_100_law S hE hP lk_X12_67 dX12_brings_109 ?_
  obtain ⟨hi, hB⟩ := hB
  refine xMl_103 S hE hP hi dX12_brings_112 ?_
  refine xcVv [.ref (ad G 102), .int ((240 : Int32) * (gI z4 117)), .int (gA z4 103 (gI z4 117).toNatClampNeg)] S hE hA hP hD hS (c_M_goThrough_r102 l G z4 H.size ((240 : Int32) * (gI z4 117)) (gA z4 103 (gI z4 117).toNatClampNeg) _) hB (gw_c lk_X12_267 (gw_c wi_X12_goThrough (gw_c we_X12_X12_goThrough_X12_goThrough (gw_c wn_X12 (gw_c wc_X12_goThrough (fun _ h9 => h9)))))) hd_X12_goThrough rfl rfl (Nat.le_trans (Nat.le_of_ble_eq_true rfl) hRf) (Nat.le_trans (Nat.le_of_ble_eq_true rfl) hRl) ⟨Nat.zero_le _, Nat.zero_le _⟩ (va_recv hE.1 hP (ci := 11) (q0 := 0) rfl rfl) rfl hl.1 rfl (Nat.le_of_ble_eq_true rfl) dX12_brings_113 (fun z5 H locs hB hP hD hS => ?_)
  refine lv_aload_n hx hb dX12_brings_116 rfl (lv_at hl 0 rfl) ?_
  refine xMg_100_found S hE hP lk_X12_197 dX12_brings_117 ?_
  refine lv_topi (fun v1 ev1 => ?_)
  have hB := hB v1 ev1
  refine lv_istore (lv' := [(7, .int v1), (0, .ref (ad G 100)), (1, .ref (ad G 113)), (4, .int x4), (5, .int x5), (6, .int x6)]) hx hb dX12_brings_120 hl (by decide) rfl (fun ls hl => ?_)
  exact w_M_brings_r113_122 S hE hA hRf hRl hret x4 v1 z5 hB _ _ _ hP hD hS (lv_sub hl [1, 2, 3, 0] rfl)
def S_M_brings_r113 (post : Int32 → St → Prop) (x2 : Int32) (x3 : Int32) (x4 : Int32) (x5 : Int32) (x6 : Int32) (z0 : St) : Prop :=
  (S_M_quality (fun (r1 : Int32) (z1 : St) => (∀ v2 : Int32, v2 = ((r1 + x3) / (2 : Int32)) → (((gI z1 117) = (-1 : Int32) → (B_M_brings_r113_122 post x4 v2 z1)) ∧ (¬ (gI z1 117) = (-1 : Int32) → (S_M_quality (fun (r4 : Int32) (z2 : St) => (∀ z3 : St, z3 = sA z2 104 113 r4 → (∀ z4 : St, z4 = sA z3 104 104 x3 → ((x2 = x5 → (B_M_brings_r113_58 post x4 x5 x6 (1 : Int32) (108 : Int32) z4)) ∧ (¬ x2 = x5 → (B_M_brings_r113_58 post x4 x5 x6 (0 : Int32) (108 : Int32) z4)))))) x5 z1))))) x5 z0)
set_option maxHeartbeats 4000000 in
set_option maxRecDepth 100000 in
theorem w_M_brings_r113_0 {p : Program} {l : Launch} {e : Env} {R : Room} {s : State} {m : MethodId} {args : Array Value} {below : List Frame} {meth : Method} {c : Code} {Q : State → Prop} {G : GX} {A : Nat → Prop} (S : CallFix p m c cX12_brings 11 s args GW RX12) (hE : env G A s s.heap) (hA : ∀ q, s.heap.size ≤ q → A q) (hRf : 60 ≤ R.frames) (hRl : 1691 ≤ R.locals) {post : Int32 → St → Prop} (hret : RetI p l e R s m args below meth c Q 0 0 wM G A cX12_brings post) (x2 : Int32) (x3 : Int32) (x4 : Int32) (x5 : Int32) (x6 : Int32) (z0 : St) (hB : S_M_brings_r113 post x2 x3 x4 x5 x6 z0) : Xw p l e R s m args below meth c Q 0 0 wM G A z0 11 [(0, .ref (ad G 100)), (1, .ref (ad G 113)), (2, .int x2), (3, .int x3), (4, .int x4), (5, .int x5), (6, .int x6)] 0 [] := by
  intro H locs ls hP hD hS hl
  have hx := S.1
  have hb := S.2.1
  refine lv_aload_n hx hb dX12_brings_0 rfl (lv_at hl 0 rfl) ?_
  refine lv_iload hx hb dX12_brings_1 (lv_at hl 5 rfl) ?_
  refine xcVi [.int x5] S hE hA hP hD hS (c_M_quality l G z0 H.size x5 _) hB (gw_c lk_X12_296 (gw_c wi_X12_quality (gw_c we_X12_X12_quality_X12_quality (gw_c wn_X12 (gw_c wc_X12_quality (fun _ h9 => h9)))))) hd_X12_quality rfl rfl (Nat.le_trans (Nat.le_of_ble_eq_true rfl) hRf) (Nat.le_trans (Nat.le_of_ble_eq_true rfl) hRl) ⟨Nat.zero_le _, Nat.zero_le _⟩ (va_recv hE.1 hP (ci := 11) (q0 := 0) rfl rfl) rfl hl.1 rfl (Nat.le_of_ble_eq_true rfl) dX12_brings_3 (fun r1 z1 H locs hB hP hD hS => ?_)
  refine lv_iload_n hx hb dX12_brings_6 rfl (lv_at hl 3 rfl) ?_
  refine lv_iadd hx hb dX12_brings_7 ?_
  refine lv_iconst (v := 2) hx hb dX12_brings_8 (by decide) ?_
  refine lv_idiv hx hb dX12_brings_9 (by decide) ?_
  refine lv_topi (fun v2 ev2 => ?_)
  have hB := hB v2 ev2
  refine lv_istore (lv' := [(7, .int v2), (0, .ref (ad G 100)), (1, .ref (ad G 113)), (2, .int x2), (3, .int x3), (4, .int x4), (5, .int x5), (6, .int x6)]) hx hb dX12_brings_10 hl (by decide) rfl (fun ls hl => ?_)
  refine lv_aload_n hx hb dX12_brings_12 rfl (lv_at hl 1 rfl) ?_
  refine xMg_100_law S hE hP lk_X12_67 dX12_brings_13 ?_
  refine lv_iconst (v := -1) hx hb dX12_brings_16 (by decide) ?_
  refine lv_icmp_eq (tgt := 122) hx hb dX12_brings_17 (by decide) (fun c3 => ?_) (fun c3 => ?_)
  · have hB := hB.1 c3
    exact w_M_brings_r113_122 S hE hA hRf hRl hret x4 v2 z1 hB _ _ _ hP hD hS (lv_sub hl [1, 2, 5, 0] rfl)
  · have hB := hB.2 c3
    refine lv_aload_n hx hb dX12_brings_20 rfl (lv_at hl 1 rfl) ?_
    refine xMg_100_letters S hE hP lk_X12_20 dX12_brings_21 ?_
    refine lv_bipush (v := 113) hx hb dX12_brings_24 (by decide) ?_
    refine lv_aload_n hx hb dX12_brings_26 rfl (lv_at hl 1 rfl) ?_
    refine lv_iload hx hb dX12_brings_27 (lv_at hl 6 rfl) ?_
    refine xcVi [.int x5] S hE hA hP hD hS (c_M_quality l G z1 H.size x5 _) hB (gw_c lk_X12_296 (gw_c wi_X12_quality (gw_c we_X12_X12_quality_X12_quality (gw_c wn_X12 (gw_c wc_X12_quality (fun _ h9 => h9)))))) hd_X12_quality rfl rfl (Nat.le_trans (Nat.le_of_ble_eq_true rfl) hRf) (Nat.le_trans (Nat.le_of_ble_eq_true rfl) hRl) ⟨Nat.zero_le _, Nat.zero_le _⟩ (va_recv hE.1 hP (ci := 11) (q0 := 0) rfl rfl) rfl hl.1 rfl (Nat.le_of_ble_eq_true rfl) dX12_brings_29 (fun r4 z2 H locs hB hP hD hS => ?_)
    obtain ⟨z3, ez3⟩ : ∃ z9, z9 = sA z2 104 113 r4 := ⟨_, rfl⟩
    have hB := hB z3 ez3
    refine xMs_104 S hE hP hD hS 113 (by decide) (by unfold vp_in; decide) dX12_brings_32 (fun H locs hP hD hS => ?_)
    rw [← ez3] at hP hD
    refine lv_aload_n hx hb dX12_brings_33 rfl (lv_at hl 1 rfl) ?_
    refine xMg_100_letters S hE hP lk_X12_20 dX12_brings_34 ?_
    refine lv_bipush (v := 104) hx hb dX12_brings_37 (by decide) ?_
    refine lv_iload_n hx hb dX12_brings_39 rfl (lv_at hl 4 rfl) ?_
    obtain ⟨z4, ez4⟩ : ∃ z9, z9 = sA z3 104 104 x3 := ⟨_, rfl⟩
    have hB := hB z4 ez4
    refine xMs_104 S hE hP hD hS 104 (by decide) (by unfold vp_in; decide) dX12_brings_40 (fun H locs hP hD hS => ?_)
    rw [← ez4] at hP hD
    refine lv_aload_n hx hb dX12_brings_41 rfl (lv_at hl 1 rfl) ?_
    refine xMg_100_letters S hE hP lk_X12_20 dX12_brings_42 ?_
    refine lv_bipush (v := 108) hx hb dX12_brings_45 (by decide) ?_
    refine lv_iload_n hx hb dX12_brings_47 rfl (lv_at hl 3 rfl) ?_
    refine lv_iload hx hb dX12_brings_48 (lv_at hl 6 rfl) ?_
    refine lv_icmp_ne (tgt := 57) hx hb dX12_brings_50 (by decide) (fun c5 => ?_) (fun c5 => ?_)
    · have hB := hB.2 c5
      refine lv_iconst (v := 0) hx hb dX12_brings_57 (by decide) ?_
      exact w_M_brings_r113_58 S hE hA hRf hRl hret x4 x5 x6 (0 : Int32) (108 : Int32) z4 hB _ _ _ hP hD hS (lv_sub hl [1, 2, 5, 6, 7] rfl)
    · have hB := hB.1 c5
      refine lv_iconst (v := 1) hx hb dX12_brings_53 (by decide) ?_
      refine lv_goto (tgt := 58) hx hb dX12_brings_54 (by decide) ?_
      exact w_M_brings_r113_58 S hE hA hRf hRl hret x4 x5 x6 (1 : Int32) (108 : Int32) z4 hB _ _ _ hP hD hS (lv_sub hl [1, 2, 5, 6, 7] rfl)
set_option maxHeartbeats 4000000 in
set_option maxRecDepth 100000 in
theorem c_M_brings_r113 (l : Launch) (G : GX) (z0 : St) (sz : Nat) (x2 : Int32) (x3 : Int32) (x4 : Int32) (x5 : Int32) (x6 : Int32) (post : Int32 → St → Prop) : MetI l wM yX12_brings cX12_brings 11 (some .int) ({ frames := 60, cells := 0, slots := 0, locals := 1691 }) [.ref (ad G 100), .ref (ad G 113), .int x2, .int x3, .int x4, .int x5, .int x6] G z0 sz (S_M_brings_r113 post x2 x3 x4 x5 x6 z0) post := by
  refine Met.ofW (cc := cX12_brings) (maxL := 11) (ret := (some .int)) (by decide) rfl ?_
  intro p e s m args below meth c s₁ B hml hv
  obtain ⟨rfl, hsz, hP, hD0, hE, hB⟩ := hv
  have S : CallFix p m c cX12_brings 11 s _ GW RX12 := ⟨B.exec, B.bytes, hml, findClass_of_methodNamed B.named, fun w h => atoms_spec (ws := Cond.code yX12_brings cX12_brings 11 (some .int) :: GW) B.pre w (List.mem_cons_of_mem _ h)⟩
  have hlocks := B.notSynchronized
  subst hsz
  have hD := hD0.self (sz := s.heap.size)
  generalize hAe : va_A (wM G z0) s.heap.size = A at hD hE ⊢
  have hA : ∀ q : Nat, s.heap.size ≤ q → A q := fun q h => by rw [← hAe]; exact Or.inr h
  have hS : va_S A s.heap s.heap [] := va_S.rf
  have hl := lv_entry ([.ref (ad G 100), .ref (ad G 113), .int x2, .int x3, .int x4, .int x5, .int x6]) (n := 11) (Nat.le_of_ble_eq_true rfl)
  rw [lg_entry_eq]
  generalize (lg_sl ([.ref (ad G 100), .ref (ad G 113), .int x2, .int x3, .int x4, .int x5, .int x6]) ++ List.replicate (11 - (lg_sl ([.ref (ad G 100), .ref (ad G 113), .int x2, .int x3, .int x4, .int x5, .int x6])).length) Slot.unset).toArray = ls at hl ⊢
  have hl : lv_has ls 11 [(0, .ref (ad G 100)), (1, .ref (ad G 113)), (2, .int x2), (3, .int x3), (4, .int x4), (5, .int x5), (6, .int x6)] := hl
  refine w_M_brings_r113_0 S hE hA (Nat.le_refl _) (Nat.le_refl _) ?_ x2 x3 x4 x5 x6 z0 hB _ _ _ hP hD hS hl
  intro pc ls r σ H locs hd hp hP hD hS
  exact W.iret (v := r) B.exec B.bytes B.returns (fun t ht hW => ⟨⟨r, σ, rfl, hp, by rw [ht]; exact hP, hD⟩, hS.F ht⟩) hS.2.2 hd
def S_M_makesOf_r113 (post : Int32 → St → Prop) (x2 : Int32) (x3 : Int32) (x4 : Int32) (x5 : Int32) (x6 : Int32) (z0 : St) : Prop :=
  (S_M_joyOf (fun (r1 : Int32) (z1 : St) => (S_M_moodBy (fun (r2 : Int32) (z2 : St) => (S_M_brings_r113 (fun (r3 : Int32) (z3 : St) => (post r3 z3)) x2 r2 x4 x5 x6 z2)) x3 r1 z1)) x2 x5 z0)
set_option maxHeartbeats 4000000 in
set_option maxRecDepth 100000 in
theorem w_M_makesOf_r113_0 {p : Program} {l : Launch} {e : Env} {R : Room} {s : State} {m : MethodId} {args : Array Value} {below : List Frame} {meth : Method} {c : Code} {Q : State → Prop} {G : GX} {A : Nat → Prop} (S : CallFix p m c cX12_makesOf 7 s args GW RX12) (hE : env G A s s.heap) (hA : ∀ q, s.heap.size ≤ q → A q) (hRf : 61 ≤ R.frames) (hRl : 1721 ≤ R.locals) {post : Int32 → St → Prop} (hret : RetI p l e R s m args below meth c Q 0 0 wM G A cX12_makesOf post) (x2 : Int32) (x3 : Int32) (x4 : Int32) (x5 : Int32) (x6 : Int32) (z0 : St) (hB : S_M_makesOf_r113 post x2 x3 x4 x5 x6 z0) : Xw p l e R s m args below meth c Q 0 0 wM G A z0 7 [(0, .ref (ad G 100)), (1, .ref (ad G 113)), (2, .int x2), (3, .int x3), (4, .int x4), (5, .int x5), (6, .int x6)] 0 [] := by
  intro H locs ls hP hD hS hl
  have hx := S.1
  have hb := S.2.1
  refine lv_aload_n hx hb dX12_makesOf_0 rfl (lv_at hl 0 rfl) ?_
  refine lv_aload_n hx hb dX12_makesOf_1 rfl (lv_at hl 1 rfl) ?_
  refine lv_iload_n hx hb dX12_makesOf_2 rfl (lv_at hl 2 rfl) ?_
  refine lv_iload_n hx hb dX12_makesOf_3 rfl (lv_at hl 3 rfl) ?_
  refine lv_aload_n hx hb dX12_makesOf_4 rfl (lv_at hl 0 rfl) ?_
  refine lv_iload_n hx hb dX12_makesOf_5 rfl (lv_at hl 2 rfl) ?_
  refine lv_iload hx hb dX12_makesOf_6 (lv_at hl 5 rfl) ?_
  refine xcVi [.int x2, .int x5] S hE hA hP hD hS (c_M_joyOf l G z0 H.size x2 x5 _) hB (gw_c lk_X12_306 (gw_c wi_X12_joyOf (gw_c we_X12_X12_joyOf_X12_joyOf (gw_c wn_X12 (gw_c wc_X12_joyOf (fun _ h9 => h9)))))) hd_X12_joyOf rfl rfl (Nat.le_trans (Nat.le_of_ble_eq_true rfl) hRf) (Nat.le_trans (Nat.le_of_ble_eq_true rfl) hRl) ⟨Nat.zero_le _, Nat.zero_le _⟩ (va_recv hE.1 hP (ci := 11) (q0 := 0) rfl rfl) rfl hl.1 rfl (Nat.le_of_ble_eq_true rfl) dX12_makesOf_8 (fun r1 z1 H locs hB hP hD hS => ?_)
  refine xcSi [.int x3, .int r1] S hE hA hP hD hS (c_M_moodBy l G z1 H.size x3 r1 _) hB (gw_c lk_X12_309 (gw_c wt_X12_moodBy (gw_c wn_X12 (gw_c wc_X12_moodBy (fun _ h9 => h9))))) hs_X12_moodBy rfl rfl (Nat.le_trans (Nat.le_of_ble_eq_true rfl) hRf) (Nat.le_trans (Nat.le_of_ble_eq_true rfl) hRl) ⟨Nat.zero_le _, Nat.zero_le _⟩ rfl hl.1 rfl (Nat.le_of_ble_eq_true rfl) dX12_makesOf_11 (fun r2 z2 H locs hB hP hD hS => ?_)
  refine lv_iload hx hb dX12_makesOf_14 (lv_at hl 4 rfl) ?_
  refine lv_iload hx hb dX12_makesOf_16 (lv_at hl 5 rfl) ?_
  refine lv_iload hx hb dX12_makesOf_18 (lv_at hl 6 rfl) ?_
  refine xcVi [.ref (ad G 113), .int x2, .int r2, .int x4, .int x5, .int x6] S hE hA hP hD hS (c_M_brings_r113 l G z2 H.size x2 r2 x4 x5 x6 _) hB (gw_c lk_X12_312 (gw_c wi_X12_brings (gw_c we_X12_X12_brings_X12_brings (gw_c wn_X12 (gw_c wc_X12_brings (fun _ h9 => h9)))))) hd_X12_brings rfl rfl (Nat.le_trans (Nat.le_of_ble_eq_true rfl) hRf) (Nat.le_trans (Nat.le_of_ble_eq_true rfl) hRl) ⟨Nat.zero_le _, Nat.zero_le _⟩ (va_recv hE.1 hP (ci := 11) (q0 := 0) rfl rfl) rfl hl.1 rfl (Nat.le_of_ble_eq_true rfl) dX12_makesOf_20 (fun r3 z3 H locs hB hP hD hS => ?_)
  exact hret _ _ _ _ _ _ dX12_makesOf_23 hB hP hD hS
set_option maxHeartbeats 4000000 in
set_option maxRecDepth 100000 in
theorem c_M_makesOf_r113 (l : Launch) (G : GX) (z0 : St) (sz : Nat) (x2 : Int32) (x3 : Int32) (x4 : Int32) (x5 : Int32) (x6 : Int32) (post : Int32 → St → Prop) : MetI l wM yX12_makesOf cX12_makesOf 7 (some .int) ({ frames := 61, cells := 0, slots := 0, locals := 1721 }) [.ref (ad G 100), .ref (ad G 113), .int x2, .int x3, .int x4, .int x5, .int x6] G z0 sz (S_M_makesOf_r113 post x2 x3 x4 x5 x6 z0) post := by
  refine Met.ofW (cc := cX12_makesOf) (maxL := 7) (ret := (some .int)) (by decide) rfl ?_
  intro p e s m args below meth c s₁ B hml hv
  obtain ⟨rfl, hsz, hP, hD0, hE, hB⟩ := hv
  have S : CallFix p m c cX12_makesOf 7 s _ GW RX12 := ⟨B.exec, B.bytes, hml, findClass_of_methodNamed B.named, fun w h => atoms_spec (ws := Cond.code yX12_makesOf cX12_makesOf 7 (some .int) :: GW) B.pre w (List.mem_cons_of_mem _ h)⟩
  have hlocks := B.notSynchronized
  subst hsz
  have hD := hD0.self (sz := s.heap.size)
  generalize hAe : va_A (wM G z0) s.heap.size = A at hD hE ⊢
  have hA : ∀ q : Nat, s.heap.size ≤ q → A q := fun q h => by rw [← hAe]; exact Or.inr h
  have hS : va_S A s.heap s.heap [] := va_S.rf
  have hl := lv_entry ([.ref (ad G 100), .ref (ad G 113), .int x2, .int x3, .int x4, .int x5, .int x6]) (n := 7) (Nat.le_of_ble_eq_true rfl)
  rw [lg_entry_eq]
  generalize (lg_sl ([.ref (ad G 100), .ref (ad G 113), .int x2, .int x3, .int x4, .int x5, .int x6]) ++ List.replicate (7 - (lg_sl ([.ref (ad G 100), .ref (ad G 113), .int x2, .int x3, .int x4, .int x5, .int x6])).length) Slot.unset).toArray = ls at hl ⊢
  have hl : lv_has ls 7 [(0, .ref (ad G 100)), (1, .ref (ad G 113)), (2, .int x2), (3, .int x3), (4, .int x4), (5, .int x5), (6, .int x6)] := hl
  refine w_M_makesOf_r113_0 S hE hA (Nat.le_refl _) (Nat.le_refl _) ?_ x2 x3 x4 x5 x6 z0 hB _ _ _ hP hD hS hl
  intro pc ls r σ H locs hd hp hP hD hS
  exact W.iret (v := r) B.exec B.bytes B.returns (fun t ht hW => ⟨⟨r, σ, rfl, hp, by rw [ht]; exact hP, hD⟩, hS.F ht⟩) hS.2.2 hd
def B_M_visits_r113_170 (post : Int32 → St → Prop) (x2 : Int32) (x3 : Int32) (x5 : Int32) (x6 : Int32) (z0 : St) : Prop :=
  (∀ v1 : Int32, v1 = ((29 : Int32) + ((4 : Int32) * (gA z0 113 28))) → (vp_in v1 269 ∧ (∀ z1 : St, z1 = sA z0 113 v1.toNatClampNeg x2 → (vp_in (v1 + (1 : Int32)) 269 ∧ (∀ z2 : St, z2 = sA z1 113 (v1 + (1 : Int32)).toNatClampNeg x3 → (vp_in (v1 + (2 : Int32)) 269 ∧ (∀ z3 : St, z3 = sA z2 113 (v1 + (2 : Int32)).toNatClampNeg x6 → (vp_in (v1 + (3 : Int32)) 269 ∧ (∀ z4 : St, z4 = sA z3 113 (v1 + (3 : Int32)).toNatClampNeg x5 → (∀ z5 : St, z5 = sA z4 113 28 ((gA z4 113 28) + (1 : Int32)) → (post x5 z5)))))))))))
set_option maxHeartbeats 4000000 in
set_option maxRecDepth 100000 in
theorem w_M_visits_r113_170 {p : Program} {l : Launch} {e : Env} {R : Room} {s : State} {m : MethodId} {args : Array Value} {below : List Frame} {meth : Method} {c : Code} {Q : State → Prop} {G : GX} {A : Nat → Prop} (S : CallFix p m c cX12_visits 8 s args GW RX12) (hE : env G A s s.heap) (hA : ∀ q, s.heap.size ≤ q → A q) (hRf : 62 ≤ R.frames) (hRl : 1747 ≤ R.locals) {post : Int32 → St → Prop} (hret : RetI p l e R s m args below meth c Q 0 0 wM G A cX12_visits post) (x2 : Int32) (x3 : Int32) (x5 : Int32) (x6 : Int32) (z0 : St) (hB : B_M_visits_r113_170 post x2 x3 x5 x6 z0) : Xw p l e R s m args below meth c Q 0 0 wM G A z0 8 [(1, .ref (ad G 113)), (2, .int x2), (3, .int x3), (5, .int x5), (6, .int x6)] 170 [] := by
  intro H locs ls hP hD hS hl
  have hx := S.1
  have hb := S.2.1
  refine lv_bipush (v := 29) hx hb dX12_visits_170 (by decide) ?_
  refine lv_iconst (v := 4) hx hb dX12_visits_172 (by decide) ?_
  refine lv_aload_n hx hb dX12_visits_173 rfl (lv_at hl 0 rfl) ?_
  refine lv_bipush (v := 28) hx hb dX12_visits_174 (by decide) ?_
  refine xMk_113 S hE hP 28 (by decide) (by unfold vp_in; decide) dX12_visits_176 ?_
  refine lv_imul hx hb dX12_visits_177 ?_
  refine lv_iadd hx hb dX12_visits_178 ?_
  refine lv_topi (fun v1 ev1 => ?_)
  have hB := hB v1 ev1
  refine lv_istore (lv' := [(7, .int v1), (1, .ref (ad G 113)), (2, .int x2), (3, .int x3), (5, .int x5), (6, .int x6)]) hx hb dX12_visits_179 hl (by decide) rfl (fun ls hl => ?_)
  refine lv_aload_n hx hb dX12_visits_181 rfl (lv_at hl 1 rfl) ?_
  refine lv_iload hx hb dX12_visits_182 (lv_at hl 0 rfl) ?_
  refine lv_iload_n hx hb dX12_visits_184 rfl (lv_at hl 2 rfl) ?_
  obtain ⟨hi, hB⟩ := hB
  obtain ⟨z1, ez1⟩ : ∃ z9, z9 = sA z0 113 v1.toNatClampNeg x2 := ⟨_, rfl⟩
  have hB := hB z1 ez1
  refine xMs_113 S hE hP hD hS _ rfl hi dX12_visits_185 (fun H locs hP hD hS => ?_)
  rw [← ez1] at hP hD
  refine lv_aload_n hx hb dX12_visits_186 rfl (lv_at hl 1 rfl) ?_
  refine lv_iload hx hb dX12_visits_187 (lv_at hl 0 rfl) ?_
  refine lv_iconst (v := 1) hx hb dX12_visits_189 (by decide) ?_
  refine lv_iadd hx hb dX12_visits_190 ?_
  refine lv_iload_n hx hb dX12_visits_191 rfl (lv_at hl 3 rfl) ?_
  obtain ⟨hi, hB⟩ := hB
  obtain ⟨z2, ez2⟩ : ∃ z9, z9 = sA z1 113 (v1 + (1 : Int32)).toNatClampNeg x3 := ⟨_, rfl⟩
  have hB := hB z2 ez2
  refine xMs_113 S hE hP hD hS _ rfl hi dX12_visits_192 (fun H locs hP hD hS => ?_)
  rw [← ez2] at hP hD
  refine lv_aload_n hx hb dX12_visits_193 rfl (lv_at hl 1 rfl) ?_
  refine lv_iload hx hb dX12_visits_194 (lv_at hl 0 rfl) ?_
  refine lv_iconst (v := 2) hx hb dX12_visits_196 (by decide) ?_
  refine lv_iadd hx hb dX12_visits_197 ?_
  refine lv_iload hx hb dX12_visits_198 (lv_at hl 5 rfl) ?_
  obtain ⟨hi, hB⟩ := hB
  obtain ⟨z3, ez3⟩ : ∃ z9, z9 = sA z2 113 (v1 + (2 : Int32)).toNatClampNeg x6 := ⟨_, rfl⟩
  have hB := hB z3 ez3
  refine xMs_113 S hE hP hD hS _ rfl hi dX12_visits_200 (fun H locs hP hD hS => ?_)
  rw [← ez3] at hP hD
  refine lv_aload_n hx hb dX12_visits_201 rfl (lv_at hl 1 rfl) ?_
  refine lv_iload hx hb dX12_visits_202 (lv_at hl 0 rfl) ?_
  refine lv_iconst (v := 3) hx hb dX12_visits_204 (by decide) ?_
  refine lv_iadd hx hb dX12_visits_205 ?_
  refine lv_iload hx hb dX12_visits_206 (lv_at hl 4 rfl) ?_
  obtain ⟨hi, hB⟩ := hB
  obtain ⟨z4, ez4⟩ : ∃ z9, z9 = sA z3 113 (v1 + (3 : Int32)).toNatClampNeg x5 := ⟨_, rfl⟩
  have hB := hB z4 ez4
  refine xMs_113 S hE hP hD hS _ rfl hi dX12_visits_208 (fun H locs hP hD hS => ?_)
  rw [← ez4] at hP hD
  refine lv_aload_n hx hb dX12_visits_209 rfl (lv_at hl 1 rfl) ?_
  refine lv_bipush (v := 28) hx hb dX12_visits_210 (by decide) ?_
  refine lv_dup2_11 hx hb dX12_visits_212 rfl rfl ?_
  refine xMk_113 S hE hP 28 (by decide) (by unfold vp_in; decide) dX12_visits_213 ?_
  refine lv_iconst (v := 1) hx hb dX12_visits_214 (by decide) ?_
  refine lv_iadd hx hb dX12_visits_215 ?_
  obtain ⟨z5, ez5⟩ : ∃ z9, z9 = sA z4 113 28 ((gA z4 113 28) + (1 : Int32)) := ⟨_, rfl⟩
  have hB := hB z5 ez5
  refine xMs_113 S hE hP hD hS 28 (by decide) (by unfold vp_in; decide) dX12_visits_216 (fun H locs hP hD hS => ?_)
  rw [← ez5] at hP hD
  refine lv_iload hx hb dX12_visits_217 (lv_at hl 4 rfl) ?_
  exact hret _ _ _ _ _ _ dX12_visits_219 hB hP hD hS
def B_M_visits_r113_132 (post : Int32 → St → Prop) (ih132 : Int32 → Int32 → Int32 → Int32 → Int32 → St → Prop) (x2 : Int32) (x3 : Int32) (x5 : Int32) (x6 : Int32) (x7 : Int32) (z0 : St) : Prop :=
  (((236 : Int32) < x7 → (∀ z1 : St, z1 = sA z0 113 28 ((gA z0 113 28) - (1 : Int32)) → (B_M_visits_r113_170 post x2 x3 x5 x6 z1))) ∧ (¬ (236 : Int32) < x7 → (vp_in (((28 : Int32) + x7) + (4 : Int32)) 269 ∧ (vp_in ((28 : Int32) + x7) 269 ∧ (∀ z2 : St, z2 = sA z0 113 ((28 : Int32) + x7).toNatClampNeg (gA z0 113 (((28 : Int32) + x7) + (4 : Int32)).toNatClampNeg) → (∀ v2 : Int32, v2 = x7 + (1 : Int32) → (ih132 x2 x3 x5 x6 v2 z2)))))))
set_option maxHeartbeats 4000000 in
set_option maxRecDepth 100000 in
theorem w_M_visits_r113_132 {p : Program} {l : Launch} {e : Env} {R : Room} {s : State} {m : MethodId} {args : Array Value} {below : List Frame} {meth : Method} {c : Code} {Q : State → Prop} {G : GX} {A : Nat → Prop} (S : CallFix p m c cX12_visits 8 s args GW RX12) (hE : env G A s s.heap) (hA : ∀ q, s.heap.size ≤ q → A q) (hRf : 62 ≤ R.frames) (hRl : 1747 ≤ R.locals) {post : Int32 → St → Prop} (hret : RetI p l e R s m args below meth c Q 0 0 wM G A cX12_visits post) {ih132 : Int32 → Int32 → Int32 → Int32 → Int32 → St → Prop} (h132 : ∀ (x2 : Int32) (x3 : Int32) (x5 : Int32) (x6 : Int32) (x7 : Int32) (z0 : St), ih132 x2 x3 x5 x6 x7 z0 → Xw p l e R s m args below meth c Q 0 0 wM G A z0 8 [(1, .ref (ad G 113)), (2, .int x2), (3, .int x3), (5, .int x5), (6, .int x6), (7, .int x7)] 132 []) (x2 : Int32) (x3 : Int32) (x5 : Int32) (x6 : Int32) (x7 : Int32) (z0 : St) (hB : B_M_visits_r113_132 post ih132 x2 x3 x5 x6 x7 z0) : Xw p l e R s m args below meth c Q 0 0 wM G A z0 8 [(1, .ref (ad G 113)), (2, .int x2), (3, .int x3), (5, .int x5), (6, .int x6), (7, .int x7)] 132 [] := by
  intro H locs ls hP hD hS hl
  have hx := S.1
  have hb := S.2.1
  refine lv_iload hx hb dX12_visits_132 (lv_at hl 5 rfl) ?_
  refine lv_sipush (v := 236) hx hb dX12_visits_134 (by decide) ?_
  refine lv_icmp_gt (tgt := 162) hx hb dX12_visits_137 (by decide) (fun c1 => ?_) (fun c1 => ?_)
  · have hB := hB.1 c1
    refine lv_aload_n hx hb dX12_visits_162 rfl (lv_at hl 0 rfl) ?_
    refine lv_bipush (v := 28) hx hb dX12_visits_163 (by decide) ?_
    refine lv_dup2_11 hx hb dX12_visits_165 rfl rfl ?_
    refine xMk_113 S hE hP 28 (by decide) (by unfold vp_in; decide) dX12_visits_166 ?_
    refine lv_iconst (v := 1) hx hb dX12_visits_167 (by decide) ?_
    refine lv_isub hx hb dX12_visits_168 ?_
    obtain ⟨z1, ez1⟩ : ∃ z9, z9 = sA z0 113 28 ((gA z0 113 28) - (1 : Int32)) := ⟨_, rfl⟩
    have hB := hB z1 ez1
    refine xMs_113 S hE hP hD hS 28 (by decide) (by unfold vp_in; decide) dX12_visits_169 (fun H locs hP hD hS => ?_)
    rw [← ez1] at hP hD
    exact w_M_visits_r113_170 S hE hA hRf hRl hret x2 x3 x5 x6 z1 hB _ _ _ hP hD hS (lv_sub hl [0, 1, 2, 3, 4] rfl)
  · have hB := hB.2 c1
    refine lv_aload_n hx hb dX12_visits_140 rfl (lv_at hl 0 rfl) ?_
    refine lv_bipush (v := 28) hx hb dX12_visits_141 (by decide) ?_
    refine lv_iload hx hb dX12_visits_143 (lv_at hl 5 rfl) ?_
    refine lv_iadd hx hb dX12_visits_145 ?_
    refine lv_aload_n hx hb dX12_visits_146 rfl (lv_at hl 0 rfl) ?_
    refine lv_bipush (v := 28) hx hb dX12_visits_147 (by decide) ?_
    refine lv_iload hx hb dX12_visits_149 (lv_at hl 5 rfl) ?_
    refine lv_iadd hx hb dX12_visits_151 ?_
    refine lv_iconst (v := 4) hx hb dX12_visits_152 (by decide) ?_
    refine lv_iadd hx hb dX12_visits_153 ?_
    obtain ⟨hi, hB⟩ := hB
    refine xMl_113 S hE hP hi dX12_visits_154 ?_
    obtain ⟨hi, hB⟩ := hB
    obtain ⟨z2, ez2⟩ : ∃ z9, z9 = sA z0 113 ((28 : Int32) + x7).toNatClampNeg (gA z0 113 (((28 : Int32) + x7) + (4 : Int32)).toNatClampNeg) := ⟨_, rfl⟩
    have hB := hB z2 ez2
    refine xMs_113 S hE hP hD hS _ rfl hi dX12_visits_155 (fun H locs hP hD hS => ?_)
    rw [← ez2] at hP hD
    obtain ⟨v2, ev2⟩ : ∃ y9, y9 = x7 + (1 : Int32) := ⟨_, rfl⟩
    have hB := hB v2 ev2
    refine lv_iinc (v := v2) (lv' := [(7, .int v2), (1, .ref (ad G 113)), (2, .int x2), (3, .int x3), (5, .int x5), (6, .int x6)]) hx hb dX12_visits_156 hl (k := 5) rfl (by rw [ev2]; rfl) (by decide) rfl (fun ls hl => ?_)
    refine lv_goto (tgt := 132) hx hb dX12_visits_159 (by decide) ?_
    exact h132 x2 x3 x5 x6 v2 z2 hB _ _ _ hP hD hS (lv_sub hl [1, 2, 3, 4, 5, 0] rfl)
def L_M_visits_r113_132 (post : Int32 → St → Prop) : Nat → Int32 → Int32 → Int32 → Int32 → Int32 → St → Prop
  | 0 => fun _ _ _ _ _ _ => False
  | n + 1 => B_M_visits_r113_132 post (L_M_visits_r113_132 post n)
theorem wl_M_visits_r113_132 {p : Program} {l : Launch} {e : Env} {R : Room} {s : State} {m : MethodId} {args : Array Value} {below : List Frame} {meth : Method} {c : Code} {Q : State → Prop} {G : GX} {A : Nat → Prop} (S : CallFix p m c cX12_visits 8 s args GW RX12) (hE : env G A s s.heap) (hA : ∀ q, s.heap.size ≤ q → A q) (hRf : 62 ≤ R.frames) (hRl : 1747 ≤ R.locals) {post : Int32 → St → Prop} (hret : RetI p l e R s m args below meth c Q 0 0 wM G A cX12_visits post) : ∀ (n : Nat) (x2 : Int32) (x3 : Int32) (x5 : Int32) (x6 : Int32) (x7 : Int32) (z0 : St), L_M_visits_r113_132 post n x2 x3 x5 x6 x7 z0 → Xw p l e R s m args below meth c Q 0 0 wM G A z0 8 [(1, .ref (ad G 113)), (2, .int x2), (3, .int x3), (5, .int x5), (6, .int x6), (7, .int x7)] 132 [] := by
  intro n
  induction n with
  | zero => intro x2 x3 x5 x6 x7 z0 hB; exact absurd hB id
  | succ n ih => exact fun x2 x3 x5 x6 x7 z0 hB => w_M_visits_r113_132 S hE hA hRf hRl hret ih x2 x3 x5 x6 x7 z0 hB
def B_M_visits_r113_112 (post : Int32 → St → Prop) (x2 : Int32) (x3 : Int32) (x5 : Int32) (x6 : Int32) (z0 : St) : Prop :=
  (∀ z1 : St, z1 = sA z0 113 27 ((gA z0 113 27) + (1 : Int32)) → (((gA z1 113 28) = (60 : Int32) → (∃ n2, L_M_visits_r113_132 post n2 x2 x3 x5 x6 (1 : Int32) z1)) ∧ (¬ (gA z1 113 28) = (60 : Int32) → (B_M_visits_r113_170 post x2 x3 x5 x6 z1))))
set_option maxHeartbeats 4000000 in
set_option maxRecDepth 100000 in
theorem w_M_visits_r113_112 {p : Program} {l : Launch} {e : Env} {R : Room} {s : State} {m : MethodId} {args : Array Value} {below : List Frame} {meth : Method} {c : Code} {Q : State → Prop} {G : GX} {A : Nat → Prop} (S : CallFix p m c cX12_visits 8 s args GW RX12) (hE : env G A s s.heap) (hA : ∀ q, s.heap.size ≤ q → A q) (hRf : 62 ≤ R.frames) (hRl : 1747 ≤ R.locals) {post : Int32 → St → Prop} (hret : RetI p l e R s m args below meth c Q 0 0 wM G A cX12_visits post) (x2 : Int32) (x3 : Int32) (x5 : Int32) (x6 : Int32) (z0 : St) (hB : B_M_visits_r113_112 post x2 x3 x5 x6 z0) : Xw p l e R s m args below meth c Q 0 0 wM G A z0 8 [(1, .ref (ad G 113)), (2, .int x2), (3, .int x3), (5, .int x5), (6, .int x6)] 112 [] := by
  intro H locs ls hP hD hS hl
  have hx := S.1
  have hb := S.2.1
  refine lv_aload_n hx hb dX12_visits_112 rfl (lv_at hl 0 rfl) ?_
  refine lv_bipush (v := 27) hx hb dX12_visits_113 (by decide) ?_
  refine lv_dup2_11 hx hb dX12_visits_115 rfl rfl ?_
  refine xMk_113 S hE hP 27 (by decide) (by unfold vp_in; decide) dX12_visits_116 ?_
  refine lv_iconst (v := 1) hx hb dX12_visits_117 (by decide) ?_
  refine lv_iadd hx hb dX12_visits_118 ?_
  obtain ⟨z1, ez1⟩ : ∃ z9, z9 = sA z0 113 27 ((gA z0 113 27) + (1 : Int32)) := ⟨_, rfl⟩
  have hB := hB z1 ez1
  refine xMs_113 S hE hP hD hS 27 (by decide) (by unfold vp_in; decide) dX12_visits_119 (fun H locs hP hD hS => ?_)
  rw [← ez1] at hP hD
  refine lv_aload_n hx hb dX12_visits_120 rfl (lv_at hl 0 rfl) ?_
  refine lv_bipush (v := 28) hx hb dX12_visits_121 (by decide) ?_
  refine xMk_113 S hE hP 28 (by decide) (by unfold vp_in; decide) dX12_visits_123 ?_
  refine lv_bipush (v := 60) hx hb dX12_visits_124 (by decide) ?_
  refine lv_icmp_ne (tgt := 170) hx hb dX12_visits_126 (by decide) (fun c1 => ?_) (fun c1 => ?_)
  · have hB := hB.2 c1
    exact w_M_visits_r113_170 S hE hA hRf hRl hret x2 x3 x5 x6 z1 hB _ _ _ hP hD hS (lv_sub hl [0, 1, 2, 3, 4] rfl)
  · have hB := hB.1 c1
    refine lv_iconst (v := 1) hx hb dX12_visits_129 (by decide) ?_
    refine lv_istore (lv' := [(7, .int (1 : Int32)), (1, .ref (ad G 113)), (2, .int x2), (3, .int x3), (5, .int x5), (6, .int x6)]) hx hb dX12_visits_130 hl (by decide) rfl (fun ls hl => ?_)
    obtain ⟨n2, hB⟩ := hB
    exact wl_M_visits_r113_132 S hE hA hRf hRl hret n2 x2 x3 x5 x6 (1 : Int32) z1 hB _ _ _ hP hD hS (lv_sub hl [1, 2, 3, 4, 5, 0] rfl)
def S_M_visits_r113 (post : Int32 → St → Prop) (x2 : Int32) (z0 : St) : Prop :=
  (∀ v1 : Int32, v1 = (gA z0 113 24) → (vp_in ((3 : Int32) * x2) 18 ∧ (∀ v2 : Int32, v2 = (gA z0 109 ((3 : Int32) * x2).toNatClampNeg) → (S_M_joyOf (fun (r3 : Int32) (z1 : St) => (vp_in (((3 : Int32) * x2) + (1 : Int32)) 269 ∧ (vp_in (((3 : Int32) * x2) + (0 : Int32)) 269 ∧ (S_M_makesOf_r113 (fun (r4 : Int32) (z2 : St) => (vp_in (((3 : Int32) * x2) + (1 : Int32)) 269 ∧ (S_M_moodBy (fun (r5 : Int32) (z3 : St) => (vp_in (((3 : Int32) * x2) + (1 : Int32)) 269 ∧ (∀ z4 : St, z4 = sA z3 113 (((3 : Int32) * x2) + (1 : Int32)).toNatClampNeg r5 → (vp_in (((3 : Int32) * x2) + (2 : Int32)) 269 ∧ (vp_in (((3 : Int32) * x2) + (2 : Int32)) 269 ∧ (∀ z5 : St, z5 = sA z4 113 (((3 : Int32) * x2) + (2 : Int32)).toNatClampNeg ((gA z4 113 (((3 : Int32) * x2) + (2 : Int32)).toNatClampNeg) + r3) → ((r4 = (-1 : Int32) → (B_M_visits_r113_112 post x2 v1 r3 r4 z5)) ∧ (¬ r4 = (-1 : Int32) → (vp_in (((3 : Int32) * x2) + (0 : Int32)) 269 ∧ (vp_in ((18 : Int32) + r4) 269 ∧ (vp_in (((3 : Int32) * x2) + (0 : Int32)) 269 ∧ (∀ z6 : St, z6 = sA z5 113 (((3 : Int32) * x2) + (0 : Int32)).toNatClampNeg ((gA z5 113 (((3 : Int32) * x2) + (0 : Int32)).toNatClampNeg) - (gA z5 113 ((18 : Int32) + r4).toNatClampNeg)) → (∀ z7 : St, z7 = sA z6 113 24 r4 → (B_M_visits_r113_112 post x2 v1 r3 r4 z7)))))))))))))) (gA z2 113 (((3 : Int32) * x2) + (1 : Int32)).toNatClampNeg) r3 z2))) v2 (gA z1 113 (((3 : Int32) * x2) + (1 : Int32)).toNatClampNeg) (gA z1 113 (((3 : Int32) * x2) + (0 : Int32)).toNatClampNeg) v1 (gA z1 113 27) z1)))) v2 v1 z0))))
set_option maxHeartbeats 4000000 in
set_option maxRecDepth 100000 in
theorem w_M_visits_r113_0 {p : Program} {l : Launch} {e : Env} {R : Room} {s : State} {m : MethodId} {args : Array Value} {below : List Frame} {meth : Method} {c : Code} {Q : State → Prop} {G : GX} {A : Nat → Prop} (S : CallFix p m c cX12_visits 8 s args GW RX12) (hE : env G A s s.heap) (hA : ∀ q, s.heap.size ≤ q → A q) (hRf : 62 ≤ R.frames) (hRl : 1747 ≤ R.locals) {post : Int32 → St → Prop} (hret : RetI p l e R s m args below meth c Q 0 0 wM G A cX12_visits post) (x2 : Int32) (z0 : St) (hB : S_M_visits_r113 post x2 z0) : Xw p l e R s m args below meth c Q 0 0 wM G A z0 8 [(0, .ref (ad G 100)), (1, .ref (ad G 113)), (2, .int x2)] 0 [] := by
  intro H locs ls hP hD hS hl
  have hx := S.1
  have hb := S.2.1
  refine lv_aload_n hx hb dX12_visits_0 rfl (lv_at hl 1 rfl) ?_
  refine lv_bipush (v := 24) hx hb dX12_visits_1 (by decide) ?_
  refine xMk_113 S hE hP 24 (by decide) (by unfold vp_in; decide) dX12_visits_3 ?_
  refine lv_topi (fun v1 ev1 => ?_)
  have hB := hB v1 ev1
  refine lv_istore_n (lv' := [(3, .int v1), (0, .ref (ad G 100)), (1, .ref (ad G 113)), (2, .int x2)]) hx hb dX12_visits_4 rfl hl (by decide) rfl (fun ls hl => ?_)
  refine lv_aload_n hx hb dX12_visits_5 rfl (lv_at hl 1 rfl) ?_
  refine xMg_100_guest S hE hP lk_X12_49 dX12_visits_6 ?_
  refine lv_iconst (v := 3) hx hb dX12_visits_9 (by decide) ?_
  refine lv_iload_n hx hb dX12_visits_10 rfl (lv_at hl 3 rfl) ?_
  refine lv_imul hx hb dX12_visits_11 ?_
  obtain ⟨hi, hB⟩ := hB
  refine xMl_109 S hE hP hi dX12_visits_12 ?_
  refine lv_topi (fun v2 ev2 => ?_)
  have hB := hB v2 ev2
  refine lv_istore (lv' := [(4, .int v2), (3, .int v1), (0, .ref (ad G 100)), (1, .ref (ad G 113)), (2, .int x2)]) hx hb dX12_visits_13 hl (by decide) rfl (fun ls hl => ?_)
  refine lv_aload_n hx hb dX12_visits_15 rfl (lv_at hl 2 rfl) ?_
  refine lv_iload hx hb dX12_visits_16 (lv_at hl 0 rfl) ?_
  refine lv_iload_n hx hb dX12_visits_18 rfl (lv_at hl 1 rfl) ?_
  refine xcVi [.int v2, .int v1] S hE hA hP hD hS (c_M_joyOf l G z0 H.size v2 v1 _) hB (gw_c lk_X12_306 (gw_c wi_X12_joyOf (gw_c we_X12_X12_joyOf_X12_joyOf (gw_c wn_X12 (gw_c wc_X12_joyOf (fun _ h9 => h9)))))) hd_X12_joyOf rfl rfl (Nat.le_trans (Nat.le_of_ble_eq_true rfl) hRf) (Nat.le_trans (Nat.le_of_ble_eq_true rfl) hRl) ⟨Nat.zero_le _, Nat.zero_le _⟩ (va_recv hE.1 hP (ci := 11) (q0 := 0) rfl rfl) rfl hl.1 rfl (Nat.le_of_ble_eq_true rfl) dX12_visits_19 (fun r3 z1 H locs hB hP hD hS => ?_)
  refine lv_istore (lv' := [(5, .int r3), (4, .int v2), (3, .int v1), (0, .ref (ad G 100)), (1, .ref (ad G 113)), (2, .int x2)]) hx hb dX12_visits_22 hl (by decide) rfl (fun ls hl => ?_)
  refine lv_aload_n hx hb dX12_visits_24 rfl (lv_at hl 3 rfl) ?_
  refine lv_aload_n hx hb dX12_visits_25 rfl (lv_at hl 4 rfl) ?_
  refine lv_iload hx hb dX12_visits_26 (lv_at hl 1 rfl) ?_
  refine lv_aload_n hx hb dX12_visits_28 rfl (lv_at hl 4 rfl) ?_
  refine lv_iconst (v := 3) hx hb dX12_visits_29 (by decide) ?_
  refine lv_iload_n hx hb dX12_visits_30 rfl (lv_at hl 5 rfl) ?_
  refine lv_imul hx hb dX12_visits_31 ?_
  refine lv_iconst (v := 1) hx hb dX12_visits_32 (by decide) ?_
  refine lv_iadd hx hb dX12_visits_33 ?_
  obtain ⟨hi, hB⟩ := hB
  refine xMl_113 S hE hP hi dX12_visits_34 ?_
  refine lv_aload_n hx hb dX12_visits_35 rfl (lv_at hl 4 rfl) ?_
  refine lv_iconst (v := 3) hx hb dX12_visits_36 (by decide) ?_
  refine lv_iload_n hx hb dX12_visits_37 rfl (lv_at hl 5 rfl) ?_
  refine lv_imul hx hb dX12_visits_38 ?_
  refine lv_iconst (v := 0) hx hb dX12_visits_39 (by decide) ?_
  refine lv_iadd hx hb dX12_visits_40 ?_
  obtain ⟨hi, hB⟩ := hB
  refine xMl_113 S hE hP hi dX12_visits_41 ?_
  refine lv_iload_n hx hb dX12_visits_42 rfl (lv_at hl 2 rfl) ?_
  refine lv_aload_n hx hb dX12_visits_43 rfl (lv_at hl 4 rfl) ?_
  refine lv_bipush (v := 27) hx hb dX12_visits_44 (by decide) ?_
  refine xMk_113 S hE hP 27 (by decide) (by unfold vp_in; decide) dX12_visits_46 ?_
  refine xcVi [.ref (ad G 113), .int v2, .int (gA z1 113 (((3 : Int32) * x2) + (1 : Int32)).toNatClampNeg), .int (gA z1 113 (((3 : Int32) * x2) + (0 : Int32)).toNatClampNeg), .int v1, .int (gA z1 113 27)] S hE hA hP hD hS (c_M_makesOf_r113 l G z1 H.size v2 (gA z1 113 (((3 : Int32) * x2) + (1 : Int32)).toNatClampNeg) (gA z1 113 (((3 : Int32) * x2) + (0 : Int32)).toNatClampNeg) v1 (gA z1 113 27) _) hB (gw_c lk_X12_316 (gw_c wi_X12_makesOf (gw_c we_X12_X12_makesOf_X12_makesOf (gw_c wn_X12 (gw_c wc_X12_makesOf (fun _ h9 => h9)))))) hd_X12_makesOf rfl rfl (Nat.le_trans (Nat.le_of_ble_eq_true rfl) hRf) (Nat.le_trans (Nat.le_of_ble_eq_true rfl) hRl) ⟨Nat.zero_le _, Nat.zero_le _⟩ (va_recv hE.1 hP (ci := 11) (q0 := 0) rfl rfl) rfl hl.1 rfl (Nat.le_of_ble_eq_true rfl) dX12_visits_47 (fun r4 z2 H locs hB hP hD hS => ?_)
  refine lv_istore (lv' := [(6, .int r4), (5, .int r3), (4, .int v2), (3, .int v1), (0, .ref (ad G 100)), (1, .ref (ad G 113)), (2, .int x2)]) hx hb dX12_visits_50 hl (by decide) rfl (fun ls hl => ?_)
  refine lv_aload_n hx hb dX12_visits_52 rfl (lv_at hl 5 rfl) ?_
  refine lv_iconst (v := 3) hx hb dX12_visits_53 (by decide) ?_
  refine lv_iload_n hx hb dX12_visits_54 rfl (lv_at hl 6 rfl) ?_
  refine lv_imul hx hb dX12_visits_55 ?_
  refine lv_iconst (v := 1) hx hb dX12_visits_56 (by decide) ?_
  refine lv_iadd hx hb dX12_visits_57 ?_
  refine lv_aload_n hx hb dX12_visits_58 rfl (lv_at hl 5 rfl) ?_
  refine lv_iconst (v := 3) hx hb dX12_visits_59 (by decide) ?_
  refine lv_iload_n hx hb dX12_visits_60 rfl (lv_at hl 6 rfl) ?_
  refine lv_imul hx hb dX12_visits_61 ?_
  refine lv_iconst (v := 1) hx hb dX12_visits_62 (by decide) ?_
  refine lv_iadd hx hb dX12_visits_63 ?_
  obtain ⟨hi, hB⟩ := hB
  refine xMl_113 S hE hP hi dX12_visits_64 ?_
  refine lv_iload hx hb dX12_visits_65 (lv_at hl 1 rfl) ?_
  refine xcSi [.int (gA z2 113 (((3 : Int32) * x2) + (1 : Int32)).toNatClampNeg), .int r3] S hE hA hP hD hS (c_M_moodBy l G z2 H.size (gA z2 113 (((3 : Int32) * x2) + (1 : Int32)).toNatClampNeg) r3 _) hB (gw_c lk_X12_309 (gw_c wt_X12_moodBy (gw_c wn_X12 (gw_c wc_X12_moodBy (fun _ h9 => h9))))) hs_X12_moodBy rfl rfl (Nat.le_trans (Nat.le_of_ble_eq_true rfl) hRf) (Nat.le_trans (Nat.le_of_ble_eq_true rfl) hRl) ⟨Nat.zero_le _, Nat.zero_le _⟩ rfl hl.1 rfl (Nat.le_of_ble_eq_true rfl) dX12_visits_67 (fun r5 z3 H locs hB hP hD hS => ?_)
  obtain ⟨hi, hB⟩ := hB
  obtain ⟨z4, ez4⟩ : ∃ z9, z9 = sA z3 113 (((3 : Int32) * x2) + (1 : Int32)).toNatClampNeg r5 := ⟨_, rfl⟩
  have hB := hB z4 ez4
  refine xMs_113 S hE hP hD hS _ rfl hi dX12_visits_70 (fun H locs hP hD hS => ?_)
  rw [← ez4] at hP hD
  refine lv_aload_n hx hb dX12_visits_71 rfl (lv_at hl 5 rfl) ?_
  refine lv_iconst (v := 3) hx hb dX12_visits_72 (by decide) ?_
  refine lv_iload_n hx hb dX12_visits_73 rfl (lv_at hl 6 rfl) ?_
  refine lv_imul hx hb dX12_visits_74 ?_
  refine lv_iconst (v := 2) hx hb dX12_visits_75 (by decide) ?_
  refine lv_iadd hx hb dX12_visits_76 ?_
  refine lv_dup2_11 hx hb dX12_visits_77 rfl rfl ?_
  obtain ⟨hi, hB⟩ := hB
  refine xMl_113 S hE hP hi dX12_visits_78 ?_
  refine lv_iload hx hb dX12_visits_79 (lv_at hl 1 rfl) ?_
  refine lv_iadd hx hb dX12_visits_81 ?_
  obtain ⟨hi, hB⟩ := hB
  obtain ⟨z5, ez5⟩ : ∃ z9, z9 = sA z4 113 (((3 : Int32) * x2) + (2 : Int32)).toNatClampNeg ((gA z4 113 (((3 : Int32) * x2) + (2 : Int32)).toNatClampNeg) + r3) := ⟨_, rfl⟩
  have hB := hB z5 ez5
  refine xMs_113 S hE hP hD hS _ rfl hi dX12_visits_82 (fun H locs hP hD hS => ?_)
  rw [← ez5] at hP hD
  refine lv_iload hx hb dX12_visits_83 (lv_at hl 0 rfl) ?_
  refine lv_iconst (v := -1) hx hb dX12_visits_85 (by decide) ?_
  refine lv_icmp_eq (tgt := 112) hx hb dX12_visits_86 (by decide) (fun c6 => ?_) (fun c6 => ?_)
  · have hB := hB.1 c6
    exact w_M_visits_r113_112 S hE hA hRf hRl hret x2 v1 r3 r4 z5 hB _ _ _ hP hD hS (lv_sub hl [5, 6, 3, 1, 0] rfl)
  · have hB := hB.2 c6
    refine lv_aload_n hx hb dX12_visits_89 rfl (lv_at hl 5 rfl) ?_
    refine lv_iconst (v := 3) hx hb dX12_visits_90 (by decide) ?_
    refine lv_iload_n hx hb dX12_visits_91 rfl (lv_at hl 6 rfl) ?_
    refine lv_imul hx hb dX12_visits_92 ?_
    refine lv_iconst (v := 0) hx hb dX12_visits_93 (by decide) ?_
    refine lv_iadd hx hb dX12_visits_94 ?_
    refine lv_dup2_11 hx hb dX12_visits_95 rfl rfl ?_
    obtain ⟨hi, hB⟩ := hB
    refine xMl_113 S hE hP hi dX12_visits_96 ?_
    refine lv_aload_n hx hb dX12_visits_97 rfl (lv_at hl 5 rfl) ?_
    refine lv_bipush (v := 18) hx hb dX12_visits_98 (by decide) ?_
    refine lv_iload hx hb dX12_visits_100 (lv_at hl 0 rfl) ?_
    refine lv_iadd hx hb dX12_visits_102 ?_
    obtain ⟨hi, hB⟩ := hB
    refine xMl_113 S hE hP hi dX12_visits_103 ?_
    refine lv_isub hx hb dX12_visits_104 ?_
    obtain ⟨hi, hB⟩ := hB
    obtain ⟨z6, ez6⟩ : ∃ z9, z9 = sA z5 113 (((3 : Int32) * x2) + (0 : Int32)).toNatClampNeg ((gA z5 113 (((3 : Int32) * x2) + (0 : Int32)).toNatClampNeg) - (gA z5 113 ((18 : Int32) + r4).toNatClampNeg)) := ⟨_, rfl⟩
    have hB := hB z6 ez6
    refine xMs_113 S hE hP hD hS _ rfl hi dX12_visits_105 (fun H locs hP hD hS => ?_)
    rw [← ez6] at hP hD
    refine lv_aload_n hx hb dX12_visits_106 rfl (lv_at hl 5 rfl) ?_
    refine lv_bipush (v := 24) hx hb dX12_visits_107 (by decide) ?_
    refine lv_iload hx hb dX12_visits_109 (lv_at hl 0 rfl) ?_
    obtain ⟨z7, ez7⟩ : ∃ z9, z9 = sA z6 113 24 r4 := ⟨_, rfl⟩
    have hB := hB z7 ez7
    refine xMs_113 S hE hP hD hS 24 (by decide) (by unfold vp_in; decide) dX12_visits_111 (fun H locs hP hD hS => ?_)
    rw [← ez7] at hP hD
    exact w_M_visits_r113_112 S hE hA hRf hRl hret x2 v1 r3 r4 z7 hB _ _ _ hP hD hS (lv_sub hl [5, 6, 3, 1, 0] rfl)
set_option maxHeartbeats 4000000 in
set_option maxRecDepth 100000 in
theorem c_M_visits_r113 (l : Launch) (G : GX) (z0 : St) (sz : Nat) (x2 : Int32) (post : Int32 → St → Prop) : MetI l wM yX12_visits cX12_visits 8 (some .int) ({ frames := 62, cells := 0, slots := 0, locals := 1747 }) [.ref (ad G 100), .ref (ad G 113), .int x2] G z0 sz (S_M_visits_r113 post x2 z0) post := by
  refine Met.ofW (cc := cX12_visits) (maxL := 8) (ret := (some .int)) (by decide) rfl ?_
  intro p e s m args below meth c s₁ B hml hv
  obtain ⟨rfl, hsz, hP, hD0, hE, hB⟩ := hv
  have S : CallFix p m c cX12_visits 8 s _ GW RX12 := ⟨B.exec, B.bytes, hml, findClass_of_methodNamed B.named, fun w h => atoms_spec (ws := Cond.code yX12_visits cX12_visits 8 (some .int) :: GW) B.pre w (List.mem_cons_of_mem _ h)⟩
  have hlocks := B.notSynchronized
  subst hsz
  have hD := hD0.self (sz := s.heap.size)
  generalize hAe : va_A (wM G z0) s.heap.size = A at hD hE ⊢
  have hA : ∀ q : Nat, s.heap.size ≤ q → A q := fun q h => by rw [← hAe]; exact Or.inr h
  have hS : va_S A s.heap s.heap [] := va_S.rf
  have hl := lv_entry ([.ref (ad G 100), .ref (ad G 113), .int x2]) (n := 8) (Nat.le_of_ble_eq_true rfl)
  rw [lg_entry_eq]
  generalize (lg_sl ([.ref (ad G 100), .ref (ad G 113), .int x2]) ++ List.replicate (8 - (lg_sl ([.ref (ad G 100), .ref (ad G 113), .int x2])).length) Slot.unset).toArray = ls at hl ⊢
  have hl : lv_has ls 8 [(0, .ref (ad G 100)), (1, .ref (ad G 113)), (2, .int x2)] := hl
  refine w_M_visits_r113_0 S hE hA (Nat.le_refl _) (Nat.le_refl _) ?_ x2 z0 hB _ _ _ hP hD hS hl
  intro pc ls r σ H locs hd hp hP hD hS
  exact W.iret (v := r) B.exec B.bytes B.returns (fun t ht hW => ⟨⟨r, σ, rfl, hp, by rw [ht]; exact hP, hD⟩, hS.F ht⟩) hS.2.2 hd
def S_M_visit (post : Int32 → St → Prop) (x1 : Int32) (z0 : St) : Prop :=
  (∀ z1 : St, z1 = sI z0 100 (0 : Int32) → (S_M_isGuest (fun (r1 : Int32) (z2 : St) => ((r1 = 0 → (post (-1 : Int32) z2)) ∧ (¬ r1 = 0 → (S_M_remember (fun (z3 : St) => (S_M_visits_r113 (fun (r3 : Int32) (z4 : St) => (post (gA z4 113 24) z4)) x1 z3)) z2)))) x1 z1))
set_option maxHeartbeats 4000000 in
set_option maxRecDepth 100000 in
theorem w_M_visit_0 {p : Program} {l : Launch} {e : Env} {R : Room} {s : State} {m : MethodId} {args : Array Value} {below : List Frame} {meth : Method} {c : Code} {Q : State → Prop} {G : GX} {A : Nat → Prop} (S : CallFix p m c cX12_visit 3 s args GW RX12) (hE : env G A s s.heap) (hA : ∀ q, s.heap.size ≤ q → A q) (hRf : 63 ≤ R.frames) (hRl : 1774 ≤ R.locals) {post : Int32 → St → Prop} (hret : RetI p l e R s m args below meth c Q 0 0 wM G A cX12_visit post) (x1 : Int32) (z0 : St) (hB : S_M_visit post x1 z0) : Xw p l e R s m args below meth c Q 0 0 wM G A z0 3 [(0, .ref (ad G 100)), (1, .int x1)] 0 [] := by
  intro H locs ls hP hD hS hl
  have hx := S.1
  have hb := S.2.1
  refine lv_aload_n hx hb dX12_visit_0 rfl (lv_at hl 0 rfl) ?_
  refine lv_iconst (v := 0) hx hb dX12_visit_1 (by decide) ?_
  obtain ⟨z1, ez1⟩ : ∃ z9, z9 = sI z0 100 (0 : Int32) := ⟨_, rfl⟩
  have hB := hB z1 ez1
  refine xMp_100_thrown S hE hP hD hS lk_X12_89 dX12_visit_2 (fun H locs hP hD hS => ?_)
  rw [← ez1] at hP hD
  refine lv_aload_n hx hb dX12_visit_5 rfl (lv_at hl 0 rfl) ?_
  refine lv_iload_n hx hb dX12_visit_6 rfl (lv_at hl 1 rfl) ?_
  refine xcVi [.int x1] S hE hA hP hD hS (c_M_isGuest l G z1 H.size x1 _) hB (gw_c lk_X12_322 (gw_c wi_X12_isGuest (gw_c we_X12_X12_isGuest_X12_isGuest (gw_c wn_X12 (gw_c wc_X12_isGuest (fun _ h9 => h9)))))) hd_X12_isGuest rfl rfl (Nat.le_trans (Nat.le_of_ble_eq_true rfl) hRf) (Nat.le_trans (Nat.le_of_ble_eq_true rfl) hRl) ⟨Nat.zero_le _, Nat.zero_le _⟩ (va_recv hE.1 hP (ci := 11) (q0 := 0) rfl rfl) rfl hl.1 rfl (Nat.le_of_ble_eq_true rfl) dX12_visit_7 (fun r1 z2 H locs hB hP hD hS => ?_)
  refine lv_if_ne (tgt := 15) hx hb dX12_visit_10 (by decide) (fun c2 => ?_) (fun c2 => ?_)
  · have hB := hB.2 c2
    refine lv_aload_n hx hb dX12_visit_15 rfl (lv_at hl 0 rfl) ?_
    refine xcVv [] S hE hA hP hD hS (c_M_remember l G z2 H.size _) hB (gw_c lk_X12_329 (gw_c wi_X12_remember (gw_c we_X12_X12_remember_X12_remember (gw_c wn_X12 (gw_c wc_X12_remember (fun _ h9 => h9)))))) hd_X12_remember rfl rfl (Nat.le_trans (Nat.le_of_ble_eq_true rfl) hRf) (Nat.le_trans (Nat.le_of_ble_eq_true rfl) hRl) ⟨Nat.zero_le _, Nat.zero_le _⟩ (va_recv hE.1 hP (ci := 11) (q0 := 0) rfl rfl) rfl hl.1 rfl (Nat.le_of_ble_eq_true rfl) dX12_visit_16 (fun z3 H locs hB hP hD hS => ?_)
    refine lv_aload_n hx hb dX12_visit_19 rfl (lv_at hl 0 rfl) ?_
    refine lv_aload_n hx hb dX12_visit_20 rfl (lv_at hl 0 rfl) ?_
    refine xMg_100_now S hE hP lk_X12_61 dX12_visit_21 ?_
    refine lv_iload_n hx hb dX12_visit_24 rfl (lv_at hl 1 rfl) ?_
    refine xcVi [.ref (ad G 113), .int x1] S hE hA hP hD hS (c_M_visits_r113 l G z3 H.size x1 _) hB (gw_c lk_X12_332 (gw_c wi_X12_visits (gw_c we_X12_X12_visits_X12_visits (gw_c wn_X12 (gw_c wc_X12_visits (fun _ h9 => h9)))))) hd_X12_visits rfl rfl (Nat.le_trans (Nat.le_of_ble_eq_true rfl) hRf) (Nat.le_trans (Nat.le_of_ble_eq_true rfl) hRl) ⟨Nat.zero_le _, Nat.zero_le _⟩ (va_recv hE.1 hP (ci := 11) (q0 := 0) rfl rfl) rfl hl.1 rfl (Nat.le_of_ble_eq_true rfl) dX12_visit_25 (fun r3 z4 H locs hB hP hD hS => ?_)
    refine lv_istore_n (lv' := [(2, .int r3), (0, .ref (ad G 100)), (1, .int x1)]) hx hb dX12_visit_28 rfl hl (by decide) rfl (fun ls hl => ?_)
    refine lv_aload_n hx hb dX12_visit_29 rfl (lv_at hl 1 rfl) ?_
    refine xMg_100_now S hE hP lk_X12_61 dX12_visit_30 ?_
    refine lv_bipush (v := 24) hx hb dX12_visit_33 (by decide) ?_
    refine xMk_113 S hE hP 24 (by decide) (by unfold vp_in; decide) dX12_visit_35 ?_
    exact hret _ _ _ _ _ _ dX12_visit_36 hB hP hD hS
  · have hB := hB.1 c2
    refine lv_iconst (v := -1) hx hb dX12_visit_13 (by decide) ?_
    exact hret _ _ _ _ _ _ dX12_visit_14 hB hP hD hS
set_option maxHeartbeats 4000000 in
set_option maxRecDepth 100000 in
theorem c_M_visit (l : Launch) (G : GX) (z0 : St) (sz : Nat) (x1 : Int32) (post : Int32 → St → Prop) : MetI l wM yX12_visit cX12_visit 3 (some .int) ({ frames := 63, cells := 0, slots := 0, locals := 1774 }) [.ref (ad G 100), .int x1] G z0 sz (S_M_visit post x1 z0) post := by
  refine Met.ofW (cc := cX12_visit) (maxL := 3) (ret := (some .int)) (by decide) rfl ?_
  intro p e s m args below meth c s₁ B hml hv
  obtain ⟨rfl, hsz, hP, hD0, hE, hB⟩ := hv
  have S : CallFix p m c cX12_visit 3 s _ GW RX12 := ⟨B.exec, B.bytes, hml, findClass_of_methodNamed B.named, fun w h => atoms_spec (ws := Cond.code yX12_visit cX12_visit 3 (some .int) :: GW) B.pre w (List.mem_cons_of_mem _ h)⟩
  have hlocks := B.notSynchronized
  subst hsz
  have hD := hD0.self (sz := s.heap.size)
  generalize hAe : va_A (wM G z0) s.heap.size = A at hD hE ⊢
  have hA : ∀ q : Nat, s.heap.size ≤ q → A q := fun q h => by rw [← hAe]; exact Or.inr h
  have hS : va_S A s.heap s.heap [] := va_S.rf
  have hl := lv_entry ([.ref (ad G 100), .int x1]) (n := 3) (Nat.le_of_ble_eq_true rfl)
  rw [lg_entry_eq]
  generalize (lg_sl ([.ref (ad G 100), .int x1]) ++ List.replicate (3 - (lg_sl ([.ref (ad G 100), .int x1])).length) Slot.unset).toArray = ls at hl ⊢
  have hl : lv_has ls 3 [(0, .ref (ad G 100)), (1, .int x1)] := hl
  refine w_M_visit_0 S hE hA (Nat.le_refl _) (Nat.le_refl _) ?_ x1 z0 hB _ _ _ hP hD hS hl
  intro pc ls r σ H locs hd hp hP hD hS
  exact W.iret (v := r) B.exec B.bytes B.returns (fun t ht hW => ⟨⟨r, σ, rfl, hp, by rw [ht]; exact hP, hD⟩, hS.F ht⟩) hS.2.2 hd
def B_M_goMonth_r113_2 (post : St → Prop) (ih2 : Int32 → St → Prop) (x2 : Int32) (z0 : St) : Prop :=
  (((gI z0 112) ≤ x2 → (∀ z1 : St, z1 = sA z0 113 26 (0 : Int32) → (∀ z2 : St, z2 = sA z1 113 25 ((gA z1 113 25) + (1 : Int32)) → (post z2)))) ∧ (¬ (gI z0 112) ≤ x2 → (vp_in (((3 : Int32) * x2) + (0 : Int32)) 269 ∧ (S_Math_min_7cf53_M (fun (r2 : Int32) (z3 : St) => (vp_in (((3 : Int32) * x2) + (0 : Int32)) 269 ∧ (∀ z4 : St, z4 = sA z3 113 (((3 : Int32) * x2) + (0 : Int32)).toNatClampNeg r2 → (∀ v3 : Int32, v3 = x2 + (1 : Int32) → (ih2 v3 z4))))) (99 : Int32) ((gA z0 113 (((3 : Int32) * x2) + (0 : Int32)).toNatClampNeg) + (gA z0 105 1)) z0))))
set_option maxHeartbeats 4000000 in
set_option maxRecDepth 100000 in
theorem w_M_goMonth_r113_2 {p : Program} {l : Launch} {e : Env} {R : Room} {s : State} {m : MethodId} {args : Array Value} {below : List Frame} {meth : Method} {c : Code} {Q : State → Prop} {G : GX} {A : Nat → Prop} (S : CallFix p m c cX12_goMonth 3 s args GW RX12) (hE : env G A s s.heap) (hA : ∀ q, s.heap.size ≤ q → A q) (hRf : 1 ≤ R.frames) (hRl : 21 ≤ R.locals) {post : St → Prop} (hret : RetV p l e R s m args below meth c Q 0 0 wM G A cX12_goMonth post) {ih2 : Int32 → St → Prop} (h2 : ∀ (x2 : Int32) (z0 : St), ih2 x2 z0 → Xw p l e R s m args below meth c Q 0 0 wM G A z0 3 [(0, .ref (ad G 100)), (1, .ref (ad G 113)), (2, .int x2)] 2 []) (x2 : Int32) (z0 : St) (hB : B_M_goMonth_r113_2 post ih2 x2 z0) : Xw p l e R s m args below meth c Q 0 0 wM G A z0 3 [(0, .ref (ad G 100)), (1, .ref (ad G 113)), (2, .int x2)] 2 [] := by
  intro H locs ls hP hD hS hl
  have hx := S.1
  have hb := S.2.1
  refine lv_iload_n hx hb dX12_goMonth_2 rfl (lv_at hl 2 rfl) ?_
  refine lv_aload_n hx hb dX12_goMonth_3 rfl (lv_at hl 0 rfl) ?_
  refine xMg_100_guests S hE hP lk_X12_284 dX12_goMonth_4 ?_
  refine lv_icmp_ge (tgt := 42) hx hb dX12_goMonth_7 (by decide) (fun c1 => ?_) (fun c1 => ?_)
  · have hB := hB.1 c1
    refine lv_aload_n hx hb dX12_goMonth_42 rfl (lv_at hl 1 rfl) ?_
    refine lv_bipush (v := 26) hx hb dX12_goMonth_43 (by decide) ?_
    refine lv_iconst (v := 0) hx hb dX12_goMonth_45 (by decide) ?_
    obtain ⟨z1, ez1⟩ : ∃ z9, z9 = sA z0 113 26 (0 : Int32) := ⟨_, rfl⟩
    have hB := hB z1 ez1
    refine xMs_113 S hE hP hD hS 26 (by decide) (by unfold vp_in; decide) dX12_goMonth_46 (fun H locs hP hD hS => ?_)
    rw [← ez1] at hP hD
    refine lv_aload_n hx hb dX12_goMonth_47 rfl (lv_at hl 1 rfl) ?_
    refine lv_bipush (v := 25) hx hb dX12_goMonth_48 (by decide) ?_
    refine lv_dup2_11 hx hb dX12_goMonth_50 rfl rfl ?_
    refine xMk_113 S hE hP 25 (by decide) (by unfold vp_in; decide) dX12_goMonth_51 ?_
    refine lv_iconst (v := 1) hx hb dX12_goMonth_52 (by decide) ?_
    refine lv_iadd hx hb dX12_goMonth_53 ?_
    obtain ⟨z2, ez2⟩ : ∃ z9, z9 = sA z1 113 25 ((gA z1 113 25) + (1 : Int32)) := ⟨_, rfl⟩
    have hB := hB z2 ez2
    refine xMs_113 S hE hP hD hS 25 (by decide) (by unfold vp_in; decide) dX12_goMonth_54 (fun H locs hP hD hS => ?_)
    rw [← ez2] at hP hD
    exact hret _ _ _ _ _ dX12_goMonth_55 hB hP hD hS
  · have hB := hB.2 c1
    refine lv_aload_n hx hb dX12_goMonth_10 rfl (lv_at hl 1 rfl) ?_
    refine lv_iconst (v := 3) hx hb dX12_goMonth_11 (by decide) ?_
    refine lv_iload_n hx hb dX12_goMonth_12 rfl (lv_at hl 2 rfl) ?_
    refine lv_imul hx hb dX12_goMonth_13 ?_
    refine lv_iconst (v := 0) hx hb dX12_goMonth_14 (by decide) ?_
    refine lv_iadd hx hb dX12_goMonth_15 ?_
    refine lv_bipush (v := 99) hx hb dX12_goMonth_16 (by decide) ?_
    refine lv_aload_n hx hb dX12_goMonth_18 rfl (lv_at hl 1 rfl) ?_
    refine lv_iconst (v := 3) hx hb dX12_goMonth_19 (by decide) ?_
    refine lv_iload_n hx hb dX12_goMonth_20 rfl (lv_at hl 2 rfl) ?_
    refine lv_imul hx hb dX12_goMonth_21 ?_
    refine lv_iconst (v := 0) hx hb dX12_goMonth_22 (by decide) ?_
    refine lv_iadd hx hb dX12_goMonth_23 ?_
    obtain ⟨hi, hB⟩ := hB
    refine xMl_113 S hE hP hi dX12_goMonth_24 ?_
    refine lv_aload_n hx hb dX12_goMonth_25 rfl (lv_at hl 0 rfl) ?_
    refine xMg_100_rule S hE hP lk_X12_37 dX12_goMonth_26 ?_
    refine lv_iconst (v := 1) hx hb dX12_goMonth_29 (by decide) ?_
    refine xMk_105 S hE hP 1 (by decide) (by unfold vp_in; decide) dX12_goMonth_30 ?_
    refine lv_iadd hx hb dX12_goMonth_31 ?_
    refine xcSi [.int (99 : Int32), .int ((gA z0 113 (((3 : Int32) * x2) + (0 : Int32)).toNatClampNeg) + (gA z0 105 1))] S hE hA hP hD hS (c_Math_min_7cf53_M l G z0 H.size (99 : Int32) ((gA z0 113 (((3 : Int32) * x2) + (0 : Int32)).toNatClampNeg) + (gA z0 105 1)) _) hB (gw_c lk_X12_299 (gw_c wt_J9_min_7cf53 (gw_c wn_J9 (gw_c wc_J9_min_7cf53 (fun _ h9 => h9))))) hs_J9_min_7cf53 rfl rfl (Nat.le_trans (Nat.le_of_ble_eq_true rfl) hRf) (Nat.le_trans (Nat.le_of_ble_eq_true rfl) hRl) ⟨Nat.zero_le _, Nat.zero_le _⟩ rfl hl.1 rfl (Nat.le_of_ble_eq_true rfl) dX12_goMonth_32 (fun r2 z3 H locs hB hP hD hS => ?_)
    obtain ⟨hi, hB⟩ := hB
    obtain ⟨z4, ez4⟩ : ∃ z9, z9 = sA z3 113 (((3 : Int32) * x2) + (0 : Int32)).toNatClampNeg r2 := ⟨_, rfl⟩
    have hB := hB z4 ez4
    refine xMs_113 S hE hP hD hS _ rfl hi dX12_goMonth_35 (fun H locs hP hD hS => ?_)
    rw [← ez4] at hP hD
    obtain ⟨v3, ev3⟩ : ∃ y9, y9 = x2 + (1 : Int32) := ⟨_, rfl⟩
    have hB := hB v3 ev3
    refine lv_iinc (v := v3) (lv' := [(2, .int v3), (0, .ref (ad G 100)), (1, .ref (ad G 113))]) hx hb dX12_goMonth_36 hl (k := 2) rfl (by rw [ev3]; rfl) (by decide) rfl (fun ls hl => ?_)
    refine lv_goto (tgt := 2) hx hb dX12_goMonth_39 (by decide) ?_
    exact h2 v3 z4 hB _ _ _ hP hD hS (lv_sub hl [1, 2, 0] rfl)
def L_M_goMonth_r113_2 (post : St → Prop) : Nat → Int32 → St → Prop
  | 0 => fun _ _ => False
  | n + 1 => B_M_goMonth_r113_2 post (L_M_goMonth_r113_2 post n)
theorem wl_M_goMonth_r113_2 {p : Program} {l : Launch} {e : Env} {R : Room} {s : State} {m : MethodId} {args : Array Value} {below : List Frame} {meth : Method} {c : Code} {Q : State → Prop} {G : GX} {A : Nat → Prop} (S : CallFix p m c cX12_goMonth 3 s args GW RX12) (hE : env G A s s.heap) (hA : ∀ q, s.heap.size ≤ q → A q) (hRf : 1 ≤ R.frames) (hRl : 21 ≤ R.locals) {post : St → Prop} (hret : RetV p l e R s m args below meth c Q 0 0 wM G A cX12_goMonth post) : ∀ (n : Nat) (x2 : Int32) (z0 : St), L_M_goMonth_r113_2 post n x2 z0 → Xw p l e R s m args below meth c Q 0 0 wM G A z0 3 [(0, .ref (ad G 100)), (1, .ref (ad G 113)), (2, .int x2)] 2 [] := by
  intro n
  induction n with
  | zero => intro x2 z0 hB; exact absurd hB id
  | succ n ih => exact fun x2 z0 hB => w_M_goMonth_r113_2 S hE hA hRf hRl hret ih x2 z0 hB
def S_M_goMonth_r113 (post : St → Prop) (z0 : St) : Prop :=
  (∃ n1, L_M_goMonth_r113_2 post n1 (0 : Int32) z0)
set_option maxHeartbeats 4000000 in
set_option maxRecDepth 100000 in
theorem w_M_goMonth_r113_0 {p : Program} {l : Launch} {e : Env} {R : Room} {s : State} {m : MethodId} {args : Array Value} {below : List Frame} {meth : Method} {c : Code} {Q : State → Prop} {G : GX} {A : Nat → Prop} (S : CallFix p m c cX12_goMonth 3 s args GW RX12) (hE : env G A s s.heap) (hA : ∀ q, s.heap.size ≤ q → A q) (hRf : 1 ≤ R.frames) (hRl : 21 ≤ R.locals) {post : St → Prop} (hret : RetV p l e R s m args below meth c Q 0 0 wM G A cX12_goMonth post) (z0 : St) (hB : S_M_goMonth_r113 post z0) : Xw p l e R s m args below meth c Q 0 0 wM G A z0 3 [(0, .ref (ad G 100)), (1, .ref (ad G 113))] 0 [] := by
  intro H locs ls hP hD hS hl
  have hx := S.1
  have hb := S.2.1
  refine lv_iconst (v := 0) hx hb dX12_goMonth_0 (by decide) ?_
  refine lv_istore_n (lv' := [(2, .int (0 : Int32)), (0, .ref (ad G 100)), (1, .ref (ad G 113))]) hx hb dX12_goMonth_1 rfl hl (by decide) rfl (fun ls hl => ?_)
  obtain ⟨n1, hB⟩ := hB
  exact wl_M_goMonth_r113_2 S hE hA hRf hRl hret n1 (0 : Int32) z0 hB _ _ _ hP hD hS (lv_sub hl [1, 2, 0] rfl)
set_option maxHeartbeats 4000000 in
set_option maxRecDepth 100000 in
theorem c_M_goMonth_r113 (l : Launch) (G : GX) (z0 : St) (sz : Nat) (post : St → Prop) : MetV l wM yX12_goMonth cX12_goMonth 3 none ({ frames := 1, cells := 0, slots := 0, locals := 21 }) [.ref (ad G 100), .ref (ad G 113)] G z0 sz (S_M_goMonth_r113 post z0) post := by
  refine Met.ofW (cc := cX12_goMonth) (maxL := 3) (ret := none) (by decide) rfl ?_
  intro p e s m args below meth c s₁ B hml hv
  obtain ⟨rfl, hsz, hP, hD0, hE, hB⟩ := hv
  have S : CallFix p m c cX12_goMonth 3 s _ GW RX12 := ⟨B.exec, B.bytes, hml, findClass_of_methodNamed B.named, fun w h => atoms_spec (ws := Cond.code yX12_goMonth cX12_goMonth 3 none :: GW) B.pre w (List.mem_cons_of_mem _ h)⟩
  have hlocks := B.notSynchronized
  subst hsz
  have hD := hD0.self (sz := s.heap.size)
  generalize hAe : va_A (wM G z0) s.heap.size = A at hD hE ⊢
  have hA : ∀ q : Nat, s.heap.size ≤ q → A q := fun q h => by rw [← hAe]; exact Or.inr h
  have hS : va_S A s.heap s.heap [] := va_S.rf
  have hl := lv_entry ([.ref (ad G 100), .ref (ad G 113)]) (n := 3) (Nat.le_of_ble_eq_true rfl)
  rw [lg_entry_eq]
  generalize (lg_sl ([.ref (ad G 100), .ref (ad G 113)]) ++ List.replicate (3 - (lg_sl ([.ref (ad G 100), .ref (ad G 113)])).length) Slot.unset).toArray = ls at hl ⊢
  have hl : lv_has ls 3 [(0, .ref (ad G 100)), (1, .ref (ad G 113))] := hl
  refine w_M_goMonth_r113_0 S hE hA (Nat.le_refl _) (Nat.le_refl _) ?_  z0 hB _ _ _ hP hD hS hl
  intro pc ls σ H locs hd hp hP hD hS
  exact W.vret B.exec B.bytes B.returns (fun t ht hW => ⟨⟨σ, rfl, hp, by rw [ht]; exact hP, hD⟩, hS.F ht⟩) hS.2.2 hd
def S_M_month (post : Int32 → St → Prop) (z0 : St) : Prop :=
  (∀ z1 : St, z1 = sI z0 100 (0 : Int32) → (((gI z1 112) = 0 → (post (-1 : Int32) z1)) ∧ (¬ (gI z1 112) = 0 → (((gA z1 113 25) = (999 : Int32) → (post (-1 : Int32) z1)) ∧ (¬ (gA z1 113 25) = (999 : Int32) → (S_M_remember (fun (z2 : St) => (S_M_goMonth_r113 (fun (z3 : St) => (post (gA z3 113 25) z3)) z2)) z1))))))
set_option maxHeartbeats 4000000 in
set_option maxRecDepth 100000 in
theorem w_M_month_0 {p : Program} {l : Launch} {e : Env} {R : Room} {s : State} {m : MethodId} {args : Array Value} {below : List Frame} {meth : Method} {c : Code} {Q : State → Prop} {G : GX} {A : Nat → Prop} (S : CallFix p m c cX12_month 1 s args GW RX12) (hE : env G A s s.heap) (hA : ∀ q, s.heap.size ≤ q → A q) (hRf : 2 ≤ R.frames) (hRl : 43 ≤ R.locals) {post : Int32 → St → Prop} (hret : RetI p l e R s m args below meth c Q 0 0 wM G A cX12_month post) (z0 : St) (hB : S_M_month post z0) : Xw p l e R s m args below meth c Q 0 0 wM G A z0 1 [(0, .ref (ad G 100))] 0 [] := by
  intro H locs ls hP hD hS hl
  have hx := S.1
  have hb := S.2.1
  refine lv_aload_n hx hb dX12_month_0 rfl (lv_at hl 0 rfl) ?_
  refine lv_iconst (v := 0) hx hb dX12_month_1 (by decide) ?_
  obtain ⟨z1, ez1⟩ : ∃ z9, z9 = sI z0 100 (0 : Int32) := ⟨_, rfl⟩
  have hB := hB z1 ez1
  refine xMp_100_thrown S hE hP hD hS lk_X12_89 dX12_month_2 (fun H locs hP hD hS => ?_)
  rw [← ez1] at hP hD
  refine lv_aload_n hx hb dX12_month_5 rfl (lv_at hl 0 rfl) ?_
  refine xMg_100_guests S hE hP lk_X12_284 dX12_month_6 ?_
  refine lv_if_eq (tgt := 25) hx hb dX12_month_9 (by decide) (fun c1 => ?_) (fun c1 => ?_)
  · have hB := hB.1 c1
    refine lv_iconst (v := -1) hx hb dX12_month_25 (by decide) ?_
    exact hret _ _ _ _ _ _ dX12_month_26 hB hP hD hS
  · have hB := hB.2 c1
    refine lv_aload_n hx hb dX12_month_12 rfl (lv_at hl 0 rfl) ?_
    refine xMg_100_now S hE hP lk_X12_61 dX12_month_13 ?_
    refine lv_bipush (v := 25) hx hb dX12_month_16 (by decide) ?_
    refine xMk_113 S hE hP 25 (by decide) (by unfold vp_in; decide) dX12_month_18 ?_
    refine lv_sipush (v := 999) hx hb dX12_month_19 (by decide) ?_
    refine lv_icmp_ne (tgt := 27) hx hb dX12_month_22 (by decide) (fun c2 => ?_) (fun c2 => ?_)
    · have hB := hB.2 c2
      refine lv_aload_n hx hb dX12_month_27 rfl (lv_at hl 0 rfl) ?_
      refine xcVv [] S hE hA hP hD hS (c_M_remember l G z1 H.size _) hB (gw_c lk_X12_329 (gw_c wi_X12_remember (gw_c we_X12_X12_remember_X12_remember (gw_c wn_X12 (gw_c wc_X12_remember (fun _ h9 => h9)))))) hd_X12_remember rfl rfl (Nat.le_trans (Nat.le_of_ble_eq_true rfl) hRf) (Nat.le_trans (Nat.le_of_ble_eq_true rfl) hRl) ⟨Nat.zero_le _, Nat.zero_le _⟩ (va_recv hE.1 hP (ci := 11) (q0 := 0) rfl rfl) rfl hl.1 rfl (Nat.le_of_ble_eq_true rfl) dX12_month_28 (fun z2 H locs hB hP hD hS => ?_)
      refine lv_aload_n hx hb dX12_month_31 rfl (lv_at hl 0 rfl) ?_
      refine lv_aload_n hx hb dX12_month_32 rfl (lv_at hl 0 rfl) ?_
      refine xMg_100_now S hE hP lk_X12_61 dX12_month_33 ?_
      refine xcVv [.ref (ad G 113)] S hE hA hP hD hS (c_M_goMonth_r113 l G z2 H.size _) hB (gw_c lk_X12_336 (gw_c wi_X12_goMonth (gw_c we_X12_X12_goMonth_X12_goMonth (gw_c wn_X12 (gw_c wc_X12_goMonth (fun _ h9 => h9)))))) hd_X12_goMonth rfl rfl (Nat.le_trans (Nat.le_of_ble_eq_true rfl) hRf) (Nat.le_trans (Nat.le_of_ble_eq_true rfl) hRl) ⟨Nat.zero_le _, Nat.zero_le _⟩ (va_recv hE.1 hP (ci := 11) (q0 := 0) rfl rfl) rfl hl.1 rfl (Nat.le_of_ble_eq_true rfl) dX12_month_36 (fun z3 H locs hB hP hD hS => ?_)
      refine lv_aload_n hx hb dX12_month_39 rfl (lv_at hl 0 rfl) ?_
      refine xMg_100_now S hE hP lk_X12_61 dX12_month_40 ?_
      refine lv_bipush (v := 25) hx hb dX12_month_43 (by decide) ?_
      refine xMk_113 S hE hP 25 (by decide) (by unfold vp_in; decide) dX12_month_45 ?_
      exact hret _ _ _ _ _ _ dX12_month_46 hB hP hD hS
    · have hB := hB.1 c2
      refine lv_iconst (v := -1) hx hb dX12_month_25 (by decide) ?_
      exact hret _ _ _ _ _ _ dX12_month_26 hB hP hD hS
set_option maxHeartbeats 4000000 in
set_option maxRecDepth 100000 in
theorem c_M_month (l : Launch) (G : GX) (z0 : St) (sz : Nat) (post : Int32 → St → Prop) : MetI l wM yX12_month cX12_month 1 (some .int) ({ frames := 2, cells := 0, slots := 0, locals := 43 }) [.ref (ad G 100)] G z0 sz (S_M_month post z0) post := by
  refine Met.ofW (cc := cX12_month) (maxL := 1) (ret := (some .int)) (by decide) rfl ?_
  intro p e s m args below meth c s₁ B hml hv
  obtain ⟨rfl, hsz, hP, hD0, hE, hB⟩ := hv
  have S : CallFix p m c cX12_month 1 s _ GW RX12 := ⟨B.exec, B.bytes, hml, findClass_of_methodNamed B.named, fun w h => atoms_spec (ws := Cond.code yX12_month cX12_month 1 (some .int) :: GW) B.pre w (List.mem_cons_of_mem _ h)⟩
  have hlocks := B.notSynchronized
  subst hsz
  have hD := hD0.self (sz := s.heap.size)
  generalize hAe : va_A (wM G z0) s.heap.size = A at hD hE ⊢
  have hA : ∀ q : Nat, s.heap.size ≤ q → A q := fun q h => by rw [← hAe]; exact Or.inr h
  have hS : va_S A s.heap s.heap [] := va_S.rf
  have hl := lv_entry ([.ref (ad G 100)]) (n := 1) (Nat.le_of_ble_eq_true rfl)
  rw [lg_entry_eq]
  generalize (lg_sl ([.ref (ad G 100)]) ++ List.replicate (1 - (lg_sl ([.ref (ad G 100)])).length) Slot.unset).toArray = ls at hl ⊢
  have hl : lv_has ls 1 [(0, .ref (ad G 100))] := hl
  refine w_M_month_0 S hE hA (Nat.le_refl _) (Nat.le_refl _) ?_  z0 hB _ _ _ hP hD hS hl
  intro pc ls r σ H locs hd hp hP hD hS
  exact W.iret (v := r) B.exec B.bytes B.returns (fun t ht hW => ⟨⟨r, σ, rfl, hp, by rw [ht]; exact hP, hD⟩, hS.F ht⟩) hS.2.2 hd
def S_M_canHost_r113 (post : Int32 → St → Prop) (x2 : Int32) (z0 : St) : Prop :=
  (S_M_isDrink (fun (r1 : Int32) (z1 : St) => ((r1 = 0 → (post (0 : Int32) z1)) ∧ (¬ r1 = 0 → (((gA z1 113 24) = x2 → (post (0 : Int32) z1)) ∧ (¬ (gA z1 113 24) = x2 → (((gA z1 113 26) = 0 → (post (1 : Int32) z1)) ∧ (¬ (gA z1 113 26) = 0 → (post (0 : Int32) z1)))))))) x2 z0)
set_option maxHeartbeats 4000000 in
set_option maxRecDepth 100000 in
theorem w_M_canHost_r113_0 {p : Program} {l : Launch} {e : Env} {R : Room} {s : State} {m : MethodId} {args : Array Value} {below : List Frame} {meth : Method} {c : Code} {Q : State → Prop} {G : GX} {A : Nat → Prop} (S : CallFix p m c cX12_canHost 3 s args GW RX12) (hE : env G A s s.heap) (hA : ∀ q, s.heap.size ≤ q → A q) (hRf : 1 ≤ R.frames) (hRl : 21 ≤ R.locals) {post : Int32 → St → Prop} (hret : RetZ p l e R s m args below meth c Q 0 0 wM G A cX12_canHost post) (x2 : Int32) (z0 : St) (hB : S_M_canHost_r113 post x2 z0) : Xw p l e R s m args below meth c Q 0 0 wM G A z0 3 [(0, .ref (ad G 100)), (1, .ref (ad G 113)), (2, .int x2)] 0 [] := by
  intro H locs ls hP hD hS hl
  have hx := S.1
  have hb := S.2.1
  refine lv_aload_n hx hb dX12_canHost_0 rfl (lv_at hl 0 rfl) ?_
  refine lv_iload_n hx hb dX12_canHost_1 rfl (lv_at hl 2 rfl) ?_
  refine xcVi [.int x2] S hE hA hP hD hS (c_M_isDrink l G z0 H.size x2 _) hB (gw_c lk_X12_319 (gw_c wi_X12_isDrink (gw_c we_X12_X12_isDrink_X12_isDrink (gw_c wn_X12 (gw_c wc_X12_isDrink (fun _ h9 => h9)))))) hd_X12_isDrink rfl rfl (Nat.le_trans (Nat.le_of_ble_eq_true rfl) hRf) (Nat.le_trans (Nat.le_of_ble_eq_true rfl) hRl) ⟨Nat.zero_le _, Nat.zero_le _⟩ (va_recv hE.1 hP (ci := 11) (q0 := 0) rfl rfl) rfl hl.1 rfl (Nat.le_of_ble_eq_true rfl) dX12_canHost_2 (fun r1 z1 H locs hB hP hD hS => ?_)
  refine lv_if_eq (tgt := 27) hx hb dX12_canHost_5 (by decide) (fun c2 => ?_) (fun c2 => ?_)
  · have hB := hB.1 c2
    refine lv_iconst (v := 0) hx hb dX12_canHost_27 (by decide) ?_
    exact hret _ _ _ _ _ _ dX12_canHost_28 ⟨by decide, hB⟩ hP hD hS
  · have hB := hB.2 c2
    refine lv_aload_n hx hb dX12_canHost_8 rfl (lv_at hl 1 rfl) ?_
    refine lv_bipush (v := 24) hx hb dX12_canHost_9 (by decide) ?_
    refine xMk_113 S hE hP 24 (by decide) (by unfold vp_in; decide) dX12_canHost_11 ?_
    refine lv_iload_n hx hb dX12_canHost_12 rfl (lv_at hl 2 rfl) ?_
    refine lv_icmp_eq (tgt := 27) hx hb dX12_canHost_13 (by decide) (fun c3 => ?_) (fun c3 => ?_)
    · have hB := hB.1 c3
      refine lv_iconst (v := 0) hx hb dX12_canHost_27 (by decide) ?_
      exact hret _ _ _ _ _ _ dX12_canHost_28 ⟨by decide, hB⟩ hP hD hS
    · have hB := hB.2 c3
      refine lv_aload_n hx hb dX12_canHost_16 rfl (lv_at hl 1 rfl) ?_
      refine lv_bipush (v := 26) hx hb dX12_canHost_17 (by decide) ?_
      refine xMk_113 S hE hP 26 (by decide) (by unfold vp_in; decide) dX12_canHost_19 ?_
      refine lv_if_ne (tgt := 27) hx hb dX12_canHost_20 (by decide) (fun c4 => ?_) (fun c4 => ?_)
      · have hB := hB.2 c4
        refine lv_iconst (v := 0) hx hb dX12_canHost_27 (by decide) ?_
        exact hret _ _ _ _ _ _ dX12_canHost_28 ⟨by decide, hB⟩ hP hD hS
      · have hB := hB.1 c4
        refine lv_iconst (v := 1) hx hb dX12_canHost_23 (by decide) ?_
        refine lv_goto (tgt := 28) hx hb dX12_canHost_24 (by decide) ?_
        exact hret _ _ _ _ _ _ dX12_canHost_28 ⟨by decide, hB⟩ hP hD hS
set_option maxHeartbeats 4000000 in
set_option maxRecDepth 100000 in
theorem c_M_canHost_r113 (l : Launch) (G : GX) (z0 : St) (sz : Nat) (x2 : Int32) (post : Int32 → St → Prop) : MetI l wM yX12_canHost cX12_canHost 3 (some .boolean) ({ frames := 1, cells := 0, slots := 0, locals := 21 }) [.ref (ad G 100), .ref (ad G 113), .int x2] G z0 sz (S_M_canHost_r113 post x2 z0) post := by
  refine Met.ofW (cc := cX12_canHost) (maxL := 3) (ret := (some .boolean)) (by decide) rfl ?_
  intro p e s m args below meth c s₁ B hml hv
  obtain ⟨rfl, hsz, hP, hD0, hE, hB⟩ := hv
  have S : CallFix p m c cX12_canHost 3 s _ GW RX12 := ⟨B.exec, B.bytes, hml, findClass_of_methodNamed B.named, fun w h => atoms_spec (ws := Cond.code yX12_canHost cX12_canHost 3 (some .boolean) :: GW) B.pre w (List.mem_cons_of_mem _ h)⟩
  have hlocks := B.notSynchronized
  subst hsz
  have hD := hD0.self (sz := s.heap.size)
  generalize hAe : va_A (wM G z0) s.heap.size = A at hD hE ⊢
  have hA : ∀ q : Nat, s.heap.size ≤ q → A q := fun q h => by rw [← hAe]; exact Or.inr h
  have hS : va_S A s.heap s.heap [] := va_S.rf
  have hl := lv_entry ([.ref (ad G 100), .ref (ad G 113), .int x2]) (n := 3) (Nat.le_of_ble_eq_true rfl)
  rw [lg_entry_eq]
  generalize (lg_sl ([.ref (ad G 100), .ref (ad G 113), .int x2]) ++ List.replicate (3 - (lg_sl ([.ref (ad G 100), .ref (ad G 113), .int x2])).length) Slot.unset).toArray = ls at hl ⊢
  have hl : lv_has ls 3 [(0, .ref (ad G 100)), (1, .ref (ad G 113)), (2, .int x2)] := hl
  refine w_M_canHost_r113_0 S hE hA (Nat.le_refl _) (Nat.le_refl _) ?_ x2 z0 hB _ _ _ hP hD hS hl
  intro pc ls r σ H locs hd hp hP hD hS
  exact W.zret (v := r) B.exec B.bytes B.returns (xboolc r hp.1) (fun t ht hW => ⟨⟨r, σ, rfl, hp.2, by rw [ht]; exact hP, hD⟩, hS.F ht⟩) hS.2.2 hd
def S_M_hosts_r113 (post : St → Prop) (x1 : Int32) (z0 : St) : Prop :=
  (∀ z1 : St, z1 = sA z0 113 24 x1 → (∀ z2 : St, z2 = sA z1 113 26 (1 : Int32) → (post z2)))
set_option maxHeartbeats 4000000 in
set_option maxRecDepth 100000 in
theorem w_M_hosts_r113_0 {p : Program} {l : Launch} {e : Env} {R : Room} {s : State} {m : MethodId} {args : Array Value} {below : List Frame} {meth : Method} {c : Code} {Q : State → Prop} {G : GX} {A : Nat → Prop} (S : CallFix p m c cX12_hosts 2 s args GW RX12) (hE : env G A s s.heap) (hA : ∀ q, s.heap.size ≤ q → A q) (hRf : 0 ≤ R.frames) (hRl : 0 ≤ R.locals) {post : St → Prop} (hret : RetV p l e R s m args below meth c Q 0 0 wM G A cX12_hosts post) (x1 : Int32) (z0 : St) (hB : S_M_hosts_r113 post x1 z0) : Xw p l e R s m args below meth c Q 0 0 wM G A z0 2 [(0, .ref (ad G 113)), (1, .int x1)] 0 [] := by
  intro H locs ls hP hD hS hl
  have hx := S.1
  have hb := S.2.1
  refine lv_aload_n hx hb dX12_hosts_0 rfl (lv_at hl 0 rfl) ?_
  refine lv_bipush (v := 24) hx hb dX12_hosts_1 (by decide) ?_
  refine lv_iload_n hx hb dX12_hosts_3 rfl (lv_at hl 1 rfl) ?_
  obtain ⟨z1, ez1⟩ : ∃ z9, z9 = sA z0 113 24 x1 := ⟨_, rfl⟩
  have hB := hB z1 ez1
  refine xMs_113 S hE hP hD hS 24 (by decide) (by unfold vp_in; decide) dX12_hosts_4 (fun H locs hP hD hS => ?_)
  rw [← ez1] at hP hD
  refine lv_aload_n hx hb dX12_hosts_5 rfl (lv_at hl 0 rfl) ?_
  refine lv_bipush (v := 26) hx hb dX12_hosts_6 (by decide) ?_
  refine lv_iconst (v := 1) hx hb dX12_hosts_8 (by decide) ?_
  obtain ⟨z2, ez2⟩ : ∃ z9, z9 = sA z1 113 26 (1 : Int32) := ⟨_, rfl⟩
  have hB := hB z2 ez2
  refine xMs_113 S hE hP hD hS 26 (by decide) (by unfold vp_in; decide) dX12_hosts_9 (fun H locs hP hD hS => ?_)
  rw [← ez2] at hP hD
  exact hret _ _ _ _ _ dX12_hosts_10 hB hP hD hS
set_option maxHeartbeats 4000000 in
set_option maxRecDepth 100000 in
theorem c_M_hosts_r113 (l : Launch) (G : GX) (z0 : St) (sz : Nat) (x1 : Int32) (post : St → Prop) : MetV l wM yX12_hosts cX12_hosts 2 none ({ frames := 0, cells := 0, slots := 0, locals := 0 }) [.ref (ad G 113), .int x1] G z0 sz (S_M_hosts_r113 post x1 z0) post := by
  refine Met.ofW (cc := cX12_hosts) (maxL := 2) (ret := none) (by decide) rfl ?_
  intro p e s m args below meth c s₁ B hml hv
  obtain ⟨rfl, hsz, hP, hD0, hE, hB⟩ := hv
  have S : CallFix p m c cX12_hosts 2 s _ GW RX12 := ⟨B.exec, B.bytes, hml, findClass_of_methodNamed B.named, fun w h => atoms_spec (ws := Cond.code yX12_hosts cX12_hosts 2 none :: GW) B.pre w (List.mem_cons_of_mem _ h)⟩
  have hlocks := B.notSynchronized
  subst hsz
  have hD := hD0.self (sz := s.heap.size)
  generalize hAe : va_A (wM G z0) s.heap.size = A at hD hE ⊢
  have hA : ∀ q : Nat, s.heap.size ≤ q → A q := fun q h => by rw [← hAe]; exact Or.inr h
  have hS : va_S A s.heap s.heap [] := va_S.rf
  have hl := lv_entry ([.ref (ad G 113), .int x1]) (n := 2) (Nat.le_of_ble_eq_true rfl)
  rw [lg_entry_eq]
  generalize (lg_sl ([.ref (ad G 113), .int x1]) ++ List.replicate (2 - (lg_sl ([.ref (ad G 113), .int x1])).length) Slot.unset).toArray = ls at hl ⊢
  have hl : lv_has ls 2 [(0, .ref (ad G 113)), (1, .int x1)] := hl
  refine w_M_hosts_r113_0 S hE hA (Nat.le_refl _) (Nat.le_refl _) ?_ x1 z0 hB _ _ _ hP hD hS hl
  intro pc ls σ H locs hd hp hP hD hS
  exact W.vret B.exec B.bytes B.returns (fun t ht hW => ⟨⟨σ, rfl, hp, by rw [ht]; exact hP, hD⟩, hS.F ht⟩) hS.2.2 hd
def S_M_host (post : Int32 → St → Prop) (x1 : Int32) (z0 : St) : Prop :=
  (∀ z1 : St, z1 = sI z0 100 (0 : Int32) → (S_M_canHost_r113 (fun (r1 : Int32) (z2 : St) => ((r1 = 0 → (post (0 : Int32) z2)) ∧ (¬ r1 = 0 → (S_M_remember (fun (z3 : St) => (S_M_hosts_r113 (fun (z4 : St) => (post (1 : Int32) z4)) x1 z3)) z2)))) x1 z1))
set_option maxHeartbeats 4000000 in
set_option maxRecDepth 100000 in
theorem w_M_host_0 {p : Program} {l : Launch} {e : Env} {R : Room} {s : State} {m : MethodId} {args : Array Value} {below : List Frame} {meth : Method} {c : Code} {Q : State → Prop} {G : GX} {A : Nat → Prop} (S : CallFix p m c cX12_host 2 s args GW RX12) (hE : env G A s s.heap) (hA : ∀ q, s.heap.size ≤ q → A q) (hRf : 2 ≤ R.frames) (hRl : 43 ≤ R.locals) {post : Int32 → St → Prop} (hret : RetZ p l e R s m args below meth c Q 0 0 wM G A cX12_host post) (x1 : Int32) (z0 : St) (hB : S_M_host post x1 z0) : Xw p l e R s m args below meth c Q 0 0 wM G A z0 2 [(0, .ref (ad G 100)), (1, .int x1)] 0 [] := by
  intro H locs ls hP hD hS hl
  have hx := S.1
  have hb := S.2.1
  refine lv_aload_n hx hb dX12_host_0 rfl (lv_at hl 0 rfl) ?_
  refine lv_iconst (v := 0) hx hb dX12_host_1 (by decide) ?_
  obtain ⟨z1, ez1⟩ : ∃ z9, z9 = sI z0 100 (0 : Int32) := ⟨_, rfl⟩
  have hB := hB z1 ez1
  refine xMp_100_thrown S hE hP hD hS lk_X12_89 dX12_host_2 (fun H locs hP hD hS => ?_)
  rw [← ez1] at hP hD
  refine lv_aload_n hx hb dX12_host_5 rfl (lv_at hl 0 rfl) ?_
  refine lv_aload_n hx hb dX12_host_6 rfl (lv_at hl 0 rfl) ?_
  refine xMg_100_now S hE hP lk_X12_61 dX12_host_7 ?_
  refine lv_iload_n hx hb dX12_host_10 rfl (lv_at hl 1 rfl) ?_
  refine xcVi [.ref (ad G 113), .int x1] S hE hA hP hD hS (c_M_canHost_r113 l G z1 H.size x1 _) hB (gw_c lk_X12_340 (gw_c wi_X12_canHost (gw_c we_X12_X12_canHost_X12_canHost (gw_c wn_X12 (gw_c wc_X12_canHost (fun _ h9 => h9)))))) hd_X12_canHost rfl rfl (Nat.le_trans (Nat.le_of_ble_eq_true rfl) hRf) (Nat.le_trans (Nat.le_of_ble_eq_true rfl) hRl) ⟨Nat.zero_le _, Nat.zero_le _⟩ (va_recv hE.1 hP (ci := 11) (q0 := 0) rfl rfl) rfl hl.1 rfl (Nat.le_of_ble_eq_true rfl) dX12_host_11 (fun r1 z2 H locs hB hP hD hS => ?_)
  refine lv_if_ne (tgt := 19) hx hb dX12_host_14 (by decide) (fun c2 => ?_) (fun c2 => ?_)
  · have hB := hB.2 c2
    refine lv_aload_n hx hb dX12_host_19 rfl (lv_at hl 0 rfl) ?_
    refine xcVv [] S hE hA hP hD hS (c_M_remember l G z2 H.size _) hB (gw_c lk_X12_329 (gw_c wi_X12_remember (gw_c we_X12_X12_remember_X12_remember (gw_c wn_X12 (gw_c wc_X12_remember (fun _ h9 => h9)))))) hd_X12_remember rfl rfl (Nat.le_trans (Nat.le_of_ble_eq_true rfl) hRf) (Nat.le_trans (Nat.le_of_ble_eq_true rfl) hRl) ⟨Nat.zero_le _, Nat.zero_le _⟩ (va_recv hE.1 hP (ci := 11) (q0 := 0) rfl rfl) rfl hl.1 rfl (Nat.le_of_ble_eq_true rfl) dX12_host_20 (fun z3 H locs hB hP hD hS => ?_)
    refine lv_aload_n hx hb dX12_host_23 rfl (lv_at hl 0 rfl) ?_
    refine xMg_100_now S hE hP lk_X12_61 dX12_host_24 ?_
    refine lv_iload_n hx hb dX12_host_27 rfl (lv_at hl 1 rfl) ?_
    refine xcSv [.ref (ad G 113), .int x1] S hE hA hP hD hS (c_M_hosts_r113 l G z3 H.size x1 _) hB (gw_c lk_X12_344 (gw_c wt_X12_hosts (gw_c wn_X12 (gw_c wc_X12_hosts (fun _ h9 => h9))))) hs_X12_hosts rfl rfl (Nat.le_trans (Nat.le_of_ble_eq_true rfl) hRf) (Nat.le_trans (Nat.le_of_ble_eq_true rfl) hRl) ⟨Nat.zero_le _, Nat.zero_le _⟩ rfl hl.1 rfl (Nat.le_of_ble_eq_true rfl) dX12_host_28 (fun z4 H locs hB hP hD hS => ?_)
    refine lv_iconst (v := 1) hx hb dX12_host_31 (by decide) ?_
    exact hret _ _ _ _ _ _ dX12_host_32 ⟨by decide, hB⟩ hP hD hS
  · have hB := hB.1 c2
    refine lv_iconst (v := 0) hx hb dX12_host_17 (by decide) ?_
    exact hret _ _ _ _ _ _ dX12_host_18 ⟨by decide, hB⟩ hP hD hS
set_option maxHeartbeats 4000000 in
set_option maxRecDepth 100000 in
theorem c_M_host (l : Launch) (G : GX) (z0 : St) (sz : Nat) (x1 : Int32) (post : Int32 → St → Prop) : MetI l wM yX12_host cX12_host 2 (some .boolean) ({ frames := 2, cells := 0, slots := 0, locals := 43 }) [.ref (ad G 100), .int x1] G z0 sz (S_M_host post x1 z0) post := by
  refine Met.ofW (cc := cX12_host) (maxL := 2) (ret := (some .boolean)) (by decide) rfl ?_
  intro p e s m args below meth c s₁ B hml hv
  obtain ⟨rfl, hsz, hP, hD0, hE, hB⟩ := hv
  have S : CallFix p m c cX12_host 2 s _ GW RX12 := ⟨B.exec, B.bytes, hml, findClass_of_methodNamed B.named, fun w h => atoms_spec (ws := Cond.code yX12_host cX12_host 2 (some .boolean) :: GW) B.pre w (List.mem_cons_of_mem _ h)⟩
  have hlocks := B.notSynchronized
  subst hsz
  have hD := hD0.self (sz := s.heap.size)
  generalize hAe : va_A (wM G z0) s.heap.size = A at hD hE ⊢
  have hA : ∀ q : Nat, s.heap.size ≤ q → A q := fun q h => by rw [← hAe]; exact Or.inr h
  have hS : va_S A s.heap s.heap [] := va_S.rf
  have hl := lv_entry ([.ref (ad G 100), .int x1]) (n := 2) (Nat.le_of_ble_eq_true rfl)
  rw [lg_entry_eq]
  generalize (lg_sl ([.ref (ad G 100), .int x1]) ++ List.replicate (2 - (lg_sl ([.ref (ad G 100), .int x1])).length) Slot.unset).toArray = ls at hl ⊢
  have hl : lv_has ls 2 [(0, .ref (ad G 100)), (1, .int x1)] := hl
  refine w_M_host_0 S hE hA (Nat.le_refl _) (Nat.le_refl _) ?_ x1 z0 hB _ _ _ hP hD hS hl
  intro pc ls r σ H locs hd hp hP hD hS
  exact W.zret (v := r) B.exec B.bytes B.returns (xboolc r hp.1) (fun t ht hW => ⟨⟨r, σ, rfl, hp.2, by rw [ht]; exact hP, hD⟩, hS.F ht⟩) hS.2.2 hd
def S_M_pay (post : Int32 → St → Prop) (x1 : Int32) (x2 : Int32) (z0 : St) : Prop :=
  (∀ z1 : St, z1 = sI z0 100 (0 : Int32) → (S_M_isGuest (fun (r1 : Int32) (z2 : St) => ((r1 = 0 → (post (-1 : Int32) z2)) ∧ (¬ r1 = 0 → (S_M_isIn (fun (r3 : Int32) (z3 : St) => ((r3 = 0 → (post (-1 : Int32) z3)) ∧ (¬ r3 = 0 → (vp_in (((3 : Int32) * x1) + (0 : Int32)) 269 ∧ ((((gA z3 113 (((3 : Int32) * x1) + (0 : Int32)).toNatClampNeg) + x2) ≤ (99 : Int32) → (S_M_remember (fun (z4 : St) => (vp_in (((3 : Int32) * x1) + (0 : Int32)) 269 ∧ (vp_in (((3 : Int32) * x1) + (0 : Int32)) 269 ∧ (∀ z5 : St, z5 = sA z4 113 (((3 : Int32) * x1) + (0 : Int32)).toNatClampNeg ((gA z4 113 (((3 : Int32) * x1) + (0 : Int32)).toNatClampNeg) + x2) → (vp_in (((3 : Int32) * x1) + (0 : Int32)) 269 ∧ (post (gA z5 113 (((3 : Int32) * x1) + (0 : Int32)).toNatClampNeg) z5)))))) z3)) ∧ (¬ ((gA z3 113 (((3 : Int32) * x1) + (0 : Int32)).toNatClampNeg) + x2) ≤ (99 : Int32) → (post (-1 : Int32) z3))))))) ((x2).toInt64) (1 : Int64) (50 : Int64) z2)))) x1 z1))
set_option maxHeartbeats 4000000 in
set_option maxRecDepth 100000 in
theorem w_M_pay_0 {p : Program} {l : Launch} {e : Env} {R : Room} {s : State} {m : MethodId} {args : Array Value} {below : List Frame} {meth : Method} {c : Code} {Q : State → Prop} {G : GX} {A : Nat → Prop} (S : CallFix p m c cX12_pay 3 s args GW RX12) (hE : env G A s s.heap) (hA : ∀ q, s.heap.size ≤ q → A q) (hRf : 1 ≤ R.frames) (hRl : 25 ≤ R.locals) {post : Int32 → St → Prop} (hret : RetI p l e R s m args below meth c Q 0 0 wM G A cX12_pay post) (x1 : Int32) (x2 : Int32) (z0 : St) (hB : S_M_pay post x1 x2 z0) : Xw p l e R s m args below meth c Q 0 0 wM G A z0 3 [(0, .ref (ad G 100)), (1, .int x1), (2, .int x2)] 0 [] := by
  intro H locs ls hP hD hS hl
  have hx := S.1
  have hb := S.2.1
  refine lv_aload_n hx hb dX12_pay_0 rfl (lv_at hl 0 rfl) ?_
  refine lv_iconst (v := 0) hx hb dX12_pay_1 (by decide) ?_
  obtain ⟨z1, ez1⟩ : ∃ z9, z9 = sI z0 100 (0 : Int32) := ⟨_, rfl⟩
  have hB := hB z1 ez1
  refine xMp_100_thrown S hE hP hD hS lk_X12_89 dX12_pay_2 (fun H locs hP hD hS => ?_)
  rw [← ez1] at hP hD
  refine lv_aload_n hx hb dX12_pay_5 rfl (lv_at hl 0 rfl) ?_
  refine lv_iload_n hx hb dX12_pay_6 rfl (lv_at hl 1 rfl) ?_
  refine xcVi [.int x1] S hE hA hP hD hS (c_M_isGuest l G z1 H.size x1 _) hB (gw_c lk_X12_322 (gw_c wi_X12_isGuest (gw_c we_X12_X12_isGuest_X12_isGuest (gw_c wn_X12 (gw_c wc_X12_isGuest (fun _ h9 => h9)))))) hd_X12_isGuest rfl rfl (Nat.le_trans (Nat.le_of_ble_eq_true rfl) hRf) (Nat.le_trans (Nat.le_of_ble_eq_true rfl) hRl) ⟨Nat.zero_le _, Nat.zero_le _⟩ (va_recv hE.1 hP (ci := 11) (q0 := 0) rfl rfl) rfl hl.1 rfl (Nat.le_of_ble_eq_true rfl) dX12_pay_7 (fun r1 z2 H locs hB hP hD hS => ?_)
  refine lv_if_eq (tgt := 42) hx hb dX12_pay_10 (by decide) (fun c2 => ?_) (fun c2 => ?_)
  · have hB := hB.1 c2
    refine lv_iconst (v := -1) hx hb dX12_pay_42 (by decide) ?_
    exact hret _ _ _ _ _ _ dX12_pay_43 hB hP hD hS
  · have hB := hB.2 c2
    refine lv_iload_n hx hb dX12_pay_13 rfl (lv_at hl 2 rfl) ?_
    refine lv_i2l hx hb dX12_pay_14 rfl ?_
    refine lv_lconst (v := 1) hx hb dX12_pay_15 (by decide) ?_
    refine lv_ldc2 hx hb S.2.2.2.1 (S.2.2.2.2 _ lk_X12_348) dX12_pay_16 ?_
    refine xcSi [.long ((x2).toInt64), .long (1 : Int64), .long (50 : Int64)] S hE hA hP hD hS (c_M_isIn l G z2 H.size ((x2).toInt64) (1 : Int64) (50 : Int64) _) hB (gw_c lk_X12_260 (gw_c wt_X12_isIn (gw_c wn_X12 (gw_c wc_X12_isIn (fun _ h9 => h9))))) hs_X12_isIn rfl rfl (Nat.le_trans (Nat.le_of_ble_eq_true rfl) hRf) (Nat.le_trans (Nat.le_of_ble_eq_true rfl) hRl) ⟨Nat.zero_le _, Nat.zero_le _⟩ rfl hl.1 rfl (Nat.le_of_ble_eq_true rfl) dX12_pay_19 (fun r3 z3 H locs hB hP hD hS => ?_)
    refine lv_if_eq (tgt := 42) hx hb dX12_pay_22 (by decide) (fun c4 => ?_) (fun c4 => ?_)
    · have hB := hB.1 c4
      refine lv_iconst (v := -1) hx hb dX12_pay_42 (by decide) ?_
      exact hret _ _ _ _ _ _ dX12_pay_43 hB hP hD hS
    · have hB := hB.2 c4
      refine lv_aload_n hx hb dX12_pay_25 rfl (lv_at hl 0 rfl) ?_
      refine xMg_100_now S hE hP lk_X12_61 dX12_pay_26 ?_
      refine lv_iconst (v := 3) hx hb dX12_pay_29 (by decide) ?_
      refine lv_iload_n hx hb dX12_pay_30 rfl (lv_at hl 1 rfl) ?_
      refine lv_imul hx hb dX12_pay_31 ?_
      refine lv_iconst (v := 0) hx hb dX12_pay_32 (by decide) ?_
      refine lv_iadd hx hb dX12_pay_33 ?_
      obtain ⟨hi, hB⟩ := hB
      refine xMl_113 S hE hP hi dX12_pay_34 ?_
      refine lv_iload_n hx hb dX12_pay_35 rfl (lv_at hl 2 rfl) ?_
      refine lv_iadd hx hb dX12_pay_36 ?_
      refine lv_bipush (v := 99) hx hb dX12_pay_37 (by decide) ?_
      refine lv_icmp_le (tgt := 44) hx hb dX12_pay_39 (by decide) (fun c5 => ?_) (fun c5 => ?_)
      · have hB := hB.1 c5
        refine lv_aload_n hx hb dX12_pay_44 rfl (lv_at hl 0 rfl) ?_
        refine xcVv [] S hE hA hP hD hS (c_M_remember l G z3 H.size _) hB (gw_c lk_X12_329 (gw_c wi_X12_remember (gw_c we_X12_X12_remember_X12_remember (gw_c wn_X12 (gw_c wc_X12_remember (fun _ h9 => h9)))))) hd_X12_remember rfl rfl (Nat.le_trans (Nat.le_of_ble_eq_true rfl) hRf) (Nat.le_trans (Nat.le_of_ble_eq_true rfl) hRl) ⟨Nat.zero_le _, Nat.zero_le _⟩ (va_recv hE.1 hP (ci := 11) (q0 := 0) rfl rfl) rfl hl.1 rfl (Nat.le_of_ble_eq_true rfl) dX12_pay_45 (fun z4 H locs hB hP hD hS => ?_)
        refine lv_aload_n hx hb dX12_pay_48 rfl (lv_at hl 0 rfl) ?_
        refine xMg_100_now S hE hP lk_X12_61 dX12_pay_49 ?_
        refine lv_iconst (v := 3) hx hb dX12_pay_52 (by decide) ?_
        refine lv_iload_n hx hb dX12_pay_53 rfl (lv_at hl 1 rfl) ?_
        refine lv_imul hx hb dX12_pay_54 ?_
        refine lv_iconst (v := 0) hx hb dX12_pay_55 (by decide) ?_
        refine lv_iadd hx hb dX12_pay_56 ?_
        refine lv_dup2_11 hx hb dX12_pay_57 rfl rfl ?_
        obtain ⟨hi, hB⟩ := hB
        refine xMl_113 S hE hP hi dX12_pay_58 ?_
        refine lv_iload_n hx hb dX12_pay_59 rfl (lv_at hl 2 rfl) ?_
        refine lv_iadd hx hb dX12_pay_60 ?_
        obtain ⟨hi, hB⟩ := hB
        obtain ⟨z5, ez5⟩ : ∃ z9, z9 = sA z4 113 (((3 : Int32) * x1) + (0 : Int32)).toNatClampNeg ((gA z4 113 (((3 : Int32) * x1) + (0 : Int32)).toNatClampNeg) + x2) := ⟨_, rfl⟩
        have hB := hB z5 ez5
        refine xMs_113 S hE hP hD hS _ rfl hi dX12_pay_61 (fun H locs hP hD hS => ?_)
        rw [← ez5] at hP hD
        refine lv_aload_n hx hb dX12_pay_62 rfl (lv_at hl 0 rfl) ?_
        refine xMg_100_now S hE hP lk_X12_61 dX12_pay_63 ?_
        refine lv_iconst (v := 3) hx hb dX12_pay_66 (by decide) ?_
        refine lv_iload_n hx hb dX12_pay_67 rfl (lv_at hl 1 rfl) ?_
        refine lv_imul hx hb dX12_pay_68 ?_
        refine lv_iconst (v := 0) hx hb dX12_pay_69 (by decide) ?_
        refine lv_iadd hx hb dX12_pay_70 ?_
        obtain ⟨hi, hB⟩ := hB
        refine xMl_113 S hE hP hi dX12_pay_71 ?_
        exact hret _ _ _ _ _ _ dX12_pay_72 hB hP hD hS
      · have hB := hB.2 c5
        refine lv_iconst (v := -1) hx hb dX12_pay_42 (by decide) ?_
        exact hret _ _ _ _ _ _ dX12_pay_43 hB hP hD hS
set_option maxHeartbeats 4000000 in
set_option maxRecDepth 100000 in
theorem c_M_pay (l : Launch) (G : GX) (z0 : St) (sz : Nat) (x1 : Int32) (x2 : Int32) (post : Int32 → St → Prop) : MetI l wM yX12_pay cX12_pay 3 (some .int) ({ frames := 1, cells := 0, slots := 0, locals := 25 }) [.ref (ad G 100), .int x1, .int x2] G z0 sz (S_M_pay post x1 x2 z0) post := by
  refine Met.ofW (cc := cX12_pay) (maxL := 3) (ret := (some .int)) (by decide) rfl ?_
  intro p e s m args below meth c s₁ B hml hv
  obtain ⟨rfl, hsz, hP, hD0, hE, hB⟩ := hv
  have S : CallFix p m c cX12_pay 3 s _ GW RX12 := ⟨B.exec, B.bytes, hml, findClass_of_methodNamed B.named, fun w h => atoms_spec (ws := Cond.code yX12_pay cX12_pay 3 (some .int) :: GW) B.pre w (List.mem_cons_of_mem _ h)⟩
  have hlocks := B.notSynchronized
  subst hsz
  have hD := hD0.self (sz := s.heap.size)
  generalize hAe : va_A (wM G z0) s.heap.size = A at hD hE ⊢
  have hA : ∀ q : Nat, s.heap.size ≤ q → A q := fun q h => by rw [← hAe]; exact Or.inr h
  have hS : va_S A s.heap s.heap [] := va_S.rf
  have hl := lv_entry ([.ref (ad G 100), .int x1, .int x2]) (n := 3) (Nat.le_of_ble_eq_true rfl)
  rw [lg_entry_eq]
  generalize (lg_sl ([.ref (ad G 100), .int x1, .int x2]) ++ List.replicate (3 - (lg_sl ([.ref (ad G 100), .int x1, .int x2])).length) Slot.unset).toArray = ls at hl ⊢
  have hl : lv_has ls 3 [(0, .ref (ad G 100)), (1, .int x1), (2, .int x2)] := hl
  refine w_M_pay_0 S hE hA (Nat.le_refl _) (Nat.le_refl _) ?_ x1 x2 z0 hB _ _ _ hP hD hS hl
  intro pc ls r σ H locs hd hp hP hD hS
  exact W.iret (v := r) B.exec B.bytes B.returns (fun t ht hW => ⟨⟨r, σ, rfl, hp, by rw [ht]; exact hP, hD⟩, hS.F ht⟩) hS.2.2 hd
def S_M_price (post : Int32 → St → Prop) (x1 : Int32) (x2 : Int32) (z0 : St) : Prop :=
  (∀ z1 : St, z1 = sI z0 100 (0 : Int32) → (S_M_isDrink (fun (r1 : Int32) (z2 : St) => ((r1 = 0 → (post (-1 : Int32) z2)) ∧ (¬ r1 = 0 → (S_M_isIn (fun (r3 : Int32) (z3 : St) => ((r3 = 0 → (post (-1 : Int32) z3)) ∧ (¬ r3 = 0 → (vp_in ((18 : Int32) + x1) 269 ∧ (((gA z3 113 ((18 : Int32) + x1).toNatClampNeg) = x2 → (post (-1 : Int32) z3)) ∧ (¬ (gA z3 113 ((18 : Int32) + x1).toNatClampNeg) = x2 → (S_M_remember (fun (z4 : St) => (vp_in ((18 : Int32) + x1) 269 ∧ (∀ v6 : Int32, v6 = (gA z4 113 ((18 : Int32) + x1).toNatClampNeg) → (vp_in ((18 : Int32) + x1) 269 ∧ (∀ z5 : St, z5 = sA z4 113 ((18 : Int32) + x1).toNatClampNeg x2 → (post v6 z5)))))) z3))))))) ((x2).toInt64) (0 : Int64) (60 : Int64) z2)))) x1 z1))
set_option maxHeartbeats 4000000 in
set_option maxRecDepth 100000 in
theorem w_M_price_0 {p : Program} {l : Launch} {e : Env} {R : Room} {s : State} {m : MethodId} {args : Array Value} {below : List Frame} {meth : Method} {c : Code} {Q : State → Prop} {G : GX} {A : Nat → Prop} (S : CallFix p m c cX12_price 4 s args GW RX12) (hE : env G A s s.heap) (hA : ∀ q, s.heap.size ≤ q → A q) (hRf : 1 ≤ R.frames) (hRl : 25 ≤ R.locals) {post : Int32 → St → Prop} (hret : RetI p l e R s m args below meth c Q 0 0 wM G A cX12_price post) (x1 : Int32) (x2 : Int32) (z0 : St) (hB : S_M_price post x1 x2 z0) : Xw p l e R s m args below meth c Q 0 0 wM G A z0 4 [(0, .ref (ad G 100)), (1, .int x1), (2, .int x2)] 0 [] := by
  intro H locs ls hP hD hS hl
  have hx := S.1
  have hb := S.2.1
  refine lv_aload_n hx hb dX12_price_0 rfl (lv_at hl 0 rfl) ?_
  refine lv_iconst (v := 0) hx hb dX12_price_1 (by decide) ?_
  obtain ⟨z1, ez1⟩ : ∃ z9, z9 = sI z0 100 (0 : Int32) := ⟨_, rfl⟩
  have hB := hB z1 ez1
  refine xMp_100_thrown S hE hP hD hS lk_X12_89 dX12_price_2 (fun H locs hP hD hS => ?_)
  rw [← ez1] at hP hD
  refine lv_aload_n hx hb dX12_price_5 rfl (lv_at hl 0 rfl) ?_
  refine lv_iload_n hx hb dX12_price_6 rfl (lv_at hl 1 rfl) ?_
  refine xcVi [.int x1] S hE hA hP hD hS (c_M_isDrink l G z1 H.size x1 _) hB (gw_c lk_X12_319 (gw_c wi_X12_isDrink (gw_c we_X12_X12_isDrink_X12_isDrink (gw_c wn_X12 (gw_c wc_X12_isDrink (fun _ h9 => h9)))))) hd_X12_isDrink rfl rfl (Nat.le_trans (Nat.le_of_ble_eq_true rfl) hRf) (Nat.le_trans (Nat.le_of_ble_eq_true rfl) hRl) ⟨Nat.zero_le _, Nat.zero_le _⟩ (va_recv hE.1 hP (ci := 11) (q0 := 0) rfl rfl) rfl hl.1 rfl (Nat.le_of_ble_eq_true rfl) dX12_price_7 (fun r1 z2 H locs hB hP hD hS => ?_)
  refine lv_if_eq (tgt := 38) hx hb dX12_price_10 (by decide) (fun c2 => ?_) (fun c2 => ?_)
  · have hB := hB.1 c2
    refine lv_iconst (v := -1) hx hb dX12_price_38 (by decide) ?_
    exact hret _ _ _ _ _ _ dX12_price_39 hB hP hD hS
  · have hB := hB.2 c2
    refine lv_iload_n hx hb dX12_price_13 rfl (lv_at hl 2 rfl) ?_
    refine lv_i2l hx hb dX12_price_14 rfl ?_
    refine lv_lconst (v := 0) hx hb dX12_price_15 (by decide) ?_
    refine lv_ldc2 hx hb S.2.2.2.1 (S.2.2.2.2 _ lk_X12_350) dX12_price_16 ?_
    refine xcSi [.long ((x2).toInt64), .long (0 : Int64), .long (60 : Int64)] S hE hA hP hD hS (c_M_isIn l G z2 H.size ((x2).toInt64) (0 : Int64) (60 : Int64) _) hB (gw_c lk_X12_260 (gw_c wt_X12_isIn (gw_c wn_X12 (gw_c wc_X12_isIn (fun _ h9 => h9))))) hs_X12_isIn rfl rfl (Nat.le_trans (Nat.le_of_ble_eq_true rfl) hRf) (Nat.le_trans (Nat.le_of_ble_eq_true rfl) hRl) ⟨Nat.zero_le _, Nat.zero_le _⟩ rfl hl.1 rfl (Nat.le_of_ble_eq_true rfl) dX12_price_19 (fun r3 z3 H locs hB hP hD hS => ?_)
    refine lv_if_eq (tgt := 38) hx hb dX12_price_22 (by decide) (fun c4 => ?_) (fun c4 => ?_)
    · have hB := hB.1 c4
      refine lv_iconst (v := -1) hx hb dX12_price_38 (by decide) ?_
      exact hret _ _ _ _ _ _ dX12_price_39 hB hP hD hS
    · have hB := hB.2 c4
      refine lv_aload_n hx hb dX12_price_25 rfl (lv_at hl 0 rfl) ?_
      refine xMg_100_now S hE hP lk_X12_61 dX12_price_26 ?_
      refine lv_bipush (v := 18) hx hb dX12_price_29 (by decide) ?_
      refine lv_iload_n hx hb dX12_price_31 rfl (lv_at hl 1 rfl) ?_
      refine lv_iadd hx hb dX12_price_32 ?_
      obtain ⟨hi, hB⟩ := hB
      refine xMl_113 S hE hP hi dX12_price_33 ?_
      refine lv_iload_n hx hb dX12_price_34 rfl (lv_at hl 2 rfl) ?_
      refine lv_icmp_ne (tgt := 40) hx hb dX12_price_35 (by decide) (fun c5 => ?_) (fun c5 => ?_)
      · have hB := hB.2 c5
        refine lv_aload_n hx hb dX12_price_40 rfl (lv_at hl 0 rfl) ?_
        refine xcVv [] S hE hA hP hD hS (c_M_remember l G z3 H.size _) hB (gw_c lk_X12_329 (gw_c wi_X12_remember (gw_c we_X12_X12_remember_X12_remember (gw_c wn_X12 (gw_c wc_X12_remember (fun _ h9 => h9)))))) hd_X12_remember rfl rfl (Nat.le_trans (Nat.le_of_ble_eq_true rfl) hRf) (Nat.le_trans (Nat.le_of_ble_eq_true rfl) hRl) ⟨Nat.zero_le _, Nat.zero_le _⟩ (va_recv hE.1 hP (ci := 11) (q0 := 0) rfl rfl) rfl hl.1 rfl (Nat.le_of_ble_eq_true rfl) dX12_price_41 (fun z4 H locs hB hP hD hS => ?_)
        refine lv_aload_n hx hb dX12_price_44 rfl (lv_at hl 0 rfl) ?_
        refine xMg_100_now S hE hP lk_X12_61 dX12_price_45 ?_
        refine lv_bipush (v := 18) hx hb dX12_price_48 (by decide) ?_
        refine lv_iload_n hx hb dX12_price_50 rfl (lv_at hl 1 rfl) ?_
        refine lv_iadd hx hb dX12_price_51 ?_
        obtain ⟨hi, hB⟩ := hB
        refine xMl_113 S hE hP hi dX12_price_52 ?_
        refine lv_topi (fun v6 ev6 => ?_)
        have hB := hB v6 ev6
        refine lv_istore_n (lv' := [(3, .int v6), (0, .ref (ad G 100)), (1, .int x1), (2, .int x2)]) hx hb dX12_price_53 rfl hl (by decide) rfl (fun ls hl => ?_)
        refine lv_aload_n hx hb dX12_price_54 rfl (lv_at hl 1 rfl) ?_
        refine xMg_100_now S hE hP lk_X12_61 dX12_price_55 ?_
        refine lv_bipush (v := 18) hx hb dX12_price_58 (by decide) ?_
        refine lv_iload_n hx hb dX12_price_60 rfl (lv_at hl 2 rfl) ?_
        refine lv_iadd hx hb dX12_price_61 ?_
        refine lv_iload_n hx hb dX12_price_62 rfl (lv_at hl 3 rfl) ?_
        obtain ⟨hi, hB⟩ := hB
        obtain ⟨z5, ez5⟩ : ∃ z9, z9 = sA z4 113 ((18 : Int32) + x1).toNatClampNeg x2 := ⟨_, rfl⟩
        have hB := hB z5 ez5
        refine xMs_113 S hE hP hD hS _ rfl hi dX12_price_63 (fun H locs hP hD hS => ?_)
        rw [← ez5] at hP hD
        refine lv_iload_n hx hb dX12_price_64 rfl (lv_at hl 0 rfl) ?_
        exact hret _ _ _ _ _ _ dX12_price_65 hB hP hD hS
      · have hB := hB.1 c5
        refine lv_iconst (v := -1) hx hb dX12_price_38 (by decide) ?_
        exact hret _ _ _ _ _ _ dX12_price_39 hB hP hD hS
set_option maxHeartbeats 4000000 in
set_option maxRecDepth 100000 in
theorem c_M_price (l : Launch) (G : GX) (z0 : St) (sz : Nat) (x1 : Int32) (x2 : Int32) (post : Int32 → St → Prop) : MetI l wM yX12_price cX12_price 4 (some .int) ({ frames := 1, cells := 0, slots := 0, locals := 25 }) [.ref (ad G 100), .int x1, .int x2] G z0 sz (S_M_price post x1 x2 z0) post := by
  refine Met.ofW (cc := cX12_price) (maxL := 4) (ret := (some .int)) (by decide) rfl ?_
  intro p e s m args below meth c s₁ B hml hv
  obtain ⟨rfl, hsz, hP, hD0, hE, hB⟩ := hv
  have S : CallFix p m c cX12_price 4 s _ GW RX12 := ⟨B.exec, B.bytes, hml, findClass_of_methodNamed B.named, fun w h => atoms_spec (ws := Cond.code yX12_price cX12_price 4 (some .int) :: GW) B.pre w (List.mem_cons_of_mem _ h)⟩
  have hlocks := B.notSynchronized
  subst hsz
  have hD := hD0.self (sz := s.heap.size)
  generalize hAe : va_A (wM G z0) s.heap.size = A at hD hE ⊢
  have hA : ∀ q : Nat, s.heap.size ≤ q → A q := fun q h => by rw [← hAe]; exact Or.inr h
  have hS : va_S A s.heap s.heap [] := va_S.rf
  have hl := lv_entry ([.ref (ad G 100), .int x1, .int x2]) (n := 4) (Nat.le_of_ble_eq_true rfl)
  rw [lg_entry_eq]
  generalize (lg_sl ([.ref (ad G 100), .int x1, .int x2]) ++ List.replicate (4 - (lg_sl ([.ref (ad G 100), .int x1, .int x2])).length) Slot.unset).toArray = ls at hl ⊢
  have hl : lv_has ls 4 [(0, .ref (ad G 100)), (1, .int x1), (2, .int x2)] := hl
  refine w_M_price_0 S hE hA (Nat.le_refl _) (Nat.le_refl _) ?_ x1 x2 z0 hB _ _ _ hP hD hS hl
  intro pc ls r σ H locs hd hp hP hD hS
  exact W.iret (v := r) B.exec B.bytes B.returns (fun t ht hW => ⟨⟨r, σ, rfl, hp, by rw [ht]; exact hP, hD⟩, hS.F ht⟩) hS.2.2 hd
def S_M_draw (post : Int32 → St → Prop) (x1 : Int32) (z0 : St) : Prop :=
  (∀ z1 : St, z1 = sL z0 0 (((gL z0 0) * (6364136223846793005 : Int64)) + (1442695040888963407 : Int64)) → (¬ (x1).toInt64 = 0 ∧ (post ((((((gL z1 0)).toUInt64 >>> (((33 : Int32)).toInt64.toUInt64 &&& Int64.toUInt64 63)).toInt64 - (((gL z1 0)).toUInt64 >>> (((33 : Int32)).toInt64.toUInt64 &&& Int64.toUInt64 63)).toInt64 / (x1).toInt64 * (x1).toInt64)).toInt32) z1)))
set_option maxHeartbeats 4000000 in
set_option maxRecDepth 100000 in
theorem w_M_draw_0 {p : Program} {l : Launch} {e : Env} {R : Room} {s : State} {m : MethodId} {args : Array Value} {below : List Frame} {meth : Method} {c : Code} {Q : State → Prop} {G : GX} {A : Nat → Prop} (S : CallFix p m c cX12_draw 2 s args GW RX12) (hE : env G A s s.heap) (hA : ∀ q, s.heap.size ≤ q → A q) (hRf : 0 ≤ R.frames) (hRl : 0 ≤ R.locals) {post : Int32 → St → Prop} (hret : RetI p l e R s m args below meth c Q 0 0 wM G A cX12_draw post) (x1 : Int32) (z0 : St) (hB : S_M_draw post x1 z0) : Xw p l e R s m args below meth c Q 0 0 wM G A z0 2 [(0, .ref (ad G 100)), (1, .int x1)] 0 [] := by
  intro H locs ls hP hD hS hl
  have hx := S.1
  have hb := S.2.1
  refine lv_aload_n hx hb dX12_draw_0 rfl (lv_at hl 0 rfl) ?_
  refine lv_aload_n hx hb dX12_draw_1 rfl (lv_at hl 0 rfl) ?_
  refine xMg_100_x S hE hP lk_X12_352 dX12_draw_2 ?_
  refine lv_ldc2 hx hb S.2.2.2.1 (S.2.2.2.2 _ lk_X12_356) dX12_draw_5 ?_
  refine lv_lmul hx hb dX12_draw_8 ?_
  refine lv_ldc2 hx hb S.2.2.2.1 (S.2.2.2.2 _ lk_X12_358) dX12_draw_9 ?_
  refine lv_ladd hx hb dX12_draw_12 ?_
  obtain ⟨z1, ez1⟩ : ∃ z9, z9 = sL z0 0 (((gL z0 0) * (6364136223846793005 : Int64)) + (1442695040888963407 : Int64)) := ⟨_, rfl⟩
  have hB := hB z1 ez1
  refine xMp_100_x S hE hP hD hS lk_X12_352 dX12_draw_13 (fun H locs hP hD hS => ?_)
  rw [← ez1] at hP hD
  refine lv_aload_n hx hb dX12_draw_16 rfl (lv_at hl 0 rfl) ?_
  refine xMg_100_x S hE hP lk_X12_352 dX12_draw_17 ?_
  refine lv_bipush (v := 33) hx hb dX12_draw_20 (by decide) ?_
  refine lv_lushr hx hb dX12_draw_22 rfl ?_
  refine lv_iload_n hx hb dX12_draw_23 rfl (lv_at hl 1 rfl) ?_
  refine lv_i2l hx hb dX12_draw_24 rfl ?_
  obtain ⟨hne, hB⟩ := hB
  refine lv_lrem hx hb dX12_draw_25 hne ?_
  refine lv_l2i hx hb dX12_draw_26 rfl ?_
  exact hret _ _ _ _ _ _ dX12_draw_27 hB hP hD hS
set_option maxHeartbeats 4000000 in
set_option maxRecDepth 100000 in
theorem c_M_draw (l : Launch) (G : GX) (z0 : St) (sz : Nat) (x1 : Int32) (post : Int32 → St → Prop) : MetI l wM yX12_draw cX12_draw 2 (some .int) ({ frames := 0, cells := 0, slots := 0, locals := 0 }) [.ref (ad G 100), .int x1] G z0 sz (S_M_draw post x1 z0) post := by
  refine Met.ofW (cc := cX12_draw) (maxL := 2) (ret := (some .int)) (by decide) rfl ?_
  intro p e s m args below meth c s₁ B hml hv
  obtain ⟨rfl, hsz, hP, hD0, hE, hB⟩ := hv
  have S : CallFix p m c cX12_draw 2 s _ GW RX12 := ⟨B.exec, B.bytes, hml, findClass_of_methodNamed B.named, fun w h => atoms_spec (ws := Cond.code yX12_draw cX12_draw 2 (some .int) :: GW) B.pre w (List.mem_cons_of_mem _ h)⟩
  have hlocks := B.notSynchronized
  subst hsz
  have hD := hD0.self (sz := s.heap.size)
  generalize hAe : va_A (wM G z0) s.heap.size = A at hD hE ⊢
  have hA : ∀ q : Nat, s.heap.size ≤ q → A q := fun q h => by rw [← hAe]; exact Or.inr h
  have hS : va_S A s.heap s.heap [] := va_S.rf
  have hl := lv_entry ([.ref (ad G 100), .int x1]) (n := 2) (Nat.le_of_ble_eq_true rfl)
  rw [lg_entry_eq]
  generalize (lg_sl ([.ref (ad G 100), .int x1]) ++ List.replicate (2 - (lg_sl ([.ref (ad G 100), .int x1])).length) Slot.unset).toArray = ls at hl ⊢
  have hl : lv_has ls 2 [(0, .ref (ad G 100)), (1, .int x1)] := hl
  refine w_M_draw_0 S hE hA (Nat.le_refl _) (Nat.le_refl _) ?_ x1 z0 hB _ _ _ hP hD hS hl
  intro pc ls r σ H locs hd hp hP hD hS
  exact W.iret (v := r) B.exec B.bytes B.returns (fun t ht hW => ⟨⟨r, σ, rfl, hp, by rw [ht]; exact hP, hD⟩, hS.F ht⟩) hS.2.2 hd
def B_M_years_105 (post : Int32 → St → Prop) (ih37 : Int32 → Int32 → Int32 → St → Prop) (x1 : Int32) (x4 : Int32) (x5 : Int32) (z0 : St) : Prop :=
  (∀ v1 : Int32, v1 = x5 + (1 : Int32) → (ih37 x1 x4 v1 z0))
set_option maxHeartbeats 4000000 in
set_option maxRecDepth 100000 in
theorem w_M_years_105 {p : Program} {l : Launch} {e : Env} {R : Room} {s : State} {m : MethodId} {args : Array Value} {below : List Frame} {meth : Method} {c : Code} {Q : State → Prop} {G : GX} {A : Nat → Prop} (S : CallFix p m c cX12_years 7 s args GW RX12) (hE : env G A s s.heap) (hA : ∀ q, s.heap.size ≤ q → A q) (hRf : 63 ≤ R.frames) (hRl : 1774 ≤ R.locals) {post : Int32 → St → Prop} (hret : RetI p l e R s m args below meth c Q 0 0 wM G A cX12_years post) {ih37 : Int32 → Int32 → Int32 → St → Prop} (h37 : ∀ (x1 : Int32) (x4 : Int32) (x5 : Int32) (z0 : St), ih37 x1 x4 x5 z0 → Xw p l e R s m args below meth c Q 0 0 wM G A z0 7 [(0, .ref (ad G 100)), (1, .int x1), (4, .int x4), (5, .int x5)] 37 []) (x1 : Int32) (x4 : Int32) (x5 : Int32) (z0 : St) (hB : B_M_years_105 post ih37 x1 x4 x5 z0) : Xw p l e R s m args below meth c Q 0 0 wM G A z0 7 [(0, .ref (ad G 100)), (1, .int x1), (4, .int x4), (5, .int x5)] 105 [] := by
  intro H locs ls hP hD hS hl
  have hx := S.1
  have hb := S.2.1
  obtain ⟨v1, ev1⟩ : ∃ y9, y9 = x5 + (1 : Int32) := ⟨_, rfl⟩
  have hB := hB v1 ev1
  refine lv_iinc (v := v1) (lv' := [(5, .int v1), (0, .ref (ad G 100)), (1, .int x1), (4, .int x4)]) hx hb dX12_years_105 hl (k := 3) rfl (by rw [ev1]; rfl) (by decide) rfl (fun ls hl => ?_)
  refine lv_goto (tgt := 37) hx hb dX12_years_108 (by decide) ?_
  exact h37 x1 x4 v1 z0 hB _ _ _ hP hD hS (lv_sub hl [1, 2, 3, 0] rfl)
def B_M_years_37 (post : Int32 → St → Prop) (ih37 : Int32 → Int32 → Int32 → St → Prop) (x1 : Int32) (x4 : Int32) (x5 : Int32) (z0 : St) : Prop :=
  ((x1 ≤ x5 → (post x4 z0)) ∧ (¬ x1 ≤ x5 → (S_M_remember (fun (z1 : St) => (S_M_draw (fun (r2 : Int32) (z2 : St) => (((gI z2 118) ≤ r2 → (S_M_draw (fun (r4 : Int32) (z3 : St) => (S_M_visits_r113 (fun (r5 : Int32) (z4 : St) => (∀ v6 : Int32, v6 = x4 + (1 : Int32) → (B_M_years_105 post ih37 x1 v6 x5 z4))) r4 z3)) (gI z2 112) z2)) ∧ (¬ (gI z2 118) ≤ r2 → (((999 : Int32) ≤ (gA z2 113 25) → (B_M_years_105 post ih37 x1 x4 x5 z2)) ∧ (¬ (999 : Int32) ≤ (gA z2 113 25) → (S_M_goMonth_r113 (fun (z5 : St) => (B_M_years_105 post ih37 x1 x4 x5 z5)) z2)))))) (10 : Int32) z1)) z0)))
set_option maxHeartbeats 4000000 in
set_option maxRecDepth 100000 in
theorem w_M_years_37 {p : Program} {l : Launch} {e : Env} {R : Room} {s : State} {m : MethodId} {args : Array Value} {below : List Frame} {meth : Method} {c : Code} {Q : State → Prop} {G : GX} {A : Nat → Prop} (S : CallFix p m c cX12_years 7 s args GW RX12) (hE : env G A s s.heap) (hA : ∀ q, s.heap.size ≤ q → A q) (hRf : 63 ≤ R.frames) (hRl : 1774 ≤ R.locals) {post : Int32 → St → Prop} (hret : RetI p l e R s m args below meth c Q 0 0 wM G A cX12_years post) {ih37 : Int32 → Int32 → Int32 → St → Prop} (h37 : ∀ (x1 : Int32) (x4 : Int32) (x5 : Int32) (z0 : St), ih37 x1 x4 x5 z0 → Xw p l e R s m args below meth c Q 0 0 wM G A z0 7 [(0, .ref (ad G 100)), (1, .int x1), (4, .int x4), (5, .int x5)] 37 []) (x1 : Int32) (x4 : Int32) (x5 : Int32) (z0 : St) (hB : B_M_years_37 post ih37 x1 x4 x5 z0) : Xw p l e R s m args below meth c Q 0 0 wM G A z0 7 [(0, .ref (ad G 100)), (1, .int x1), (4, .int x4), (5, .int x5)] 37 [] := by
  intro H locs ls hP hD hS hl
  have hx := S.1
  have hb := S.2.1
  refine lv_iload hx hb dX12_years_37 (lv_at hl 3 rfl) ?_
  refine lv_iload_n hx hb dX12_years_39 rfl (lv_at hl 1 rfl) ?_
  refine lv_icmp_ge (tgt := 111) hx hb dX12_years_40 (by decide) (fun c1 => ?_) (fun c1 => ?_)
  · have hB := hB.1 c1
    refine lv_iload hx hb dX12_years_111 (lv_at hl 2 rfl) ?_
    exact hret _ _ _ _ _ _ dX12_years_113 hB hP hD hS
  · have hB := hB.2 c1
    refine lv_aload_n hx hb dX12_years_43 rfl (lv_at hl 0 rfl) ?_
    refine xcVv [] S hE hA hP hD hS (c_M_remember l G z0 H.size _) hB (gw_c lk_X12_329 (gw_c wi_X12_remember (gw_c we_X12_X12_remember_X12_remember (gw_c wn_X12 (gw_c wc_X12_remember (fun _ h9 => h9)))))) hd_X12_remember rfl rfl (Nat.le_trans (Nat.le_of_ble_eq_true rfl) hRf) (Nat.le_trans (Nat.le_of_ble_eq_true rfl) hRl) ⟨Nat.zero_le _, Nat.zero_le _⟩ (va_recv hE.1 hP (ci := 11) (q0 := 0) rfl rfl) rfl hl.1 rfl (Nat.le_of_ble_eq_true rfl) dX12_years_44 (fun z1 H locs hB hP hD hS => ?_)
    refine lv_aload_n hx hb dX12_years_47 rfl (lv_at hl 0 rfl) ?_
    refine lv_bipush (v := 10) hx hb dX12_years_48 (by decide) ?_
    refine xcVi [.int (10 : Int32)] S hE hA hP hD hS (c_M_draw l G z1 H.size (10 : Int32) _) hB (gw_c lk_X12_360 (gw_c wi_X12_draw (gw_c we_X12_X12_draw_X12_draw (gw_c wn_X12 (gw_c wc_X12_draw (fun _ h9 => h9)))))) hd_X12_draw rfl rfl (Nat.le_trans (Nat.le_of_ble_eq_true rfl) hRf) (Nat.le_trans (Nat.le_of_ble_eq_true rfl) hRl) ⟨Nat.zero_le _, Nat.zero_le _⟩ (va_recv hE.1 hP (ci := 11) (q0 := 0) rfl rfl) rfl hl.1 rfl (Nat.le_of_ble_eq_true rfl) dX12_years_50 (fun r2 z2 H locs hB hP hD hS => ?_)
    refine lv_aload_n hx hb dX12_years_53 rfl (lv_at hl 0 rfl) ?_
    refine xMg_100_snowy S hE hP lk_X12_71 dX12_years_54 ?_
    refine lv_icmp_ge (tgt := 84) hx hb dX12_years_57 (by decide) (fun c3 => ?_) (fun c3 => ?_)
    · have hB := hB.1 c3
      refine lv_aload_n hx hb dX12_years_84 rfl (lv_at hl 0 rfl) ?_
      refine lv_aload_n hx hb dX12_years_85 rfl (lv_at hl 0 rfl) ?_
      refine xMg_100_now S hE hP lk_X12_61 dX12_years_86 ?_
      refine lv_aload_n hx hb dX12_years_89 rfl (lv_at hl 0 rfl) ?_
      refine lv_aload_n hx hb dX12_years_90 rfl (lv_at hl 0 rfl) ?_
      refine xMg_100_guests S hE hP lk_X12_284 dX12_years_91 ?_
      refine xcVi [.int (gI z2 112)] S hE hA hP hD hS (c_M_draw l G z2 H.size (gI z2 112) _) hB (gw_c lk_X12_360 (gw_c wi_X12_draw (gw_c we_X12_X12_draw_X12_draw (gw_c wn_X12 (gw_c wc_X12_draw (fun _ h9 => h9)))))) hd_X12_draw rfl rfl (Nat.le_trans (Nat.le_of_ble_eq_true rfl) hRf) (Nat.le_trans (Nat.le_of_ble_eq_true rfl) hRl) ⟨Nat.zero_le _, Nat.zero_le _⟩ (va_recv hE.1 hP (ci := 11) (q0 := 0) rfl rfl) rfl hl.1 rfl (Nat.le_of_ble_eq_true rfl) dX12_years_94 (fun r4 z3 H locs hB hP hD hS => ?_)
      refine xcVi [.ref (ad G 113), .int r4] S hE hA hP hD hS (c_M_visits_r113 l G z3 H.size r4 _) hB (gw_c lk_X12_332 (gw_c wi_X12_visits (gw_c we_X12_X12_visits_X12_visits (gw_c wn_X12 (gw_c wc_X12_visits (fun _ h9 => h9)))))) hd_X12_visits rfl rfl (Nat.le_trans (Nat.le_of_ble_eq_true rfl) hRf) (Nat.le_trans (Nat.le_of_ble_eq_true rfl) hRl) ⟨Nat.zero_le _, Nat.zero_le _⟩ (va_recv hE.1 hP (ci := 11) (q0 := 0) rfl rfl) rfl hl.1 rfl (Nat.le_of_ble_eq_true rfl) dX12_years_97 (fun r5 z4 H locs hB hP hD hS => ?_)
      refine lv_istore (lv' := [(6, .int r5), (0, .ref (ad G 100)), (1, .int x1), (4, .int x4), (5, .int x5)]) hx hb dX12_years_100 hl (by decide) rfl (fun ls hl => ?_)
      obtain ⟨v6, ev6⟩ : ∃ y9, y9 = x4 + (1 : Int32) := ⟨_, rfl⟩
      have hB := hB v6 ev6
      refine lv_iinc (v := v6) (lv' := [(4, .int v6), (6, .int r5), (0, .ref (ad G 100)), (1, .int x1), (5, .int x5)]) hx hb dX12_years_102 hl (k := 3) rfl (by rw [ev6]; rfl) (by decide) rfl (fun ls hl => ?_)
      exact w_M_years_105 S hE hA hRf hRl hret h37 x1 v6 x5 z4 hB _ _ _ hP hD hS (lv_sub hl [2, 3, 0, 4] rfl)
    · have hB := hB.2 c3
      refine lv_aload_n hx hb dX12_years_60 rfl (lv_at hl 0 rfl) ?_
      refine xMg_100_now S hE hP lk_X12_61 dX12_years_61 ?_
      refine lv_bipush (v := 25) hx hb dX12_years_64 (by decide) ?_
      refine xMk_113 S hE hP 25 (by decide) (by unfold vp_in; decide) dX12_years_66 ?_
      refine lv_sipush (v := 999) hx hb dX12_years_67 (by decide) ?_
      refine lv_icmp_ge (tgt := 105) hx hb dX12_years_70 (by decide) (fun c7 => ?_) (fun c7 => ?_)
      · have hB := hB.1 c7
        exact w_M_years_105 S hE hA hRf hRl hret h37 x1 x4 x5 z2 hB _ _ _ hP hD hS (lv_sub hl [0, 1, 2, 3] rfl)
      · have hB := hB.2 c7
        refine lv_aload_n hx hb dX12_years_73 rfl (lv_at hl 0 rfl) ?_
        refine lv_aload_n hx hb dX12_years_74 rfl (lv_at hl 0 rfl) ?_
        refine xMg_100_now S hE hP lk_X12_61 dX12_years_75 ?_
        refine xcVv [.ref (ad G 113)] S hE hA hP hD hS (c_M_goMonth_r113 l G z2 H.size _) hB (gw_c lk_X12_336 (gw_c wi_X12_goMonth (gw_c we_X12_X12_goMonth_X12_goMonth (gw_c wn_X12 (gw_c wc_X12_goMonth (fun _ h9 => h9)))))) hd_X12_goMonth rfl rfl (Nat.le_trans (Nat.le_of_ble_eq_true rfl) hRf) (Nat.le_trans (Nat.le_of_ble_eq_true rfl) hRl) ⟨Nat.zero_le _, Nat.zero_le _⟩ (va_recv hE.1 hP (ci := 11) (q0 := 0) rfl rfl) rfl hl.1 rfl (Nat.le_of_ble_eq_true rfl) dX12_years_78 (fun z5 H locs hB hP hD hS => ?_)
        refine lv_goto (tgt := 105) hx hb dX12_years_81 (by decide) ?_
        exact w_M_years_105 S hE hA hRf hRl hret h37 x1 x4 x5 z5 hB _ _ _ hP hD hS (lv_sub hl [0, 1, 2, 3] rfl)
def L_M_years_37 (post : Int32 → St → Prop) : Nat → Int32 → Int32 → Int32 → St → Prop
  | 0 => fun _ _ _ _ => False
  | n + 1 => B_M_years_37 post (L_M_years_37 post n)
theorem wl_M_years_37 {p : Program} {l : Launch} {e : Env} {R : Room} {s : State} {m : MethodId} {args : Array Value} {below : List Frame} {meth : Method} {c : Code} {Q : State → Prop} {G : GX} {A : Nat → Prop} (S : CallFix p m c cX12_years 7 s args GW RX12) (hE : env G A s s.heap) (hA : ∀ q, s.heap.size ≤ q → A q) (hRf : 63 ≤ R.frames) (hRl : 1774 ≤ R.locals) {post : Int32 → St → Prop} (hret : RetI p l e R s m args below meth c Q 0 0 wM G A cX12_years post) : ∀ (n : Nat) (x1 : Int32) (x4 : Int32) (x5 : Int32) (z0 : St), L_M_years_37 post n x1 x4 x5 z0 → Xw p l e R s m args below meth c Q 0 0 wM G A z0 7 [(0, .ref (ad G 100)), (1, .int x1), (4, .int x4), (5, .int x5)] 37 [] := by
  intro n
  induction n with
  | zero => intro x1 x4 x5 z0 hB; exact absurd hB id
  | succ n ih => exact fun x1 x4 x5 z0 hB => w_M_years_37 S hE hA hRf hRl hret ih x1 x4 x5 z0 hB
def S_M_years (post : Int32 → St → Prop) (x1 : Int32) (x2 : Int64) (z0 : St) : Prop :=
  (∀ z1 : St, z1 = sI z0 100 (0 : Int32) → (((gI z1 112) = 0 → (post (-1 : Int32) z1)) ∧ (¬ (gI z1 112) = 0 → (S_M_isIn (fun (r2 : Int32) (z2 : St) => ((r2 = 0 → (post (-1 : Int32) z2)) ∧ (¬ r2 = 0 → (∀ z3 : St, z3 = sL z2 0 x2 → (∃ n4, L_M_years_37 post n4 x1 (0 : Int32) (0 : Int32) z3))))) ((x1).toInt64) (1 : Int64) (60 : Int64) z1))))
set_option maxHeartbeats 4000000 in
set_option maxRecDepth 100000 in
theorem w_M_years_0 {p : Program} {l : Launch} {e : Env} {R : Room} {s : State} {m : MethodId} {args : Array Value} {below : List Frame} {meth : Method} {c : Code} {Q : State → Prop} {G : GX} {A : Nat → Prop} (S : CallFix p m c cX12_years 7 s args GW RX12) (hE : env G A s s.heap) (hA : ∀ q, s.heap.size ≤ q → A q) (hRf : 63 ≤ R.frames) (hRl : 1774 ≤ R.locals) {post : Int32 → St → Prop} (hret : RetI p l e R s m args below meth c Q 0 0 wM G A cX12_years post) (x1 : Int32) (x2 : Int64) (z0 : St) (hB : S_M_years post x1 x2 z0) : Xw p l e R s m args below meth c Q 0 0 wM G A z0 7 [(0, .ref (ad G 100)), (1, .int x1), (2, .long x2)] 0 [] := by
  intro H locs ls hP hD hS hl
  have hx := S.1
  have hb := S.2.1
  refine lv_aload_n hx hb dX12_years_0 rfl (lv_at hl 0 rfl) ?_
  refine lv_iconst (v := 0) hx hb dX12_years_1 (by decide) ?_
  obtain ⟨z1, ez1⟩ : ∃ z9, z9 = sI z0 100 (0 : Int32) := ⟨_, rfl⟩
  have hB := hB z1 ez1
  refine xMp_100_thrown S hE hP hD hS lk_X12_89 dX12_years_2 (fun H locs hP hD hS => ?_)
  rw [← ez1] at hP hD
  refine lv_aload_n hx hb dX12_years_5 rfl (lv_at hl 0 rfl) ?_
  refine xMg_100_guests S hE hP lk_X12_284 dX12_years_6 ?_
  refine lv_if_eq (tgt := 24) hx hb dX12_years_9 (by decide) (fun c1 => ?_) (fun c1 => ?_)
  · have hB := hB.1 c1
    refine lv_iconst (v := -1) hx hb dX12_years_24 (by decide) ?_
    exact hret _ _ _ _ _ _ dX12_years_25 hB hP hD hS
  · have hB := hB.2 c1
    refine lv_iload_n hx hb dX12_years_12 rfl (lv_at hl 1 rfl) ?_
    refine lv_i2l hx hb dX12_years_13 rfl ?_
    refine lv_lconst (v := 1) hx hb dX12_years_14 (by decide) ?_
    refine lv_ldc2 hx hb S.2.2.2.1 (S.2.2.2.2 _ lk_X12_350) dX12_years_15 ?_
    refine xcSi [.long ((x1).toInt64), .long (1 : Int64), .long (60 : Int64)] S hE hA hP hD hS (c_M_isIn l G z1 H.size ((x1).toInt64) (1 : Int64) (60 : Int64) _) hB (gw_c lk_X12_260 (gw_c wt_X12_isIn (gw_c wn_X12 (gw_c wc_X12_isIn (fun _ h9 => h9))))) hs_X12_isIn rfl rfl (Nat.le_trans (Nat.le_of_ble_eq_true rfl) hRf) (Nat.le_trans (Nat.le_of_ble_eq_true rfl) hRl) ⟨Nat.zero_le _, Nat.zero_le _⟩ rfl hl.1 rfl (Nat.le_of_ble_eq_true rfl) dX12_years_18 (fun r2 z2 H locs hB hP hD hS => ?_)
    refine lv_if_ne (tgt := 26) hx hb dX12_years_21 (by decide) (fun c3 => ?_) (fun c3 => ?_)
    · have hB := hB.2 c3
      refine lv_aload_n hx hb dX12_years_26 rfl (lv_at hl 0 rfl) ?_
      refine lv_lload_n hx hb dX12_years_27 rfl (lv_at hl 2 rfl) ?_
      obtain ⟨z3, ez3⟩ : ∃ z9, z9 = sL z2 0 x2 := ⟨_, rfl⟩
      have hB := hB z3 ez3
      refine xMp_100_x S hE hP hD hS lk_X12_352 dX12_years_28 (fun H locs hP hD hS => ?_)
      rw [← ez3] at hP hD
      refine lv_iconst (v := 0) hx hb dX12_years_31 (by decide) ?_
      refine lv_istore (lv' := [(4, .int (0 : Int32)), (0, .ref (ad G 100)), (1, .int x1), (2, .long x2)]) hx hb dX12_years_32 hl (by decide) rfl (fun ls hl => ?_)
      refine lv_iconst (v := 0) hx hb dX12_years_34 (by decide) ?_
      refine lv_istore (lv' := [(5, .int (0 : Int32)), (4, .int (0 : Int32)), (0, .ref (ad G 100)), (1, .int x1), (2, .long x2)]) hx hb dX12_years_35 hl (by decide) rfl (fun ls hl => ?_)
      obtain ⟨n4, hB⟩ := hB
      exact wl_M_years_37 S hE hA hRf hRl hret n4 x1 (0 : Int32) (0 : Int32) z3 hB _ _ _ hP hD hS (lv_sub hl [2, 3, 1, 0] rfl)
    · have hB := hB.1 c3
      refine lv_iconst (v := -1) hx hb dX12_years_24 (by decide) ?_
      exact hret _ _ _ _ _ _ dX12_years_25 hB hP hD hS
set_option maxHeartbeats 4000000 in
set_option maxRecDepth 100000 in
theorem c_M_years (l : Launch) (G : GX) (z0 : St) (sz : Nat) (x1 : Int32) (x2 : Int64) (post : Int32 → St → Prop) : MetI l wM yX12_years cX12_years 7 (some .int) ({ frames := 63, cells := 0, slots := 0, locals := 1774 }) [.ref (ad G 100), .int x1, .long x2] G z0 sz (S_M_years post x1 x2 z0) post := by
  refine Met.ofW (cc := cX12_years) (maxL := 7) (ret := (some .int)) (by decide) rfl ?_
  intro p e s m args below meth c s₁ B hml hv
  obtain ⟨rfl, hsz, hP, hD0, hE, hB⟩ := hv
  have S : CallFix p m c cX12_years 7 s _ GW RX12 := ⟨B.exec, B.bytes, hml, findClass_of_methodNamed B.named, fun w h => atoms_spec (ws := Cond.code yX12_years cX12_years 7 (some .int) :: GW) B.pre w (List.mem_cons_of_mem _ h)⟩
  have hlocks := B.notSynchronized
  subst hsz
  have hD := hD0.self (sz := s.heap.size)
  generalize hAe : va_A (wM G z0) s.heap.size = A at hD hE ⊢
  have hA : ∀ q : Nat, s.heap.size ≤ q → A q := fun q h => by rw [← hAe]; exact Or.inr h
  have hS : va_S A s.heap s.heap [] := va_S.rf
  have hl := lv_entry ([.ref (ad G 100), .int x1, .long x2]) (n := 7) (Nat.le_of_ble_eq_true rfl)
  rw [lg_entry_eq]
  generalize (lg_sl ([.ref (ad G 100), .int x1, .long x2]) ++ List.replicate (7 - (lg_sl ([.ref (ad G 100), .int x1, .long x2])).length) Slot.unset).toArray = ls at hl ⊢
  have hl : lv_has ls 7 [(0, .ref (ad G 100)), (1, .int x1), (2, .long x2)] := hl
  refine w_M_years_0 S hE hA (Nat.le_refl _) (Nat.le_refl _) ?_ x1 x2 z0 hB _ _ _ hP hD hS hl
  intro pc ls r σ H locs hd hp hP hD hS
  exact W.iret (v := r) B.exec B.bytes B.returns (fun t ht hW => ⟨⟨r, σ, rfl, hp, by rw [ht]; exact hP, hD⟩, hS.F ht⟩) hS.2.2 hd
def B_M_undo_26 (post : Int32 → St → Prop) (ih26 : Int32 → St → Prop) (x1 : Int32) (z0 : St) : Prop :=
  (((269 : Int32) ≤ x1 → (post (gI z0 119) z0)) ∧ (¬ (269 : Int32) ≤ x1 → (vp_in (((269 : Int32) * (gI z0 119)) + x1) 10760 ∧ (vp_in x1 269 ∧ (∀ z1 : St, z1 = sA z0 113 x1.toNatClampNeg (gA z0 115 (((269 : Int32) * (gI z0 119)) + x1).toNatClampNeg) → (∀ v2 : Int32, v2 = x1 + (1 : Int32) → (ih26 v2 z1)))))))
set_option maxHeartbeats 4000000 in
set_option maxRecDepth 100000 in
theorem w_M_undo_26 {p : Program} {l : Launch} {e : Env} {R : Room} {s : State} {m : MethodId} {args : Array Value} {below : List Frame} {meth : Method} {c : Code} {Q : State → Prop} {G : GX} {A : Nat → Prop} (S : CallFix p m c cX12_undo 2 s args GW RX12) (hE : env G A s s.heap) (hA : ∀ q, s.heap.size ≤ q → A q) (hRf : 0 ≤ R.frames) (hRl : 0 ≤ R.locals) {post : Int32 → St → Prop} (hret : RetI p l e R s m args below meth c Q 0 0 wM G A cX12_undo post) {ih26 : Int32 → St → Prop} (h26 : ∀ (x1 : Int32) (z0 : St), ih26 x1 z0 → Xw p l e R s m args below meth c Q 0 0 wM G A z0 2 [(0, .ref (ad G 100)), (1, .int x1)] 26 []) (x1 : Int32) (z0 : St) (hB : B_M_undo_26 post ih26 x1 z0) : Xw p l e R s m args below meth c Q 0 0 wM G A z0 2 [(0, .ref (ad G 100)), (1, .int x1)] 26 [] := by
  intro H locs ls hP hD hS hl
  have hx := S.1
  have hb := S.2.1
  refine lv_iload_n hx hb dX12_undo_26 rfl (lv_at hl 1 rfl) ?_
  refine lv_sipush (v := 269) hx hb dX12_undo_27 (by decide) ?_
  refine lv_icmp_ge (tgt := 60) hx hb dX12_undo_30 (by decide) (fun c1 => ?_) (fun c1 => ?_)
  · have hB := hB.1 c1
    refine lv_aload_n hx hb dX12_undo_60 rfl (lv_at hl 0 rfl) ?_
    refine xMg_100_acts S hE hP lk_X12_290 dX12_undo_61 ?_
    exact hret _ _ _ _ _ _ dX12_undo_64 hB hP hD hS
  · have hB := hB.2 c1
    refine lv_aload_n hx hb dX12_undo_33 rfl (lv_at hl 0 rfl) ?_
    refine xMg_100_now S hE hP lk_X12_61 dX12_undo_34 ?_
    refine lv_iload_n hx hb dX12_undo_37 rfl (lv_at hl 1 rfl) ?_
    refine lv_aload_n hx hb dX12_undo_38 rfl (lv_at hl 0 rfl) ?_
    refine xMg_100_undoRow S hE hP lk_X12_74 dX12_undo_39 ?_
    refine lv_sipush (v := 269) hx hb dX12_undo_42 (by decide) ?_
    refine lv_aload_n hx hb dX12_undo_45 rfl (lv_at hl 0 rfl) ?_
    refine xMg_100_acts S hE hP lk_X12_290 dX12_undo_46 ?_
    refine lv_imul hx hb dX12_undo_49 ?_
    refine lv_iload_n hx hb dX12_undo_50 rfl (lv_at hl 1 rfl) ?_
    refine lv_iadd hx hb dX12_undo_51 ?_
    obtain ⟨hi, hB⟩ := hB
    refine xMl_115 S hE hP hi dX12_undo_52 ?_
    obtain ⟨hi, hB⟩ := hB
    obtain ⟨z1, ez1⟩ : ∃ z9, z9 = sA z0 113 x1.toNatClampNeg (gA z0 115 (((269 : Int32) * (gI z0 119)) + x1).toNatClampNeg) := ⟨_, rfl⟩
    have hB := hB z1 ez1
    refine xMs_113 S hE hP hD hS _ rfl hi dX12_undo_53 (fun H locs hP hD hS => ?_)
    rw [← ez1] at hP hD
    obtain ⟨v2, ev2⟩ : ∃ y9, y9 = x1 + (1 : Int32) := ⟨_, rfl⟩
    have hB := hB v2 ev2
    refine lv_iinc (v := v2) (lv' := [(1, .int v2), (0, .ref (ad G 100))]) hx hb dX12_undo_54 hl (k := 1) rfl (by rw [ev2]; rfl) (by decide) rfl (fun ls hl => ?_)
    refine lv_goto (tgt := 26) hx hb dX12_undo_57 (by decide) ?_
    exact h26 v2 z1 hB _ _ _ hP hD hS (lv_sub hl [1, 0] rfl)
def L_M_undo_26 (post : Int32 → St → Prop) : Nat → Int32 → St → Prop
  | 0 => fun _ _ => False
  | n + 1 => B_M_undo_26 post (L_M_undo_26 post n)
theorem wl_M_undo_26 {p : Program} {l : Launch} {e : Env} {R : Room} {s : State} {m : MethodId} {args : Array Value} {below : List Frame} {meth : Method} {c : Code} {Q : State → Prop} {G : GX} {A : Nat → Prop} (S : CallFix p m c cX12_undo 2 s args GW RX12) (hE : env G A s s.heap) (hA : ∀ q, s.heap.size ≤ q → A q) (hRf : 0 ≤ R.frames) (hRl : 0 ≤ R.locals) {post : Int32 → St → Prop} (hret : RetI p l e R s m args below meth c Q 0 0 wM G A cX12_undo post) : ∀ (n : Nat) (x1 : Int32) (z0 : St), L_M_undo_26 post n x1 z0 → Xw p l e R s m args below meth c Q 0 0 wM G A z0 2 [(0, .ref (ad G 100)), (1, .int x1)] 26 [] := by
  intro n
  induction n with
  | zero => intro x1 z0 hB; exact absurd hB id
  | succ n ih => exact fun x1 z0 hB => w_M_undo_26 S hE hA hRf hRl hret ih x1 z0 hB
def S_M_undo (post : Int32 → St → Prop) (z0 : St) : Prop :=
  (∀ z1 : St, z1 = sI z0 100 (0 : Int32) → (((gI z1 119) = 0 → (post (-1 : Int32) z1)) ∧ (¬ (gI z1 119) = 0 → (∀ z2 : St, z2 = sI z1 119 ((gI z1 119) - (1 : Int32)) → (∃ n2, L_M_undo_26 post n2 (0 : Int32) z2)))))
set_option maxHeartbeats 4000000 in
set_option maxRecDepth 100000 in
theorem w_M_undo_0 {p : Program} {l : Launch} {e : Env} {R : Room} {s : State} {m : MethodId} {args : Array Value} {below : List Frame} {meth : Method} {c : Code} {Q : State → Prop} {G : GX} {A : Nat → Prop} (S : CallFix p m c cX12_undo 2 s args GW RX12) (hE : env G A s s.heap) (hA : ∀ q, s.heap.size ≤ q → A q) (hRf : 0 ≤ R.frames) (hRl : 0 ≤ R.locals) {post : Int32 → St → Prop} (hret : RetI p l e R s m args below meth c Q 0 0 wM G A cX12_undo post) (z0 : St) (hB : S_M_undo post z0) : Xw p l e R s m args below meth c Q 0 0 wM G A z0 2 [(0, .ref (ad G 100))] 0 [] := by
  intro H locs ls hP hD hS hl
  have hx := S.1
  have hb := S.2.1
  refine lv_aload_n hx hb dX12_undo_0 rfl (lv_at hl 0 rfl) ?_
  refine lv_iconst (v := 0) hx hb dX12_undo_1 (by decide) ?_
  obtain ⟨z1, ez1⟩ : ∃ z9, z9 = sI z0 100 (0 : Int32) := ⟨_, rfl⟩
  have hB := hB z1 ez1
  refine xMp_100_thrown S hE hP hD hS lk_X12_89 dX12_undo_2 (fun H locs hP hD hS => ?_)
  rw [← ez1] at hP hD
  refine lv_aload_n hx hb dX12_undo_5 rfl (lv_at hl 0 rfl) ?_
  refine xMg_100_acts S hE hP lk_X12_290 dX12_undo_6 ?_
  refine lv_if_ne (tgt := 14) hx hb dX12_undo_9 (by decide) (fun c1 => ?_) (fun c1 => ?_)
  · have hB := hB.2 c1
    refine lv_aload_n hx hb dX12_undo_14 rfl (lv_at hl 0 rfl) ?_
    refine lv_dup hx hb dX12_undo_15 rfl ?_
    refine xMg_100_acts S hE hP lk_X12_290 dX12_undo_16 ?_
    refine lv_iconst (v := 1) hx hb dX12_undo_19 (by decide) ?_
    refine lv_isub hx hb dX12_undo_20 ?_
    obtain ⟨z2, ez2⟩ : ∃ z9, z9 = sI z1 119 ((gI z1 119) - (1 : Int32)) := ⟨_, rfl⟩
    have hB := hB z2 ez2
    refine xMp_100_acts S hE hP hD hS lk_X12_290 dX12_undo_21 (fun H locs hP hD hS => ?_)
    rw [← ez2] at hP hD
    refine lv_iconst (v := 0) hx hb dX12_undo_24 (by decide) ?_
    refine lv_istore_n (lv' := [(1, .int (0 : Int32)), (0, .ref (ad G 100))]) hx hb dX12_undo_25 rfl hl (by decide) rfl (fun ls hl => ?_)
    obtain ⟨n2, hB⟩ := hB
    exact wl_M_undo_26 S hE hA hRf hRl hret n2 (0 : Int32) z2 hB _ _ _ hP hD hS (lv_sub hl [1, 0] rfl)
  · have hB := hB.1 c1
    refine lv_iconst (v := -1) hx hb dX12_undo_12 (by decide) ?_
    exact hret _ _ _ _ _ _ dX12_undo_13 hB hP hD hS
set_option maxHeartbeats 4000000 in
set_option maxRecDepth 100000 in
theorem c_M_undo (l : Launch) (G : GX) (z0 : St) (sz : Nat) (post : Int32 → St → Prop) : MetI l wM yX12_undo cX12_undo 2 (some .int) ({ frames := 0, cells := 0, slots := 0, locals := 0 }) [.ref (ad G 100)] G z0 sz (S_M_undo post z0) post := by
  refine Met.ofW (cc := cX12_undo) (maxL := 2) (ret := (some .int)) (by decide) rfl ?_
  intro p e s m args below meth c s₁ B hml hv
  obtain ⟨rfl, hsz, hP, hD0, hE, hB⟩ := hv
  have S : CallFix p m c cX12_undo 2 s _ GW RX12 := ⟨B.exec, B.bytes, hml, findClass_of_methodNamed B.named, fun w h => atoms_spec (ws := Cond.code yX12_undo cX12_undo 2 (some .int) :: GW) B.pre w (List.mem_cons_of_mem _ h)⟩
  have hlocks := B.notSynchronized
  subst hsz
  have hD := hD0.self (sz := s.heap.size)
  generalize hAe : va_A (wM G z0) s.heap.size = A at hD hE ⊢
  have hA : ∀ q : Nat, s.heap.size ≤ q → A q := fun q h => by rw [← hAe]; exact Or.inr h
  have hS : va_S A s.heap s.heap [] := va_S.rf
  have hl := lv_entry ([.ref (ad G 100)]) (n := 2) (Nat.le_of_ble_eq_true rfl)
  rw [lg_entry_eq]
  generalize (lg_sl ([.ref (ad G 100)]) ++ List.replicate (2 - (lg_sl ([.ref (ad G 100)])).length) Slot.unset).toArray = ls at hl ⊢
  have hl : lv_has ls 2 [(0, .ref (ad G 100))] := hl
  refine w_M_undo_0 S hE hA (Nat.le_refl _) (Nat.le_refl _) ?_  z0 hB _ _ _ hP hD hS hl
  intro pc ls r σ H locs hd hp hP hD hS
  exact W.iret (v := r) B.exec B.bytes B.returns (fun t ht hW => ⟨⟨r, σ, rfl, hp, by rw [ht]; exact hP, hD⟩, hS.F ht⟩) hS.2.2 hd
def S_M_page (post : Int32 → St → Prop) (x1 : Int32) (x2 : Int32) (z0 : St) : Prop :=
  (vp_in (((29 : Int32) + ((4 : Int32) * x1)) + x2) 269 ∧ (post (gA z0 113 (((29 : Int32) + ((4 : Int32) * x1)) + x2).toNatClampNeg) z0))
set_option maxHeartbeats 4000000 in
set_option maxRecDepth 100000 in
theorem w_M_page_0 {p : Program} {l : Launch} {e : Env} {R : Room} {s : State} {m : MethodId} {args : Array Value} {below : List Frame} {meth : Method} {c : Code} {Q : State → Prop} {G : GX} {A : Nat → Prop} (S : CallFix p m c cX12_page 3 s args GW RX12) (hE : env G A s s.heap) (hA : ∀ q, s.heap.size ≤ q → A q) (hRf : 0 ≤ R.frames) (hRl : 0 ≤ R.locals) {post : Int32 → St → Prop} (hret : RetI p l e R s m args below meth c Q 0 0 wM G A cX12_page post) (x1 : Int32) (x2 : Int32) (z0 : St) (hB : S_M_page post x1 x2 z0) : Xw p l e R s m args below meth c Q 0 0 wM G A z0 3 [(0, .ref (ad G 100)), (1, .int x1), (2, .int x2)] 0 [] := by
  intro H locs ls hP hD hS hl
  have hx := S.1
  have hb := S.2.1
  refine lv_aload_n hx hb dX12_page_0 rfl (lv_at hl 0 rfl) ?_
  refine xMg_100_now S hE hP lk_X12_61 dX12_page_1 ?_
  refine lv_bipush (v := 29) hx hb dX12_page_4 (by decide) ?_
  refine lv_iconst (v := 4) hx hb dX12_page_6 (by decide) ?_
  refine lv_iload_n hx hb dX12_page_7 rfl (lv_at hl 1 rfl) ?_
  refine lv_imul hx hb dX12_page_8 ?_
  refine lv_iadd hx hb dX12_page_9 ?_
  refine lv_iload_n hx hb dX12_page_10 rfl (lv_at hl 2 rfl) ?_
  refine lv_iadd hx hb dX12_page_11 ?_
  obtain ⟨hi, hB⟩ := hB
  refine xMl_113 S hE hP hi dX12_page_12 ?_
  exact hret _ _ _ _ _ _ dX12_page_13 hB hP hD hS
set_option maxHeartbeats 4000000 in
set_option maxRecDepth 100000 in
theorem c_M_page (l : Launch) (G : GX) (z0 : St) (sz : Nat) (x1 : Int32) (x2 : Int32) (post : Int32 → St → Prop) : MetI l wM yX12_page cX12_page 3 (some .int) ({ frames := 0, cells := 0, slots := 0, locals := 0 }) [.ref (ad G 100), .int x1, .int x2] G z0 sz (S_M_page post x1 x2 z0) post := by
  refine Met.ofW (cc := cX12_page) (maxL := 3) (ret := (some .int)) (by decide) rfl ?_
  intro p e s m args below meth c s₁ B hml hv
  obtain ⟨rfl, hsz, hP, hD0, hE, hB⟩ := hv
  have S : CallFix p m c cX12_page 3 s _ GW RX12 := ⟨B.exec, B.bytes, hml, findClass_of_methodNamed B.named, fun w h => atoms_spec (ws := Cond.code yX12_page cX12_page 3 (some .int) :: GW) B.pre w (List.mem_cons_of_mem _ h)⟩
  have hlocks := B.notSynchronized
  subst hsz
  have hD := hD0.self (sz := s.heap.size)
  generalize hAe : va_A (wM G z0) s.heap.size = A at hD hE ⊢
  have hA : ∀ q : Nat, s.heap.size ≤ q → A q := fun q h => by rw [← hAe]; exact Or.inr h
  have hS : va_S A s.heap s.heap [] := va_S.rf
  have hl := lv_entry ([.ref (ad G 100), .int x1, .int x2]) (n := 3) (Nat.le_of_ble_eq_true rfl)
  rw [lg_entry_eq]
  generalize (lg_sl ([.ref (ad G 100), .int x1, .int x2]) ++ List.replicate (3 - (lg_sl ([.ref (ad G 100), .int x1, .int x2])).length) Slot.unset).toArray = ls at hl ⊢
  have hl : lv_has ls 3 [(0, .ref (ad G 100)), (1, .int x1), (2, .int x2)] := hl
  refine w_M_page_0 S hE hA (Nat.le_refl _) (Nat.le_refl _) ?_ x1 x2 z0 hB _ _ _ hP hD hS hl
  intro pc ls r σ H locs hd hp hP hD hS
  exact W.iret (v := r) B.exec B.bytes B.returns (fun t ht hW => ⟨⟨r, σ, rfl, hp, by rw [ht]; exact hP, hD⟩, hS.F ht⟩) hS.2.2 hd
def S_M_book (post : Int32 → St → Prop) (x1 : Int32) (x2 : Int32) (z0 : St) : Prop :=
  (∀ z1 : St, z1 = sI z0 100 (0 : Int32) → (S_M_isIn (fun (r1 : Int32) (z2 : St) => ((r1 = 0 → (post (-1000000 : Int32) z2)) ∧ (¬ r1 = 0 → (S_M_isIn (fun (r3 : Int32) (z3 : St) => ((r3 = 0 → (post (-1000000 : Int32) z3)) ∧ (¬ r3 = 0 → (S_M_page (fun (r5 : Int32) (z4 : St) => (post r5 z4)) (((gA z3 113 28) - (1 : Int32)) - x1) x2 z3)))) ((x2).toInt64) (0 : Int64) (3 : Int64) z2)))) ((x1).toInt64) (0 : Int64) ((((gA z1 113 28) - (1 : Int32))).toInt64) z1))
set_option maxHeartbeats 4000000 in
set_option maxRecDepth 100000 in
theorem w_M_book_0 {p : Program} {l : Launch} {e : Env} {R : Room} {s : State} {m : MethodId} {args : Array Value} {below : List Frame} {meth : Method} {c : Code} {Q : State → Prop} {G : GX} {A : Nat → Prop} (S : CallFix p m c cX12_book 3 s args GW RX12) (hE : env G A s s.heap) (hA : ∀ q, s.heap.size ≤ q → A q) (hRf : 1 ≤ R.frames) (hRl : 25 ≤ R.locals) {post : Int32 → St → Prop} (hret : RetI p l e R s m args below meth c Q 0 0 wM G A cX12_book post) (x1 : Int32) (x2 : Int32) (z0 : St) (hB : S_M_book post x1 x2 z0) : Xw p l e R s m args below meth c Q 0 0 wM G A z0 3 [(0, .ref (ad G 100)), (1, .int x1), (2, .int x2)] 0 [] := by
  intro H locs ls hP hD hS hl
  have hx := S.1
  have hb := S.2.1
  refine lv_aload_n hx hb dX12_book_0 rfl (lv_at hl 0 rfl) ?_
  refine lv_iconst (v := 0) hx hb dX12_book_1 (by decide) ?_
  obtain ⟨z1, ez1⟩ : ∃ z9, z9 = sI z0 100 (0 : Int32) := ⟨_, rfl⟩
  have hB := hB z1 ez1
  refine xMp_100_thrown S hE hP hD hS lk_X12_89 dX12_book_2 (fun H locs hP hD hS => ?_)
  rw [← ez1] at hP hD
  refine lv_iload_n hx hb dX12_book_5 rfl (lv_at hl 1 rfl) ?_
  refine lv_i2l hx hb dX12_book_6 rfl ?_
  refine lv_lconst (v := 0) hx hb dX12_book_7 (by decide) ?_
  refine lv_aload_n hx hb dX12_book_8 rfl (lv_at hl 0 rfl) ?_
  refine xMg_100_now S hE hP lk_X12_61 dX12_book_9 ?_
  refine lv_bipush (v := 28) hx hb dX12_book_12 (by decide) ?_
  refine xMk_113 S hE hP 28 (by decide) (by unfold vp_in; decide) dX12_book_14 ?_
  refine lv_iconst (v := 1) hx hb dX12_book_15 (by decide) ?_
  refine lv_isub hx hb dX12_book_16 ?_
  refine lv_i2l hx hb dX12_book_17 rfl ?_
  refine xcSi [.long ((x1).toInt64), .long (0 : Int64), .long ((((gA z1 113 28) - (1 : Int32))).toInt64)] S hE hA hP hD hS (c_M_isIn l G z1 H.size ((x1).toInt64) (0 : Int64) ((((gA z1 113 28) - (1 : Int32))).toInt64) _) hB (gw_c lk_X12_260 (gw_c wt_X12_isIn (gw_c wn_X12 (gw_c wc_X12_isIn (fun _ h9 => h9))))) hs_X12_isIn rfl rfl (Nat.le_trans (Nat.le_of_ble_eq_true rfl) hRf) (Nat.le_trans (Nat.le_of_ble_eq_true rfl) hRl) ⟨Nat.zero_le _, Nat.zero_le _⟩ rfl hl.1 rfl (Nat.le_of_ble_eq_true rfl) dX12_book_18 (fun r1 z2 H locs hB hP hD hS => ?_)
  refine lv_if_eq (tgt := 55) hx hb dX12_book_21 (by decide) (fun c2 => ?_) (fun c2 => ?_)
  · have hB := hB.1 c2
    refine lv_ldcw hx hb S.2.2.2.1 (S.2.2.2.2 _ lk_X12_366) dX12_book_55 ?_
    exact hret _ _ _ _ _ _ dX12_book_58 hB hP hD hS
  · have hB := hB.2 c2
    refine lv_iload_n hx hb dX12_book_24 rfl (lv_at hl 2 rfl) ?_
    refine lv_i2l hx hb dX12_book_25 rfl ?_
    refine lv_lconst (v := 0) hx hb dX12_book_26 (by decide) ?_
    refine lv_ldc2 hx hb S.2.2.2.1 (S.2.2.2.2 _ lk_X12_325) dX12_book_27 ?_
    refine xcSi [.long ((x2).toInt64), .long (0 : Int64), .long (3 : Int64)] S hE hA hP hD hS (c_M_isIn l G z2 H.size ((x2).toInt64) (0 : Int64) (3 : Int64) _) hB (gw_c lk_X12_260 (gw_c wt_X12_isIn (gw_c wn_X12 (gw_c wc_X12_isIn (fun _ h9 => h9))))) hs_X12_isIn rfl rfl (Nat.le_trans (Nat.le_of_ble_eq_true rfl) hRf) (Nat.le_trans (Nat.le_of_ble_eq_true rfl) hRl) ⟨Nat.zero_le _, Nat.zero_le _⟩ rfl hl.1 rfl (Nat.le_of_ble_eq_true rfl) dX12_book_30 (fun r3 z3 H locs hB hP hD hS => ?_)
    refine lv_if_eq (tgt := 55) hx hb dX12_book_33 (by decide) (fun c4 => ?_) (fun c4 => ?_)
    · have hB := hB.1 c4
      refine lv_ldcw hx hb S.2.2.2.1 (S.2.2.2.2 _ lk_X12_366) dX12_book_55 ?_
      exact hret _ _ _ _ _ _ dX12_book_58 hB hP hD hS
    · have hB := hB.2 c4
      refine lv_aload_n hx hb dX12_book_36 rfl (lv_at hl 0 rfl) ?_
      refine lv_aload_n hx hb dX12_book_37 rfl (lv_at hl 0 rfl) ?_
      refine xMg_100_now S hE hP lk_X12_61 dX12_book_38 ?_
      refine lv_bipush (v := 28) hx hb dX12_book_41 (by decide) ?_
      refine xMk_113 S hE hP 28 (by decide) (by unfold vp_in; decide) dX12_book_43 ?_
      refine lv_iconst (v := 1) hx hb dX12_book_44 (by decide) ?_
      refine lv_isub hx hb dX12_book_45 ?_
      refine lv_iload_n hx hb dX12_book_46 rfl (lv_at hl 1 rfl) ?_
      refine lv_isub hx hb dX12_book_47 ?_
      refine lv_iload_n hx hb dX12_book_48 rfl (lv_at hl 2 rfl) ?_
      refine xcVi [.int (((gA z3 113 28) - (1 : Int32)) - x1), .int x2] S hE hA hP hD hS (c_M_page l G z3 H.size (((gA z3 113 28) - (1 : Int32)) - x1) x2 _) hB (gw_c lk_X12_363 (gw_c wi_X12_page (gw_c we_X12_X12_page_X12_page (gw_c wn_X12 (gw_c wc_X12_page (fun _ h9 => h9)))))) hd_X12_page rfl rfl (Nat.le_trans (Nat.le_of_ble_eq_true rfl) hRf) (Nat.le_trans (Nat.le_of_ble_eq_true rfl) hRl) ⟨Nat.zero_le _, Nat.zero_le _⟩ (va_recv hE.1 hP (ci := 11) (q0 := 0) rfl rfl) rfl hl.1 rfl (Nat.le_of_ble_eq_true rfl) dX12_book_49 (fun r5 z4 H locs hB hP hD hS => ?_)
      refine lv_goto (tgt := 58) hx hb dX12_book_52 (by decide) ?_
      exact hret _ _ _ _ _ _ dX12_book_58 hB hP hD hS
set_option maxHeartbeats 4000000 in
set_option maxRecDepth 100000 in
theorem c_M_book (l : Launch) (G : GX) (z0 : St) (sz : Nat) (x1 : Int32) (x2 : Int32) (post : Int32 → St → Prop) : MetI l wM yX12_book cX12_book 3 (some .int) ({ frames := 1, cells := 0, slots := 0, locals := 25 }) [.ref (ad G 100), .int x1, .int x2] G z0 sz (S_M_book post x1 x2 z0) post := by
  refine Met.ofW (cc := cX12_book) (maxL := 3) (ret := (some .int)) (by decide) rfl ?_
  intro p e s m args below meth c s₁ B hml hv
  obtain ⟨rfl, hsz, hP, hD0, hE, hB⟩ := hv
  have S : CallFix p m c cX12_book 3 s _ GW RX12 := ⟨B.exec, B.bytes, hml, findClass_of_methodNamed B.named, fun w h => atoms_spec (ws := Cond.code yX12_book cX12_book 3 (some .int) :: GW) B.pre w (List.mem_cons_of_mem _ h)⟩
  have hlocks := B.notSynchronized
  subst hsz
  have hD := hD0.self (sz := s.heap.size)
  generalize hAe : va_A (wM G z0) s.heap.size = A at hD hE ⊢
  have hA : ∀ q : Nat, s.heap.size ≤ q → A q := fun q h => by rw [← hAe]; exact Or.inr h
  have hS : va_S A s.heap s.heap [] := va_S.rf
  have hl := lv_entry ([.ref (ad G 100), .int x1, .int x2]) (n := 3) (Nat.le_of_ble_eq_true rfl)
  rw [lg_entry_eq]
  generalize (lg_sl ([.ref (ad G 100), .int x1, .int x2]) ++ List.replicate (3 - (lg_sl ([.ref (ad G 100), .int x1, .int x2])).length) Slot.unset).toArray = ls at hl ⊢
  have hl : lv_has ls 3 [(0, .ref (ad G 100)), (1, .int x1), (2, .int x2)] := hl
  refine w_M_book_0 S hE hA (Nat.le_refl _) (Nat.le_refl _) ?_ x1 x2 z0 hB _ _ _ hP hD hS hl
  intro pc ls r σ H locs hd hp hP hD hS
  exact W.iret (v := r) B.exec B.bytes B.returns (fun t ht hW => ⟨⟨r, σ, rfl, hp, by rw [ht]; exact hP, hD⟩, hS.F ht⟩) hS.2.2 hd
def S_M_isWinter (post : Int32 → St → Prop) (x1 : Int32) (z0 : St) : Prop :=
  ((x1 < 0 → (post (0 : Int32) z0)) ∧ (¬ x1 < 0 → (((gI z0 115) ≤ x1 → (post (0 : Int32) z0)) ∧ (¬ (gI z0 115) ≤ x1 → (post (1 : Int32) z0)))))
set_option maxHeartbeats 4000000 in
set_option maxRecDepth 100000 in
theorem w_M_isWinter_0 {p : Program} {l : Launch} {e : Env} {R : Room} {s : State} {m : MethodId} {args : Array Value} {below : List Frame} {meth : Method} {c : Code} {Q : State → Prop} {G : GX} {A : Nat → Prop} (S : CallFix p m c cX12_isWinter 2 s args GW RX12) (hE : env G A s s.heap) (hA : ∀ q, s.heap.size ≤ q → A q) (hRf : 0 ≤ R.frames) (hRl : 0 ≤ R.locals) {post : Int32 → St → Prop} (hret : RetZ p l e R s m args below meth c Q 0 0 wM G A cX12_isWinter post) (x1 : Int32) (z0 : St) (hB : S_M_isWinter post x1 z0) : Xw p l e R s m args below meth c Q 0 0 wM G A z0 2 [(0, .ref (ad G 100)), (1, .int x1)] 0 [] := by
  intro H locs ls hP hD hS hl
  have hx := S.1
  have hb := S.2.1
  refine lv_iload_n hx hb dX12_isWinter_0 rfl (lv_at hl 1 rfl) ?_
  refine lv_if_lt (tgt := 16) hx hb dX12_isWinter_1 (by decide) (fun c1 => ?_) (fun c1 => ?_)
  · have hB := hB.1 c1
    refine lv_iconst (v := 0) hx hb dX12_isWinter_16 (by decide) ?_
    exact hret _ _ _ _ _ _ dX12_isWinter_17 ⟨by decide, hB⟩ hP hD hS
  · have hB := hB.2 c1
    refine lv_iload_n hx hb dX12_isWinter_4 rfl (lv_at hl 1 rfl) ?_
    refine lv_aload_n hx hb dX12_isWinter_5 rfl (lv_at hl 0 rfl) ?_
    refine xMg_100_winters S hE hP lk_X12_276 dX12_isWinter_6 ?_
    refine lv_icmp_ge (tgt := 16) hx hb dX12_isWinter_9 (by decide) (fun c2 => ?_) (fun c2 => ?_)
    · have hB := hB.1 c2
      refine lv_iconst (v := 0) hx hb dX12_isWinter_16 (by decide) ?_
      exact hret _ _ _ _ _ _ dX12_isWinter_17 ⟨by decide, hB⟩ hP hD hS
    · have hB := hB.2 c2
      refine lv_iconst (v := 1) hx hb dX12_isWinter_12 (by decide) ?_
      refine lv_goto (tgt := 17) hx hb dX12_isWinter_13 (by decide) ?_
      exact hret _ _ _ _ _ _ dX12_isWinter_17 ⟨by decide, hB⟩ hP hD hS
set_option maxHeartbeats 4000000 in
set_option maxRecDepth 100000 in
theorem c_M_isWinter (l : Launch) (G : GX) (z0 : St) (sz : Nat) (x1 : Int32) (post : Int32 → St → Prop) : MetI l wM yX12_isWinter cX12_isWinter 2 (some .boolean) ({ frames := 0, cells := 0, slots := 0, locals := 0 }) [.ref (ad G 100), .int x1] G z0 sz (S_M_isWinter post x1 z0) post := by
  refine Met.ofW (cc := cX12_isWinter) (maxL := 2) (ret := (some .boolean)) (by decide) rfl ?_
  intro p e s m args below meth c s₁ B hml hv
  obtain ⟨rfl, hsz, hP, hD0, hE, hB⟩ := hv
  have S : CallFix p m c cX12_isWinter 2 s _ GW RX12 := ⟨B.exec, B.bytes, hml, findClass_of_methodNamed B.named, fun w h => atoms_spec (ws := Cond.code yX12_isWinter cX12_isWinter 2 (some .boolean) :: GW) B.pre w (List.mem_cons_of_mem _ h)⟩
  have hlocks := B.notSynchronized
  subst hsz
  have hD := hD0.self (sz := s.heap.size)
  generalize hAe : va_A (wM G z0) s.heap.size = A at hD hE ⊢
  have hA : ∀ q : Nat, s.heap.size ≤ q → A q := fun q h => by rw [← hAe]; exact Or.inr h
  have hS : va_S A s.heap s.heap [] := va_S.rf
  have hl := lv_entry ([.ref (ad G 100), .int x1]) (n := 2) (Nat.le_of_ble_eq_true rfl)
  rw [lg_entry_eq]
  generalize (lg_sl ([.ref (ad G 100), .int x1]) ++ List.replicate (2 - (lg_sl ([.ref (ad G 100), .int x1])).length) Slot.unset).toArray = ls at hl ⊢
  have hl : lv_has ls 2 [(0, .ref (ad G 100)), (1, .int x1)] := hl
  refine w_M_isWinter_0 S hE hA (Nat.le_refl _) (Nat.le_refl _) ?_ x1 z0 hB _ _ _ hP hD hS hl
  intro pc ls r σ H locs hd hp hP hD hS
  exact W.zret (v := r) B.exec B.bytes B.returns (xboolc r hp.1) (fun t ht hW => ⟨⟨r, σ, rfl, hp.2, by rw [ht]; exact hP, hD⟩, hS.F ht⟩) hS.2.2 hd
def S_M_step (post : Int32 → St → Prop) (x1 : Int32) (x2 : Int32) (x3 : Int32) (z0 : St) : Prop :=
  (∀ z1 : St, z1 = sI z0 100 (0 : Int32) → (S_M_isWinter (fun (r1 : Int32) (z2 : St) => ((r1 = 0 → (post (-1000000 : Int32) z2)) ∧ (¬ r1 = 0 → (vp_in x1 5 ∧ (S_M_isIn (fun (r3 : Int32) (z3 : St) => ((r3 = 0 → (post (-1000000 : Int32) z3)) ∧ (¬ r3 = 0 → (S_M_isIn (fun (r5 : Int32) (z4 : St) => ((r5 = 0 → (post (-1000000 : Int32) z4)) ∧ (¬ r5 = 0 → (vp_in (((2 : Int32) * (((16 : Int32) * x1) + x2)) + x3) 160 ∧ (post (gA z4 111 (((2 : Int32) * (((16 : Int32) * x1) + x2)) + x3).toNatClampNeg) z4))))) ((x3).toInt64) (0 : Int64) (1 : Int64) z3)))) ((x2).toInt64) (0 : Int64) ((((gA z2 112 x1.toNatClampNeg) - (1 : Int32))).toInt64) z2))))) x1 z1))
set_option maxHeartbeats 4000000 in
set_option maxRecDepth 100000 in
theorem w_M_step_0 {p : Program} {l : Launch} {e : Env} {R : Room} {s : State} {m : MethodId} {args : Array Value} {below : List Frame} {meth : Method} {c : Code} {Q : State → Prop} {G : GX} {A : Nat → Prop} (S : CallFix p m c cX12_step 4 s args GW RX12) (hE : env G A s s.heap) (hA : ∀ q, s.heap.size ≤ q → A q) (hRf : 1 ≤ R.frames) (hRl : 25 ≤ R.locals) {post : Int32 → St → Prop} (hret : RetI p l e R s m args below meth c Q 0 0 wM G A cX12_step post) (x1 : Int32) (x2 : Int32) (x3 : Int32) (z0 : St) (hB : S_M_step post x1 x2 x3 z0) : Xw p l e R s m args below meth c Q 0 0 wM G A z0 4 [(0, .ref (ad G 100)), (1, .int x1), (2, .int x2), (3, .int x3)] 0 [] := by
  intro H locs ls hP hD hS hl
  have hx := S.1
  have hb := S.2.1
  refine lv_aload_n hx hb dX12_step_0 rfl (lv_at hl 0 rfl) ?_
  refine lv_iconst (v := 0) hx hb dX12_step_1 (by decide) ?_
  obtain ⟨z1, ez1⟩ : ∃ z9, z9 = sI z0 100 (0 : Int32) := ⟨_, rfl⟩
  have hB := hB z1 ez1
  refine xMp_100_thrown S hE hP hD hS lk_X12_89 dX12_step_2 (fun H locs hP hD hS => ?_)
  rw [← ez1] at hP hD
  refine lv_aload_n hx hb dX12_step_5 rfl (lv_at hl 0 rfl) ?_
  refine lv_iload_n hx hb dX12_step_6 rfl (lv_at hl 1 rfl) ?_
  refine xcVi [.int x1] S hE hA hP hD hS (c_M_isWinter l G z1 H.size x1 _) hB (gw_c lk_X12_367 (gw_c wi_X12_isWinter (gw_c we_X12_X12_isWinter_X12_isWinter (gw_c wn_X12 (gw_c wc_X12_isWinter (fun _ h9 => h9)))))) hd_X12_isWinter rfl rfl (Nat.le_trans (Nat.le_of_ble_eq_true rfl) hRf) (Nat.le_trans (Nat.le_of_ble_eq_true rfl) hRl) ⟨Nat.zero_le _, Nat.zero_le _⟩ (va_recv hE.1 hP (ci := 11) (q0 := 0) rfl rfl) rfl hl.1 rfl (Nat.le_of_ble_eq_true rfl) dX12_step_7 (fun r1 z2 H locs hB hP hD hS => ?_)
  refine lv_if_eq (tgt := 59) hx hb dX12_step_10 (by decide) (fun c2 => ?_) (fun c2 => ?_)
  · have hB := hB.1 c2
    refine lv_ldcw hx hb S.2.2.2.1 (S.2.2.2.2 _ lk_X12_366) dX12_step_59 ?_
    exact hret _ _ _ _ _ _ dX12_step_62 hB hP hD hS
  · have hB := hB.2 c2
    refine lv_iload_n hx hb dX12_step_13 rfl (lv_at hl 2 rfl) ?_
    refine lv_i2l hx hb dX12_step_14 rfl ?_
    refine lv_lconst (v := 0) hx hb dX12_step_15 (by decide) ?_
    refine lv_aload_n hx hb dX12_step_16 rfl (lv_at hl 0 rfl) ?_
    refine xMg_100_winterLong S hE hP lk_X12_58 dX12_step_17 ?_
    refine lv_iload_n hx hb dX12_step_20 rfl (lv_at hl 1 rfl) ?_
    obtain ⟨hi, hB⟩ := hB
    refine xMl_112 S hE hP hi dX12_step_21 ?_
    refine lv_iconst (v := 1) hx hb dX12_step_22 (by decide) ?_
    refine lv_isub hx hb dX12_step_23 ?_
    refine lv_i2l hx hb dX12_step_24 rfl ?_
    refine xcSi [.long ((x2).toInt64), .long (0 : Int64), .long ((((gA z2 112 x1.toNatClampNeg) - (1 : Int32))).toInt64)] S hE hA hP hD hS (c_M_isIn l G z2 H.size ((x2).toInt64) (0 : Int64) ((((gA z2 112 x1.toNatClampNeg) - (1 : Int32))).toInt64) _) hB (gw_c lk_X12_260 (gw_c wt_X12_isIn (gw_c wn_X12 (gw_c wc_X12_isIn (fun _ h9 => h9))))) hs_X12_isIn rfl rfl (Nat.le_trans (Nat.le_of_ble_eq_true rfl) hRf) (Nat.le_trans (Nat.le_of_ble_eq_true rfl) hRl) ⟨Nat.zero_le _, Nat.zero_le _⟩ rfl hl.1 rfl (Nat.le_of_ble_eq_true rfl) dX12_step_25 (fun r3 z3 H locs hB hP hD hS => ?_)
    refine lv_if_eq (tgt := 59) hx hb dX12_step_28 (by decide) (fun c4 => ?_) (fun c4 => ?_)
    · have hB := hB.1 c4
      refine lv_ldcw hx hb S.2.2.2.1 (S.2.2.2.2 _ lk_X12_366) dX12_step_59 ?_
      exact hret _ _ _ _ _ _ dX12_step_62 hB hP hD hS
    · have hB := hB.2 c4
      refine lv_iload_n hx hb dX12_step_31 rfl (lv_at hl 3 rfl) ?_
      refine lv_i2l hx hb dX12_step_32 rfl ?_
      refine lv_lconst (v := 0) hx hb dX12_step_33 (by decide) ?_
      refine lv_lconst (v := 1) hx hb dX12_step_34 (by decide) ?_
      refine xcSi [.long ((x3).toInt64), .long (0 : Int64), .long (1 : Int64)] S hE hA hP hD hS (c_M_isIn l G z3 H.size ((x3).toInt64) (0 : Int64) (1 : Int64) _) hB (gw_c lk_X12_260 (gw_c wt_X12_isIn (gw_c wn_X12 (gw_c wc_X12_isIn (fun _ h9 => h9))))) hs_X12_isIn rfl rfl (Nat.le_trans (Nat.le_of_ble_eq_true rfl) hRf) (Nat.le_trans (Nat.le_of_ble_eq_true rfl) hRl) ⟨Nat.zero_le _, Nat.zero_le _⟩ rfl hl.1 rfl (Nat.le_of_ble_eq_true rfl) dX12_step_35 (fun r5 z4 H locs hB hP hD hS => ?_)
      refine lv_if_eq (tgt := 59) hx hb dX12_step_38 (by decide) (fun c6 => ?_) (fun c6 => ?_)
      · have hB := hB.1 c6
        refine lv_ldcw hx hb S.2.2.2.1 (S.2.2.2.2 _ lk_X12_366) dX12_step_59 ?_
        exact hret _ _ _ _ _ _ dX12_step_62 hB hP hD hS
      · have hB := hB.2 c6
        refine lv_aload_n hx hb dX12_step_41 rfl (lv_at hl 0 rfl) ?_
        refine xMg_100_winter S hE hP lk_X12_55 dX12_step_42 ?_
        refine lv_iconst (v := 2) hx hb dX12_step_45 (by decide) ?_
        refine lv_bipush (v := 16) hx hb dX12_step_46 (by decide) ?_
        refine lv_iload_n hx hb dX12_step_48 rfl (lv_at hl 1 rfl) ?_
        refine lv_imul hx hb dX12_step_49 ?_
        refine lv_iload_n hx hb dX12_step_50 rfl (lv_at hl 2 rfl) ?_
        refine lv_iadd hx hb dX12_step_51 ?_
        refine lv_imul hx hb dX12_step_52 ?_
        refine lv_iload_n hx hb dX12_step_53 rfl (lv_at hl 3 rfl) ?_
        refine lv_iadd hx hb dX12_step_54 ?_
        obtain ⟨hi, hB⟩ := hB
        refine xMl_111 S hE hP hi dX12_step_55 ?_
        refine lv_goto (tgt := 62) hx hb dX12_step_56 (by decide) ?_
        exact hret _ _ _ _ _ _ dX12_step_62 hB hP hD hS
set_option maxHeartbeats 4000000 in
set_option maxRecDepth 100000 in
theorem c_M_step (l : Launch) (G : GX) (z0 : St) (sz : Nat) (x1 : Int32) (x2 : Int32) (x3 : Int32) (post : Int32 → St → Prop) : MetI l wM yX12_step cX12_step 4 (some .int) ({ frames := 1, cells := 0, slots := 0, locals := 25 }) [.ref (ad G 100), .int x1, .int x2, .int x3] G z0 sz (S_M_step post x1 x2 x3 z0) post := by
  refine Met.ofW (cc := cX12_step) (maxL := 4) (ret := (some .int)) (by decide) rfl ?_
  intro p e s m args below meth c s₁ B hml hv
  obtain ⟨rfl, hsz, hP, hD0, hE, hB⟩ := hv
  have S : CallFix p m c cX12_step 4 s _ GW RX12 := ⟨B.exec, B.bytes, hml, findClass_of_methodNamed B.named, fun w h => atoms_spec (ws := Cond.code yX12_step cX12_step 4 (some .int) :: GW) B.pre w (List.mem_cons_of_mem _ h)⟩
  have hlocks := B.notSynchronized
  subst hsz
  have hD := hD0.self (sz := s.heap.size)
  generalize hAe : va_A (wM G z0) s.heap.size = A at hD hE ⊢
  have hA : ∀ q : Nat, s.heap.size ≤ q → A q := fun q h => by rw [← hAe]; exact Or.inr h
  have hS : va_S A s.heap s.heap [] := va_S.rf
  have hl := lv_entry ([.ref (ad G 100), .int x1, .int x2, .int x3]) (n := 4) (Nat.le_of_ble_eq_true rfl)
  rw [lg_entry_eq]
  generalize (lg_sl ([.ref (ad G 100), .int x1, .int x2, .int x3]) ++ List.replicate (4 - (lg_sl ([.ref (ad G 100), .int x1, .int x2, .int x3])).length) Slot.unset).toArray = ls at hl ⊢
  have hl : lv_has ls 4 [(0, .ref (ad G 100)), (1, .int x1), (2, .int x2), (3, .int x3)] := hl
  refine w_M_step_0 S hE hA (Nat.le_refl _) (Nat.le_refl _) ?_ x1 x2 x3 z0 hB _ _ _ hP hD hS hl
  intro pc ls r σ H locs hd hp hP hD hS
  exact W.iret (v := r) B.exec B.bytes B.returns (fun t ht hW => ⟨⟨r, σ, rfl, hp, by rw [ht]; exact hP, hD⟩, hS.F ht⟩) hS.2.2 hd
def B_M_copy_r113_r114_2 (post : St → Prop) (ih2 : Int32 → St → Prop) (x2 : Int32) (z0 : St) : Prop :=
  (((28 : Int32) ≤ x2 → (∀ z1 : St, z1 = sA z0 114 28 (0 : Int32) → (post z1))) ∧ (¬ (28 : Int32) ≤ x2 → (vp_in x2 269 ∧ (vp_in x2 269 ∧ (∀ z2 : St, z2 = sA z0 114 x2.toNatClampNeg (gA z0 113 x2.toNatClampNeg) → (∀ v2 : Int32, v2 = x2 + (1 : Int32) → (ih2 v2 z2)))))))
set_option maxHeartbeats 4000000 in
set_option maxRecDepth 100000 in
theorem w_M_copy_r113_r114_2 {p : Program} {l : Launch} {e : Env} {R : Room} {s : State} {m : MethodId} {args : Array Value} {below : List Frame} {meth : Method} {c : Code} {Q : State → Prop} {G : GX} {A : Nat → Prop} (S : CallFix p m c cX12_copy 3 s args GW RX12) (hE : env G A s s.heap) (hA : ∀ q, s.heap.size ≤ q → A q) (hRf : 0 ≤ R.frames) (hRl : 0 ≤ R.locals) {post : St → Prop} (hret : RetV p l e R s m args below meth c Q 0 0 wM G A cX12_copy post) {ih2 : Int32 → St → Prop} (h2 : ∀ (x2 : Int32) (z0 : St), ih2 x2 z0 → Xw p l e R s m args below meth c Q 0 0 wM G A z0 3 [(0, .ref (ad G 113)), (1, .ref (ad G 114)), (2, .int x2)] 2 []) (x2 : Int32) (z0 : St) (hB : B_M_copy_r113_r114_2 post ih2 x2 z0) : Xw p l e R s m args below meth c Q 0 0 wM G A z0 3 [(0, .ref (ad G 113)), (1, .ref (ad G 114)), (2, .int x2)] 2 [] := by
  intro H locs ls hP hD hS hl
  have hx := S.1
  have hb := S.2.1
  refine lv_iload_n hx hb dX12_copy_2 rfl (lv_at hl 2 rfl) ?_
  refine lv_bipush (v := 28) hx hb dX12_copy_3 (by decide) ?_
  refine lv_icmp_ge (tgt := 20) hx hb dX12_copy_5 (by decide) (fun c1 => ?_) (fun c1 => ?_)
  · have hB := hB.1 c1
    refine lv_aload_n hx hb dX12_copy_20 rfl (lv_at hl 1 rfl) ?_
    refine lv_bipush (v := 28) hx hb dX12_copy_21 (by decide) ?_
    refine lv_iconst (v := 0) hx hb dX12_copy_23 (by decide) ?_
    obtain ⟨z1, ez1⟩ : ∃ z9, z9 = sA z0 114 28 (0 : Int32) := ⟨_, rfl⟩
    have hB := hB z1 ez1
    refine xMs_114 S hE hP hD hS 28 (by decide) (by unfold vp_in; decide) dX12_copy_24 (fun H locs hP hD hS => ?_)
    rw [← ez1] at hP hD
    exact hret _ _ _ _ _ dX12_copy_25 hB hP hD hS
  · have hB := hB.2 c1
    refine lv_aload_n hx hb dX12_copy_8 rfl (lv_at hl 1 rfl) ?_
    refine lv_iload_n hx hb dX12_copy_9 rfl (lv_at hl 2 rfl) ?_
    refine lv_aload_n hx hb dX12_copy_10 rfl (lv_at hl 0 rfl) ?_
    refine lv_iload_n hx hb dX12_copy_11 rfl (lv_at hl 2 rfl) ?_
    obtain ⟨hi, hB⟩ := hB
    refine xMl_113 S hE hP hi dX12_copy_12 ?_
    obtain ⟨hi, hB⟩ := hB
    obtain ⟨z2, ez2⟩ : ∃ z9, z9 = sA z0 114 x2.toNatClampNeg (gA z0 113 x2.toNatClampNeg) := ⟨_, rfl⟩
    have hB := hB z2 ez2
    refine xMs_114 S hE hP hD hS _ rfl hi dX12_copy_13 (fun H locs hP hD hS => ?_)
    rw [← ez2] at hP hD
    obtain ⟨v2, ev2⟩ : ∃ y9, y9 = x2 + (1 : Int32) := ⟨_, rfl⟩
    have hB := hB v2 ev2
    refine lv_iinc (v := v2) (lv' := [(2, .int v2), (0, .ref (ad G 113)), (1, .ref (ad G 114))]) hx hb dX12_copy_14 hl (k := 2) rfl (by rw [ev2]; rfl) (by decide) rfl (fun ls hl => ?_)
    refine lv_goto (tgt := 2) hx hb dX12_copy_17 (by decide) ?_
    exact h2 v2 z2 hB _ _ _ hP hD hS (lv_sub hl [1, 2, 0] rfl)
def L_M_copy_r113_r114_2 (post : St → Prop) : Nat → Int32 → St → Prop
  | 0 => fun _ _ => False
  | n + 1 => B_M_copy_r113_r114_2 post (L_M_copy_r113_r114_2 post n)
theorem wl_M_copy_r113_r114_2 {p : Program} {l : Launch} {e : Env} {R : Room} {s : State} {m : MethodId} {args : Array Value} {below : List Frame} {meth : Method} {c : Code} {Q : State → Prop} {G : GX} {A : Nat → Prop} (S : CallFix p m c cX12_copy 3 s args GW RX12) (hE : env G A s s.heap) (hA : ∀ q, s.heap.size ≤ q → A q) (hRf : 0 ≤ R.frames) (hRl : 0 ≤ R.locals) {post : St → Prop} (hret : RetV p l e R s m args below meth c Q 0 0 wM G A cX12_copy post) : ∀ (n : Nat) (x2 : Int32) (z0 : St), L_M_copy_r113_r114_2 post n x2 z0 → Xw p l e R s m args below meth c Q 0 0 wM G A z0 3 [(0, .ref (ad G 113)), (1, .ref (ad G 114)), (2, .int x2)] 2 [] := by
  intro n
  induction n with
  | zero => intro x2 z0 hB; exact absurd hB id
  | succ n ih => exact fun x2 z0 hB => w_M_copy_r113_r114_2 S hE hA hRf hRl hret ih x2 z0 hB
def S_M_copy_r113_r114 (post : St → Prop) (z0 : St) : Prop :=
  (∃ n1, L_M_copy_r113_r114_2 post n1 (0 : Int32) z0)
set_option maxHeartbeats 4000000 in
set_option maxRecDepth 100000 in
theorem w_M_copy_r113_r114_0 {p : Program} {l : Launch} {e : Env} {R : Room} {s : State} {m : MethodId} {args : Array Value} {below : List Frame} {meth : Method} {c : Code} {Q : State → Prop} {G : GX} {A : Nat → Prop} (S : CallFix p m c cX12_copy 3 s args GW RX12) (hE : env G A s s.heap) (hA : ∀ q, s.heap.size ≤ q → A q) (hRf : 0 ≤ R.frames) (hRl : 0 ≤ R.locals) {post : St → Prop} (hret : RetV p l e R s m args below meth c Q 0 0 wM G A cX12_copy post) (z0 : St) (hB : S_M_copy_r113_r114 post z0) : Xw p l e R s m args below meth c Q 0 0 wM G A z0 3 [(0, .ref (ad G 113)), (1, .ref (ad G 114))] 0 [] := by
  intro H locs ls hP hD hS hl
  have hx := S.1
  have hb := S.2.1
  refine lv_iconst (v := 0) hx hb dX12_copy_0 (by decide) ?_
  refine lv_istore_n (lv' := [(2, .int (0 : Int32)), (0, .ref (ad G 113)), (1, .ref (ad G 114))]) hx hb dX12_copy_1 rfl hl (by decide) rfl (fun ls hl => ?_)
  obtain ⟨n1, hB⟩ := hB
  exact wl_M_copy_r113_r114_2 S hE hA hRf hRl hret n1 (0 : Int32) z0 hB _ _ _ hP hD hS (lv_sub hl [1, 2, 0] rfl)
set_option maxHeartbeats 4000000 in
set_option maxRecDepth 100000 in
theorem c_M_copy_r113_r114 (l : Launch) (G : GX) (z0 : St) (sz : Nat) (post : St → Prop) : MetV l wM yX12_copy cX12_copy 3 none ({ frames := 0, cells := 0, slots := 0, locals := 0 }) [.ref (ad G 113), .ref (ad G 114)] G z0 sz (S_M_copy_r113_r114 post z0) post := by
  refine Met.ofW (cc := cX12_copy) (maxL := 3) (ret := none) (by decide) rfl ?_
  intro p e s m args below meth c s₁ B hml hv
  obtain ⟨rfl, hsz, hP, hD0, hE, hB⟩ := hv
  have S : CallFix p m c cX12_copy 3 s _ GW RX12 := ⟨B.exec, B.bytes, hml, findClass_of_methodNamed B.named, fun w h => atoms_spec (ws := Cond.code yX12_copy cX12_copy 3 none :: GW) B.pre w (List.mem_cons_of_mem _ h)⟩
  have hlocks := B.notSynchronized
  subst hsz
  have hD := hD0.self (sz := s.heap.size)
  generalize hAe : va_A (wM G z0) s.heap.size = A at hD hE ⊢
  have hA : ∀ q : Nat, s.heap.size ≤ q → A q := fun q h => by rw [← hAe]; exact Or.inr h
  have hS : va_S A s.heap s.heap [] := va_S.rf
  have hl := lv_entry ([.ref (ad G 113), .ref (ad G 114)]) (n := 3) (Nat.le_of_ble_eq_true rfl)
  rw [lg_entry_eq]
  generalize (lg_sl ([.ref (ad G 113), .ref (ad G 114)]) ++ List.replicate (3 - (lg_sl ([.ref (ad G 113), .ref (ad G 114)])).length) Slot.unset).toArray = ls at hl ⊢
  have hl : lv_has ls 3 [(0, .ref (ad G 113)), (1, .ref (ad G 114))] := hl
  refine w_M_copy_r113_r114_0 S hE hA (Nat.le_refl _) (Nat.le_refl _) ?_  z0 hB _ _ _ hP hD hS hl
  intro pc ls σ H locs hd hp hP hD hS
  exact W.vret B.exec B.bytes B.returns (fun t ht hW => ⟨⟨σ, rfl, hp, by rw [ht]; exact hP, hD⟩, hS.F ht⟩) hS.2.2 hd
def S_M_canHost_r114 (post : Int32 → St → Prop) (x2 : Int32) (z0 : St) : Prop :=
  (S_M_isDrink (fun (r1 : Int32) (z1 : St) => ((r1 = 0 → (post (0 : Int32) z1)) ∧ (¬ r1 = 0 → (((gA z1 114 24) = x2 → (post (0 : Int32) z1)) ∧ (¬ (gA z1 114 24) = x2 → (((gA z1 114 26) = 0 → (post (1 : Int32) z1)) ∧ (¬ (gA z1 114 26) = 0 → (post (0 : Int32) z1)))))))) x2 z0)
set_option maxHeartbeats 4000000 in
set_option maxRecDepth 100000 in
theorem w_M_canHost_r114_0 {p : Program} {l : Launch} {e : Env} {R : Room} {s : State} {m : MethodId} {args : Array Value} {below : List Frame} {meth : Method} {c : Code} {Q : State → Prop} {G : GX} {A : Nat → Prop} (S : CallFix p m c cX12_canHost 3 s args GW RX12) (hE : env G A s s.heap) (hA : ∀ q, s.heap.size ≤ q → A q) (hRf : 1 ≤ R.frames) (hRl : 21 ≤ R.locals) {post : Int32 → St → Prop} (hret : RetZ p l e R s m args below meth c Q 0 0 wM G A cX12_canHost post) (x2 : Int32) (z0 : St) (hB : S_M_canHost_r114 post x2 z0) : Xw p l e R s m args below meth c Q 0 0 wM G A z0 3 [(0, .ref (ad G 100)), (1, .ref (ad G 114)), (2, .int x2)] 0 [] := by
  intro H locs ls hP hD hS hl
  have hx := S.1
  have hb := S.2.1
  refine lv_aload_n hx hb dX12_canHost_0 rfl (lv_at hl 0 rfl) ?_
  refine lv_iload_n hx hb dX12_canHost_1 rfl (lv_at hl 2 rfl) ?_
  refine xcVi [.int x2] S hE hA hP hD hS (c_M_isDrink l G z0 H.size x2 _) hB (gw_c lk_X12_319 (gw_c wi_X12_isDrink (gw_c we_X12_X12_isDrink_X12_isDrink (gw_c wn_X12 (gw_c wc_X12_isDrink (fun _ h9 => h9)))))) hd_X12_isDrink rfl rfl (Nat.le_trans (Nat.le_of_ble_eq_true rfl) hRf) (Nat.le_trans (Nat.le_of_ble_eq_true rfl) hRl) ⟨Nat.zero_le _, Nat.zero_le _⟩ (va_recv hE.1 hP (ci := 11) (q0 := 0) rfl rfl) rfl hl.1 rfl (Nat.le_of_ble_eq_true rfl) dX12_canHost_2 (fun r1 z1 H locs hB hP hD hS => ?_)
  refine lv_if_eq (tgt := 27) hx hb dX12_canHost_5 (by decide) (fun c2 => ?_) (fun c2 => ?_)
  · have hB := hB.1 c2
    refine lv_iconst (v := 0) hx hb dX12_canHost_27 (by decide) ?_
    exact hret _ _ _ _ _ _ dX12_canHost_28 ⟨by decide, hB⟩ hP hD hS
  · have hB := hB.2 c2
    refine lv_aload_n hx hb dX12_canHost_8 rfl (lv_at hl 1 rfl) ?_
    refine lv_bipush (v := 24) hx hb dX12_canHost_9 (by decide) ?_
    refine xMk_114 S hE hP 24 (by decide) (by unfold vp_in; decide) dX12_canHost_11 ?_
    refine lv_iload_n hx hb dX12_canHost_12 rfl (lv_at hl 2 rfl) ?_
    refine lv_icmp_eq (tgt := 27) hx hb dX12_canHost_13 (by decide) (fun c3 => ?_) (fun c3 => ?_)
    · have hB := hB.1 c3
      refine lv_iconst (v := 0) hx hb dX12_canHost_27 (by decide) ?_
      exact hret _ _ _ _ _ _ dX12_canHost_28 ⟨by decide, hB⟩ hP hD hS
    · have hB := hB.2 c3
      refine lv_aload_n hx hb dX12_canHost_16 rfl (lv_at hl 1 rfl) ?_
      refine lv_bipush (v := 26) hx hb dX12_canHost_17 (by decide) ?_
      refine xMk_114 S hE hP 26 (by decide) (by unfold vp_in; decide) dX12_canHost_19 ?_
      refine lv_if_ne (tgt := 27) hx hb dX12_canHost_20 (by decide) (fun c4 => ?_) (fun c4 => ?_)
      · have hB := hB.2 c4
        refine lv_iconst (v := 0) hx hb dX12_canHost_27 (by decide) ?_
        exact hret _ _ _ _ _ _ dX12_canHost_28 ⟨by decide, hB⟩ hP hD hS
      · have hB := hB.1 c4
        refine lv_iconst (v := 1) hx hb dX12_canHost_23 (by decide) ?_
        refine lv_goto (tgt := 28) hx hb dX12_canHost_24 (by decide) ?_
        exact hret _ _ _ _ _ _ dX12_canHost_28 ⟨by decide, hB⟩ hP hD hS
set_option maxHeartbeats 4000000 in
set_option maxRecDepth 100000 in
theorem c_M_canHost_r114 (l : Launch) (G : GX) (z0 : St) (sz : Nat) (x2 : Int32) (post : Int32 → St → Prop) : MetI l wM yX12_canHost cX12_canHost 3 (some .boolean) ({ frames := 1, cells := 0, slots := 0, locals := 21 }) [.ref (ad G 100), .ref (ad G 114), .int x2] G z0 sz (S_M_canHost_r114 post x2 z0) post := by
  refine Met.ofW (cc := cX12_canHost) (maxL := 3) (ret := (some .boolean)) (by decide) rfl ?_
  intro p e s m args below meth c s₁ B hml hv
  obtain ⟨rfl, hsz, hP, hD0, hE, hB⟩ := hv
  have S : CallFix p m c cX12_canHost 3 s _ GW RX12 := ⟨B.exec, B.bytes, hml, findClass_of_methodNamed B.named, fun w h => atoms_spec (ws := Cond.code yX12_canHost cX12_canHost 3 (some .boolean) :: GW) B.pre w (List.mem_cons_of_mem _ h)⟩
  have hlocks := B.notSynchronized
  subst hsz
  have hD := hD0.self (sz := s.heap.size)
  generalize hAe : va_A (wM G z0) s.heap.size = A at hD hE ⊢
  have hA : ∀ q : Nat, s.heap.size ≤ q → A q := fun q h => by rw [← hAe]; exact Or.inr h
  have hS : va_S A s.heap s.heap [] := va_S.rf
  have hl := lv_entry ([.ref (ad G 100), .ref (ad G 114), .int x2]) (n := 3) (Nat.le_of_ble_eq_true rfl)
  rw [lg_entry_eq]
  generalize (lg_sl ([.ref (ad G 100), .ref (ad G 114), .int x2]) ++ List.replicate (3 - (lg_sl ([.ref (ad G 100), .ref (ad G 114), .int x2])).length) Slot.unset).toArray = ls at hl ⊢
  have hl : lv_has ls 3 [(0, .ref (ad G 100)), (1, .ref (ad G 114)), (2, .int x2)] := hl
  refine w_M_canHost_r114_0 S hE hA (Nat.le_refl _) (Nat.le_refl _) ?_ x2 z0 hB _ _ _ hP hD hS hl
  intro pc ls r σ H locs hd hp hP hD hS
  exact W.zret (v := r) B.exec B.bytes B.returns (xboolc r hp.1) (fun t ht hW => ⟨⟨r, σ, rfl, hp.2, by rw [ht]; exact hP, hD⟩, hS.F ht⟩) hS.2.2 hd
def S_M_canStep_r114 (post : Int32 → St → Prop) (x2 : Int32) (z0 : St) : Prop :=
  (vp_in x2 160 ∧ (((gA z0 111 x2.toNatClampNeg) = (0 : Int32) → (vp_in (x2 + (1 : Int32)) 160 ∧ (S_M_isGuest (fun (r1 : Int32) (z1 : St) => ((r1 = 0 ∨ r1 = 1) ∧ post r1 z1)) (gA z0 111 (x2 + (1 : Int32)).toNatClampNeg) z0))) ∧ (¬ (gA z0 111 x2.toNatClampNeg) = (0 : Int32) → (((gA z0 111 x2.toNatClampNeg) = (1 : Int32) → (((999 : Int32) ≤ (gA z0 114 25) → (post (0 : Int32) z0)) ∧ (¬ (999 : Int32) ≤ (gA z0 114 25) → (post (1 : Int32) z0)))) ∧ (¬ (gA z0 111 x2.toNatClampNeg) = (1 : Int32) → (vp_in (x2 + (1 : Int32)) 160 ∧ (S_M_canHost_r114 (fun (r3 : Int32) (z2 : St) => ((r3 = 0 ∨ r3 = 1) ∧ post r3 z2)) (gA z0 111 (x2 + (1 : Int32)).toNatClampNeg) z0)))))))
set_option maxHeartbeats 4000000 in
set_option maxRecDepth 100000 in
theorem w_M_canStep_r114_0 {p : Program} {l : Launch} {e : Env} {R : Room} {s : State} {m : MethodId} {args : Array Value} {below : List Frame} {meth : Method} {c : Code} {Q : State → Prop} {G : GX} {A : Nat → Prop} (S : CallFix p m c cX12_canStep 3 s args GW RX12) (hE : env G A s s.heap) (hA : ∀ q, s.heap.size ≤ q → A q) (hRf : 2 ≤ R.frames) (hRl : 43 ≤ R.locals) {post : Int32 → St → Prop} (hret : RetZ p l e R s m args below meth c Q 0 0 wM G A cX12_canStep post) (x2 : Int32) (z0 : St) (hB : S_M_canStep_r114 post x2 z0) : Xw p l e R s m args below meth c Q 0 0 wM G A z0 3 [(0, .ref (ad G 100)), (1, .ref (ad G 114)), (2, .int x2)] 0 [] := by
  intro H locs ls hP hD hS hl
  have hx := S.1
  have hb := S.2.1
  refine lv_aload_n hx hb dX12_canStep_0 rfl (lv_at hl 0 rfl) ?_
  refine xMg_100_winter S hE hP lk_X12_55 dX12_canStep_1 ?_
  refine lv_iload_n hx hb dX12_canStep_4 rfl (lv_at hl 2 rfl) ?_
  obtain ⟨hi, hB⟩ := hB
  refine xMl_111 S hE hP hi dX12_canStep_5 ?_
  -- switch
  by_cases q0 : (gA z0 111 x2.toNatClampNeg) = (0 : Int32)
  · have hB := hB.1 q0
    refine lv_lookup (tgt := 32) (off := 26) hx hb dX12_canStep_6 (by decide) (by rw [q0]; decide) (by decide) ?_
    refine lv_aload_n hx hb dX12_canStep_32 rfl (lv_at hl 0 rfl) ?_
    refine lv_aload_n hx hb dX12_canStep_33 rfl (lv_at hl 0 rfl) ?_
    refine xMg_100_winter S hE hP lk_X12_55 dX12_canStep_34 ?_
    refine lv_iload_n hx hb dX12_canStep_37 rfl (lv_at hl 2 rfl) ?_
    refine lv_iconst (v := 1) hx hb dX12_canStep_38 (by decide) ?_
    refine lv_iadd hx hb dX12_canStep_39 ?_
    obtain ⟨hi, hB⟩ := hB
    refine xMl_111 S hE hP hi dX12_canStep_40 ?_
    refine xcVi [.int (gA z0 111 (x2 + (1 : Int32)).toNatClampNeg)] S hE hA hP hD hS (c_M_isGuest l G z0 H.size (gA z0 111 (x2 + (1 : Int32)).toNatClampNeg) _) hB (gw_c lk_X12_322 (gw_c wi_X12_isGuest (gw_c we_X12_X12_isGuest_X12_isGuest (gw_c wn_X12 (gw_c wc_X12_isGuest (fun _ h9 => h9)))))) hd_X12_isGuest rfl rfl (Nat.le_trans (Nat.le_of_ble_eq_true rfl) hRf) (Nat.le_trans (Nat.le_of_ble_eq_true rfl) hRl) ⟨Nat.zero_le _, Nat.zero_le _⟩ (va_recv hE.1 hP (ci := 11) (q0 := 0) rfl rfl) rfl hl.1 rfl (Nat.le_of_ble_eq_true rfl) dX12_canStep_41 (fun r1 z1 H locs hB hP hD hS => ?_)
    exact hret _ _ _ _ _ _ dX12_canStep_44 hB hP hD hS
  have hB := hB.2 q0
  by_cases q1 : (gA z0 111 x2.toNatClampNeg) = (1 : Int32)
  · have hB := hB.1 q1
    refine lv_lookup (tgt := 45) (off := 39) hx hb dX12_canStep_6 (by decide) (by rw [q1]; decide) (by decide) ?_
    refine lv_aload_n hx hb dX12_canStep_45 rfl (lv_at hl 1 rfl) ?_
    refine lv_bipush (v := 25) hx hb dX12_canStep_46 (by decide) ?_
    refine xMk_114 S hE hP 25 (by decide) (by unfold vp_in; decide) dX12_canStep_48 ?_
    refine lv_sipush (v := 999) hx hb dX12_canStep_49 (by decide) ?_
    refine lv_icmp_ge (tgt := 59) hx hb dX12_canStep_52 (by decide) (fun c2 => ?_) (fun c2 => ?_)
    · have hB := hB.1 c2
      refine lv_iconst (v := 0) hx hb dX12_canStep_59 (by decide) ?_
      exact hret _ _ _ _ _ _ dX12_canStep_60 ⟨by decide, hB⟩ hP hD hS
    · have hB := hB.2 c2
      refine lv_iconst (v := 1) hx hb dX12_canStep_55 (by decide) ?_
      refine lv_goto (tgt := 60) hx hb dX12_canStep_56 (by decide) ?_
      exact hret _ _ _ _ _ _ dX12_canStep_60 ⟨by decide, hB⟩ hP hD hS
  have hB := hB.2 q1
  have t0 := lv_neT q0 (show ((0 : Int32)).toInt = 0 by decide)
  have t1 := lv_neT q1 (show ((1 : Int32)).toInt = 1 by decide)
  refine lv_lookup (tgt := 61) (off := 55) hx hb dX12_canStep_6 (by decide) (by simp only [Op.lookupswitch.offset, if_neg (Ne.symm t0), if_neg (Ne.symm t1)]) (by decide) ?_
  refine lv_aload_n hx hb dX12_canStep_61 rfl (lv_at hl 0 rfl) ?_
  refine lv_aload_n hx hb dX12_canStep_62 rfl (lv_at hl 1 rfl) ?_
  refine lv_aload_n hx hb dX12_canStep_63 rfl (lv_at hl 0 rfl) ?_
  refine xMg_100_winter S hE hP lk_X12_55 dX12_canStep_64 ?_
  refine lv_iload_n hx hb dX12_canStep_67 rfl (lv_at hl 2 rfl) ?_
  refine lv_iconst (v := 1) hx hb dX12_canStep_68 (by decide) ?_
  refine lv_iadd hx hb dX12_canStep_69 ?_
  obtain ⟨hi, hB⟩ := hB
  refine xMl_111 S hE hP hi dX12_canStep_70 ?_
  refine xcVi [.ref (ad G 114), .int (gA z0 111 (x2 + (1 : Int32)).toNatClampNeg)] S hE hA hP hD hS (c_M_canHost_r114 l G z0 H.size (gA z0 111 (x2 + (1 : Int32)).toNatClampNeg) _) hB (gw_c lk_X12_340 (gw_c wi_X12_canHost (gw_c we_X12_X12_canHost_X12_canHost (gw_c wn_X12 (gw_c wc_X12_canHost (fun _ h9 => h9)))))) hd_X12_canHost rfl rfl (Nat.le_trans (Nat.le_of_ble_eq_true rfl) hRf) (Nat.le_trans (Nat.le_of_ble_eq_true rfl) hRl) ⟨Nat.zero_le _, Nat.zero_le _⟩ (va_recv hE.1 hP (ci := 11) (q0 := 0) rfl rfl) rfl hl.1 rfl (Nat.le_of_ble_eq_true rfl) dX12_canStep_71 (fun r3 z2 H locs hB hP hD hS => ?_)
  exact hret _ _ _ _ _ _ dX12_canStep_74 hB hP hD hS
set_option maxHeartbeats 4000000 in
set_option maxRecDepth 100000 in
theorem c_M_canStep_r114 (l : Launch) (G : GX) (z0 : St) (sz : Nat) (x2 : Int32) (post : Int32 → St → Prop) : MetI l wM yX12_canStep cX12_canStep 3 (some .boolean) ({ frames := 2, cells := 0, slots := 0, locals := 43 }) [.ref (ad G 100), .ref (ad G 114), .int x2] G z0 sz (S_M_canStep_r114 post x2 z0) post := by
  refine Met.ofW (cc := cX12_canStep) (maxL := 3) (ret := (some .boolean)) (by decide) rfl ?_
  intro p e s m args below meth c s₁ B hml hv
  obtain ⟨rfl, hsz, hP, hD0, hE, hB⟩ := hv
  have S : CallFix p m c cX12_canStep 3 s _ GW RX12 := ⟨B.exec, B.bytes, hml, findClass_of_methodNamed B.named, fun w h => atoms_spec (ws := Cond.code yX12_canStep cX12_canStep 3 (some .boolean) :: GW) B.pre w (List.mem_cons_of_mem _ h)⟩
  have hlocks := B.notSynchronized
  subst hsz
  have hD := hD0.self (sz := s.heap.size)
  generalize hAe : va_A (wM G z0) s.heap.size = A at hD hE ⊢
  have hA : ∀ q : Nat, s.heap.size ≤ q → A q := fun q h => by rw [← hAe]; exact Or.inr h
  have hS : va_S A s.heap s.heap [] := va_S.rf
  have hl := lv_entry ([.ref (ad G 100), .ref (ad G 114), .int x2]) (n := 3) (Nat.le_of_ble_eq_true rfl)
  rw [lg_entry_eq]
  generalize (lg_sl ([.ref (ad G 100), .ref (ad G 114), .int x2]) ++ List.replicate (3 - (lg_sl ([.ref (ad G 100), .ref (ad G 114), .int x2])).length) Slot.unset).toArray = ls at hl ⊢
  have hl : lv_has ls 3 [(0, .ref (ad G 100)), (1, .ref (ad G 114)), (2, .int x2)] := hl
  refine w_M_canStep_r114_0 S hE hA (Nat.le_refl _) (Nat.le_refl _) ?_ x2 z0 hB _ _ _ hP hD hS hl
  intro pc ls r σ H locs hd hp hP hD hS
  exact W.zret (v := r) B.exec B.bytes B.returns (xboolc r hp.1) (fun t ht hW => ⟨⟨r, σ, rfl, hp.2, by rw [ht]; exact hP, hD⟩, hS.F ht⟩) hS.2.2 hd
def S_M_hosts_r114 (post : St → Prop) (x1 : Int32) (z0 : St) : Prop :=
  (∀ z1 : St, z1 = sA z0 114 24 x1 → (∀ z2 : St, z2 = sA z1 114 26 (1 : Int32) → (post z2)))
set_option maxHeartbeats 4000000 in
set_option maxRecDepth 100000 in
theorem w_M_hosts_r114_0 {p : Program} {l : Launch} {e : Env} {R : Room} {s : State} {m : MethodId} {args : Array Value} {below : List Frame} {meth : Method} {c : Code} {Q : State → Prop} {G : GX} {A : Nat → Prop} (S : CallFix p m c cX12_hosts 2 s args GW RX12) (hE : env G A s s.heap) (hA : ∀ q, s.heap.size ≤ q → A q) (hRf : 0 ≤ R.frames) (hRl : 0 ≤ R.locals) {post : St → Prop} (hret : RetV p l e R s m args below meth c Q 0 0 wM G A cX12_hosts post) (x1 : Int32) (z0 : St) (hB : S_M_hosts_r114 post x1 z0) : Xw p l e R s m args below meth c Q 0 0 wM G A z0 2 [(0, .ref (ad G 114)), (1, .int x1)] 0 [] := by
  intro H locs ls hP hD hS hl
  have hx := S.1
  have hb := S.2.1
  refine lv_aload_n hx hb dX12_hosts_0 rfl (lv_at hl 0 rfl) ?_
  refine lv_bipush (v := 24) hx hb dX12_hosts_1 (by decide) ?_
  refine lv_iload_n hx hb dX12_hosts_3 rfl (lv_at hl 1 rfl) ?_
  obtain ⟨z1, ez1⟩ : ∃ z9, z9 = sA z0 114 24 x1 := ⟨_, rfl⟩
  have hB := hB z1 ez1
  refine xMs_114 S hE hP hD hS 24 (by decide) (by unfold vp_in; decide) dX12_hosts_4 (fun H locs hP hD hS => ?_)
  rw [← ez1] at hP hD
  refine lv_aload_n hx hb dX12_hosts_5 rfl (lv_at hl 0 rfl) ?_
  refine lv_bipush (v := 26) hx hb dX12_hosts_6 (by decide) ?_
  refine lv_iconst (v := 1) hx hb dX12_hosts_8 (by decide) ?_
  obtain ⟨z2, ez2⟩ : ∃ z9, z9 = sA z1 114 26 (1 : Int32) := ⟨_, rfl⟩
  have hB := hB z2 ez2
  refine xMs_114 S hE hP hD hS 26 (by decide) (by unfold vp_in; decide) dX12_hosts_9 (fun H locs hP hD hS => ?_)
  rw [← ez2] at hP hD
  exact hret _ _ _ _ _ dX12_hosts_10 hB hP hD hS
set_option maxHeartbeats 4000000 in
set_option maxRecDepth 100000 in
theorem c_M_hosts_r114 (l : Launch) (G : GX) (z0 : St) (sz : Nat) (x1 : Int32) (post : St → Prop) : MetV l wM yX12_hosts cX12_hosts 2 none ({ frames := 0, cells := 0, slots := 0, locals := 0 }) [.ref (ad G 114), .int x1] G z0 sz (S_M_hosts_r114 post x1 z0) post := by
  refine Met.ofW (cc := cX12_hosts) (maxL := 2) (ret := none) (by decide) rfl ?_
  intro p e s m args below meth c s₁ B hml hv
  obtain ⟨rfl, hsz, hP, hD0, hE, hB⟩ := hv
  have S : CallFix p m c cX12_hosts 2 s _ GW RX12 := ⟨B.exec, B.bytes, hml, findClass_of_methodNamed B.named, fun w h => atoms_spec (ws := Cond.code yX12_hosts cX12_hosts 2 none :: GW) B.pre w (List.mem_cons_of_mem _ h)⟩
  have hlocks := B.notSynchronized
  subst hsz
  have hD := hD0.self (sz := s.heap.size)
  generalize hAe : va_A (wM G z0) s.heap.size = A at hD hE ⊢
  have hA : ∀ q : Nat, s.heap.size ≤ q → A q := fun q h => by rw [← hAe]; exact Or.inr h
  have hS : va_S A s.heap s.heap [] := va_S.rf
  have hl := lv_entry ([.ref (ad G 114), .int x1]) (n := 2) (Nat.le_of_ble_eq_true rfl)
  rw [lg_entry_eq]
  generalize (lg_sl ([.ref (ad G 114), .int x1]) ++ List.replicate (2 - (lg_sl ([.ref (ad G 114), .int x1])).length) Slot.unset).toArray = ls at hl ⊢
  have hl : lv_has ls 2 [(0, .ref (ad G 114)), (1, .int x1)] := hl
  refine w_M_hosts_r114_0 S hE hA (Nat.le_refl _) (Nat.le_refl _) ?_ x1 z0 hB _ _ _ hP hD hS hl
  intro pc ls σ H locs hd hp hP hD hS
  exact W.vret B.exec B.bytes B.returns (fun t ht hW => ⟨⟨σ, rfl, hp, by rw [ht]; exact hP, hD⟩, hS.F ht⟩) hS.2.2 hd
def B_M_goMonth_r114_2 (post : St → Prop) (ih2 : Int32 → St → Prop) (x2 : Int32) (z0 : St) : Prop :=
  (((gI z0 112) ≤ x2 → (∀ z1 : St, z1 = sA z0 114 26 (0 : Int32) → (∀ z2 : St, z2 = sA z1 114 25 ((gA z1 114 25) + (1 : Int32)) → (post z2)))) ∧ (¬ (gI z0 112) ≤ x2 → (vp_in (((3 : Int32) * x2) + (0 : Int32)) 269 ∧ (S_Math_min_7cf53_M (fun (r2 : Int32) (z3 : St) => (vp_in (((3 : Int32) * x2) + (0 : Int32)) 269 ∧ (∀ z4 : St, z4 = sA z3 114 (((3 : Int32) * x2) + (0 : Int32)).toNatClampNeg r2 → (∀ v3 : Int32, v3 = x2 + (1 : Int32) → (ih2 v3 z4))))) (99 : Int32) ((gA z0 114 (((3 : Int32) * x2) + (0 : Int32)).toNatClampNeg) + (gA z0 105 1)) z0))))
set_option maxHeartbeats 4000000 in
set_option maxRecDepth 100000 in
theorem w_M_goMonth_r114_2 {p : Program} {l : Launch} {e : Env} {R : Room} {s : State} {m : MethodId} {args : Array Value} {below : List Frame} {meth : Method} {c : Code} {Q : State → Prop} {G : GX} {A : Nat → Prop} (S : CallFix p m c cX12_goMonth 3 s args GW RX12) (hE : env G A s s.heap) (hA : ∀ q, s.heap.size ≤ q → A q) (hRf : 1 ≤ R.frames) (hRl : 21 ≤ R.locals) {post : St → Prop} (hret : RetV p l e R s m args below meth c Q 0 0 wM G A cX12_goMonth post) {ih2 : Int32 → St → Prop} (h2 : ∀ (x2 : Int32) (z0 : St), ih2 x2 z0 → Xw p l e R s m args below meth c Q 0 0 wM G A z0 3 [(0, .ref (ad G 100)), (1, .ref (ad G 114)), (2, .int x2)] 2 []) (x2 : Int32) (z0 : St) (hB : B_M_goMonth_r114_2 post ih2 x2 z0) : Xw p l e R s m args below meth c Q 0 0 wM G A z0 3 [(0, .ref (ad G 100)), (1, .ref (ad G 114)), (2, .int x2)] 2 [] := by
  intro H locs ls hP hD hS hl
  have hx := S.1
  have hb := S.2.1
  refine lv_iload_n hx hb dX12_goMonth_2 rfl (lv_at hl 2 rfl) ?_
  refine lv_aload_n hx hb dX12_goMonth_3 rfl (lv_at hl 0 rfl) ?_
  refine xMg_100_guests S hE hP lk_X12_284 dX12_goMonth_4 ?_
  refine lv_icmp_ge (tgt := 42) hx hb dX12_goMonth_7 (by decide) (fun c1 => ?_) (fun c1 => ?_)
  · have hB := hB.1 c1
    refine lv_aload_n hx hb dX12_goMonth_42 rfl (lv_at hl 1 rfl) ?_
    refine lv_bipush (v := 26) hx hb dX12_goMonth_43 (by decide) ?_
    refine lv_iconst (v := 0) hx hb dX12_goMonth_45 (by decide) ?_
    obtain ⟨z1, ez1⟩ : ∃ z9, z9 = sA z0 114 26 (0 : Int32) := ⟨_, rfl⟩
    have hB := hB z1 ez1
    refine xMs_114 S hE hP hD hS 26 (by decide) (by unfold vp_in; decide) dX12_goMonth_46 (fun H locs hP hD hS => ?_)
    rw [← ez1] at hP hD
    refine lv_aload_n hx hb dX12_goMonth_47 rfl (lv_at hl 1 rfl) ?_
    refine lv_bipush (v := 25) hx hb dX12_goMonth_48 (by decide) ?_
    refine lv_dup2_11 hx hb dX12_goMonth_50 rfl rfl ?_
    refine xMk_114 S hE hP 25 (by decide) (by unfold vp_in; decide) dX12_goMonth_51 ?_
    refine lv_iconst (v := 1) hx hb dX12_goMonth_52 (by decide) ?_
    refine lv_iadd hx hb dX12_goMonth_53 ?_
    obtain ⟨z2, ez2⟩ : ∃ z9, z9 = sA z1 114 25 ((gA z1 114 25) + (1 : Int32)) := ⟨_, rfl⟩
    have hB := hB z2 ez2
    refine xMs_114 S hE hP hD hS 25 (by decide) (by unfold vp_in; decide) dX12_goMonth_54 (fun H locs hP hD hS => ?_)
    rw [← ez2] at hP hD
    exact hret _ _ _ _ _ dX12_goMonth_55 hB hP hD hS
  · have hB := hB.2 c1
    refine lv_aload_n hx hb dX12_goMonth_10 rfl (lv_at hl 1 rfl) ?_
    refine lv_iconst (v := 3) hx hb dX12_goMonth_11 (by decide) ?_
    refine lv_iload_n hx hb dX12_goMonth_12 rfl (lv_at hl 2 rfl) ?_
    refine lv_imul hx hb dX12_goMonth_13 ?_
    refine lv_iconst (v := 0) hx hb dX12_goMonth_14 (by decide) ?_
    refine lv_iadd hx hb dX12_goMonth_15 ?_
    refine lv_bipush (v := 99) hx hb dX12_goMonth_16 (by decide) ?_
    refine lv_aload_n hx hb dX12_goMonth_18 rfl (lv_at hl 1 rfl) ?_
    refine lv_iconst (v := 3) hx hb dX12_goMonth_19 (by decide) ?_
    refine lv_iload_n hx hb dX12_goMonth_20 rfl (lv_at hl 2 rfl) ?_
    refine lv_imul hx hb dX12_goMonth_21 ?_
    refine lv_iconst (v := 0) hx hb dX12_goMonth_22 (by decide) ?_
    refine lv_iadd hx hb dX12_goMonth_23 ?_
    obtain ⟨hi, hB⟩ := hB
    refine xMl_114 S hE hP hi dX12_goMonth_24 ?_
    refine lv_aload_n hx hb dX12_goMonth_25 rfl (lv_at hl 0 rfl) ?_
    refine xMg_100_rule S hE hP lk_X12_37 dX12_goMonth_26 ?_
    refine lv_iconst (v := 1) hx hb dX12_goMonth_29 (by decide) ?_
    refine xMk_105 S hE hP 1 (by decide) (by unfold vp_in; decide) dX12_goMonth_30 ?_
    refine lv_iadd hx hb dX12_goMonth_31 ?_
    refine xcSi [.int (99 : Int32), .int ((gA z0 114 (((3 : Int32) * x2) + (0 : Int32)).toNatClampNeg) + (gA z0 105 1))] S hE hA hP hD hS (c_Math_min_7cf53_M l G z0 H.size (99 : Int32) ((gA z0 114 (((3 : Int32) * x2) + (0 : Int32)).toNatClampNeg) + (gA z0 105 1)) _) hB (gw_c lk_X12_299 (gw_c wt_J9_min_7cf53 (gw_c wn_J9 (gw_c wc_J9_min_7cf53 (fun _ h9 => h9))))) hs_J9_min_7cf53 rfl rfl (Nat.le_trans (Nat.le_of_ble_eq_true rfl) hRf) (Nat.le_trans (Nat.le_of_ble_eq_true rfl) hRl) ⟨Nat.zero_le _, Nat.zero_le _⟩ rfl hl.1 rfl (Nat.le_of_ble_eq_true rfl) dX12_goMonth_32 (fun r2 z3 H locs hB hP hD hS => ?_)
    obtain ⟨hi, hB⟩ := hB
    obtain ⟨z4, ez4⟩ : ∃ z9, z9 = sA z3 114 (((3 : Int32) * x2) + (0 : Int32)).toNatClampNeg r2 := ⟨_, rfl⟩
    have hB := hB z4 ez4
    refine xMs_114 S hE hP hD hS _ rfl hi dX12_goMonth_35 (fun H locs hP hD hS => ?_)
    rw [← ez4] at hP hD
    obtain ⟨v3, ev3⟩ : ∃ y9, y9 = x2 + (1 : Int32) := ⟨_, rfl⟩
    have hB := hB v3 ev3
    refine lv_iinc (v := v3) (lv' := [(2, .int v3), (0, .ref (ad G 100)), (1, .ref (ad G 114))]) hx hb dX12_goMonth_36 hl (k := 2) rfl (by rw [ev3]; rfl) (by decide) rfl (fun ls hl => ?_)
    refine lv_goto (tgt := 2) hx hb dX12_goMonth_39 (by decide) ?_
    exact h2 v3 z4 hB _ _ _ hP hD hS (lv_sub hl [1, 2, 0] rfl)
def L_M_goMonth_r114_2 (post : St → Prop) : Nat → Int32 → St → Prop
  | 0 => fun _ _ => False
  | n + 1 => B_M_goMonth_r114_2 post (L_M_goMonth_r114_2 post n)
theorem wl_M_goMonth_r114_2 {p : Program} {l : Launch} {e : Env} {R : Room} {s : State} {m : MethodId} {args : Array Value} {below : List Frame} {meth : Method} {c : Code} {Q : State → Prop} {G : GX} {A : Nat → Prop} (S : CallFix p m c cX12_goMonth 3 s args GW RX12) (hE : env G A s s.heap) (hA : ∀ q, s.heap.size ≤ q → A q) (hRf : 1 ≤ R.frames) (hRl : 21 ≤ R.locals) {post : St → Prop} (hret : RetV p l e R s m args below meth c Q 0 0 wM G A cX12_goMonth post) : ∀ (n : Nat) (x2 : Int32) (z0 : St), L_M_goMonth_r114_2 post n x2 z0 → Xw p l e R s m args below meth c Q 0 0 wM G A z0 3 [(0, .ref (ad G 100)), (1, .ref (ad G 114)), (2, .int x2)] 2 [] := by
  intro n
  induction n with
  | zero => intro x2 z0 hB; exact absurd hB id
  | succ n ih => exact fun x2 z0 hB => w_M_goMonth_r114_2 S hE hA hRf hRl hret ih x2 z0 hB
def S_M_goMonth_r114 (post : St → Prop) (z0 : St) : Prop :=
  (∃ n1, L_M_goMonth_r114_2 post n1 (0 : Int32) z0)
set_option maxHeartbeats 4000000 in
set_option maxRecDepth 100000 in
theorem w_M_goMonth_r114_0 {p : Program} {l : Launch} {e : Env} {R : Room} {s : State} {m : MethodId} {args : Array Value} {below : List Frame} {meth : Method} {c : Code} {Q : State → Prop} {G : GX} {A : Nat → Prop} (S : CallFix p m c cX12_goMonth 3 s args GW RX12) (hE : env G A s s.heap) (hA : ∀ q, s.heap.size ≤ q → A q) (hRf : 1 ≤ R.frames) (hRl : 21 ≤ R.locals) {post : St → Prop} (hret : RetV p l e R s m args below meth c Q 0 0 wM G A cX12_goMonth post) (z0 : St) (hB : S_M_goMonth_r114 post z0) : Xw p l e R s m args below meth c Q 0 0 wM G A z0 3 [(0, .ref (ad G 100)), (1, .ref (ad G 114))] 0 [] := by
  intro H locs ls hP hD hS hl
  have hx := S.1
  have hb := S.2.1
  refine lv_iconst (v := 0) hx hb dX12_goMonth_0 (by decide) ?_
  refine lv_istore_n (lv' := [(2, .int (0 : Int32)), (0, .ref (ad G 100)), (1, .ref (ad G 114))]) hx hb dX12_goMonth_1 rfl hl (by decide) rfl (fun ls hl => ?_)
  obtain ⟨n1, hB⟩ := hB
  exact wl_M_goMonth_r114_2 S hE hA hRf hRl hret n1 (0 : Int32) z0 hB _ _ _ hP hD hS (lv_sub hl [1, 2, 0] rfl)
set_option maxHeartbeats 4000000 in
set_option maxRecDepth 100000 in
theorem c_M_goMonth_r114 (l : Launch) (G : GX) (z0 : St) (sz : Nat) (post : St → Prop) : MetV l wM yX12_goMonth cX12_goMonth 3 none ({ frames := 1, cells := 0, slots := 0, locals := 21 }) [.ref (ad G 100), .ref (ad G 114)] G z0 sz (S_M_goMonth_r114 post z0) post := by
  refine Met.ofW (cc := cX12_goMonth) (maxL := 3) (ret := none) (by decide) rfl ?_
  intro p e s m args below meth c s₁ B hml hv
  obtain ⟨rfl, hsz, hP, hD0, hE, hB⟩ := hv
  have S : CallFix p m c cX12_goMonth 3 s _ GW RX12 := ⟨B.exec, B.bytes, hml, findClass_of_methodNamed B.named, fun w h => atoms_spec (ws := Cond.code yX12_goMonth cX12_goMonth 3 none :: GW) B.pre w (List.mem_cons_of_mem _ h)⟩
  have hlocks := B.notSynchronized
  subst hsz
  have hD := hD0.self (sz := s.heap.size)
  generalize hAe : va_A (wM G z0) s.heap.size = A at hD hE ⊢
  have hA : ∀ q : Nat, s.heap.size ≤ q → A q := fun q h => by rw [← hAe]; exact Or.inr h
  have hS : va_S A s.heap s.heap [] := va_S.rf
  have hl := lv_entry ([.ref (ad G 100), .ref (ad G 114)]) (n := 3) (Nat.le_of_ble_eq_true rfl)
  rw [lg_entry_eq]
  generalize (lg_sl ([.ref (ad G 100), .ref (ad G 114)]) ++ List.replicate (3 - (lg_sl ([.ref (ad G 100), .ref (ad G 114)])).length) Slot.unset).toArray = ls at hl ⊢
  have hl : lv_has ls 3 [(0, .ref (ad G 100)), (1, .ref (ad G 114))] := hl
  refine w_M_goMonth_r114_0 S hE hA (Nat.le_refl _) (Nat.le_refl _) ?_  z0 hB _ _ _ hP hD hS hl
  intro pc ls σ H locs hd hp hP hD hS
  exact W.vret B.exec B.bytes B.returns (fun t ht hW => ⟨⟨σ, rfl, hp, by rw [ht]; exact hP, hD⟩, hS.F ht⟩) hS.2.2 hd
def B_M_brings_r114_233 (post : Int32 → St → Prop) (ih141 : Int32 → Int32 → Int32 → Int32 → St → Prop) (x4 : Int32) (x7 : Int32) (x8 : Int32) (x9 : Int32) (z0 : St) : Prop :=
  (∀ v1 : Int32, v1 = x9 + (1 : Int32) → (ih141 x4 x7 x8 v1 z0))
set_option maxHeartbeats 4000000 in
set_option maxRecDepth 100000 in
theorem w_M_brings_r114_233 {p : Program} {l : Launch} {e : Env} {R : Room} {s : State} {m : MethodId} {args : Array Value} {below : List Frame} {meth : Method} {c : Code} {Q : State → Prop} {G : GX} {A : Nat → Prop} (S : CallFix p m c cX12_brings 11 s args GW RX12) (hE : env G A s s.heap) (hA : ∀ q, s.heap.size ≤ q → A q) (hRf : 60 ≤ R.frames) (hRl : 1691 ≤ R.locals) {post : Int32 → St → Prop} (hret : RetI p l e R s m args below meth c Q 0 0 wM G A cX12_brings post) {ih141 : Int32 → Int32 → Int32 → Int32 → St → Prop} (h141 : ∀ (x4 : Int32) (x7 : Int32) (x8 : Int32) (x9 : Int32) (z0 : St), ih141 x4 x7 x8 x9 z0 → Xw p l e R s m args below meth c Q 0 0 wM G A z0 11 [(0, .ref (ad G 100)), (1, .ref (ad G 114)), (4, .int x4), (7, .int x7), (8, .int x8), (9, .int x9)] 141 []) (x4 : Int32) (x7 : Int32) (x8 : Int32) (x9 : Int32) (z0 : St) (hB : B_M_brings_r114_233 post ih141 x4 x7 x8 x9 z0) : Xw p l e R s m args below meth c Q 0 0 wM G A z0 11 [(0, .ref (ad G 100)), (1, .ref (ad G 114)), (4, .int x4), (7, .int x7), (8, .int x8), (9, .int x9)] 233 [] := by
  intro H locs ls hP hD hS hl
  have hx := S.1
  have hb := S.2.1
  obtain ⟨v1, ev1⟩ : ∃ y9, y9 = x9 + (1 : Int32) := ⟨_, rfl⟩
  have hB := hB v1 ev1
  refine lv_iinc (v := v1) (lv' := [(9, .int v1), (0, .ref (ad G 100)), (1, .ref (ad G 114)), (4, .int x4), (7, .int x7), (8, .int x8)]) hx hb dX12_brings_233 hl (k := 5) rfl (by rw [ev1]; rfl) (by decide) rfl (fun ls hl => ?_)
  refine lv_goto (tgt := 141) hx hb dX12_brings_236 (by decide) ?_
  exact h141 x4 x7 x8 v1 z0 hB _ _ _ hP hD hS (lv_sub hl [1, 2, 3, 4, 5, 0] rfl)
def B_M_brings_r114_229 (post : Int32 → St → Prop) (ih141 : Int32 → Int32 → Int32 → Int32 → St → Prop) (x4 : Int32) (x7 : Int32) (x9 : Int32) (z0 : St) : Prop :=
  (B_M_brings_r114_233 post ih141 x4 x7 x9 x9 z0)
set_option maxHeartbeats 4000000 in
set_option maxRecDepth 100000 in
theorem w_M_brings_r114_229 {p : Program} {l : Launch} {e : Env} {R : Room} {s : State} {m : MethodId} {args : Array Value} {below : List Frame} {meth : Method} {c : Code} {Q : State → Prop} {G : GX} {A : Nat → Prop} (S : CallFix p m c cX12_brings 11 s args GW RX12) (hE : env G A s s.heap) (hA : ∀ q, s.heap.size ≤ q → A q) (hRf : 60 ≤ R.frames) (hRl : 1691 ≤ R.locals) {post : Int32 → St → Prop} (hret : RetI p l e R s m args below meth c Q 0 0 wM G A cX12_brings post) {ih141 : Int32 → Int32 → Int32 → Int32 → St → Prop} (h141 : ∀ (x4 : Int32) (x7 : Int32) (x8 : Int32) (x9 : Int32) (z0 : St), ih141 x4 x7 x8 x9 z0 → Xw p l e R s m args below meth c Q 0 0 wM G A z0 11 [(0, .ref (ad G 100)), (1, .ref (ad G 114)), (4, .int x4), (7, .int x7), (8, .int x8), (9, .int x9)] 141 []) (x4 : Int32) (x7 : Int32) (x9 : Int32) (z0 : St) (hB : B_M_brings_r114_229 post ih141 x4 x7 x9 z0) : Xw p l e R s m args below meth c Q 0 0 wM G A z0 11 [(0, .ref (ad G 100)), (1, .ref (ad G 114)), (4, .int x4), (7, .int x7), (9, .int x9)] 229 [] := by
  intro H locs ls hP hD hS hl
  have hx := S.1
  have hb := S.2.1
  refine lv_iload hx hb dX12_brings_229 (lv_at hl 4 rfl) ?_
  refine lv_istore (lv' := [(8, .int x9), (0, .ref (ad G 100)), (1, .ref (ad G 114)), (4, .int x4), (7, .int x7), (9, .int x9)]) hx hb dX12_brings_231 hl (by decide) rfl (fun ls hl => ?_)
  exact w_M_brings_r114_233 S hE hA hRf hRl hret h141 x4 x7 x9 x9 z0 hB _ _ _ hP hD hS (lv_sub hl [1, 2, 3, 4, 0, 5] rfl)
def B_M_brings_r114_200 (post : Int32 → St → Prop) (ih141 : Int32 → Int32 → Int32 → Int32 → St → Prop) (x4 : Int32) (x7 : Int32) (x8 : Int32) (x9 : Int32) (s0 : Int32) (z0 : St) : Prop :=
  ((0 < s0 → (B_M_brings_r114_229 post ih141 x4 x7 x9 z0)) ∧ (¬ 0 < s0 → ((s0 = 0 → (vp_in ((18 : Int32) + x9) 269 ∧ (vp_in ((18 : Int32) + x8) 269 ∧ (((gA z0 114 ((18 : Int32) + x8).toNatClampNeg) ≤ (gA z0 114 ((18 : Int32) + x9).toNatClampNeg) → (B_M_brings_r114_233 post ih141 x4 x7 x8 x9 z0)) ∧ (¬ (gA z0 114 ((18 : Int32) + x8).toNatClampNeg) ≤ (gA z0 114 ((18 : Int32) + x9).toNatClampNeg) → (B_M_brings_r114_229 post ih141 x4 x7 x9 z0)))))) ∧ (¬ s0 = 0 → (B_M_brings_r114_233 post ih141 x4 x7 x8 x9 z0)))))
set_option maxHeartbeats 4000000 in
set_option maxRecDepth 100000 in
theorem w_M_brings_r114_200 {p : Program} {l : Launch} {e : Env} {R : Room} {s : State} {m : MethodId} {args : Array Value} {below : List Frame} {meth : Method} {c : Code} {Q : State → Prop} {G : GX} {A : Nat → Prop} (S : CallFix p m c cX12_brings 11 s args GW RX12) (hE : env G A s s.heap) (hA : ∀ q, s.heap.size ≤ q → A q) (hRf : 60 ≤ R.frames) (hRl : 1691 ≤ R.locals) {post : Int32 → St → Prop} (hret : RetI p l e R s m args below meth c Q 0 0 wM G A cX12_brings post) {ih141 : Int32 → Int32 → Int32 → Int32 → St → Prop} (h141 : ∀ (x4 : Int32) (x7 : Int32) (x8 : Int32) (x9 : Int32) (z0 : St), ih141 x4 x7 x8 x9 z0 → Xw p l e R s m args below meth c Q 0 0 wM G A z0 11 [(0, .ref (ad G 100)), (1, .ref (ad G 114)), (4, .int x4), (7, .int x7), (8, .int x8), (9, .int x9)] 141 []) (x4 : Int32) (x7 : Int32) (x8 : Int32) (x9 : Int32) (s0 : Int32) (z0 : St) (hB : B_M_brings_r114_200 post ih141 x4 x7 x8 x9 s0 z0) : Xw p l e R s m args below meth c Q 0 0 wM G A z0 11 [(0, .ref (ad G 100)), (1, .ref (ad G 114)), (4, .int x4), (7, .int x7), (8, .int x8), (9, .int x9)] 200 [.int s0] := by
  intro H locs ls hP hD hS hl
  have hx := S.1
  have hb := S.2.1
  refine lv_istore (lv' := [(10, .int s0), (0, .ref (ad G 100)), (1, .ref (ad G 114)), (4, .int x4), (7, .int x7), (8, .int x8), (9, .int x9)]) hx hb dX12_brings_200 hl (by decide) rfl (fun ls hl => ?_)
  refine lv_iload hx hb dX12_brings_202 (lv_at hl 0 rfl) ?_
  refine lv_if_gt (tgt := 229) hx hb dX12_brings_204 (by decide) (fun c1 => ?_) (fun c1 => ?_)
  · have hB := hB.1 c1
    exact w_M_brings_r114_229 S hE hA hRf hRl hret h141 x4 x7 x9 z0 hB _ _ _ hP hD hS (lv_sub hl [1, 2, 3, 4, 6] rfl)
  · have hB := hB.2 c1
    refine lv_iload hx hb dX12_brings_207 (lv_at hl 0 rfl) ?_
    refine lv_if_ne (tgt := 233) hx hb dX12_brings_209 (by decide) (fun c2 => ?_) (fun c2 => ?_)
    · have hB := hB.2 c2
      exact w_M_brings_r114_233 S hE hA hRf hRl hret h141 x4 x7 x8 x9 z0 hB _ _ _ hP hD hS (lv_sub hl [1, 2, 3, 4, 5, 6] rfl)
    · have hB := hB.1 c2
      refine lv_aload_n hx hb dX12_brings_212 rfl (lv_at hl 2 rfl) ?_
      refine lv_bipush (v := 18) hx hb dX12_brings_213 (by decide) ?_
      refine lv_iload hx hb dX12_brings_215 (lv_at hl 6 rfl) ?_
      refine lv_iadd hx hb dX12_brings_217 ?_
      obtain ⟨hi, hB⟩ := hB
      refine xMl_114 S hE hP hi dX12_brings_218 ?_
      refine lv_aload_n hx hb dX12_brings_219 rfl (lv_at hl 2 rfl) ?_
      refine lv_bipush (v := 18) hx hb dX12_brings_220 (by decide) ?_
      refine lv_iload hx hb dX12_brings_222 (lv_at hl 5 rfl) ?_
      refine lv_iadd hx hb dX12_brings_224 ?_
      obtain ⟨hi, hB⟩ := hB
      refine xMl_114 S hE hP hi dX12_brings_225 ?_
      refine lv_icmp_ge (tgt := 233) hx hb dX12_brings_226 (by decide) (fun c3 => ?_) (fun c3 => ?_)
      · have hB := hB.1 c3
        exact w_M_brings_r114_233 S hE hA hRf hRl hret h141 x4 x7 x8 x9 z0 hB _ _ _ hP hD hS (lv_sub hl [1, 2, 3, 4, 5, 6] rfl)
      · have hB := hB.2 c3
        exact w_M_brings_r114_229 S hE hA hRf hRl hret h141 x4 x7 x9 z0 hB _ _ _ hP hD hS (lv_sub hl [1, 2, 3, 4, 6] rfl)
def B_M_brings_r114_141 (post : Int32 → St → Prop) (ih141 : Int32 → Int32 → Int32 → Int32 → St → Prop) (x4 : Int32) (x7 : Int32) (x8 : Int32) (x9 : Int32) (z0 : St) : Prop :=
  (((gI z0 111) ≤ x9 → (post x8 z0)) ∧ (¬ (gI z0 111) ≤ x9 → (vp_in ((18 : Int32) + x9) 269 ∧ (((gA z0 114 ((18 : Int32) + x9).toNatClampNeg) ≤ x4 → ((x8 = (-1 : Int32) → (B_M_brings_r114_200 post ih141 x4 x7 x8 x9 (1 : Int32) z0)) ∧ (¬ x8 = (-1 : Int32) → (S_M_quality (fun (r4 : Int32) (z1 : St) => (S_Math_abs_0f7a4_M (fun (r5 : Int32) (z2 : St) => (S_M_quality (fun (r6 : Int32) (z3 : St) => (S_Math_abs_0f7a4_M (fun (r7 : Int32) (z4 : St) => (B_M_brings_r114_200 post ih141 x4 x7 x8 x9 (r5 - r7) z4)) (r6 - x7) z3)) x9 z2)) (r4 - x7) z1)) x8 z0)))) ∧ (¬ (gA z0 114 ((18 : Int32) + x9).toNatClampNeg) ≤ x4 → (B_M_brings_r114_233 post ih141 x4 x7 x8 x9 z0))))))
set_option maxHeartbeats 4000000 in
set_option maxRecDepth 100000 in
theorem w_M_brings_r114_141 {p : Program} {l : Launch} {e : Env} {R : Room} {s : State} {m : MethodId} {args : Array Value} {below : List Frame} {meth : Method} {c : Code} {Q : State → Prop} {G : GX} {A : Nat → Prop} (S : CallFix p m c cX12_brings 11 s args GW RX12) (hE : env G A s s.heap) (hA : ∀ q, s.heap.size ≤ q → A q) (hRf : 60 ≤ R.frames) (hRl : 1691 ≤ R.locals) {post : Int32 → St → Prop} (hret : RetI p l e R s m args below meth c Q 0 0 wM G A cX12_brings post) {ih141 : Int32 → Int32 → Int32 → Int32 → St → Prop} (h141 : ∀ (x4 : Int32) (x7 : Int32) (x8 : Int32) (x9 : Int32) (z0 : St), ih141 x4 x7 x8 x9 z0 → Xw p l e R s m args below meth c Q 0 0 wM G A z0 11 [(0, .ref (ad G 100)), (1, .ref (ad G 114)), (4, .int x4), (7, .int x7), (8, .int x8), (9, .int x9)] 141 []) (x4 : Int32) (x7 : Int32) (x8 : Int32) (x9 : Int32) (z0 : St) (hB : B_M_brings_r114_141 post ih141 x4 x7 x8 x9 z0) : Xw p l e R s m args below meth c Q 0 0 wM G A z0 11 [(0, .ref (ad G 100)), (1, .ref (ad G 114)), (4, .int x4), (7, .int x7), (8, .int x8), (9, .int x9)] 141 [] := by
  intro H locs ls hP hD hS hl
  have hx := S.1
  have hb := S.2.1
  refine lv_iload hx hb dX12_brings_141 (lv_at hl 5 rfl) ?_
  refine lv_aload_n hx hb dX12_brings_143 rfl (lv_at hl 0 rfl) ?_
  refine xMg_100_drinks S hE hP lk_X12_281 dX12_brings_144 ?_
  refine lv_icmp_ge (tgt := 239) hx hb dX12_brings_147 (by decide) (fun c1 => ?_) (fun c1 => ?_)
  · have hB := hB.1 c1
    refine lv_iload hx hb dX12_brings_239 (lv_at hl 4 rfl) ?_
    exact hret _ _ _ _ _ _ dX12_brings_241 hB hP hD hS
  · have hB := hB.2 c1
    refine lv_aload_n hx hb dX12_brings_150 rfl (lv_at hl 1 rfl) ?_
    refine lv_bipush (v := 18) hx hb dX12_brings_151 (by decide) ?_
    refine lv_iload hx hb dX12_brings_153 (lv_at hl 5 rfl) ?_
    refine lv_iadd hx hb dX12_brings_155 ?_
    obtain ⟨hi, hB⟩ := hB
    refine xMl_114 S hE hP hi dX12_brings_156 ?_
    refine lv_iload hx hb dX12_brings_157 (lv_at hl 2 rfl) ?_
    refine lv_icmp_le (tgt := 165) hx hb dX12_brings_159 (by decide) (fun c2 => ?_) (fun c2 => ?_)
    · have hB := hB.1 c2
      refine lv_iload hx hb dX12_brings_165 (lv_at hl 4 rfl) ?_
      refine lv_iconst (v := -1) hx hb dX12_brings_167 (by decide) ?_
      refine lv_icmp_ne (tgt := 175) hx hb dX12_brings_168 (by decide) (fun c3 => ?_) (fun c3 => ?_)
      · have hB := hB.2 c3
        refine lv_aload_n hx hb dX12_brings_175 rfl (lv_at hl 0 rfl) ?_
        refine lv_iload hx hb dX12_brings_176 (lv_at hl 4 rfl) ?_
        refine xcVi [.int x8] S hE hA hP hD hS (c_M_quality l G z0 H.size x8 _) hB (gw_c lk_X12_296 (gw_c wi_X12_quality (gw_c we_X12_X12_quality_X12_quality (gw_c wn_X12 (gw_c wc_X12_quality (fun _ h9 => h9)))))) hd_X12_quality rfl rfl (Nat.le_trans (Nat.le_of_ble_eq_true rfl) hRf) (Nat.le_trans (Nat.le_of_ble_eq_true rfl) hRl) ⟨Nat.zero_le _, Nat.zero_le _⟩ (va_recv hE.1 hP (ci := 11) (q0 := 0) rfl rfl) rfl hl.1 rfl (Nat.le_of_ble_eq_true rfl) dX12_brings_178 (fun r4 z1 H locs hB hP hD hS => ?_)
        refine lv_iload hx hb dX12_brings_181 (lv_at hl 3 rfl) ?_
        refine lv_isub hx hb dX12_brings_183 ?_
        refine xcSi [.int (r4 - x7)] S hE hA hP hD hS (c_Math_abs_0f7a4_M l G z1 H.size (r4 - x7) _) hB (gw_c lk_X12_303 (gw_c wt_J9_abs_0f7a4 (gw_c wn_J9 (gw_c wc_J9_abs_0f7a4 (fun _ h9 => h9))))) hs_J9_abs_0f7a4 rfl rfl (Nat.le_trans (Nat.le_of_ble_eq_true rfl) hRf) (Nat.le_trans (Nat.le_of_ble_eq_true rfl) hRl) ⟨Nat.zero_le _, Nat.zero_le _⟩ rfl hl.1 rfl (Nat.le_of_ble_eq_true rfl) dX12_brings_184 (fun r5 z2 H locs hB hP hD hS => ?_)
        refine lv_aload_n hx hb dX12_brings_187 rfl (lv_at hl 0 rfl) ?_
        refine lv_iload hx hb dX12_brings_188 (lv_at hl 5 rfl) ?_
        refine xcVi [.int x9] S hE hA hP hD hS (c_M_quality l G z2 H.size x9 _) hB (gw_c lk_X12_296 (gw_c wi_X12_quality (gw_c we_X12_X12_quality_X12_quality (gw_c wn_X12 (gw_c wc_X12_quality (fun _ h9 => h9)))))) hd_X12_quality rfl rfl (Nat.le_trans (Nat.le_of_ble_eq_true rfl) hRf) (Nat.le_trans (Nat.le_of_ble_eq_true rfl) hRl) ⟨Nat.zero_le _, Nat.zero_le _⟩ (va_recv hE.1 hP (ci := 11) (q0 := 0) rfl rfl) rfl hl.1 rfl (Nat.le_of_ble_eq_true rfl) dX12_brings_190 (fun r6 z3 H locs hB hP hD hS => ?_)
        refine lv_iload hx hb dX12_brings_193 (lv_at hl 3 rfl) ?_
        refine lv_isub hx hb dX12_brings_195 ?_
        refine xcSi [.int (r6 - x7)] S hE hA hP hD hS (c_Math_abs_0f7a4_M l G z3 H.size (r6 - x7) _) hB (gw_c lk_X12_303 (gw_c wt_J9_abs_0f7a4 (gw_c wn_J9 (gw_c wc_J9_abs_0f7a4 (fun _ h9 => h9))))) hs_J9_abs_0f7a4 rfl rfl (Nat.le_trans (Nat.le_of_ble_eq_true rfl) hRf) (Nat.le_trans (Nat.le_of_ble_eq_true rfl) hRl) ⟨Nat.zero_le _, Nat.zero_le _⟩ rfl hl.1 rfl (Nat.le_of_ble_eq_true rfl) dX12_brings_196 (fun r7 z4 H locs hB hP hD hS => ?_)
        refine lv_isub hx hb dX12_brings_199 ?_
        exact w_M_brings_r114_200 S hE hA hRf hRl hret h141 x4 x7 x8 x9 (r5 - r7) z4 hB _ _ _ hP hD hS (lv_sub hl [0, 1, 2, 3, 4, 5] rfl)
      · have hB := hB.1 c3
        refine lv_iconst (v := 1) hx hb dX12_brings_171 (by decide) ?_
        refine lv_goto (tgt := 200) hx hb dX12_brings_172 (by decide) ?_
        exact w_M_brings_r114_200 S hE hA hRf hRl hret h141 x4 x7 x8 x9 (1 : Int32) z0 hB _ _ _ hP hD hS (lv_sub hl [0, 1, 2, 3, 4, 5] rfl)
    · have hB := hB.2 c2
      refine lv_goto (tgt := 233) hx hb dX12_brings_162 (by decide) ?_
      exact w_M_brings_r114_233 S hE hA hRf hRl hret h141 x4 x7 x8 x9 z0 hB _ _ _ hP hD hS (lv_sub hl [0, 1, 2, 3, 4, 5] rfl)
def L_M_brings_r114_141 (post : Int32 → St → Prop) : Nat → Int32 → Int32 → Int32 → Int32 → St → Prop
  | 0 => fun _ _ _ _ _ => False
  | n + 1 => B_M_brings_r114_141 post (L_M_brings_r114_141 post n)
theorem wl_M_brings_r114_141 {p : Program} {l : Launch} {e : Env} {R : Room} {s : State} {m : MethodId} {args : Array Value} {below : List Frame} {meth : Method} {c : Code} {Q : State → Prop} {G : GX} {A : Nat → Prop} (S : CallFix p m c cX12_brings 11 s args GW RX12) (hE : env G A s s.heap) (hA : ∀ q, s.heap.size ≤ q → A q) (hRf : 60 ≤ R.frames) (hRl : 1691 ≤ R.locals) {post : Int32 → St → Prop} (hret : RetI p l e R s m args below meth c Q 0 0 wM G A cX12_brings post) : ∀ (n : Nat) (x4 : Int32) (x7 : Int32) (x8 : Int32) (x9 : Int32) (z0 : St), L_M_brings_r114_141 post n x4 x7 x8 x9 z0 → Xw p l e R s m args below meth c Q 0 0 wM G A z0 11 [(0, .ref (ad G 100)), (1, .ref (ad G 114)), (4, .int x4), (7, .int x7), (8, .int x8), (9, .int x9)] 141 [] := by
  intro n
  induction n with
  | zero => intro x4 x7 x8 x9 z0 hB; exact absurd hB id
  | succ n ih => exact fun x4 x7 x8 x9 z0 hB => w_M_brings_r114_141 S hE hA hRf hRl hret ih x4 x7 x8 x9 z0 hB
def B_M_brings_r114_122 (post : Int32 → St → Prop) (x4 : Int32) (x7 : Int32) (z0 : St) : Prop :=
  (S_Math_min_7cf53_M (fun (r1 : Int32) (z1 : St) => (S_Math_max_7cf53_M (fun (r2 : Int32) (z2 : St) => (∃ n3, L_M_brings_r114_141 post n3 x4 r2 (-1 : Int32) (0 : Int32) z2)) (0 : Int32) r1 z1)) (9 : Int32) x7 z0)
set_option maxHeartbeats 4000000 in
set_option maxRecDepth 100000 in
theorem w_M_brings_r114_122 {p : Program} {l : Launch} {e : Env} {R : Room} {s : State} {m : MethodId} {args : Array Value} {below : List Frame} {meth : Method} {c : Code} {Q : State → Prop} {G : GX} {A : Nat → Prop} (S : CallFix p m c cX12_brings 11 s args GW RX12) (hE : env G A s s.heap) (hA : ∀ q, s.heap.size ≤ q → A q) (hRf : 60 ≤ R.frames) (hRl : 1691 ≤ R.locals) {post : Int32 → St → Prop} (hret : RetI p l e R s m args below meth c Q 0 0 wM G A cX12_brings post) (x4 : Int32) (x7 : Int32) (z0 : St) (hB : B_M_brings_r114_122 post x4 x7 z0) : Xw p l e R s m args below meth c Q 0 0 wM G A z0 11 [(0, .ref (ad G 100)), (1, .ref (ad G 114)), (4, .int x4), (7, .int x7)] 122 [] := by
  intro H locs ls hP hD hS hl
  have hx := S.1
  have hb := S.2.1
  refine lv_iconst (v := 0) hx hb dX12_brings_122 (by decide) ?_
  refine lv_bipush (v := 9) hx hb dX12_brings_123 (by decide) ?_
  refine lv_iload hx hb dX12_brings_125 (lv_at hl 3 rfl) ?_
  refine xcSi [.int (9 : Int32), .int x7] S hE hA hP hD hS (c_Math_min_7cf53_M l G z0 H.size (9 : Int32) x7 _) hB (gw_c lk_X12_299 (gw_c wt_J9_min_7cf53 (gw_c wn_J9 (gw_c wc_J9_min_7cf53 (fun _ h9 => h9))))) hs_J9_min_7cf53 rfl rfl (Nat.le_trans (Nat.le_of_ble_eq_true rfl) hRf) (Nat.le_trans (Nat.le_of_ble_eq_true rfl) hRl) ⟨Nat.zero_le _, Nat.zero_le _⟩ rfl hl.1 rfl (Nat.le_of_ble_eq_true rfl) dX12_brings_127 (fun r1 z1 H locs hB hP hD hS => ?_)
  refine xcSi [.int (0 : Int32), .int r1] S hE hA hP hD hS (c_Math_max_7cf53_M l G z1 H.size (0 : Int32) r1 _) hB (gw_c lk_X12_301 (gw_c wt_J9_max_7cf53 (gw_c wn_J9 (gw_c wc_J9_max_7cf53 (fun _ h9 => h9))))) hs_J9_max_7cf53 rfl rfl (Nat.le_trans (Nat.le_of_ble_eq_true rfl) hRf) (Nat.le_trans (Nat.le_of_ble_eq_true rfl) hRl) ⟨Nat.zero_le _, Nat.zero_le _⟩ rfl hl.1 rfl (Nat.le_of_ble_eq_true rfl) dX12_brings_130 (fun r2 z2 H locs hB hP hD hS => ?_)
  refine lv_istore (lv' := [(7, .int r2), (0, .ref (ad G 100)), (1, .ref (ad G 114)), (4, .int x4)]) hx hb dX12_brings_133 hl (by decide) rfl (fun ls hl => ?_)
  refine lv_iconst (v := -1) hx hb dX12_brings_135 (by decide) ?_
  refine lv_istore (lv' := [(8, .int (-1 : Int32)), (7, .int r2), (0, .ref (ad G 100)), (1, .ref (ad G 114)), (4, .int x4)]) hx hb dX12_brings_136 hl (by decide) rfl (fun ls hl => ?_)
  refine lv_iconst (v := 0) hx hb dX12_brings_138 (by decide) ?_
  refine lv_istore (lv' := [(9, .int (0 : Int32)), (8, .int (-1 : Int32)), (7, .int r2), (0, .ref (ad G 100)), (1, .ref (ad G 114)), (4, .int x4)]) hx hb dX12_brings_139 hl (by decide) rfl (fun ls hl => ?_)
  obtain ⟨n3, hB⟩ := hB
  exact wl_M_brings_r114_141 S hE hA hRf hRl hret n3 x4 r2 (-1 : Int32) (0 : Int32) z2 hB _ _ _ hP hD hS (lv_sub hl [3, 4, 5, 2, 1, 0] rfl)
def B_M_brings_r114_58 (post : Int32 → St → Prop) (x4 : Int32) (x5 : Int32) (x6 : Int32) (s0 : Int32) (s1 : Int32) (z0 : St) : Prop :=
  (vp_in s1 128 ∧ (∀ z1 : St, z1 = sA z0 104 s1.toNatClampNeg s0 → (∀ z2 : St, z2 = sA z1 104 109 x4 → (∀ z3 : St, z3 = sA z2 104 110 x6 → (vp_in ((18 : Int32) + x5) 269 ∧ (∀ z4 : St, z4 = sA z3 104 112 (gA z3 114 ((18 : Int32) + x5).toNatClampNeg) → (vp_in (gI z4 117) 4 ∧ (S_M_goThrough_r102 (fun (z5 : St) => (∀ v1 : Int32, v1 = (gI z5 109) → (B_M_brings_r114_122 post x4 v1 z5))) ((240 : Int32) * (gI z4 117)) (gA z4 103 (gI z4 117).toNatClampNeg) z4))))))))
set_option maxHeartbeats 4000000 in
set_option maxRecDepth 100000 in
theorem w_M_brings_r114_58 {p : Program} {l : Launch} {e : Env} {R : Room} {s : State} {m : MethodId} {args : Array Value} {below : List Frame} {meth : Method} {c : Code} {Q : State → Prop} {G : GX} {A : Nat → Prop} (S : CallFix p m c cX12_brings 11 s args GW RX12) (hE : env G A s s.heap) (hA : ∀ q, s.heap.size ≤ q → A q) (hRf : 60 ≤ R.frames) (hRl : 1691 ≤ R.locals) {post : Int32 → St → Prop} (hret : RetI p l e R s m args below meth c Q 0 0 wM G A cX12_brings post) (x4 : Int32) (x5 : Int32) (x6 : Int32) (s0 : Int32) (s1 : Int32) (z0 : St) (hB : B_M_brings_r114_58 post x4 x5 x6 s0 s1 z0) : Xw p l e R s m args below meth c Q 0 0 wM G A z0 11 [(0, .ref (ad G 100)), (1, .ref (ad G 114)), (4, .int x4), (5, .int x5), (6, .int x6)] 58 [.int s0, .int s1, .ref (ad G 104)] := by
  intro H locs ls hP hD hS hl
  have hx := S.1
  have hb := S.2.1
  obtain ⟨hi, hB⟩ := hB
  obtain ⟨z1, ez1⟩ : ∃ z9, z9 = sA z0 104 s1.toNatClampNeg s0 := ⟨_, rfl⟩
  have hB := hB z1 ez1
  refine xMs_104 S hE hP hD hS _ rfl hi dX12_brings_58 (fun H locs hP hD hS => ?_)
  rw [← ez1] at hP hD
  refine lv_aload_n hx hb dX12_brings_59 rfl (lv_at hl 0 rfl) ?_
  refine xMg_100_letters S hE hP lk_X12_20 dX12_brings_60 ?_
  refine lv_bipush (v := 109) hx hb dX12_brings_63 (by decide) ?_
  refine lv_iload hx hb dX12_brings_65 (lv_at hl 2 rfl) ?_
  obtain ⟨z2, ez2⟩ : ∃ z9, z9 = sA z1 104 109 x4 := ⟨_, rfl⟩
  have hB := hB z2 ez2
  refine xMs_104 S hE hP hD hS 109 (by decide) (by unfold vp_in; decide) dX12_brings_67 (fun H locs hP hD hS => ?_)
  rw [← ez2] at hP hD
  refine lv_aload_n hx hb dX12_brings_68 rfl (lv_at hl 0 rfl) ?_
  refine xMg_100_letters S hE hP lk_X12_20 dX12_brings_69 ?_
  refine lv_bipush (v := 110) hx hb dX12_brings_72 (by decide) ?_
  refine lv_iload hx hb dX12_brings_74 (lv_at hl 4 rfl) ?_
  obtain ⟨z3, ez3⟩ : ∃ z9, z9 = sA z2 104 110 x6 := ⟨_, rfl⟩
  have hB := hB z3 ez3
  refine xMs_104 S hE hP hD hS 110 (by decide) (by unfold vp_in; decide) dX12_brings_76 (fun H locs hP hD hS => ?_)
  rw [← ez3] at hP hD
  refine lv_aload_n hx hb dX12_brings_77 rfl (lv_at hl 0 rfl) ?_
  refine xMg_100_letters S hE hP lk_X12_20 dX12_brings_78 ?_
  refine lv_bipush (v := 112) hx hb dX12_brings_81 (by decide) ?_
  refine lv_aload_n hx hb dX12_brings_83 rfl (lv_at hl 1 rfl) ?_
  refine lv_bipush (v := 18) hx hb dX12_brings_84 (by decide) ?_
  refine lv_iload hx hb dX12_brings_86 (lv_at hl 3 rfl) ?_
  refine lv_iadd hx hb dX12_brings_88 ?_
  obtain ⟨hi, hB⟩ := hB
  refine xMl_114 S hE hP hi dX12_brings_89 ?_
  obtain ⟨z4, ez4⟩ : ∃ z9, z9 = sA z3 104 112 (gA z3 114 ((18 : Int32) + x5).toNatClampNeg) := ⟨_, rfl⟩
  have hB := hB z4 ez4
  refine xMs_104 S hE hP hD hS 112 (by decide) (by unfold vp_in; decide) dX12_brings_90 (fun H locs hP hD hS => ?_)
  rw [← ez4] at hP hD
  refine lv_aload_n hx hb dX12_brings_91 rfl (lv_at hl 0 rfl) ?_
  refine lv_aload_n hx hb dX12_brings_92 rfl (lv_at hl 0 rfl) ?_
  refine xMg_100_texts S hE hP lk_X12_13 dX12_brings_93 ?_
  refine lv_sipush (v := 240) hx hb dX12_brings_96 (by decide) ?_
  refine lv_aload_n hx hb dX12_brings_99 rfl (lv_at hl 0 rfl) ?_
  refine xMg_100_law S hE hP lk_X12_67 dX12_brings_100 ?_
  refine lv_imul hx hb dX12_brings_103 ?_
  refine lv_aload_n hx hb dX12_brings_104 rfl (lv_at hl 0 rfl) ?_
  refine xMg_100_textLong S hE hP lk_X12_16 dX12_brings_105 ?_
  refine lv_aload_n hx hb dX12_brings_108 rfl (lv_at hl 0 rfl) ?_
  refine xMg_100_law S hE hP lk_X12_67 dX12_brings_109 ?_
  obtain ⟨hi, hB⟩ := hB
  refine xMl_103 S hE hP hi dX12_brings_112 ?_
  refine xcVv [.ref (ad G 102), .int ((240 : Int32) * (gI z4 117)), .int (gA z4 103 (gI z4 117).toNatClampNeg)] S hE hA hP hD hS (c_M_goThrough_r102 l G z4 H.size ((240 : Int32) * (gI z4 117)) (gA z4 103 (gI z4 117).toNatClampNeg) _) hB (gw_c lk_X12_267 (gw_c wi_X12_goThrough (gw_c we_X12_X12_goThrough_X12_goThrough (gw_c wn_X12 (gw_c wc_X12_goThrough (fun _ h9 => h9)))))) hd_X12_goThrough rfl rfl (Nat.le_trans (Nat.le_of_ble_eq_true rfl) hRf) (Nat.le_trans (Nat.le_of_ble_eq_true rfl) hRl) ⟨Nat.zero_le _, Nat.zero_le _⟩ (va_recv hE.1 hP (ci := 11) (q0 := 0) rfl rfl) rfl hl.1 rfl (Nat.le_of_ble_eq_true rfl) dX12_brings_113 (fun z5 H locs hB hP hD hS => ?_)
  refine lv_aload_n hx hb dX12_brings_116 rfl (lv_at hl 0 rfl) ?_
  refine xMg_100_found S hE hP lk_X12_197 dX12_brings_117 ?_
  refine lv_topi (fun v1 ev1 => ?_)
  have hB := hB v1 ev1
  refine lv_istore (lv' := [(7, .int v1), (0, .ref (ad G 100)), (1, .ref (ad G 114)), (4, .int x4), (5, .int x5), (6, .int x6)]) hx hb dX12_brings_120 hl (by decide) rfl (fun ls hl => ?_)
  exact w_M_brings_r114_122 S hE hA hRf hRl hret x4 v1 z5 hB _ _ _ hP hD hS (lv_sub hl [1, 2, 3, 0] rfl)
def S_M_brings_r114 (post : Int32 → St → Prop) (x2 : Int32) (x3 : Int32) (x4 : Int32) (x5 : Int32) (x6 : Int32) (z0 : St) : Prop :=
  (S_M_quality (fun (r1 : Int32) (z1 : St) => (∀ v2 : Int32, v2 = ((r1 + x3) / (2 : Int32)) → (((gI z1 117) = (-1 : Int32) → (B_M_brings_r114_122 post x4 v2 z1)) ∧ (¬ (gI z1 117) = (-1 : Int32) → (S_M_quality (fun (r4 : Int32) (z2 : St) => (∀ z3 : St, z3 = sA z2 104 113 r4 → (∀ z4 : St, z4 = sA z3 104 104 x3 → ((x2 = x5 → (B_M_brings_r114_58 post x4 x5 x6 (1 : Int32) (108 : Int32) z4)) ∧ (¬ x2 = x5 → (B_M_brings_r114_58 post x4 x5 x6 (0 : Int32) (108 : Int32) z4)))))) x5 z1))))) x5 z0)
set_option maxHeartbeats 4000000 in
set_option maxRecDepth 100000 in
theorem w_M_brings_r114_0 {p : Program} {l : Launch} {e : Env} {R : Room} {s : State} {m : MethodId} {args : Array Value} {below : List Frame} {meth : Method} {c : Code} {Q : State → Prop} {G : GX} {A : Nat → Prop} (S : CallFix p m c cX12_brings 11 s args GW RX12) (hE : env G A s s.heap) (hA : ∀ q, s.heap.size ≤ q → A q) (hRf : 60 ≤ R.frames) (hRl : 1691 ≤ R.locals) {post : Int32 → St → Prop} (hret : RetI p l e R s m args below meth c Q 0 0 wM G A cX12_brings post) (x2 : Int32) (x3 : Int32) (x4 : Int32) (x5 : Int32) (x6 : Int32) (z0 : St) (hB : S_M_brings_r114 post x2 x3 x4 x5 x6 z0) : Xw p l e R s m args below meth c Q 0 0 wM G A z0 11 [(0, .ref (ad G 100)), (1, .ref (ad G 114)), (2, .int x2), (3, .int x3), (4, .int x4), (5, .int x5), (6, .int x6)] 0 [] := by
  intro H locs ls hP hD hS hl
  have hx := S.1
  have hb := S.2.1
  refine lv_aload_n hx hb dX12_brings_0 rfl (lv_at hl 0 rfl) ?_
  refine lv_iload hx hb dX12_brings_1 (lv_at hl 5 rfl) ?_
  refine xcVi [.int x5] S hE hA hP hD hS (c_M_quality l G z0 H.size x5 _) hB (gw_c lk_X12_296 (gw_c wi_X12_quality (gw_c we_X12_X12_quality_X12_quality (gw_c wn_X12 (gw_c wc_X12_quality (fun _ h9 => h9)))))) hd_X12_quality rfl rfl (Nat.le_trans (Nat.le_of_ble_eq_true rfl) hRf) (Nat.le_trans (Nat.le_of_ble_eq_true rfl) hRl) ⟨Nat.zero_le _, Nat.zero_le _⟩ (va_recv hE.1 hP (ci := 11) (q0 := 0) rfl rfl) rfl hl.1 rfl (Nat.le_of_ble_eq_true rfl) dX12_brings_3 (fun r1 z1 H locs hB hP hD hS => ?_)
  refine lv_iload_n hx hb dX12_brings_6 rfl (lv_at hl 3 rfl) ?_
  refine lv_iadd hx hb dX12_brings_7 ?_
  refine lv_iconst (v := 2) hx hb dX12_brings_8 (by decide) ?_
  refine lv_idiv hx hb dX12_brings_9 (by decide) ?_
  refine lv_topi (fun v2 ev2 => ?_)
  have hB := hB v2 ev2
  refine lv_istore (lv' := [(7, .int v2), (0, .ref (ad G 100)), (1, .ref (ad G 114)), (2, .int x2), (3, .int x3), (4, .int x4), (5, .int x5), (6, .int x6)]) hx hb dX12_brings_10 hl (by decide) rfl (fun ls hl => ?_)
  refine lv_aload_n hx hb dX12_brings_12 rfl (lv_at hl 1 rfl) ?_
  refine xMg_100_law S hE hP lk_X12_67 dX12_brings_13 ?_
  refine lv_iconst (v := -1) hx hb dX12_brings_16 (by decide) ?_
  refine lv_icmp_eq (tgt := 122) hx hb dX12_brings_17 (by decide) (fun c3 => ?_) (fun c3 => ?_)
  · have hB := hB.1 c3
    exact w_M_brings_r114_122 S hE hA hRf hRl hret x4 v2 z1 hB _ _ _ hP hD hS (lv_sub hl [1, 2, 5, 0] rfl)
  · have hB := hB.2 c3
    refine lv_aload_n hx hb dX12_brings_20 rfl (lv_at hl 1 rfl) ?_
    refine xMg_100_letters S hE hP lk_X12_20 dX12_brings_21 ?_
    refine lv_bipush (v := 113) hx hb dX12_brings_24 (by decide) ?_
    refine lv_aload_n hx hb dX12_brings_26 rfl (lv_at hl 1 rfl) ?_
    refine lv_iload hx hb dX12_brings_27 (lv_at hl 6 rfl) ?_
    refine xcVi [.int x5] S hE hA hP hD hS (c_M_quality l G z1 H.size x5 _) hB (gw_c lk_X12_296 (gw_c wi_X12_quality (gw_c we_X12_X12_quality_X12_quality (gw_c wn_X12 (gw_c wc_X12_quality (fun _ h9 => h9)))))) hd_X12_quality rfl rfl (Nat.le_trans (Nat.le_of_ble_eq_true rfl) hRf) (Nat.le_trans (Nat.le_of_ble_eq_true rfl) hRl) ⟨Nat.zero_le _, Nat.zero_le _⟩ (va_recv hE.1 hP (ci := 11) (q0 := 0) rfl rfl) rfl hl.1 rfl (Nat.le_of_ble_eq_true rfl) dX12_brings_29 (fun r4 z2 H locs hB hP hD hS => ?_)
    obtain ⟨z3, ez3⟩ : ∃ z9, z9 = sA z2 104 113 r4 := ⟨_, rfl⟩
    have hB := hB z3 ez3
    refine xMs_104 S hE hP hD hS 113 (by decide) (by unfold vp_in; decide) dX12_brings_32 (fun H locs hP hD hS => ?_)
    rw [← ez3] at hP hD
    refine lv_aload_n hx hb dX12_brings_33 rfl (lv_at hl 1 rfl) ?_
    refine xMg_100_letters S hE hP lk_X12_20 dX12_brings_34 ?_
    refine lv_bipush (v := 104) hx hb dX12_brings_37 (by decide) ?_
    refine lv_iload_n hx hb dX12_brings_39 rfl (lv_at hl 4 rfl) ?_
    obtain ⟨z4, ez4⟩ : ∃ z9, z9 = sA z3 104 104 x3 := ⟨_, rfl⟩
    have hB := hB z4 ez4
    refine xMs_104 S hE hP hD hS 104 (by decide) (by unfold vp_in; decide) dX12_brings_40 (fun H locs hP hD hS => ?_)
    rw [← ez4] at hP hD
    refine lv_aload_n hx hb dX12_brings_41 rfl (lv_at hl 1 rfl) ?_
    refine xMg_100_letters S hE hP lk_X12_20 dX12_brings_42 ?_
    refine lv_bipush (v := 108) hx hb dX12_brings_45 (by decide) ?_
    refine lv_iload_n hx hb dX12_brings_47 rfl (lv_at hl 3 rfl) ?_
    refine lv_iload hx hb dX12_brings_48 (lv_at hl 6 rfl) ?_
    refine lv_icmp_ne (tgt := 57) hx hb dX12_brings_50 (by decide) (fun c5 => ?_) (fun c5 => ?_)
    · have hB := hB.2 c5
      refine lv_iconst (v := 0) hx hb dX12_brings_57 (by decide) ?_
      exact w_M_brings_r114_58 S hE hA hRf hRl hret x4 x5 x6 (0 : Int32) (108 : Int32) z4 hB _ _ _ hP hD hS (lv_sub hl [1, 2, 5, 6, 7] rfl)
    · have hB := hB.1 c5
      refine lv_iconst (v := 1) hx hb dX12_brings_53 (by decide) ?_
      refine lv_goto (tgt := 58) hx hb dX12_brings_54 (by decide) ?_
      exact w_M_brings_r114_58 S hE hA hRf hRl hret x4 x5 x6 (1 : Int32) (108 : Int32) z4 hB _ _ _ hP hD hS (lv_sub hl [1, 2, 5, 6, 7] rfl)
set_option maxHeartbeats 4000000 in
set_option maxRecDepth 100000 in
theorem c_M_brings_r114 (l : Launch) (G : GX) (z0 : St) (sz : Nat) (x2 : Int32) (x3 : Int32) (x4 : Int32) (x5 : Int32) (x6 : Int32) (post : Int32 → St → Prop) : MetI l wM yX12_brings cX12_brings 11 (some .int) ({ frames := 60, cells := 0, slots := 0, locals := 1691 }) [.ref (ad G 100), .ref (ad G 114), .int x2, .int x3, .int x4, .int x5, .int x6] G z0 sz (S_M_brings_r114 post x2 x3 x4 x5 x6 z0) post := by
  refine Met.ofW (cc := cX12_brings) (maxL := 11) (ret := (some .int)) (by decide) rfl ?_
  intro p e s m args below meth c s₁ B hml hv
  obtain ⟨rfl, hsz, hP, hD0, hE, hB⟩ := hv
  have S : CallFix p m c cX12_brings 11 s _ GW RX12 := ⟨B.exec, B.bytes, hml, findClass_of_methodNamed B.named, fun w h => atoms_spec (ws := Cond.code yX12_brings cX12_brings 11 (some .int) :: GW) B.pre w (List.mem_cons_of_mem _ h)⟩
  have hlocks := B.notSynchronized
  subst hsz
  have hD := hD0.self (sz := s.heap.size)
  generalize hAe : va_A (wM G z0) s.heap.size = A at hD hE ⊢
  have hA : ∀ q : Nat, s.heap.size ≤ q → A q := fun q h => by rw [← hAe]; exact Or.inr h
  have hS : va_S A s.heap s.heap [] := va_S.rf
  have hl := lv_entry ([.ref (ad G 100), .ref (ad G 114), .int x2, .int x3, .int x4, .int x5, .int x6]) (n := 11) (Nat.le_of_ble_eq_true rfl)
  rw [lg_entry_eq]
  generalize (lg_sl ([.ref (ad G 100), .ref (ad G 114), .int x2, .int x3, .int x4, .int x5, .int x6]) ++ List.replicate (11 - (lg_sl ([.ref (ad G 100), .ref (ad G 114), .int x2, .int x3, .int x4, .int x5, .int x6])).length) Slot.unset).toArray = ls at hl ⊢
  have hl : lv_has ls 11 [(0, .ref (ad G 100)), (1, .ref (ad G 114)), (2, .int x2), (3, .int x3), (4, .int x4), (5, .int x5), (6, .int x6)] := hl
  refine w_M_brings_r114_0 S hE hA (Nat.le_refl _) (Nat.le_refl _) ?_ x2 x3 x4 x5 x6 z0 hB _ _ _ hP hD hS hl
  intro pc ls r σ H locs hd hp hP hD hS
  exact W.iret (v := r) B.exec B.bytes B.returns (fun t ht hW => ⟨⟨r, σ, rfl, hp, by rw [ht]; exact hP, hD⟩, hS.F ht⟩) hS.2.2 hd
def S_M_makesOf_r114 (post : Int32 → St → Prop) (x2 : Int32) (x3 : Int32) (x4 : Int32) (x5 : Int32) (x6 : Int32) (z0 : St) : Prop :=
  (S_M_joyOf (fun (r1 : Int32) (z1 : St) => (S_M_moodBy (fun (r2 : Int32) (z2 : St) => (S_M_brings_r114 (fun (r3 : Int32) (z3 : St) => (post r3 z3)) x2 r2 x4 x5 x6 z2)) x3 r1 z1)) x2 x5 z0)
set_option maxHeartbeats 4000000 in
set_option maxRecDepth 100000 in
theorem w_M_makesOf_r114_0 {p : Program} {l : Launch} {e : Env} {R : Room} {s : State} {m : MethodId} {args : Array Value} {below : List Frame} {meth : Method} {c : Code} {Q : State → Prop} {G : GX} {A : Nat → Prop} (S : CallFix p m c cX12_makesOf 7 s args GW RX12) (hE : env G A s s.heap) (hA : ∀ q, s.heap.size ≤ q → A q) (hRf : 61 ≤ R.frames) (hRl : 1721 ≤ R.locals) {post : Int32 → St → Prop} (hret : RetI p l e R s m args below meth c Q 0 0 wM G A cX12_makesOf post) (x2 : Int32) (x3 : Int32) (x4 : Int32) (x5 : Int32) (x6 : Int32) (z0 : St) (hB : S_M_makesOf_r114 post x2 x3 x4 x5 x6 z0) : Xw p l e R s m args below meth c Q 0 0 wM G A z0 7 [(0, .ref (ad G 100)), (1, .ref (ad G 114)), (2, .int x2), (3, .int x3), (4, .int x4), (5, .int x5), (6, .int x6)] 0 [] := by
  intro H locs ls hP hD hS hl
  have hx := S.1
  have hb := S.2.1
  refine lv_aload_n hx hb dX12_makesOf_0 rfl (lv_at hl 0 rfl) ?_
  refine lv_aload_n hx hb dX12_makesOf_1 rfl (lv_at hl 1 rfl) ?_
  refine lv_iload_n hx hb dX12_makesOf_2 rfl (lv_at hl 2 rfl) ?_
  refine lv_iload_n hx hb dX12_makesOf_3 rfl (lv_at hl 3 rfl) ?_
  refine lv_aload_n hx hb dX12_makesOf_4 rfl (lv_at hl 0 rfl) ?_
  refine lv_iload_n hx hb dX12_makesOf_5 rfl (lv_at hl 2 rfl) ?_
  refine lv_iload hx hb dX12_makesOf_6 (lv_at hl 5 rfl) ?_
  refine xcVi [.int x2, .int x5] S hE hA hP hD hS (c_M_joyOf l G z0 H.size x2 x5 _) hB (gw_c lk_X12_306 (gw_c wi_X12_joyOf (gw_c we_X12_X12_joyOf_X12_joyOf (gw_c wn_X12 (gw_c wc_X12_joyOf (fun _ h9 => h9)))))) hd_X12_joyOf rfl rfl (Nat.le_trans (Nat.le_of_ble_eq_true rfl) hRf) (Nat.le_trans (Nat.le_of_ble_eq_true rfl) hRl) ⟨Nat.zero_le _, Nat.zero_le _⟩ (va_recv hE.1 hP (ci := 11) (q0 := 0) rfl rfl) rfl hl.1 rfl (Nat.le_of_ble_eq_true rfl) dX12_makesOf_8 (fun r1 z1 H locs hB hP hD hS => ?_)
  refine xcSi [.int x3, .int r1] S hE hA hP hD hS (c_M_moodBy l G z1 H.size x3 r1 _) hB (gw_c lk_X12_309 (gw_c wt_X12_moodBy (gw_c wn_X12 (gw_c wc_X12_moodBy (fun _ h9 => h9))))) hs_X12_moodBy rfl rfl (Nat.le_trans (Nat.le_of_ble_eq_true rfl) hRf) (Nat.le_trans (Nat.le_of_ble_eq_true rfl) hRl) ⟨Nat.zero_le _, Nat.zero_le _⟩ rfl hl.1 rfl (Nat.le_of_ble_eq_true rfl) dX12_makesOf_11 (fun r2 z2 H locs hB hP hD hS => ?_)
  refine lv_iload hx hb dX12_makesOf_14 (lv_at hl 4 rfl) ?_
  refine lv_iload hx hb dX12_makesOf_16 (lv_at hl 5 rfl) ?_
  refine lv_iload hx hb dX12_makesOf_18 (lv_at hl 6 rfl) ?_
  refine xcVi [.ref (ad G 114), .int x2, .int r2, .int x4, .int x5, .int x6] S hE hA hP hD hS (c_M_brings_r114 l G z2 H.size x2 r2 x4 x5 x6 _) hB (gw_c lk_X12_312 (gw_c wi_X12_brings (gw_c we_X12_X12_brings_X12_brings (gw_c wn_X12 (gw_c wc_X12_brings (fun _ h9 => h9)))))) hd_X12_brings rfl rfl (Nat.le_trans (Nat.le_of_ble_eq_true rfl) hRf) (Nat.le_trans (Nat.le_of_ble_eq_true rfl) hRl) ⟨Nat.zero_le _, Nat.zero_le _⟩ (va_recv hE.1 hP (ci := 11) (q0 := 0) rfl rfl) rfl hl.1 rfl (Nat.le_of_ble_eq_true rfl) dX12_makesOf_20 (fun r3 z3 H locs hB hP hD hS => ?_)
  exact hret _ _ _ _ _ _ dX12_makesOf_23 hB hP hD hS
set_option maxHeartbeats 4000000 in
set_option maxRecDepth 100000 in
theorem c_M_makesOf_r114 (l : Launch) (G : GX) (z0 : St) (sz : Nat) (x2 : Int32) (x3 : Int32) (x4 : Int32) (x5 : Int32) (x6 : Int32) (post : Int32 → St → Prop) : MetI l wM yX12_makesOf cX12_makesOf 7 (some .int) ({ frames := 61, cells := 0, slots := 0, locals := 1721 }) [.ref (ad G 100), .ref (ad G 114), .int x2, .int x3, .int x4, .int x5, .int x6] G z0 sz (S_M_makesOf_r114 post x2 x3 x4 x5 x6 z0) post := by
  refine Met.ofW (cc := cX12_makesOf) (maxL := 7) (ret := (some .int)) (by decide) rfl ?_
  intro p e s m args below meth c s₁ B hml hv
  obtain ⟨rfl, hsz, hP, hD0, hE, hB⟩ := hv
  have S : CallFix p m c cX12_makesOf 7 s _ GW RX12 := ⟨B.exec, B.bytes, hml, findClass_of_methodNamed B.named, fun w h => atoms_spec (ws := Cond.code yX12_makesOf cX12_makesOf 7 (some .int) :: GW) B.pre w (List.mem_cons_of_mem _ h)⟩
  have hlocks := B.notSynchronized
  subst hsz
  have hD := hD0.self (sz := s.heap.size)
  generalize hAe : va_A (wM G z0) s.heap.size = A at hD hE ⊢
  have hA : ∀ q : Nat, s.heap.size ≤ q → A q := fun q h => by rw [← hAe]; exact Or.inr h
  have hS : va_S A s.heap s.heap [] := va_S.rf
  have hl := lv_entry ([.ref (ad G 100), .ref (ad G 114), .int x2, .int x3, .int x4, .int x5, .int x6]) (n := 7) (Nat.le_of_ble_eq_true rfl)
  rw [lg_entry_eq]
  generalize (lg_sl ([.ref (ad G 100), .ref (ad G 114), .int x2, .int x3, .int x4, .int x5, .int x6]) ++ List.replicate (7 - (lg_sl ([.ref (ad G 100), .ref (ad G 114), .int x2, .int x3, .int x4, .int x5, .int x6])).length) Slot.unset).toArray = ls at hl ⊢
  have hl : lv_has ls 7 [(0, .ref (ad G 100)), (1, .ref (ad G 114)), (2, .int x2), (3, .int x3), (4, .int x4), (5, .int x5), (6, .int x6)] := hl
  refine w_M_makesOf_r114_0 S hE hA (Nat.le_refl _) (Nat.le_refl _) ?_ x2 x3 x4 x5 x6 z0 hB _ _ _ hP hD hS hl
  intro pc ls r σ H locs hd hp hP hD hS
  exact W.iret (v := r) B.exec B.bytes B.returns (fun t ht hW => ⟨⟨r, σ, rfl, hp, by rw [ht]; exact hP, hD⟩, hS.F ht⟩) hS.2.2 hd
def B_M_visits_r114_170 (post : Int32 → St → Prop) (x2 : Int32) (x3 : Int32) (x5 : Int32) (x6 : Int32) (z0 : St) : Prop :=
  (∀ v1 : Int32, v1 = ((29 : Int32) + ((4 : Int32) * (gA z0 114 28))) → (vp_in v1 269 ∧ (∀ z1 : St, z1 = sA z0 114 v1.toNatClampNeg x2 → (vp_in (v1 + (1 : Int32)) 269 ∧ (∀ z2 : St, z2 = sA z1 114 (v1 + (1 : Int32)).toNatClampNeg x3 → (vp_in (v1 + (2 : Int32)) 269 ∧ (∀ z3 : St, z3 = sA z2 114 (v1 + (2 : Int32)).toNatClampNeg x6 → (vp_in (v1 + (3 : Int32)) 269 ∧ (∀ z4 : St, z4 = sA z3 114 (v1 + (3 : Int32)).toNatClampNeg x5 → (∀ z5 : St, z5 = sA z4 114 28 ((gA z4 114 28) + (1 : Int32)) → (post x5 z5)))))))))))
set_option maxHeartbeats 4000000 in
set_option maxRecDepth 100000 in
theorem w_M_visits_r114_170 {p : Program} {l : Launch} {e : Env} {R : Room} {s : State} {m : MethodId} {args : Array Value} {below : List Frame} {meth : Method} {c : Code} {Q : State → Prop} {G : GX} {A : Nat → Prop} (S : CallFix p m c cX12_visits 8 s args GW RX12) (hE : env G A s s.heap) (hA : ∀ q, s.heap.size ≤ q → A q) (hRf : 62 ≤ R.frames) (hRl : 1747 ≤ R.locals) {post : Int32 → St → Prop} (hret : RetI p l e R s m args below meth c Q 0 0 wM G A cX12_visits post) (x2 : Int32) (x3 : Int32) (x5 : Int32) (x6 : Int32) (z0 : St) (hB : B_M_visits_r114_170 post x2 x3 x5 x6 z0) : Xw p l e R s m args below meth c Q 0 0 wM G A z0 8 [(1, .ref (ad G 114)), (2, .int x2), (3, .int x3), (5, .int x5), (6, .int x6)] 170 [] := by
  intro H locs ls hP hD hS hl
  have hx := S.1
  have hb := S.2.1
  refine lv_bipush (v := 29) hx hb dX12_visits_170 (by decide) ?_
  refine lv_iconst (v := 4) hx hb dX12_visits_172 (by decide) ?_
  refine lv_aload_n hx hb dX12_visits_173 rfl (lv_at hl 0 rfl) ?_
  refine lv_bipush (v := 28) hx hb dX12_visits_174 (by decide) ?_
  refine xMk_114 S hE hP 28 (by decide) (by unfold vp_in; decide) dX12_visits_176 ?_
  refine lv_imul hx hb dX12_visits_177 ?_
  refine lv_iadd hx hb dX12_visits_178 ?_
  refine lv_topi (fun v1 ev1 => ?_)
  have hB := hB v1 ev1
  refine lv_istore (lv' := [(7, .int v1), (1, .ref (ad G 114)), (2, .int x2), (3, .int x3), (5, .int x5), (6, .int x6)]) hx hb dX12_visits_179 hl (by decide) rfl (fun ls hl => ?_)
  refine lv_aload_n hx hb dX12_visits_181 rfl (lv_at hl 1 rfl) ?_
  refine lv_iload hx hb dX12_visits_182 (lv_at hl 0 rfl) ?_
  refine lv_iload_n hx hb dX12_visits_184 rfl (lv_at hl 2 rfl) ?_
  obtain ⟨hi, hB⟩ := hB
  obtain ⟨z1, ez1⟩ : ∃ z9, z9 = sA z0 114 v1.toNatClampNeg x2 := ⟨_, rfl⟩
  have hB := hB z1 ez1
  refine xMs_114 S hE hP hD hS _ rfl hi dX12_visits_185 (fun H locs hP hD hS => ?_)
  rw [← ez1] at hP hD
  refine lv_aload_n hx hb dX12_visits_186 rfl (lv_at hl 1 rfl) ?_
  refine lv_iload hx hb dX12_visits_187 (lv_at hl 0 rfl) ?_
  refine lv_iconst (v := 1) hx hb dX12_visits_189 (by decide) ?_
  refine lv_iadd hx hb dX12_visits_190 ?_
  refine lv_iload_n hx hb dX12_visits_191 rfl (lv_at hl 3 rfl) ?_
  obtain ⟨hi, hB⟩ := hB
  obtain ⟨z2, ez2⟩ : ∃ z9, z9 = sA z1 114 (v1 + (1 : Int32)).toNatClampNeg x3 := ⟨_, rfl⟩
  have hB := hB z2 ez2
  refine xMs_114 S hE hP hD hS _ rfl hi dX12_visits_192 (fun H locs hP hD hS => ?_)
  rw [← ez2] at hP hD
  refine lv_aload_n hx hb dX12_visits_193 rfl (lv_at hl 1 rfl) ?_
  refine lv_iload hx hb dX12_visits_194 (lv_at hl 0 rfl) ?_
  refine lv_iconst (v := 2) hx hb dX12_visits_196 (by decide) ?_
  refine lv_iadd hx hb dX12_visits_197 ?_
  refine lv_iload hx hb dX12_visits_198 (lv_at hl 5 rfl) ?_
  obtain ⟨hi, hB⟩ := hB
  obtain ⟨z3, ez3⟩ : ∃ z9, z9 = sA z2 114 (v1 + (2 : Int32)).toNatClampNeg x6 := ⟨_, rfl⟩
  have hB := hB z3 ez3
  refine xMs_114 S hE hP hD hS _ rfl hi dX12_visits_200 (fun H locs hP hD hS => ?_)
  rw [← ez3] at hP hD
  refine lv_aload_n hx hb dX12_visits_201 rfl (lv_at hl 1 rfl) ?_
  refine lv_iload hx hb dX12_visits_202 (lv_at hl 0 rfl) ?_
  refine lv_iconst (v := 3) hx hb dX12_visits_204 (by decide) ?_
  refine lv_iadd hx hb dX12_visits_205 ?_
  refine lv_iload hx hb dX12_visits_206 (lv_at hl 4 rfl) ?_
  obtain ⟨hi, hB⟩ := hB
  obtain ⟨z4, ez4⟩ : ∃ z9, z9 = sA z3 114 (v1 + (3 : Int32)).toNatClampNeg x5 := ⟨_, rfl⟩
  have hB := hB z4 ez4
  refine xMs_114 S hE hP hD hS _ rfl hi dX12_visits_208 (fun H locs hP hD hS => ?_)
  rw [← ez4] at hP hD
  refine lv_aload_n hx hb dX12_visits_209 rfl (lv_at hl 1 rfl) ?_
  refine lv_bipush (v := 28) hx hb dX12_visits_210 (by decide) ?_
  refine lv_dup2_11 hx hb dX12_visits_212 rfl rfl ?_
  refine xMk_114 S hE hP 28 (by decide) (by unfold vp_in; decide) dX12_visits_213 ?_
  refine lv_iconst (v := 1) hx hb dX12_visits_214 (by decide) ?_
  refine lv_iadd hx hb dX12_visits_215 ?_
  obtain ⟨z5, ez5⟩ : ∃ z9, z9 = sA z4 114 28 ((gA z4 114 28) + (1 : Int32)) := ⟨_, rfl⟩
  have hB := hB z5 ez5
  refine xMs_114 S hE hP hD hS 28 (by decide) (by unfold vp_in; decide) dX12_visits_216 (fun H locs hP hD hS => ?_)
  rw [← ez5] at hP hD
  refine lv_iload hx hb dX12_visits_217 (lv_at hl 4 rfl) ?_
  exact hret _ _ _ _ _ _ dX12_visits_219 hB hP hD hS
def B_M_visits_r114_132 (post : Int32 → St → Prop) (ih132 : Int32 → Int32 → Int32 → Int32 → Int32 → St → Prop) (x2 : Int32) (x3 : Int32) (x5 : Int32) (x6 : Int32) (x7 : Int32) (z0 : St) : Prop :=
  (((236 : Int32) < x7 → (∀ z1 : St, z1 = sA z0 114 28 ((gA z0 114 28) - (1 : Int32)) → (B_M_visits_r114_170 post x2 x3 x5 x6 z1))) ∧ (¬ (236 : Int32) < x7 → (vp_in (((28 : Int32) + x7) + (4 : Int32)) 269 ∧ (vp_in ((28 : Int32) + x7) 269 ∧ (∀ z2 : St, z2 = sA z0 114 ((28 : Int32) + x7).toNatClampNeg (gA z0 114 (((28 : Int32) + x7) + (4 : Int32)).toNatClampNeg) → (∀ v2 : Int32, v2 = x7 + (1 : Int32) → (ih132 x2 x3 x5 x6 v2 z2)))))))
set_option maxHeartbeats 4000000 in
set_option maxRecDepth 100000 in
theorem w_M_visits_r114_132 {p : Program} {l : Launch} {e : Env} {R : Room} {s : State} {m : MethodId} {args : Array Value} {below : List Frame} {meth : Method} {c : Code} {Q : State → Prop} {G : GX} {A : Nat → Prop} (S : CallFix p m c cX12_visits 8 s args GW RX12) (hE : env G A s s.heap) (hA : ∀ q, s.heap.size ≤ q → A q) (hRf : 62 ≤ R.frames) (hRl : 1747 ≤ R.locals) {post : Int32 → St → Prop} (hret : RetI p l e R s m args below meth c Q 0 0 wM G A cX12_visits post) {ih132 : Int32 → Int32 → Int32 → Int32 → Int32 → St → Prop} (h132 : ∀ (x2 : Int32) (x3 : Int32) (x5 : Int32) (x6 : Int32) (x7 : Int32) (z0 : St), ih132 x2 x3 x5 x6 x7 z0 → Xw p l e R s m args below meth c Q 0 0 wM G A z0 8 [(1, .ref (ad G 114)), (2, .int x2), (3, .int x3), (5, .int x5), (6, .int x6), (7, .int x7)] 132 []) (x2 : Int32) (x3 : Int32) (x5 : Int32) (x6 : Int32) (x7 : Int32) (z0 : St) (hB : B_M_visits_r114_132 post ih132 x2 x3 x5 x6 x7 z0) : Xw p l e R s m args below meth c Q 0 0 wM G A z0 8 [(1, .ref (ad G 114)), (2, .int x2), (3, .int x3), (5, .int x5), (6, .int x6), (7, .int x7)] 132 [] := by
  intro H locs ls hP hD hS hl
  have hx := S.1
  have hb := S.2.1
  refine lv_iload hx hb dX12_visits_132 (lv_at hl 5 rfl) ?_
  refine lv_sipush (v := 236) hx hb dX12_visits_134 (by decide) ?_
  refine lv_icmp_gt (tgt := 162) hx hb dX12_visits_137 (by decide) (fun c1 => ?_) (fun c1 => ?_)
  · have hB := hB.1 c1
    refine lv_aload_n hx hb dX12_visits_162 rfl (lv_at hl 0 rfl) ?_
    refine lv_bipush (v := 28) hx hb dX12_visits_163 (by decide) ?_
    refine lv_dup2_11 hx hb dX12_visits_165 rfl rfl ?_
    refine xMk_114 S hE hP 28 (by decide) (by unfold vp_in; decide) dX12_visits_166 ?_
    refine lv_iconst (v := 1) hx hb dX12_visits_167 (by decide) ?_
    refine lv_isub hx hb dX12_visits_168 ?_
    obtain ⟨z1, ez1⟩ : ∃ z9, z9 = sA z0 114 28 ((gA z0 114 28) - (1 : Int32)) := ⟨_, rfl⟩
    have hB := hB z1 ez1
    refine xMs_114 S hE hP hD hS 28 (by decide) (by unfold vp_in; decide) dX12_visits_169 (fun H locs hP hD hS => ?_)
    rw [← ez1] at hP hD
    exact w_M_visits_r114_170 S hE hA hRf hRl hret x2 x3 x5 x6 z1 hB _ _ _ hP hD hS (lv_sub hl [0, 1, 2, 3, 4] rfl)
  · have hB := hB.2 c1
    refine lv_aload_n hx hb dX12_visits_140 rfl (lv_at hl 0 rfl) ?_
    refine lv_bipush (v := 28) hx hb dX12_visits_141 (by decide) ?_
    refine lv_iload hx hb dX12_visits_143 (lv_at hl 5 rfl) ?_
    refine lv_iadd hx hb dX12_visits_145 ?_
    refine lv_aload_n hx hb dX12_visits_146 rfl (lv_at hl 0 rfl) ?_
    refine lv_bipush (v := 28) hx hb dX12_visits_147 (by decide) ?_
    refine lv_iload hx hb dX12_visits_149 (lv_at hl 5 rfl) ?_
    refine lv_iadd hx hb dX12_visits_151 ?_
    refine lv_iconst (v := 4) hx hb dX12_visits_152 (by decide) ?_
    refine lv_iadd hx hb dX12_visits_153 ?_
    obtain ⟨hi, hB⟩ := hB
    refine xMl_114 S hE hP hi dX12_visits_154 ?_
    obtain ⟨hi, hB⟩ := hB
    obtain ⟨z2, ez2⟩ : ∃ z9, z9 = sA z0 114 ((28 : Int32) + x7).toNatClampNeg (gA z0 114 (((28 : Int32) + x7) + (4 : Int32)).toNatClampNeg) := ⟨_, rfl⟩
    have hB := hB z2 ez2
    refine xMs_114 S hE hP hD hS _ rfl hi dX12_visits_155 (fun H locs hP hD hS => ?_)
    rw [← ez2] at hP hD
    obtain ⟨v2, ev2⟩ : ∃ y9, y9 = x7 + (1 : Int32) := ⟨_, rfl⟩
    have hB := hB v2 ev2
    refine lv_iinc (v := v2) (lv' := [(7, .int v2), (1, .ref (ad G 114)), (2, .int x2), (3, .int x3), (5, .int x5), (6, .int x6)]) hx hb dX12_visits_156 hl (k := 5) rfl (by rw [ev2]; rfl) (by decide) rfl (fun ls hl => ?_)
    refine lv_goto (tgt := 132) hx hb dX12_visits_159 (by decide) ?_
    exact h132 x2 x3 x5 x6 v2 z2 hB _ _ _ hP hD hS (lv_sub hl [1, 2, 3, 4, 5, 0] rfl)
def L_M_visits_r114_132 (post : Int32 → St → Prop) : Nat → Int32 → Int32 → Int32 → Int32 → Int32 → St → Prop
  | 0 => fun _ _ _ _ _ _ => False
  | n + 1 => B_M_visits_r114_132 post (L_M_visits_r114_132 post n)
theorem wl_M_visits_r114_132 {p : Program} {l : Launch} {e : Env} {R : Room} {s : State} {m : MethodId} {args : Array Value} {below : List Frame} {meth : Method} {c : Code} {Q : State → Prop} {G : GX} {A : Nat → Prop} (S : CallFix p m c cX12_visits 8 s args GW RX12) (hE : env G A s s.heap) (hA : ∀ q, s.heap.size ≤ q → A q) (hRf : 62 ≤ R.frames) (hRl : 1747 ≤ R.locals) {post : Int32 → St → Prop} (hret : RetI p l e R s m args below meth c Q 0 0 wM G A cX12_visits post) : ∀ (n : Nat) (x2 : Int32) (x3 : Int32) (x5 : Int32) (x6 : Int32) (x7 : Int32) (z0 : St), L_M_visits_r114_132 post n x2 x3 x5 x6 x7 z0 → Xw p l e R s m args below meth c Q 0 0 wM G A z0 8 [(1, .ref (ad G 114)), (2, .int x2), (3, .int x3), (5, .int x5), (6, .int x6), (7, .int x7)] 132 [] := by
  intro n
  induction n with
  | zero => intro x2 x3 x5 x6 x7 z0 hB; exact absurd hB id
  | succ n ih => exact fun x2 x3 x5 x6 x7 z0 hB => w_M_visits_r114_132 S hE hA hRf hRl hret ih x2 x3 x5 x6 x7 z0 hB
def B_M_visits_r114_112 (post : Int32 → St → Prop) (x2 : Int32) (x3 : Int32) (x5 : Int32) (x6 : Int32) (z0 : St) : Prop :=
  (∀ z1 : St, z1 = sA z0 114 27 ((gA z0 114 27) + (1 : Int32)) → (((gA z1 114 28) = (60 : Int32) → (∃ n2, L_M_visits_r114_132 post n2 x2 x3 x5 x6 (1 : Int32) z1)) ∧ (¬ (gA z1 114 28) = (60 : Int32) → (B_M_visits_r114_170 post x2 x3 x5 x6 z1))))
set_option maxHeartbeats 4000000 in
set_option maxRecDepth 100000 in
theorem w_M_visits_r114_112 {p : Program} {l : Launch} {e : Env} {R : Room} {s : State} {m : MethodId} {args : Array Value} {below : List Frame} {meth : Method} {c : Code} {Q : State → Prop} {G : GX} {A : Nat → Prop} (S : CallFix p m c cX12_visits 8 s args GW RX12) (hE : env G A s s.heap) (hA : ∀ q, s.heap.size ≤ q → A q) (hRf : 62 ≤ R.frames) (hRl : 1747 ≤ R.locals) {post : Int32 → St → Prop} (hret : RetI p l e R s m args below meth c Q 0 0 wM G A cX12_visits post) (x2 : Int32) (x3 : Int32) (x5 : Int32) (x6 : Int32) (z0 : St) (hB : B_M_visits_r114_112 post x2 x3 x5 x6 z0) : Xw p l e R s m args below meth c Q 0 0 wM G A z0 8 [(1, .ref (ad G 114)), (2, .int x2), (3, .int x3), (5, .int x5), (6, .int x6)] 112 [] := by
  intro H locs ls hP hD hS hl
  have hx := S.1
  have hb := S.2.1
  refine lv_aload_n hx hb dX12_visits_112 rfl (lv_at hl 0 rfl) ?_
  refine lv_bipush (v := 27) hx hb dX12_visits_113 (by decide) ?_
  refine lv_dup2_11 hx hb dX12_visits_115 rfl rfl ?_
  refine xMk_114 S hE hP 27 (by decide) (by unfold vp_in; decide) dX12_visits_116 ?_
  refine lv_iconst (v := 1) hx hb dX12_visits_117 (by decide) ?_
  refine lv_iadd hx hb dX12_visits_118 ?_
  obtain ⟨z1, ez1⟩ : ∃ z9, z9 = sA z0 114 27 ((gA z0 114 27) + (1 : Int32)) := ⟨_, rfl⟩
  have hB := hB z1 ez1
  refine xMs_114 S hE hP hD hS 27 (by decide) (by unfold vp_in; decide) dX12_visits_119 (fun H locs hP hD hS => ?_)
  rw [← ez1] at hP hD
  refine lv_aload_n hx hb dX12_visits_120 rfl (lv_at hl 0 rfl) ?_
  refine lv_bipush (v := 28) hx hb dX12_visits_121 (by decide) ?_
  refine xMk_114 S hE hP 28 (by decide) (by unfold vp_in; decide) dX12_visits_123 ?_
  refine lv_bipush (v := 60) hx hb dX12_visits_124 (by decide) ?_
  refine lv_icmp_ne (tgt := 170) hx hb dX12_visits_126 (by decide) (fun c1 => ?_) (fun c1 => ?_)
  · have hB := hB.2 c1
    exact w_M_visits_r114_170 S hE hA hRf hRl hret x2 x3 x5 x6 z1 hB _ _ _ hP hD hS (lv_sub hl [0, 1, 2, 3, 4] rfl)
  · have hB := hB.1 c1
    refine lv_iconst (v := 1) hx hb dX12_visits_129 (by decide) ?_
    refine lv_istore (lv' := [(7, .int (1 : Int32)), (1, .ref (ad G 114)), (2, .int x2), (3, .int x3), (5, .int x5), (6, .int x6)]) hx hb dX12_visits_130 hl (by decide) rfl (fun ls hl => ?_)
    obtain ⟨n2, hB⟩ := hB
    exact wl_M_visits_r114_132 S hE hA hRf hRl hret n2 x2 x3 x5 x6 (1 : Int32) z1 hB _ _ _ hP hD hS (lv_sub hl [1, 2, 3, 4, 5, 0] rfl)
def S_M_visits_r114 (post : Int32 → St → Prop) (x2 : Int32) (z0 : St) : Prop :=
  (∀ v1 : Int32, v1 = (gA z0 114 24) → (vp_in ((3 : Int32) * x2) 18 ∧ (∀ v2 : Int32, v2 = (gA z0 109 ((3 : Int32) * x2).toNatClampNeg) → (S_M_joyOf (fun (r3 : Int32) (z1 : St) => (vp_in (((3 : Int32) * x2) + (1 : Int32)) 269 ∧ (vp_in (((3 : Int32) * x2) + (0 : Int32)) 269 ∧ (S_M_makesOf_r114 (fun (r4 : Int32) (z2 : St) => (vp_in (((3 : Int32) * x2) + (1 : Int32)) 269 ∧ (S_M_moodBy (fun (r5 : Int32) (z3 : St) => (vp_in (((3 : Int32) * x2) + (1 : Int32)) 269 ∧ (∀ z4 : St, z4 = sA z3 114 (((3 : Int32) * x2) + (1 : Int32)).toNatClampNeg r5 → (vp_in (((3 : Int32) * x2) + (2 : Int32)) 269 ∧ (vp_in (((3 : Int32) * x2) + (2 : Int32)) 269 ∧ (∀ z5 : St, z5 = sA z4 114 (((3 : Int32) * x2) + (2 : Int32)).toNatClampNeg ((gA z4 114 (((3 : Int32) * x2) + (2 : Int32)).toNatClampNeg) + r3) → ((r4 = (-1 : Int32) → (B_M_visits_r114_112 post x2 v1 r3 r4 z5)) ∧ (¬ r4 = (-1 : Int32) → (vp_in (((3 : Int32) * x2) + (0 : Int32)) 269 ∧ (vp_in ((18 : Int32) + r4) 269 ∧ (vp_in (((3 : Int32) * x2) + (0 : Int32)) 269 ∧ (∀ z6 : St, z6 = sA z5 114 (((3 : Int32) * x2) + (0 : Int32)).toNatClampNeg ((gA z5 114 (((3 : Int32) * x2) + (0 : Int32)).toNatClampNeg) - (gA z5 114 ((18 : Int32) + r4).toNatClampNeg)) → (∀ z7 : St, z7 = sA z6 114 24 r4 → (B_M_visits_r114_112 post x2 v1 r3 r4 z7)))))))))))))) (gA z2 114 (((3 : Int32) * x2) + (1 : Int32)).toNatClampNeg) r3 z2))) v2 (gA z1 114 (((3 : Int32) * x2) + (1 : Int32)).toNatClampNeg) (gA z1 114 (((3 : Int32) * x2) + (0 : Int32)).toNatClampNeg) v1 (gA z1 114 27) z1)))) v2 v1 z0))))
set_option maxHeartbeats 4000000 in
set_option maxRecDepth 100000 in
theorem w_M_visits_r114_0 {p : Program} {l : Launch} {e : Env} {R : Room} {s : State} {m : MethodId} {args : Array Value} {below : List Frame} {meth : Method} {c : Code} {Q : State → Prop} {G : GX} {A : Nat → Prop} (S : CallFix p m c cX12_visits 8 s args GW RX12) (hE : env G A s s.heap) (hA : ∀ q, s.heap.size ≤ q → A q) (hRf : 62 ≤ R.frames) (hRl : 1747 ≤ R.locals) {post : Int32 → St → Prop} (hret : RetI p l e R s m args below meth c Q 0 0 wM G A cX12_visits post) (x2 : Int32) (z0 : St) (hB : S_M_visits_r114 post x2 z0) : Xw p l e R s m args below meth c Q 0 0 wM G A z0 8 [(0, .ref (ad G 100)), (1, .ref (ad G 114)), (2, .int x2)] 0 [] := by
  intro H locs ls hP hD hS hl
  have hx := S.1
  have hb := S.2.1
  refine lv_aload_n hx hb dX12_visits_0 rfl (lv_at hl 1 rfl) ?_
  refine lv_bipush (v := 24) hx hb dX12_visits_1 (by decide) ?_
  refine xMk_114 S hE hP 24 (by decide) (by unfold vp_in; decide) dX12_visits_3 ?_
  refine lv_topi (fun v1 ev1 => ?_)
  have hB := hB v1 ev1
  refine lv_istore_n (lv' := [(3, .int v1), (0, .ref (ad G 100)), (1, .ref (ad G 114)), (2, .int x2)]) hx hb dX12_visits_4 rfl hl (by decide) rfl (fun ls hl => ?_)
  refine lv_aload_n hx hb dX12_visits_5 rfl (lv_at hl 1 rfl) ?_
  refine xMg_100_guest S hE hP lk_X12_49 dX12_visits_6 ?_
  refine lv_iconst (v := 3) hx hb dX12_visits_9 (by decide) ?_
  refine lv_iload_n hx hb dX12_visits_10 rfl (lv_at hl 3 rfl) ?_
  refine lv_imul hx hb dX12_visits_11 ?_
  obtain ⟨hi, hB⟩ := hB
  refine xMl_109 S hE hP hi dX12_visits_12 ?_
  refine lv_topi (fun v2 ev2 => ?_)
  have hB := hB v2 ev2
  refine lv_istore (lv' := [(4, .int v2), (3, .int v1), (0, .ref (ad G 100)), (1, .ref (ad G 114)), (2, .int x2)]) hx hb dX12_visits_13 hl (by decide) rfl (fun ls hl => ?_)
  refine lv_aload_n hx hb dX12_visits_15 rfl (lv_at hl 2 rfl) ?_
  refine lv_iload hx hb dX12_visits_16 (lv_at hl 0 rfl) ?_
  refine lv_iload_n hx hb dX12_visits_18 rfl (lv_at hl 1 rfl) ?_
  refine xcVi [.int v2, .int v1] S hE hA hP hD hS (c_M_joyOf l G z0 H.size v2 v1 _) hB (gw_c lk_X12_306 (gw_c wi_X12_joyOf (gw_c we_X12_X12_joyOf_X12_joyOf (gw_c wn_X12 (gw_c wc_X12_joyOf (fun _ h9 => h9)))))) hd_X12_joyOf rfl rfl (Nat.le_trans (Nat.le_of_ble_eq_true rfl) hRf) (Nat.le_trans (Nat.le_of_ble_eq_true rfl) hRl) ⟨Nat.zero_le _, Nat.zero_le _⟩ (va_recv hE.1 hP (ci := 11) (q0 := 0) rfl rfl) rfl hl.1 rfl (Nat.le_of_ble_eq_true rfl) dX12_visits_19 (fun r3 z1 H locs hB hP hD hS => ?_)
  refine lv_istore (lv' := [(5, .int r3), (4, .int v2), (3, .int v1), (0, .ref (ad G 100)), (1, .ref (ad G 114)), (2, .int x2)]) hx hb dX12_visits_22 hl (by decide) rfl (fun ls hl => ?_)
  refine lv_aload_n hx hb dX12_visits_24 rfl (lv_at hl 3 rfl) ?_
  refine lv_aload_n hx hb dX12_visits_25 rfl (lv_at hl 4 rfl) ?_
  refine lv_iload hx hb dX12_visits_26 (lv_at hl 1 rfl) ?_
  refine lv_aload_n hx hb dX12_visits_28 rfl (lv_at hl 4 rfl) ?_
  refine lv_iconst (v := 3) hx hb dX12_visits_29 (by decide) ?_
  refine lv_iload_n hx hb dX12_visits_30 rfl (lv_at hl 5 rfl) ?_
  refine lv_imul hx hb dX12_visits_31 ?_
  refine lv_iconst (v := 1) hx hb dX12_visits_32 (by decide) ?_
  refine lv_iadd hx hb dX12_visits_33 ?_
  obtain ⟨hi, hB⟩ := hB
  refine xMl_114 S hE hP hi dX12_visits_34 ?_
  refine lv_aload_n hx hb dX12_visits_35 rfl (lv_at hl 4 rfl) ?_
  refine lv_iconst (v := 3) hx hb dX12_visits_36 (by decide) ?_
  refine lv_iload_n hx hb dX12_visits_37 rfl (lv_at hl 5 rfl) ?_
  refine lv_imul hx hb dX12_visits_38 ?_
  refine lv_iconst (v := 0) hx hb dX12_visits_39 (by decide) ?_
  refine lv_iadd hx hb dX12_visits_40 ?_
  obtain ⟨hi, hB⟩ := hB
  refine xMl_114 S hE hP hi dX12_visits_41 ?_
  refine lv_iload_n hx hb dX12_visits_42 rfl (lv_at hl 2 rfl) ?_
  refine lv_aload_n hx hb dX12_visits_43 rfl (lv_at hl 4 rfl) ?_
  refine lv_bipush (v := 27) hx hb dX12_visits_44 (by decide) ?_
  refine xMk_114 S hE hP 27 (by decide) (by unfold vp_in; decide) dX12_visits_46 ?_
  refine xcVi [.ref (ad G 114), .int v2, .int (gA z1 114 (((3 : Int32) * x2) + (1 : Int32)).toNatClampNeg), .int (gA z1 114 (((3 : Int32) * x2) + (0 : Int32)).toNatClampNeg), .int v1, .int (gA z1 114 27)] S hE hA hP hD hS (c_M_makesOf_r114 l G z1 H.size v2 (gA z1 114 (((3 : Int32) * x2) + (1 : Int32)).toNatClampNeg) (gA z1 114 (((3 : Int32) * x2) + (0 : Int32)).toNatClampNeg) v1 (gA z1 114 27) _) hB (gw_c lk_X12_316 (gw_c wi_X12_makesOf (gw_c we_X12_X12_makesOf_X12_makesOf (gw_c wn_X12 (gw_c wc_X12_makesOf (fun _ h9 => h9)))))) hd_X12_makesOf rfl rfl (Nat.le_trans (Nat.le_of_ble_eq_true rfl) hRf) (Nat.le_trans (Nat.le_of_ble_eq_true rfl) hRl) ⟨Nat.zero_le _, Nat.zero_le _⟩ (va_recv hE.1 hP (ci := 11) (q0 := 0) rfl rfl) rfl hl.1 rfl (Nat.le_of_ble_eq_true rfl) dX12_visits_47 (fun r4 z2 H locs hB hP hD hS => ?_)
  refine lv_istore (lv' := [(6, .int r4), (5, .int r3), (4, .int v2), (3, .int v1), (0, .ref (ad G 100)), (1, .ref (ad G 114)), (2, .int x2)]) hx hb dX12_visits_50 hl (by decide) rfl (fun ls hl => ?_)
  refine lv_aload_n hx hb dX12_visits_52 rfl (lv_at hl 5 rfl) ?_
  refine lv_iconst (v := 3) hx hb dX12_visits_53 (by decide) ?_
  refine lv_iload_n hx hb dX12_visits_54 rfl (lv_at hl 6 rfl) ?_
  refine lv_imul hx hb dX12_visits_55 ?_
  refine lv_iconst (v := 1) hx hb dX12_visits_56 (by decide) ?_
  refine lv_iadd hx hb dX12_visits_57 ?_
  refine lv_aload_n hx hb dX12_visits_58 rfl (lv_at hl 5 rfl) ?_
  refine lv_iconst (v := 3) hx hb dX12_visits_59 (by decide) ?_
  refine lv_iload_n hx hb dX12_visits_60 rfl (lv_at hl 6 rfl) ?_
  refine lv_imul hx hb dX12_visits_61 ?_
  refine lv_iconst (v := 1) hx hb dX12_visits_62 (by decide) ?_
  refine lv_iadd hx hb dX12_visits_63 ?_
  obtain ⟨hi, hB⟩ := hB
  refine xMl_114 S hE hP hi dX12_visits_64 ?_
  refine lv_iload hx hb dX12_visits_65 (lv_at hl 1 rfl) ?_
  refine xcSi [.int (gA z2 114 (((3 : Int32) * x2) + (1 : Int32)).toNatClampNeg), .int r3] S hE hA hP hD hS (c_M_moodBy l G z2 H.size (gA z2 114 (((3 : Int32) * x2) + (1 : Int32)).toNatClampNeg) r3 _) hB (gw_c lk_X12_309 (gw_c wt_X12_moodBy (gw_c wn_X12 (gw_c wc_X12_moodBy (fun _ h9 => h9))))) hs_X12_moodBy rfl rfl (Nat.le_trans (Nat.le_of_ble_eq_true rfl) hRf) (Nat.le_trans (Nat.le_of_ble_eq_true rfl) hRl) ⟨Nat.zero_le _, Nat.zero_le _⟩ rfl hl.1 rfl (Nat.le_of_ble_eq_true rfl) dX12_visits_67 (fun r5 z3 H locs hB hP hD hS => ?_)
  obtain ⟨hi, hB⟩ := hB
  obtain ⟨z4, ez4⟩ : ∃ z9, z9 = sA z3 114 (((3 : Int32) * x2) + (1 : Int32)).toNatClampNeg r5 := ⟨_, rfl⟩
  have hB := hB z4 ez4
  refine xMs_114 S hE hP hD hS _ rfl hi dX12_visits_70 (fun H locs hP hD hS => ?_)
  rw [← ez4] at hP hD
  refine lv_aload_n hx hb dX12_visits_71 rfl (lv_at hl 5 rfl) ?_
  refine lv_iconst (v := 3) hx hb dX12_visits_72 (by decide) ?_
  refine lv_iload_n hx hb dX12_visits_73 rfl (lv_at hl 6 rfl) ?_
  refine lv_imul hx hb dX12_visits_74 ?_
  refine lv_iconst (v := 2) hx hb dX12_visits_75 (by decide) ?_
  refine lv_iadd hx hb dX12_visits_76 ?_
  refine lv_dup2_11 hx hb dX12_visits_77 rfl rfl ?_
  obtain ⟨hi, hB⟩ := hB
  refine xMl_114 S hE hP hi dX12_visits_78 ?_
  refine lv_iload hx hb dX12_visits_79 (lv_at hl 1 rfl) ?_
  refine lv_iadd hx hb dX12_visits_81 ?_
  obtain ⟨hi, hB⟩ := hB
  obtain ⟨z5, ez5⟩ : ∃ z9, z9 = sA z4 114 (((3 : Int32) * x2) + (2 : Int32)).toNatClampNeg ((gA z4 114 (((3 : Int32) * x2) + (2 : Int32)).toNatClampNeg) + r3) := ⟨_, rfl⟩
  have hB := hB z5 ez5
  refine xMs_114 S hE hP hD hS _ rfl hi dX12_visits_82 (fun H locs hP hD hS => ?_)
  rw [← ez5] at hP hD
  refine lv_iload hx hb dX12_visits_83 (lv_at hl 0 rfl) ?_
  refine lv_iconst (v := -1) hx hb dX12_visits_85 (by decide) ?_
  refine lv_icmp_eq (tgt := 112) hx hb dX12_visits_86 (by decide) (fun c6 => ?_) (fun c6 => ?_)
  · have hB := hB.1 c6
    exact w_M_visits_r114_112 S hE hA hRf hRl hret x2 v1 r3 r4 z5 hB _ _ _ hP hD hS (lv_sub hl [5, 6, 3, 1, 0] rfl)
  · have hB := hB.2 c6
    refine lv_aload_n hx hb dX12_visits_89 rfl (lv_at hl 5 rfl) ?_
    refine lv_iconst (v := 3) hx hb dX12_visits_90 (by decide) ?_
    refine lv_iload_n hx hb dX12_visits_91 rfl (lv_at hl 6 rfl) ?_
    refine lv_imul hx hb dX12_visits_92 ?_
    refine lv_iconst (v := 0) hx hb dX12_visits_93 (by decide) ?_
    refine lv_iadd hx hb dX12_visits_94 ?_
    refine lv_dup2_11 hx hb dX12_visits_95 rfl rfl ?_
    obtain ⟨hi, hB⟩ := hB
    refine xMl_114 S hE hP hi dX12_visits_96 ?_
    refine lv_aload_n hx hb dX12_visits_97 rfl (lv_at hl 5 rfl) ?_
    refine lv_bipush (v := 18) hx hb dX12_visits_98 (by decide) ?_
    refine lv_iload hx hb dX12_visits_100 (lv_at hl 0 rfl) ?_
    refine lv_iadd hx hb dX12_visits_102 ?_
    obtain ⟨hi, hB⟩ := hB
    refine xMl_114 S hE hP hi dX12_visits_103 ?_
    refine lv_isub hx hb dX12_visits_104 ?_
    obtain ⟨hi, hB⟩ := hB
    obtain ⟨z6, ez6⟩ : ∃ z9, z9 = sA z5 114 (((3 : Int32) * x2) + (0 : Int32)).toNatClampNeg ((gA z5 114 (((3 : Int32) * x2) + (0 : Int32)).toNatClampNeg) - (gA z5 114 ((18 : Int32) + r4).toNatClampNeg)) := ⟨_, rfl⟩
    have hB := hB z6 ez6
    refine xMs_114 S hE hP hD hS _ rfl hi dX12_visits_105 (fun H locs hP hD hS => ?_)
    rw [← ez6] at hP hD
    refine lv_aload_n hx hb dX12_visits_106 rfl (lv_at hl 5 rfl) ?_
    refine lv_bipush (v := 24) hx hb dX12_visits_107 (by decide) ?_
    refine lv_iload hx hb dX12_visits_109 (lv_at hl 0 rfl) ?_
    obtain ⟨z7, ez7⟩ : ∃ z9, z9 = sA z6 114 24 r4 := ⟨_, rfl⟩
    have hB := hB z7 ez7
    refine xMs_114 S hE hP hD hS 24 (by decide) (by unfold vp_in; decide) dX12_visits_111 (fun H locs hP hD hS => ?_)
    rw [← ez7] at hP hD
    exact w_M_visits_r114_112 S hE hA hRf hRl hret x2 v1 r3 r4 z7 hB _ _ _ hP hD hS (lv_sub hl [5, 6, 3, 1, 0] rfl)
set_option maxHeartbeats 4000000 in
set_option maxRecDepth 100000 in
theorem c_M_visits_r114 (l : Launch) (G : GX) (z0 : St) (sz : Nat) (x2 : Int32) (post : Int32 → St → Prop) : MetI l wM yX12_visits cX12_visits 8 (some .int) ({ frames := 62, cells := 0, slots := 0, locals := 1747 }) [.ref (ad G 100), .ref (ad G 114), .int x2] G z0 sz (S_M_visits_r114 post x2 z0) post := by
  refine Met.ofW (cc := cX12_visits) (maxL := 8) (ret := (some .int)) (by decide) rfl ?_
  intro p e s m args below meth c s₁ B hml hv
  obtain ⟨rfl, hsz, hP, hD0, hE, hB⟩ := hv
  have S : CallFix p m c cX12_visits 8 s _ GW RX12 := ⟨B.exec, B.bytes, hml, findClass_of_methodNamed B.named, fun w h => atoms_spec (ws := Cond.code yX12_visits cX12_visits 8 (some .int) :: GW) B.pre w (List.mem_cons_of_mem _ h)⟩
  have hlocks := B.notSynchronized
  subst hsz
  have hD := hD0.self (sz := s.heap.size)
  generalize hAe : va_A (wM G z0) s.heap.size = A at hD hE ⊢
  have hA : ∀ q : Nat, s.heap.size ≤ q → A q := fun q h => by rw [← hAe]; exact Or.inr h
  have hS : va_S A s.heap s.heap [] := va_S.rf
  have hl := lv_entry ([.ref (ad G 100), .ref (ad G 114), .int x2]) (n := 8) (Nat.le_of_ble_eq_true rfl)
  rw [lg_entry_eq]
  generalize (lg_sl ([.ref (ad G 100), .ref (ad G 114), .int x2]) ++ List.replicate (8 - (lg_sl ([.ref (ad G 100), .ref (ad G 114), .int x2])).length) Slot.unset).toArray = ls at hl ⊢
  have hl : lv_has ls 8 [(0, .ref (ad G 100)), (1, .ref (ad G 114)), (2, .int x2)] := hl
  refine w_M_visits_r114_0 S hE hA (Nat.le_refl _) (Nat.le_refl _) ?_ x2 z0 hB _ _ _ hP hD hS hl
  intro pc ls r σ H locs hd hp hP hD hS
  exact W.iret (v := r) B.exec B.bytes B.returns (fun t ht hW => ⟨⟨r, σ, rfl, hp, by rw [ht]; exact hP, hD⟩, hS.F ht⟩) hS.2.2 hd
def S_M_steps_r114 (post : Int32 → St → Prop) (x2 : Int32) (z0 : St) : Prop :=
  (vp_in x2 160 ∧ (((gA z0 111 x2.toNatClampNeg) = 0 → (vp_in (x2 + (1 : Int32)) 160 ∧ (S_M_visits_r114 (fun (r3 : Int32) (z3 : St) => (post r3 z3)) (gA z0 111 (x2 + (1 : Int32)).toNatClampNeg) z0))) ∧ (¬ (gA z0 111 x2.toNatClampNeg) = 0 → (vp_in x2 160 ∧ (((gA z0 111 x2.toNatClampNeg) = (1 : Int32) → (S_M_goMonth_r114 (fun (z2 : St) => (post (0 : Int32) z2)) z0)) ∧ (¬ (gA z0 111 x2.toNatClampNeg) = (1 : Int32) → (vp_in (x2 + (1 : Int32)) 160 ∧ (S_M_hosts_r114 (fun (z1 : St) => (post (0 : Int32) z1)) (gA z0 111 (x2 + (1 : Int32)).toNatClampNeg) z0))))))))
set_option maxHeartbeats 4000000 in
set_option maxRecDepth 100000 in
theorem w_M_steps_r114_0 {p : Program} {l : Launch} {e : Env} {R : Room} {s : State} {m : MethodId} {args : Array Value} {below : List Frame} {meth : Method} {c : Code} {Q : State → Prop} {G : GX} {A : Nat → Prop} (S : CallFix p m c cX12_steps 3 s args GW RX12) (hE : env G A s s.heap) (hA : ∀ q, s.heap.size ≤ q → A q) (hRf : 63 ≤ R.frames) (hRl : 1774 ≤ R.locals) {post : Int32 → St → Prop} (hret : RetI p l e R s m args below meth c Q 0 0 wM G A cX12_steps post) (x2 : Int32) (z0 : St) (hB : S_M_steps_r114 post x2 z0) : Xw p l e R s m args below meth c Q 0 0 wM G A z0 3 [(0, .ref (ad G 100)), (1, .ref (ad G 114)), (2, .int x2)] 0 [] := by
  intro H locs ls hP hD hS hl
  have hx := S.1
  have hb := S.2.1
  refine lv_aload_n hx hb dX12_steps_0 rfl (lv_at hl 0 rfl) ?_
  refine xMg_100_winter S hE hP lk_X12_55 dX12_steps_1 ?_
  refine lv_iload_n hx hb dX12_steps_4 rfl (lv_at hl 2 rfl) ?_
  obtain ⟨hi, hB⟩ := hB
  refine xMl_111 S hE hP hi dX12_steps_5 ?_
  refine lv_if_ne (tgt := 23) hx hb dX12_steps_6 (by decide) (fun c1 => ?_) (fun c1 => ?_)
  · have hB := hB.2 c1
    refine lv_aload_n hx hb dX12_steps_23 rfl (lv_at hl 0 rfl) ?_
    refine xMg_100_winter S hE hP lk_X12_55 dX12_steps_24 ?_
    refine lv_iload_n hx hb dX12_steps_27 rfl (lv_at hl 2 rfl) ?_
    obtain ⟨hi, hB⟩ := hB
    refine xMl_111 S hE hP hi dX12_steps_28 ?_
    refine lv_iconst (v := 1) hx hb dX12_steps_29 (by decide) ?_
    refine lv_icmp_ne (tgt := 41) hx hb dX12_steps_30 (by decide) (fun c2 => ?_) (fun c2 => ?_)
    · have hB := hB.2 c2
      refine lv_aload_n hx hb dX12_steps_41 rfl (lv_at hl 1 rfl) ?_
      refine lv_aload_n hx hb dX12_steps_42 rfl (lv_at hl 0 rfl) ?_
      refine xMg_100_winter S hE hP lk_X12_55 dX12_steps_43 ?_
      refine lv_iload_n hx hb dX12_steps_46 rfl (lv_at hl 2 rfl) ?_
      refine lv_iconst (v := 1) hx hb dX12_steps_47 (by decide) ?_
      refine lv_iadd hx hb dX12_steps_48 ?_
      obtain ⟨hi, hB⟩ := hB
      refine xMl_111 S hE hP hi dX12_steps_49 ?_
      refine xcSv [.ref (ad G 114), .int (gA z0 111 (x2 + (1 : Int32)).toNatClampNeg)] S hE hA hP hD hS (c_M_hosts_r114 l G z0 H.size (gA z0 111 (x2 + (1 : Int32)).toNatClampNeg) _) hB (gw_c lk_X12_344 (gw_c wt_X12_hosts (gw_c wn_X12 (gw_c wc_X12_hosts (fun _ h9 => h9))))) hs_X12_hosts rfl rfl (Nat.le_trans (Nat.le_of_ble_eq_true rfl) hRf) (Nat.le_trans (Nat.le_of_ble_eq_true rfl) hRl) ⟨Nat.zero_le _, Nat.zero_le _⟩ rfl hl.1 rfl (Nat.le_of_ble_eq_true rfl) dX12_steps_50 (fun z1 H locs hB hP hD hS => ?_)
      refine lv_iconst (v := 0) hx hb dX12_steps_53 (by decide) ?_
      exact hret _ _ _ _ _ _ dX12_steps_54 hB hP hD hS
    · have hB := hB.1 c2
      refine lv_aload_n hx hb dX12_steps_33 rfl (lv_at hl 0 rfl) ?_
      refine lv_aload_n hx hb dX12_steps_34 rfl (lv_at hl 1 rfl) ?_
      refine xcVv [.ref (ad G 114)] S hE hA hP hD hS (c_M_goMonth_r114 l G z0 H.size _) hB (gw_c lk_X12_336 (gw_c wi_X12_goMonth (gw_c we_X12_X12_goMonth_X12_goMonth (gw_c wn_X12 (gw_c wc_X12_goMonth (fun _ h9 => h9)))))) hd_X12_goMonth rfl rfl (Nat.le_trans (Nat.le_of_ble_eq_true rfl) hRf) (Nat.le_trans (Nat.le_of_ble_eq_true rfl) hRl) ⟨Nat.zero_le _, Nat.zero_le _⟩ (va_recv hE.1 hP (ci := 11) (q0 := 0) rfl rfl) rfl hl.1 rfl (Nat.le_of_ble_eq_true rfl) dX12_steps_35 (fun z2 H locs hB hP hD hS => ?_)
      refine lv_goto (tgt := 53) hx hb dX12_steps_38 (by decide) ?_
      refine lv_iconst (v := 0) hx hb dX12_steps_53 (by decide) ?_
      exact hret _ _ _ _ _ _ dX12_steps_54 hB hP hD hS
  · have hB := hB.1 c1
    refine lv_aload_n hx hb dX12_steps_9 rfl (lv_at hl 0 rfl) ?_
    refine lv_aload_n hx hb dX12_steps_10 rfl (lv_at hl 1 rfl) ?_
    refine lv_aload_n hx hb dX12_steps_11 rfl (lv_at hl 0 rfl) ?_
    refine xMg_100_winter S hE hP lk_X12_55 dX12_steps_12 ?_
    refine lv_iload_n hx hb dX12_steps_15 rfl (lv_at hl 2 rfl) ?_
    refine lv_iconst (v := 1) hx hb dX12_steps_16 (by decide) ?_
    refine lv_iadd hx hb dX12_steps_17 ?_
    obtain ⟨hi, hB⟩ := hB
    refine xMl_111 S hE hP hi dX12_steps_18 ?_
    refine xcVi [.ref (ad G 114), .int (gA z0 111 (x2 + (1 : Int32)).toNatClampNeg)] S hE hA hP hD hS (c_M_visits_r114 l G z0 H.size (gA z0 111 (x2 + (1 : Int32)).toNatClampNeg) _) hB (gw_c lk_X12_332 (gw_c wi_X12_visits (gw_c we_X12_X12_visits_X12_visits (gw_c wn_X12 (gw_c wc_X12_visits (fun _ h9 => h9)))))) hd_X12_visits rfl rfl (Nat.le_trans (Nat.le_of_ble_eq_true rfl) hRf) (Nat.le_trans (Nat.le_of_ble_eq_true rfl) hRl) ⟨Nat.zero_le _, Nat.zero_le _⟩ (va_recv hE.1 hP (ci := 11) (q0 := 0) rfl rfl) rfl hl.1 rfl (Nat.le_of_ble_eq_true rfl) dX12_steps_19 (fun r3 z3 H locs hB hP hD hS => ?_)
    exact hret _ _ _ _ _ _ dX12_steps_22 hB hP hD hS
set_option maxHeartbeats 4000000 in
set_option maxRecDepth 100000 in
theorem c_M_steps_r114 (l : Launch) (G : GX) (z0 : St) (sz : Nat) (x2 : Int32) (post : Int32 → St → Prop) : MetI l wM yX12_steps cX12_steps 3 (some .int) ({ frames := 63, cells := 0, slots := 0, locals := 1774 }) [.ref (ad G 100), .ref (ad G 114), .int x2] G z0 sz (S_M_steps_r114 post x2 z0) post := by
  refine Met.ofW (cc := cX12_steps) (maxL := 3) (ret := (some .int)) (by decide) rfl ?_
  intro p e s m args below meth c s₁ B hml hv
  obtain ⟨rfl, hsz, hP, hD0, hE, hB⟩ := hv
  have S : CallFix p m c cX12_steps 3 s _ GW RX12 := ⟨B.exec, B.bytes, hml, findClass_of_methodNamed B.named, fun w h => atoms_spec (ws := Cond.code yX12_steps cX12_steps 3 (some .int) :: GW) B.pre w (List.mem_cons_of_mem _ h)⟩
  have hlocks := B.notSynchronized
  subst hsz
  have hD := hD0.self (sz := s.heap.size)
  generalize hAe : va_A (wM G z0) s.heap.size = A at hD hE ⊢
  have hA : ∀ q : Nat, s.heap.size ≤ q → A q := fun q h => by rw [← hAe]; exact Or.inr h
  have hS : va_S A s.heap s.heap [] := va_S.rf
  have hl := lv_entry ([.ref (ad G 100), .ref (ad G 114), .int x2]) (n := 3) (Nat.le_of_ble_eq_true rfl)
  rw [lg_entry_eq]
  generalize (lg_sl ([.ref (ad G 100), .ref (ad G 114), .int x2]) ++ List.replicate (3 - (lg_sl ([.ref (ad G 100), .ref (ad G 114), .int x2])).length) Slot.unset).toArray = ls at hl ⊢
  have hl : lv_has ls 3 [(0, .ref (ad G 100)), (1, .ref (ad G 114)), (2, .int x2)] := hl
  refine w_M_steps_r114_0 S hE hA (Nat.le_refl _) (Nat.le_refl _) ?_ x2 z0 hB _ _ _ hP hD hS hl
  intro pc ls r σ H locs hd hp hP hD hS
  exact W.iret (v := r) B.exec B.bytes B.returns (fun t ht hW => ⟨⟨r, σ, rfl, hp, by rw [ht]; exact hP, hD⟩, hS.F ht⟩) hS.2.2 hd
def B_M_runs_7 (post : Int32 → St → Prop) (ih7 : Int32 → Int32 → St → Prop) (x1 : Int32) (x2 : Int32) (z0 : St) : Prop :=
  (vp_in x1 5 ∧ (((gA z0 112 x1.toNatClampNeg) ≤ x2 → (post x2 z0)) ∧ (¬ (gA z0 112 x1.toNatClampNeg) ≤ x2 → (S_M_canStep_r114 (fun (r2 : Int32) (z1 : St) => ((r2 = 0 → (post x2 z1)) ∧ (¬ r2 = 0 → (S_M_steps_r114 (fun (r4 : Int32) (z2 : St) => (∀ z3 : St, z3 = sI z2 120 ((gI z1 120) + r4) → (∀ v5 : Int32, v5 = x2 + (1 : Int32) → (ih7 x1 v5 z3)))) ((2 : Int32) * (((16 : Int32) * x1) + x2)) z1)))) ((2 : Int32) * (((16 : Int32) * x1) + x2)) z0))))
set_option maxHeartbeats 4000000 in
set_option maxRecDepth 100000 in
theorem w_M_runs_7 {p : Program} {l : Launch} {e : Env} {R : Room} {s : State} {m : MethodId} {args : Array Value} {below : List Frame} {meth : Method} {c : Code} {Q : State → Prop} {G : GX} {A : Nat → Prop} (S : CallFix p m c cX12_runs 3 s args GW RX12) (hE : env G A s s.heap) (hA : ∀ q, s.heap.size ≤ q → A q) (hRf : 64 ≤ R.frames) (hRl : 1796 ≤ R.locals) {post : Int32 → St → Prop} (hret : RetI p l e R s m args below meth c Q 0 0 wM G A cX12_runs post) {ih7 : Int32 → Int32 → St → Prop} (h7 : ∀ (x1 : Int32) (x2 : Int32) (z0 : St), ih7 x1 x2 z0 → Xw p l e R s m args below meth c Q 0 0 wM G A z0 3 [(0, .ref (ad G 100)), (1, .int x1), (2, .int x2)] 7 []) (x1 : Int32) (x2 : Int32) (z0 : St) (hB : B_M_runs_7 post ih7 x1 x2 z0) : Xw p l e R s m args below meth c Q 0 0 wM G A z0 3 [(0, .ref (ad G 100)), (1, .int x1), (2, .int x2)] 7 [] := by
  intro H locs ls hP hD hS hl
  have hx := S.1
  have hb := S.2.1
  refine lv_iload_n hx hb dX12_runs_7 rfl (lv_at hl 2 rfl) ?_
  refine lv_aload_n hx hb dX12_runs_8 rfl (lv_at hl 0 rfl) ?_
  refine xMg_100_winterLong S hE hP lk_X12_58 dX12_runs_9 ?_
  refine lv_iload_n hx hb dX12_runs_12 rfl (lv_at hl 1 rfl) ?_
  obtain ⟨hi, hB⟩ := hB
  refine xMl_112 S hE hP hi dX12_runs_13 ?_
  refine lv_icmp_ge (tgt := 67) hx hb dX12_runs_14 (by decide) (fun c1 => ?_) (fun c1 => ?_)
  · have hB := hB.1 c1
    refine lv_iload_n hx hb dX12_runs_67 rfl (lv_at hl 2 rfl) ?_
    exact hret _ _ _ _ _ _ dX12_runs_68 hB hP hD hS
  · have hB := hB.2 c1
    refine lv_aload_n hx hb dX12_runs_17 rfl (lv_at hl 0 rfl) ?_
    refine lv_aload_n hx hb dX12_runs_18 rfl (lv_at hl 0 rfl) ?_
    refine xMg_100_trial S hE hP lk_X12_64 dX12_runs_19 ?_
    refine lv_iconst (v := 2) hx hb dX12_runs_22 (by decide) ?_
    refine lv_bipush (v := 16) hx hb dX12_runs_23 (by decide) ?_
    refine lv_iload_n hx hb dX12_runs_25 rfl (lv_at hl 1 rfl) ?_
    refine lv_imul hx hb dX12_runs_26 ?_
    refine lv_iload_n hx hb dX12_runs_27 rfl (lv_at hl 2 rfl) ?_
    refine lv_iadd hx hb dX12_runs_28 ?_
    refine lv_imul hx hb dX12_runs_29 ?_
    refine xcVi [.ref (ad G 114), .int ((2 : Int32) * (((16 : Int32) * x1) + x2))] S hE hA hP hD hS (c_M_canStep_r114 l G z0 H.size ((2 : Int32) * (((16 : Int32) * x1) + x2)) _) hB (gw_c lk_X12_373 (gw_c wi_X12_canStep (gw_c we_X12_X12_canStep_X12_canStep (gw_c wn_X12 (gw_c wc_X12_canStep (fun _ h9 => h9)))))) hd_X12_canStep rfl rfl (Nat.le_trans (Nat.le_of_ble_eq_true rfl) hRf) (Nat.le_trans (Nat.le_of_ble_eq_true rfl) hRl) ⟨Nat.zero_le _, Nat.zero_le _⟩ (va_recv hE.1 hP (ci := 11) (q0 := 0) rfl rfl) rfl hl.1 rfl (Nat.le_of_ble_eq_true rfl) dX12_runs_30 (fun r2 z1 H locs hB hP hD hS => ?_)
    refine lv_if_eq (tgt := 67) hx hb dX12_runs_33 (by decide) (fun c3 => ?_) (fun c3 => ?_)
    · have hB := hB.1 c3
      refine lv_iload_n hx hb dX12_runs_67 rfl (lv_at hl 2 rfl) ?_
      exact hret _ _ _ _ _ _ dX12_runs_68 hB hP hD hS
    · have hB := hB.2 c3
      refine lv_aload_n hx hb dX12_runs_36 rfl (lv_at hl 0 rfl) ?_
      refine lv_dup hx hb dX12_runs_37 rfl ?_
      refine xMg_100_ranJoy S hE hP lk_X12_370 dX12_runs_38 ?_
      refine lv_aload_n hx hb dX12_runs_41 rfl (lv_at hl 0 rfl) ?_
      refine lv_aload_n hx hb dX12_runs_42 rfl (lv_at hl 0 rfl) ?_
      refine xMg_100_trial S hE hP lk_X12_64 dX12_runs_43 ?_
      refine lv_iconst (v := 2) hx hb dX12_runs_46 (by decide) ?_
      refine lv_bipush (v := 16) hx hb dX12_runs_47 (by decide) ?_
      refine lv_iload_n hx hb dX12_runs_49 rfl (lv_at hl 1 rfl) ?_
      refine lv_imul hx hb dX12_runs_50 ?_
      refine lv_iload_n hx hb dX12_runs_51 rfl (lv_at hl 2 rfl) ?_
      refine lv_iadd hx hb dX12_runs_52 ?_
      refine lv_imul hx hb dX12_runs_53 ?_
      refine xcVi [.ref (ad G 114), .int ((2 : Int32) * (((16 : Int32) * x1) + x2))] S hE hA hP hD hS (c_M_steps_r114 l G z1 H.size ((2 : Int32) * (((16 : Int32) * x1) + x2)) _) hB (gw_c lk_X12_376 (gw_c wi_X12_steps (gw_c we_X12_X12_steps_X12_steps (gw_c wn_X12 (gw_c wc_X12_steps (fun _ h9 => h9)))))) hd_X12_steps rfl rfl (Nat.le_trans (Nat.le_of_ble_eq_true rfl) hRf) (Nat.le_trans (Nat.le_of_ble_eq_true rfl) hRl) ⟨Nat.zero_le _, Nat.zero_le _⟩ (va_recv hE.1 hP (ci := 11) (q0 := 0) rfl rfl) rfl hl.1 rfl (Nat.le_of_ble_eq_true rfl) dX12_runs_54 (fun r4 z2 H locs hB hP hD hS => ?_)
      refine lv_iadd hx hb dX12_runs_57 ?_
      obtain ⟨z3, ez3⟩ : ∃ z9, z9 = sI z2 120 ((gI z1 120) + r4) := ⟨_, rfl⟩
      have hB := hB z3 ez3
      refine xMp_100_ranJoy S hE hP hD hS lk_X12_370 dX12_runs_58 (fun H locs hP hD hS => ?_)
      rw [← ez3] at hP hD
      obtain ⟨v5, ev5⟩ : ∃ y9, y9 = x2 + (1 : Int32) := ⟨_, rfl⟩
      have hB := hB v5 ev5
      refine lv_iinc (v := v5) (lv' := [(2, .int v5), (0, .ref (ad G 100)), (1, .int x1)]) hx hb dX12_runs_61 hl (k := 2) rfl (by rw [ev5]; rfl) (by decide) rfl (fun ls hl => ?_)
      refine lv_goto (tgt := 7) hx hb dX12_runs_64 (by decide) ?_
      exact h7 x1 v5 z3 hB _ _ _ hP hD hS (lv_sub hl [1, 2, 0] rfl)
def L_M_runs_7 (post : Int32 → St → Prop) : Nat → Int32 → Int32 → St → Prop
  | 0 => fun _ _ _ => False
  | n + 1 => B_M_runs_7 post (L_M_runs_7 post n)
theorem wl_M_runs_7 {p : Program} {l : Launch} {e : Env} {R : Room} {s : State} {m : MethodId} {args : Array Value} {below : List Frame} {meth : Method} {c : Code} {Q : State → Prop} {G : GX} {A : Nat → Prop} (S : CallFix p m c cX12_runs 3 s args GW RX12) (hE : env G A s s.heap) (hA : ∀ q, s.heap.size ≤ q → A q) (hRf : 64 ≤ R.frames) (hRl : 1796 ≤ R.locals) {post : Int32 → St → Prop} (hret : RetI p l e R s m args below meth c Q 0 0 wM G A cX12_runs post) : ∀ (n : Nat) (x1 : Int32) (x2 : Int32) (z0 : St), L_M_runs_7 post n x1 x2 z0 → Xw p l e R s m args below meth c Q 0 0 wM G A z0 3 [(0, .ref (ad G 100)), (1, .int x1), (2, .int x2)] 7 [] := by
  intro n
  induction n with
  | zero => intro x1 x2 z0 hB; exact absurd hB id
  | succ n ih => exact fun x1 x2 z0 hB => w_M_runs_7 S hE hA hRf hRl hret ih x1 x2 z0 hB
def S_M_runs (post : Int32 → St → Prop) (x1 : Int32) (z0 : St) : Prop :=
  (∀ z1 : St, z1 = sI z0 120 (0 : Int32) → (∃ n1, L_M_runs_7 post n1 x1 (0 : Int32) z1))
set_option maxHeartbeats 4000000 in
set_option maxRecDepth 100000 in
theorem w_M_runs_0 {p : Program} {l : Launch} {e : Env} {R : Room} {s : State} {m : MethodId} {args : Array Value} {below : List Frame} {meth : Method} {c : Code} {Q : State → Prop} {G : GX} {A : Nat → Prop} (S : CallFix p m c cX12_runs 3 s args GW RX12) (hE : env G A s s.heap) (hA : ∀ q, s.heap.size ≤ q → A q) (hRf : 64 ≤ R.frames) (hRl : 1796 ≤ R.locals) {post : Int32 → St → Prop} (hret : RetI p l e R s m args below meth c Q 0 0 wM G A cX12_runs post) (x1 : Int32) (z0 : St) (hB : S_M_runs post x1 z0) : Xw p l e R s m args below meth c Q 0 0 wM G A z0 3 [(0, .ref (ad G 100)), (1, .int x1)] 0 [] := by
  intro H locs ls hP hD hS hl
  have hx := S.1
  have hb := S.2.1
  refine lv_iconst (v := 0) hx hb dX12_runs_0 (by decide) ?_
  refine lv_istore_n (lv' := [(2, .int (0 : Int32)), (0, .ref (ad G 100)), (1, .int x1)]) hx hb dX12_runs_1 rfl hl (by decide) rfl (fun ls hl => ?_)
  refine lv_aload_n hx hb dX12_runs_2 rfl (lv_at hl 1 rfl) ?_
  refine lv_iconst (v := 0) hx hb dX12_runs_3 (by decide) ?_
  obtain ⟨z1, ez1⟩ : ∃ z9, z9 = sI z0 120 (0 : Int32) := ⟨_, rfl⟩
  have hB := hB z1 ez1
  refine xMp_100_ranJoy S hE hP hD hS lk_X12_370 dX12_runs_4 (fun H locs hP hD hS => ?_)
  rw [← ez1] at hP hD
  obtain ⟨n1, hB⟩ := hB
  exact wl_M_runs_7 S hE hA hRf hRl hret n1 x1 (0 : Int32) z1 hB _ _ _ hP hD hS (lv_sub hl [1, 2, 0] rfl)
set_option maxHeartbeats 4000000 in
set_option maxRecDepth 100000 in
theorem c_M_runs (l : Launch) (G : GX) (z0 : St) (sz : Nat) (x1 : Int32) (post : Int32 → St → Prop) : MetI l wM yX12_runs cX12_runs 3 (some .int) ({ frames := 64, cells := 0, slots := 0, locals := 1796 }) [.ref (ad G 100), .int x1] G z0 sz (S_M_runs post x1 z0) post := by
  refine Met.ofW (cc := cX12_runs) (maxL := 3) (ret := (some .int)) (by decide) rfl ?_
  intro p e s m args below meth c s₁ B hml hv
  obtain ⟨rfl, hsz, hP, hD0, hE, hB⟩ := hv
  have S : CallFix p m c cX12_runs 3 s _ GW RX12 := ⟨B.exec, B.bytes, hml, findClass_of_methodNamed B.named, fun w h => atoms_spec (ws := Cond.code yX12_runs cX12_runs 3 (some .int) :: GW) B.pre w (List.mem_cons_of_mem _ h)⟩
  have hlocks := B.notSynchronized
  subst hsz
  have hD := hD0.self (sz := s.heap.size)
  generalize hAe : va_A (wM G z0) s.heap.size = A at hD hE ⊢
  have hA : ∀ q : Nat, s.heap.size ≤ q → A q := fun q h => by rw [← hAe]; exact Or.inr h
  have hS : va_S A s.heap s.heap [] := va_S.rf
  have hl := lv_entry ([.ref (ad G 100), .int x1]) (n := 3) (Nat.le_of_ble_eq_true rfl)
  rw [lg_entry_eq]
  generalize (lg_sl ([.ref (ad G 100), .int x1]) ++ List.replicate (3 - (lg_sl ([.ref (ad G 100), .int x1])).length) Slot.unset).toArray = ls at hl ⊢
  have hl : lv_has ls 3 [(0, .ref (ad G 100)), (1, .int x1)] := hl
  refine w_M_runs_0 S hE hA (Nat.le_refl _) (Nat.le_refl _) ?_ x1 z0 hB _ _ _ hP hD hS hl
  intro pc ls r σ H locs hd hp hP hD hS
  exact W.iret (v := r) B.exec B.bytes B.returns (fun t ht hW => ⟨⟨r, σ, rfl, hp, by rw [ht]; exact hP, hD⟩, hS.F ht⟩) hS.2.2 hd
def S_M_run (post : Int32 → St → Prop) (x1 : Int32) (x2 : Int32) (z0 : St) : Prop :=
  (∀ z1 : St, z1 = sI z0 100 (0 : Int32) → (S_M_isWinter (fun (r1 : Int32) (z2 : St) => ((r1 = 0 → (post (-1000000 : Int32) z2)) ∧ (¬ r1 = 0 → (((gI z2 112) = 0 → (post (-1000000 : Int32) z2)) ∧ (¬ (gI z2 112) = 0 → (S_M_isIn (fun (r4 : Int32) (z3 : St) => ((r4 = 0 → (post (-1000000 : Int32) z3)) ∧ (¬ r4 = 0 → (S_M_copy_r113_r114 (fun (z4 : St) => (S_M_runs (fun (r6 : Int32) (z5 : St) => ((x2 = (1 : Int32) → (post (gI z5 120) z5)) ∧ (¬ x2 = (1 : Int32) → (vp_in x1 5 ∧ ((r6 = (gA z5 112 x1.toNatClampNeg) → (post (-1 : Int32) z5)) ∧ (¬ r6 = (gA z5 112 x1.toNatClampNeg) → (post r6 z5))))))) x1 z4)) z3)))) ((x2).toInt64) (0 : Int64) (1 : Int64) z2)))))) x1 z1))
set_option maxHeartbeats 4000000 in
set_option maxRecDepth 100000 in
theorem w_M_run_0 {p : Program} {l : Launch} {e : Env} {R : Room} {s : State} {m : MethodId} {args : Array Value} {below : List Frame} {meth : Method} {c : Code} {Q : State → Prop} {G : GX} {A : Nat → Prop} (S : CallFix p m c cX12_run 4 s args GW RX12) (hE : env G A s s.heap) (hA : ∀ q, s.heap.size ≤ q → A q) (hRf : 65 ≤ R.frames) (hRl : 1818 ≤ R.locals) {post : Int32 → St → Prop} (hret : RetI p l e R s m args below meth c Q 0 0 wM G A cX12_run post) (x1 : Int32) (x2 : Int32) (z0 : St) (hB : S_M_run post x1 x2 z0) : Xw p l e R s m args below meth c Q 0 0 wM G A z0 4 [(0, .ref (ad G 100)), (1, .int x1), (2, .int x2)] 0 [] := by
  intro H locs ls hP hD hS hl
  have hx := S.1
  have hb := S.2.1
  refine lv_aload_n hx hb dX12_run_0 rfl (lv_at hl 0 rfl) ?_
  refine lv_iconst (v := 0) hx hb dX12_run_1 (by decide) ?_
  obtain ⟨z1, ez1⟩ : ∃ z9, z9 = sI z0 100 (0 : Int32) := ⟨_, rfl⟩
  have hB := hB z1 ez1
  refine xMp_100_thrown S hE hP hD hS lk_X12_89 dX12_run_2 (fun H locs hP hD hS => ?_)
  rw [← ez1] at hP hD
  refine lv_aload_n hx hb dX12_run_5 rfl (lv_at hl 0 rfl) ?_
  refine lv_iload_n hx hb dX12_run_6 rfl (lv_at hl 1 rfl) ?_
  refine xcVi [.int x1] S hE hA hP hD hS (c_M_isWinter l G z1 H.size x1 _) hB (gw_c lk_X12_367 (gw_c wi_X12_isWinter (gw_c we_X12_X12_isWinter_X12_isWinter (gw_c wn_X12 (gw_c wc_X12_isWinter (fun _ h9 => h9)))))) hd_X12_isWinter rfl rfl (Nat.le_trans (Nat.le_of_ble_eq_true rfl) hRf) (Nat.le_trans (Nat.le_of_ble_eq_true rfl) hRl) ⟨Nat.zero_le _, Nat.zero_le _⟩ (va_recv hE.1 hP (ci := 11) (q0 := 0) rfl rfl) rfl hl.1 rfl (Nat.le_of_ble_eq_true rfl) dX12_run_7 (fun r1 z2 H locs hB hP hD hS => ?_)
  refine lv_if_eq (tgt := 30) hx hb dX12_run_10 (by decide) (fun c2 => ?_) (fun c2 => ?_)
  · have hB := hB.1 c2
    refine lv_ldcw hx hb S.2.2.2.1 (S.2.2.2.2 _ lk_X12_366) dX12_run_30 ?_
    exact hret _ _ _ _ _ _ dX12_run_33 hB hP hD hS
  · have hB := hB.2 c2
    refine lv_aload_n hx hb dX12_run_13 rfl (lv_at hl 0 rfl) ?_
    refine xMg_100_guests S hE hP lk_X12_284 dX12_run_14 ?_
    refine lv_if_eq (tgt := 30) hx hb dX12_run_17 (by decide) (fun c3 => ?_) (fun c3 => ?_)
    · have hB := hB.1 c3
      refine lv_ldcw hx hb S.2.2.2.1 (S.2.2.2.2 _ lk_X12_366) dX12_run_30 ?_
      exact hret _ _ _ _ _ _ dX12_run_33 hB hP hD hS
    · have hB := hB.2 c3
      refine lv_iload_n hx hb dX12_run_20 rfl (lv_at hl 2 rfl) ?_
      refine lv_i2l hx hb dX12_run_21 rfl ?_
      refine lv_lconst (v := 0) hx hb dX12_run_22 (by decide) ?_
      refine lv_lconst (v := 1) hx hb dX12_run_23 (by decide) ?_
      refine xcSi [.long ((x2).toInt64), .long (0 : Int64), .long (1 : Int64)] S hE hA hP hD hS (c_M_isIn l G z2 H.size ((x2).toInt64) (0 : Int64) (1 : Int64) _) hB (gw_c lk_X12_260 (gw_c wt_X12_isIn (gw_c wn_X12 (gw_c wc_X12_isIn (fun _ h9 => h9))))) hs_X12_isIn rfl rfl (Nat.le_trans (Nat.le_of_ble_eq_true rfl) hRf) (Nat.le_trans (Nat.le_of_ble_eq_true rfl) hRl) ⟨Nat.zero_le _, Nat.zero_le _⟩ rfl hl.1 rfl (Nat.le_of_ble_eq_true rfl) dX12_run_24 (fun r4 z3 H locs hB hP hD hS => ?_)
      refine lv_if_ne (tgt := 34) hx hb dX12_run_27 (by decide) (fun c5 => ?_) (fun c5 => ?_)
      · have hB := hB.2 c5
        refine lv_aload_n hx hb dX12_run_34 rfl (lv_at hl 0 rfl) ?_
        refine xMg_100_now S hE hP lk_X12_61 dX12_run_35 ?_
        refine lv_aload_n hx hb dX12_run_38 rfl (lv_at hl 0 rfl) ?_
        refine xMg_100_trial S hE hP lk_X12_64 dX12_run_39 ?_
        refine xcSv [.ref (ad G 113), .ref (ad G 114)] S hE hA hP hD hS (c_M_copy_r113_r114 l G z3 H.size _) hB (gw_c lk_X12_379 (gw_c wt_X12_copy (gw_c wn_X12 (gw_c wc_X12_copy (fun _ h9 => h9))))) hs_X12_copy rfl rfl (Nat.le_trans (Nat.le_of_ble_eq_true rfl) hRf) (Nat.le_trans (Nat.le_of_ble_eq_true rfl) hRl) ⟨Nat.zero_le _, Nat.zero_le _⟩ rfl hl.1 rfl (Nat.le_of_ble_eq_true rfl) dX12_run_42 (fun z4 H locs hB hP hD hS => ?_)
        refine lv_aload_n hx hb dX12_run_45 rfl (lv_at hl 0 rfl) ?_
        refine lv_iload_n hx hb dX12_run_46 rfl (lv_at hl 1 rfl) ?_
        refine xcVi [.int x1] S hE hA hP hD hS (c_M_runs l G z4 H.size x1 _) hB (gw_c lk_X12_383 (gw_c wi_X12_runs (gw_c we_X12_X12_runs_X12_runs (gw_c wn_X12 (gw_c wc_X12_runs (fun _ h9 => h9)))))) hd_X12_runs rfl rfl (Nat.le_trans (Nat.le_of_ble_eq_true rfl) hRf) (Nat.le_trans (Nat.le_of_ble_eq_true rfl) hRl) ⟨Nat.zero_le _, Nat.zero_le _⟩ (va_recv hE.1 hP (ci := 11) (q0 := 0) rfl rfl) rfl hl.1 rfl (Nat.le_of_ble_eq_true rfl) dX12_run_47 (fun r6 z5 H locs hB hP hD hS => ?_)
        refine lv_istore_n (lv' := [(3, .int r6), (0, .ref (ad G 100)), (1, .int x1), (2, .int x2)]) hx hb dX12_run_50 rfl hl (by decide) rfl (fun ls hl => ?_)
        refine lv_iload_n hx hb dX12_run_51 rfl (lv_at hl 3 rfl) ?_
        refine lv_iconst (v := 1) hx hb dX12_run_52 (by decide) ?_
        refine lv_icmp_ne (tgt := 61) hx hb dX12_run_53 (by decide) (fun c7 => ?_) (fun c7 => ?_)
        · have hB := hB.2 c7
          refine lv_iload_n hx hb dX12_run_61 rfl (lv_at hl 0 rfl) ?_
          refine lv_aload_n hx hb dX12_run_62 rfl (lv_at hl 1 rfl) ?_
          refine xMg_100_winterLong S hE hP lk_X12_58 dX12_run_63 ?_
          refine lv_iload_n hx hb dX12_run_66 rfl (lv_at hl 2 rfl) ?_
          obtain ⟨hi, hB⟩ := hB
          refine xMl_112 S hE hP hi dX12_run_67 ?_
          refine lv_icmp_ne (tgt := 75) hx hb dX12_run_68 (by decide) (fun c8 => ?_) (fun c8 => ?_)
          · have hB := hB.2 c8
            refine lv_iload_n hx hb dX12_run_75 rfl (lv_at hl 0 rfl) ?_
            exact hret _ _ _ _ _ _ dX12_run_76 hB hP hD hS
          · have hB := hB.1 c8
            refine lv_iconst (v := -1) hx hb dX12_run_71 (by decide) ?_
            refine lv_goto (tgt := 76) hx hb dX12_run_72 (by decide) ?_
            exact hret _ _ _ _ _ _ dX12_run_76 hB hP hD hS
        · have hB := hB.1 c7
          refine lv_aload_n hx hb dX12_run_56 rfl (lv_at hl 1 rfl) ?_
          refine xMg_100_ranJoy S hE hP lk_X12_370 dX12_run_57 ?_
          exact hret _ _ _ _ _ _ dX12_run_60 hB hP hD hS
      · have hB := hB.1 c5
        refine lv_ldcw hx hb S.2.2.2.1 (S.2.2.2.2 _ lk_X12_366) dX12_run_30 ?_
        exact hret _ _ _ _ _ _ dX12_run_33 hB hP hD hS
set_option maxHeartbeats 4000000 in
set_option maxRecDepth 100000 in
theorem c_M_run (l : Launch) (G : GX) (z0 : St) (sz : Nat) (x1 : Int32) (x2 : Int32) (post : Int32 → St → Prop) : MetI l wM yX12_run cX12_run 4 (some .int) ({ frames := 65, cells := 0, slots := 0, locals := 1818 }) [.ref (ad G 100), .int x1, .int x2] G z0 sz (S_M_run post x1 x2 z0) post := by
  refine Met.ofW (cc := cX12_run) (maxL := 4) (ret := (some .int)) (by decide) rfl ?_
  intro p e s m args below meth c s₁ B hml hv
  obtain ⟨rfl, hsz, hP, hD0, hE, hB⟩ := hv
  have S : CallFix p m c cX12_run 4 s _ GW RX12 := ⟨B.exec, B.bytes, hml, findClass_of_methodNamed B.named, fun w h => atoms_spec (ws := Cond.code yX12_run cX12_run 4 (some .int) :: GW) B.pre w (List.mem_cons_of_mem _ h)⟩
  have hlocks := B.notSynchronized
  subst hsz
  have hD := hD0.self (sz := s.heap.size)
  generalize hAe : va_A (wM G z0) s.heap.size = A at hD hE ⊢
  have hA : ∀ q : Nat, s.heap.size ≤ q → A q := fun q h => by rw [← hAe]; exact Or.inr h
  have hS : va_S A s.heap s.heap [] := va_S.rf
  have hl := lv_entry ([.ref (ad G 100), .int x1, .int x2]) (n := 4) (Nat.le_of_ble_eq_true rfl)
  rw [lg_entry_eq]
  generalize (lg_sl ([.ref (ad G 100), .int x1, .int x2]) ++ List.replicate (4 - (lg_sl ([.ref (ad G 100), .int x1, .int x2])).length) Slot.unset).toArray = ls at hl ⊢
  have hl : lv_has ls 4 [(0, .ref (ad G 100)), (1, .int x1), (2, .int x2)] := hl
  refine w_M_run_0 S hE hA (Nat.le_refl _) (Nat.le_refl _) ?_ x1 x2 z0 hB _ _ _ hP hD hS hl
  intro pc ls r σ H locs hd hp hP hD hS
  exact W.iret (v := r) B.exec B.bytes B.returns (fun t ht hW => ⟨⟨r, σ, rfl, hp, by rw [ht]; exact hP, hD⟩, hS.F ht⟩) hS.2.2 hd
def S_M_canStep_r113 (post : Int32 → St → Prop) (x2 : Int32) (z0 : St) : Prop :=
  (vp_in x2 160 ∧ (((gA z0 111 x2.toNatClampNeg) = (0 : Int32) → (vp_in (x2 + (1 : Int32)) 160 ∧ (S_M_isGuest (fun (r1 : Int32) (z1 : St) => ((r1 = 0 ∨ r1 = 1) ∧ post r1 z1)) (gA z0 111 (x2 + (1 : Int32)).toNatClampNeg) z0))) ∧ (¬ (gA z0 111 x2.toNatClampNeg) = (0 : Int32) → (((gA z0 111 x2.toNatClampNeg) = (1 : Int32) → (((999 : Int32) ≤ (gA z0 113 25) → (post (0 : Int32) z0)) ∧ (¬ (999 : Int32) ≤ (gA z0 113 25) → (post (1 : Int32) z0)))) ∧ (¬ (gA z0 111 x2.toNatClampNeg) = (1 : Int32) → (vp_in (x2 + (1 : Int32)) 160 ∧ (S_M_canHost_r113 (fun (r3 : Int32) (z2 : St) => ((r3 = 0 ∨ r3 = 1) ∧ post r3 z2)) (gA z0 111 (x2 + (1 : Int32)).toNatClampNeg) z0)))))))
set_option maxHeartbeats 4000000 in
set_option maxRecDepth 100000 in
theorem w_M_canStep_r113_0 {p : Program} {l : Launch} {e : Env} {R : Room} {s : State} {m : MethodId} {args : Array Value} {below : List Frame} {meth : Method} {c : Code} {Q : State → Prop} {G : GX} {A : Nat → Prop} (S : CallFix p m c cX12_canStep 3 s args GW RX12) (hE : env G A s s.heap) (hA : ∀ q, s.heap.size ≤ q → A q) (hRf : 2 ≤ R.frames) (hRl : 43 ≤ R.locals) {post : Int32 → St → Prop} (hret : RetZ p l e R s m args below meth c Q 0 0 wM G A cX12_canStep post) (x2 : Int32) (z0 : St) (hB : S_M_canStep_r113 post x2 z0) : Xw p l e R s m args below meth c Q 0 0 wM G A z0 3 [(0, .ref (ad G 100)), (1, .ref (ad G 113)), (2, .int x2)] 0 [] := by
  intro H locs ls hP hD hS hl
  have hx := S.1
  have hb := S.2.1
  refine lv_aload_n hx hb dX12_canStep_0 rfl (lv_at hl 0 rfl) ?_
  refine xMg_100_winter S hE hP lk_X12_55 dX12_canStep_1 ?_
  refine lv_iload_n hx hb dX12_canStep_4 rfl (lv_at hl 2 rfl) ?_
  obtain ⟨hi, hB⟩ := hB
  refine xMl_111 S hE hP hi dX12_canStep_5 ?_
  -- switch
  by_cases q0 : (gA z0 111 x2.toNatClampNeg) = (0 : Int32)
  · have hB := hB.1 q0
    refine lv_lookup (tgt := 32) (off := 26) hx hb dX12_canStep_6 (by decide) (by rw [q0]; decide) (by decide) ?_
    refine lv_aload_n hx hb dX12_canStep_32 rfl (lv_at hl 0 rfl) ?_
    refine lv_aload_n hx hb dX12_canStep_33 rfl (lv_at hl 0 rfl) ?_
    refine xMg_100_winter S hE hP lk_X12_55 dX12_canStep_34 ?_
    refine lv_iload_n hx hb dX12_canStep_37 rfl (lv_at hl 2 rfl) ?_
    refine lv_iconst (v := 1) hx hb dX12_canStep_38 (by decide) ?_
    refine lv_iadd hx hb dX12_canStep_39 ?_
    obtain ⟨hi, hB⟩ := hB
    refine xMl_111 S hE hP hi dX12_canStep_40 ?_
    refine xcVi [.int (gA z0 111 (x2 + (1 : Int32)).toNatClampNeg)] S hE hA hP hD hS (c_M_isGuest l G z0 H.size (gA z0 111 (x2 + (1 : Int32)).toNatClampNeg) _) hB (gw_c lk_X12_322 (gw_c wi_X12_isGuest (gw_c we_X12_X12_isGuest_X12_isGuest (gw_c wn_X12 (gw_c wc_X12_isGuest (fun _ h9 => h9)))))) hd_X12_isGuest rfl rfl (Nat.le_trans (Nat.le_of_ble_eq_true rfl) hRf) (Nat.le_trans (Nat.le_of_ble_eq_true rfl) hRl) ⟨Nat.zero_le _, Nat.zero_le _⟩ (va_recv hE.1 hP (ci := 11) (q0 := 0) rfl rfl) rfl hl.1 rfl (Nat.le_of_ble_eq_true rfl) dX12_canStep_41 (fun r1 z1 H locs hB hP hD hS => ?_)
    exact hret _ _ _ _ _ _ dX12_canStep_44 hB hP hD hS
  have hB := hB.2 q0
  by_cases q1 : (gA z0 111 x2.toNatClampNeg) = (1 : Int32)
  · have hB := hB.1 q1
    refine lv_lookup (tgt := 45) (off := 39) hx hb dX12_canStep_6 (by decide) (by rw [q1]; decide) (by decide) ?_
    refine lv_aload_n hx hb dX12_canStep_45 rfl (lv_at hl 1 rfl) ?_
    refine lv_bipush (v := 25) hx hb dX12_canStep_46 (by decide) ?_
    refine xMk_113 S hE hP 25 (by decide) (by unfold vp_in; decide) dX12_canStep_48 ?_
    refine lv_sipush (v := 999) hx hb dX12_canStep_49 (by decide) ?_
    refine lv_icmp_ge (tgt := 59) hx hb dX12_canStep_52 (by decide) (fun c2 => ?_) (fun c2 => ?_)
    · have hB := hB.1 c2
      refine lv_iconst (v := 0) hx hb dX12_canStep_59 (by decide) ?_
      exact hret _ _ _ _ _ _ dX12_canStep_60 ⟨by decide, hB⟩ hP hD hS
    · have hB := hB.2 c2
      refine lv_iconst (v := 1) hx hb dX12_canStep_55 (by decide) ?_
      refine lv_goto (tgt := 60) hx hb dX12_canStep_56 (by decide) ?_
      exact hret _ _ _ _ _ _ dX12_canStep_60 ⟨by decide, hB⟩ hP hD hS
  have hB := hB.2 q1
  have t0 := lv_neT q0 (show ((0 : Int32)).toInt = 0 by decide)
  have t1 := lv_neT q1 (show ((1 : Int32)).toInt = 1 by decide)
  refine lv_lookup (tgt := 61) (off := 55) hx hb dX12_canStep_6 (by decide) (by simp only [Op.lookupswitch.offset, if_neg (Ne.symm t0), if_neg (Ne.symm t1)]) (by decide) ?_
  refine lv_aload_n hx hb dX12_canStep_61 rfl (lv_at hl 0 rfl) ?_
  refine lv_aload_n hx hb dX12_canStep_62 rfl (lv_at hl 1 rfl) ?_
  refine lv_aload_n hx hb dX12_canStep_63 rfl (lv_at hl 0 rfl) ?_
  refine xMg_100_winter S hE hP lk_X12_55 dX12_canStep_64 ?_
  refine lv_iload_n hx hb dX12_canStep_67 rfl (lv_at hl 2 rfl) ?_
  refine lv_iconst (v := 1) hx hb dX12_canStep_68 (by decide) ?_
  refine lv_iadd hx hb dX12_canStep_69 ?_
  obtain ⟨hi, hB⟩ := hB
  refine xMl_111 S hE hP hi dX12_canStep_70 ?_
  refine xcVi [.ref (ad G 113), .int (gA z0 111 (x2 + (1 : Int32)).toNatClampNeg)] S hE hA hP hD hS (c_M_canHost_r113 l G z0 H.size (gA z0 111 (x2 + (1 : Int32)).toNatClampNeg) _) hB (gw_c lk_X12_340 (gw_c wi_X12_canHost (gw_c we_X12_X12_canHost_X12_canHost (gw_c wn_X12 (gw_c wc_X12_canHost (fun _ h9 => h9)))))) hd_X12_canHost rfl rfl (Nat.le_trans (Nat.le_of_ble_eq_true rfl) hRf) (Nat.le_trans (Nat.le_of_ble_eq_true rfl) hRl) ⟨Nat.zero_le _, Nat.zero_le _⟩ (va_recv hE.1 hP (ci := 11) (q0 := 0) rfl rfl) rfl hl.1 rfl (Nat.le_of_ble_eq_true rfl) dX12_canStep_71 (fun r3 z2 H locs hB hP hD hS => ?_)
  exact hret _ _ _ _ _ _ dX12_canStep_74 hB hP hD hS
set_option maxHeartbeats 4000000 in
set_option maxRecDepth 100000 in
theorem c_M_canStep_r113 (l : Launch) (G : GX) (z0 : St) (sz : Nat) (x2 : Int32) (post : Int32 → St → Prop) : MetI l wM yX12_canStep cX12_canStep 3 (some .boolean) ({ frames := 2, cells := 0, slots := 0, locals := 43 }) [.ref (ad G 100), .ref (ad G 113), .int x2] G z0 sz (S_M_canStep_r113 post x2 z0) post := by
  refine Met.ofW (cc := cX12_canStep) (maxL := 3) (ret := (some .boolean)) (by decide) rfl ?_
  intro p e s m args below meth c s₁ B hml hv
  obtain ⟨rfl, hsz, hP, hD0, hE, hB⟩ := hv
  have S : CallFix p m c cX12_canStep 3 s _ GW RX12 := ⟨B.exec, B.bytes, hml, findClass_of_methodNamed B.named, fun w h => atoms_spec (ws := Cond.code yX12_canStep cX12_canStep 3 (some .boolean) :: GW) B.pre w (List.mem_cons_of_mem _ h)⟩
  have hlocks := B.notSynchronized
  subst hsz
  have hD := hD0.self (sz := s.heap.size)
  generalize hAe : va_A (wM G z0) s.heap.size = A at hD hE ⊢
  have hA : ∀ q : Nat, s.heap.size ≤ q → A q := fun q h => by rw [← hAe]; exact Or.inr h
  have hS : va_S A s.heap s.heap [] := va_S.rf
  have hl := lv_entry ([.ref (ad G 100), .ref (ad G 113), .int x2]) (n := 3) (Nat.le_of_ble_eq_true rfl)
  rw [lg_entry_eq]
  generalize (lg_sl ([.ref (ad G 100), .ref (ad G 113), .int x2]) ++ List.replicate (3 - (lg_sl ([.ref (ad G 100), .ref (ad G 113), .int x2])).length) Slot.unset).toArray = ls at hl ⊢
  have hl : lv_has ls 3 [(0, .ref (ad G 100)), (1, .ref (ad G 113)), (2, .int x2)] := hl
  refine w_M_canStep_r113_0 S hE hA (Nat.le_refl _) (Nat.le_refl _) ?_ x2 z0 hB _ _ _ hP hD hS hl
  intro pc ls r σ H locs hd hp hP hD hS
  exact W.zret (v := r) B.exec B.bytes B.returns (xboolc r hp.1) (fun t ht hW => ⟨⟨r, σ, rfl, hp.2, by rw [ht]; exact hP, hD⟩, hS.F ht⟩) hS.2.2 hd
def S_M_steps_r113 (post : Int32 → St → Prop) (x2 : Int32) (z0 : St) : Prop :=
  (vp_in x2 160 ∧ (((gA z0 111 x2.toNatClampNeg) = 0 → (vp_in (x2 + (1 : Int32)) 160 ∧ (S_M_visits_r113 (fun (r3 : Int32) (z3 : St) => (post r3 z3)) (gA z0 111 (x2 + (1 : Int32)).toNatClampNeg) z0))) ∧ (¬ (gA z0 111 x2.toNatClampNeg) = 0 → (vp_in x2 160 ∧ (((gA z0 111 x2.toNatClampNeg) = (1 : Int32) → (S_M_goMonth_r113 (fun (z2 : St) => (post (0 : Int32) z2)) z0)) ∧ (¬ (gA z0 111 x2.toNatClampNeg) = (1 : Int32) → (vp_in (x2 + (1 : Int32)) 160 ∧ (S_M_hosts_r113 (fun (z1 : St) => (post (0 : Int32) z1)) (gA z0 111 (x2 + (1 : Int32)).toNatClampNeg) z0))))))))
set_option maxHeartbeats 4000000 in
set_option maxRecDepth 100000 in
theorem w_M_steps_r113_0 {p : Program} {l : Launch} {e : Env} {R : Room} {s : State} {m : MethodId} {args : Array Value} {below : List Frame} {meth : Method} {c : Code} {Q : State → Prop} {G : GX} {A : Nat → Prop} (S : CallFix p m c cX12_steps 3 s args GW RX12) (hE : env G A s s.heap) (hA : ∀ q, s.heap.size ≤ q → A q) (hRf : 63 ≤ R.frames) (hRl : 1774 ≤ R.locals) {post : Int32 → St → Prop} (hret : RetI p l e R s m args below meth c Q 0 0 wM G A cX12_steps post) (x2 : Int32) (z0 : St) (hB : S_M_steps_r113 post x2 z0) : Xw p l e R s m args below meth c Q 0 0 wM G A z0 3 [(0, .ref (ad G 100)), (1, .ref (ad G 113)), (2, .int x2)] 0 [] := by
  intro H locs ls hP hD hS hl
  have hx := S.1
  have hb := S.2.1
  refine lv_aload_n hx hb dX12_steps_0 rfl (lv_at hl 0 rfl) ?_
  refine xMg_100_winter S hE hP lk_X12_55 dX12_steps_1 ?_
  refine lv_iload_n hx hb dX12_steps_4 rfl (lv_at hl 2 rfl) ?_
  obtain ⟨hi, hB⟩ := hB
  refine xMl_111 S hE hP hi dX12_steps_5 ?_
  refine lv_if_ne (tgt := 23) hx hb dX12_steps_6 (by decide) (fun c1 => ?_) (fun c1 => ?_)
  · have hB := hB.2 c1
    refine lv_aload_n hx hb dX12_steps_23 rfl (lv_at hl 0 rfl) ?_
    refine xMg_100_winter S hE hP lk_X12_55 dX12_steps_24 ?_
    refine lv_iload_n hx hb dX12_steps_27 rfl (lv_at hl 2 rfl) ?_
    obtain ⟨hi, hB⟩ := hB
    refine xMl_111 S hE hP hi dX12_steps_28 ?_
    refine lv_iconst (v := 1) hx hb dX12_steps_29 (by decide) ?_
    refine lv_icmp_ne (tgt := 41) hx hb dX12_steps_30 (by decide) (fun c2 => ?_) (fun c2 => ?_)
    · have hB := hB.2 c2
      refine lv_aload_n hx hb dX12_steps_41 rfl (lv_at hl 1 rfl) ?_
      refine lv_aload_n hx hb dX12_steps_42 rfl (lv_at hl 0 rfl) ?_
      refine xMg_100_winter S hE hP lk_X12_55 dX12_steps_43 ?_
      refine lv_iload_n hx hb dX12_steps_46 rfl (lv_at hl 2 rfl) ?_
      refine lv_iconst (v := 1) hx hb dX12_steps_47 (by decide) ?_
      refine lv_iadd hx hb dX12_steps_48 ?_
      obtain ⟨hi, hB⟩ := hB
      refine xMl_111 S hE hP hi dX12_steps_49 ?_
      refine xcSv [.ref (ad G 113), .int (gA z0 111 (x2 + (1 : Int32)).toNatClampNeg)] S hE hA hP hD hS (c_M_hosts_r113 l G z0 H.size (gA z0 111 (x2 + (1 : Int32)).toNatClampNeg) _) hB (gw_c lk_X12_344 (gw_c wt_X12_hosts (gw_c wn_X12 (gw_c wc_X12_hosts (fun _ h9 => h9))))) hs_X12_hosts rfl rfl (Nat.le_trans (Nat.le_of_ble_eq_true rfl) hRf) (Nat.le_trans (Nat.le_of_ble_eq_true rfl) hRl) ⟨Nat.zero_le _, Nat.zero_le _⟩ rfl hl.1 rfl (Nat.le_of_ble_eq_true rfl) dX12_steps_50 (fun z1 H locs hB hP hD hS => ?_)
      refine lv_iconst (v := 0) hx hb dX12_steps_53 (by decide) ?_
      exact hret _ _ _ _ _ _ dX12_steps_54 hB hP hD hS
    · have hB := hB.1 c2
      refine lv_aload_n hx hb dX12_steps_33 rfl (lv_at hl 0 rfl) ?_
      refine lv_aload_n hx hb dX12_steps_34 rfl (lv_at hl 1 rfl) ?_
      refine xcVv [.ref (ad G 113)] S hE hA hP hD hS (c_M_goMonth_r113 l G z0 H.size _) hB (gw_c lk_X12_336 (gw_c wi_X12_goMonth (gw_c we_X12_X12_goMonth_X12_goMonth (gw_c wn_X12 (gw_c wc_X12_goMonth (fun _ h9 => h9)))))) hd_X12_goMonth rfl rfl (Nat.le_trans (Nat.le_of_ble_eq_true rfl) hRf) (Nat.le_trans (Nat.le_of_ble_eq_true rfl) hRl) ⟨Nat.zero_le _, Nat.zero_le _⟩ (va_recv hE.1 hP (ci := 11) (q0 := 0) rfl rfl) rfl hl.1 rfl (Nat.le_of_ble_eq_true rfl) dX12_steps_35 (fun z2 H locs hB hP hD hS => ?_)
      refine lv_goto (tgt := 53) hx hb dX12_steps_38 (by decide) ?_
      refine lv_iconst (v := 0) hx hb dX12_steps_53 (by decide) ?_
      exact hret _ _ _ _ _ _ dX12_steps_54 hB hP hD hS
  · have hB := hB.1 c1
    refine lv_aload_n hx hb dX12_steps_9 rfl (lv_at hl 0 rfl) ?_
    refine lv_aload_n hx hb dX12_steps_10 rfl (lv_at hl 1 rfl) ?_
    refine lv_aload_n hx hb dX12_steps_11 rfl (lv_at hl 0 rfl) ?_
    refine xMg_100_winter S hE hP lk_X12_55 dX12_steps_12 ?_
    refine lv_iload_n hx hb dX12_steps_15 rfl (lv_at hl 2 rfl) ?_
    refine lv_iconst (v := 1) hx hb dX12_steps_16 (by decide) ?_
    refine lv_iadd hx hb dX12_steps_17 ?_
    obtain ⟨hi, hB⟩ := hB
    refine xMl_111 S hE hP hi dX12_steps_18 ?_
    refine xcVi [.ref (ad G 113), .int (gA z0 111 (x2 + (1 : Int32)).toNatClampNeg)] S hE hA hP hD hS (c_M_visits_r113 l G z0 H.size (gA z0 111 (x2 + (1 : Int32)).toNatClampNeg) _) hB (gw_c lk_X12_332 (gw_c wi_X12_visits (gw_c we_X12_X12_visits_X12_visits (gw_c wn_X12 (gw_c wc_X12_visits (fun _ h9 => h9)))))) hd_X12_visits rfl rfl (Nat.le_trans (Nat.le_of_ble_eq_true rfl) hRf) (Nat.le_trans (Nat.le_of_ble_eq_true rfl) hRl) ⟨Nat.zero_le _, Nat.zero_le _⟩ (va_recv hE.1 hP (ci := 11) (q0 := 0) rfl rfl) rfl hl.1 rfl (Nat.le_of_ble_eq_true rfl) dX12_steps_19 (fun r3 z3 H locs hB hP hD hS => ?_)
    exact hret _ _ _ _ _ _ dX12_steps_22 hB hP hD hS
set_option maxHeartbeats 4000000 in
set_option maxRecDepth 100000 in
theorem c_M_steps_r113 (l : Launch) (G : GX) (z0 : St) (sz : Nat) (x2 : Int32) (post : Int32 → St → Prop) : MetI l wM yX12_steps cX12_steps 3 (some .int) ({ frames := 63, cells := 0, slots := 0, locals := 1774 }) [.ref (ad G 100), .ref (ad G 113), .int x2] G z0 sz (S_M_steps_r113 post x2 z0) post := by
  refine Met.ofW (cc := cX12_steps) (maxL := 3) (ret := (some .int)) (by decide) rfl ?_
  intro p e s m args below meth c s₁ B hml hv
  obtain ⟨rfl, hsz, hP, hD0, hE, hB⟩ := hv
  have S : CallFix p m c cX12_steps 3 s _ GW RX12 := ⟨B.exec, B.bytes, hml, findClass_of_methodNamed B.named, fun w h => atoms_spec (ws := Cond.code yX12_steps cX12_steps 3 (some .int) :: GW) B.pre w (List.mem_cons_of_mem _ h)⟩
  have hlocks := B.notSynchronized
  subst hsz
  have hD := hD0.self (sz := s.heap.size)
  generalize hAe : va_A (wM G z0) s.heap.size = A at hD hE ⊢
  have hA : ∀ q : Nat, s.heap.size ≤ q → A q := fun q h => by rw [← hAe]; exact Or.inr h
  have hS : va_S A s.heap s.heap [] := va_S.rf
  have hl := lv_entry ([.ref (ad G 100), .ref (ad G 113), .int x2]) (n := 3) (Nat.le_of_ble_eq_true rfl)
  rw [lg_entry_eq]
  generalize (lg_sl ([.ref (ad G 100), .ref (ad G 113), .int x2]) ++ List.replicate (3 - (lg_sl ([.ref (ad G 100), .ref (ad G 113), .int x2])).length) Slot.unset).toArray = ls at hl ⊢
  have hl : lv_has ls 3 [(0, .ref (ad G 100)), (1, .ref (ad G 113)), (2, .int x2)] := hl
  refine w_M_steps_r113_0 S hE hA (Nat.le_refl _) (Nat.le_refl _) ?_ x2 z0 hB _ _ _ hP hD hS hl
  intro pc ls r σ H locs hd hp hP hD hS
  exact W.iret (v := r) B.exec B.bytes B.returns (fun t ht hW => ⟨⟨r, σ, rfl, hp, by rw [ht]; exact hP, hD⟩, hS.F ht⟩) hS.2.2 hd
def B_M_perform_24 (post : Int32 → St → Prop) (ih24 : Int32 → Int32 → St → Prop) (x1 : Int32) (x2 : Int32) (z0 : St) : Prop :=
  (vp_in x1 5 ∧ (((gA z0 112 x1.toNatClampNeg) ≤ x2 → (post x2 z0)) ∧ (¬ (gA z0 112 x1.toNatClampNeg) ≤ x2 → (S_M_canStep_r113 (fun (r2 : Int32) (z1 : St) => ((r2 = 0 → (post x2 z1)) ∧ (¬ r2 = 0 → (S_M_remember (fun (z2 : St) => (S_M_steps_r113 (fun (r4 : Int32) (z3 : St) => (∀ v5 : Int32, v5 = x2 + (1 : Int32) → (ih24 x1 v5 z3))) ((2 : Int32) * (((16 : Int32) * x1) + x2)) z2)) z1)))) ((2 : Int32) * (((16 : Int32) * x1) + x2)) z0))))
set_option maxHeartbeats 4000000 in
set_option maxRecDepth 100000 in
theorem w_M_perform_24 {p : Program} {l : Launch} {e : Env} {R : Room} {s : State} {m : MethodId} {args : Array Value} {below : List Frame} {meth : Method} {c : Code} {Q : State → Prop} {G : GX} {A : Nat → Prop} (S : CallFix p m c cX12_perform 4 s args GW RX12) (hE : env G A s s.heap) (hA : ∀ q, s.heap.size ≤ q → A q) (hRf : 64 ≤ R.frames) (hRl : 1796 ≤ R.locals) {post : Int32 → St → Prop} (hret : RetI p l e R s m args below meth c Q 0 0 wM G A cX12_perform post) {ih24 : Int32 → Int32 → St → Prop} (h24 : ∀ (x1 : Int32) (x2 : Int32) (z0 : St), ih24 x1 x2 z0 → Xw p l e R s m args below meth c Q 0 0 wM G A z0 4 [(0, .ref (ad G 100)), (1, .int x1), (2, .int x2)] 24 []) (x1 : Int32) (x2 : Int32) (z0 : St) (hB : B_M_perform_24 post ih24 x1 x2 z0) : Xw p l e R s m args below meth c Q 0 0 wM G A z0 4 [(0, .ref (ad G 100)), (1, .int x1), (2, .int x2)] 24 [] := by
  intro H locs ls hP hD hS hl
  have hx := S.1
  have hb := S.2.1
  refine lv_iload_n hx hb dX12_perform_24 rfl (lv_at hl 2 rfl) ?_
  refine lv_aload_n hx hb dX12_perform_25 rfl (lv_at hl 0 rfl) ?_
  refine xMg_100_winterLong S hE hP lk_X12_58 dX12_perform_26 ?_
  refine lv_iload_n hx hb dX12_perform_29 rfl (lv_at hl 1 rfl) ?_
  obtain ⟨hi, hB⟩ := hB
  refine xMl_112 S hE hP hi dX12_perform_30 ?_
  refine lv_icmp_ge (tgt := 80) hx hb dX12_perform_31 (by decide) (fun c1 => ?_) (fun c1 => ?_)
  · have hB := hB.1 c1
    refine lv_iload_n hx hb dX12_perform_80 rfl (lv_at hl 2 rfl) ?_
    exact hret _ _ _ _ _ _ dX12_perform_81 hB hP hD hS
  · have hB := hB.2 c1
    refine lv_aload_n hx hb dX12_perform_34 rfl (lv_at hl 0 rfl) ?_
    refine lv_aload_n hx hb dX12_perform_35 rfl (lv_at hl 0 rfl) ?_
    refine xMg_100_now S hE hP lk_X12_61 dX12_perform_36 ?_
    refine lv_iconst (v := 2) hx hb dX12_perform_39 (by decide) ?_
    refine lv_bipush (v := 16) hx hb dX12_perform_40 (by decide) ?_
    refine lv_iload_n hx hb dX12_perform_42 rfl (lv_at hl 1 rfl) ?_
    refine lv_imul hx hb dX12_perform_43 ?_
    refine lv_iload_n hx hb dX12_perform_44 rfl (lv_at hl 2 rfl) ?_
    refine lv_iadd hx hb dX12_perform_45 ?_
    refine lv_imul hx hb dX12_perform_46 ?_
    refine xcVi [.ref (ad G 113), .int ((2 : Int32) * (((16 : Int32) * x1) + x2))] S hE hA hP hD hS (c_M_canStep_r113 l G z0 H.size ((2 : Int32) * (((16 : Int32) * x1) + x2)) _) hB (gw_c lk_X12_373 (gw_c wi_X12_canStep (gw_c we_X12_X12_canStep_X12_canStep (gw_c wn_X12 (gw_c wc_X12_canStep (fun _ h9 => h9)))))) hd_X12_canStep rfl rfl (Nat.le_trans (Nat.le_of_ble_eq_true rfl) hRf) (Nat.le_trans (Nat.le_of_ble_eq_true rfl) hRl) ⟨Nat.zero_le _, Nat.zero_le _⟩ (va_recv hE.1 hP (ci := 11) (q0 := 0) rfl rfl) rfl hl.1 rfl (Nat.le_of_ble_eq_true rfl) dX12_perform_47 (fun r2 z1 H locs hB hP hD hS => ?_)
    refine lv_if_eq (tgt := 80) hx hb dX12_perform_50 (by decide) (fun c3 => ?_) (fun c3 => ?_)
    · have hB := hB.1 c3
      refine lv_iload_n hx hb dX12_perform_80 rfl (lv_at hl 2 rfl) ?_
      exact hret _ _ _ _ _ _ dX12_perform_81 hB hP hD hS
    · have hB := hB.2 c3
      refine lv_aload_n hx hb dX12_perform_53 rfl (lv_at hl 0 rfl) ?_
      refine xcVv [] S hE hA hP hD hS (c_M_remember l G z1 H.size _) hB (gw_c lk_X12_329 (gw_c wi_X12_remember (gw_c we_X12_X12_remember_X12_remember (gw_c wn_X12 (gw_c wc_X12_remember (fun _ h9 => h9)))))) hd_X12_remember rfl rfl (Nat.le_trans (Nat.le_of_ble_eq_true rfl) hRf) (Nat.le_trans (Nat.le_of_ble_eq_true rfl) hRl) ⟨Nat.zero_le _, Nat.zero_le _⟩ (va_recv hE.1 hP (ci := 11) (q0 := 0) rfl rfl) rfl hl.1 rfl (Nat.le_of_ble_eq_true rfl) dX12_perform_54 (fun z2 H locs hB hP hD hS => ?_)
      refine lv_aload_n hx hb dX12_perform_57 rfl (lv_at hl 0 rfl) ?_
      refine lv_aload_n hx hb dX12_perform_58 rfl (lv_at hl 0 rfl) ?_
      refine xMg_100_now S hE hP lk_X12_61 dX12_perform_59 ?_
      refine lv_iconst (v := 2) hx hb dX12_perform_62 (by decide) ?_
      refine lv_bipush (v := 16) hx hb dX12_perform_63 (by decide) ?_
      refine lv_iload_n hx hb dX12_perform_65 rfl (lv_at hl 1 rfl) ?_
      refine lv_imul hx hb dX12_perform_66 ?_
      refine lv_iload_n hx hb dX12_perform_67 rfl (lv_at hl 2 rfl) ?_
      refine lv_iadd hx hb dX12_perform_68 ?_
      refine lv_imul hx hb dX12_perform_69 ?_
      refine xcVi [.ref (ad G 113), .int ((2 : Int32) * (((16 : Int32) * x1) + x2))] S hE hA hP hD hS (c_M_steps_r113 l G z2 H.size ((2 : Int32) * (((16 : Int32) * x1) + x2)) _) hB (gw_c lk_X12_376 (gw_c wi_X12_steps (gw_c we_X12_X12_steps_X12_steps (gw_c wn_X12 (gw_c wc_X12_steps (fun _ h9 => h9)))))) hd_X12_steps rfl rfl (Nat.le_trans (Nat.le_of_ble_eq_true rfl) hRf) (Nat.le_trans (Nat.le_of_ble_eq_true rfl) hRl) ⟨Nat.zero_le _, Nat.zero_le _⟩ (va_recv hE.1 hP (ci := 11) (q0 := 0) rfl rfl) rfl hl.1 rfl (Nat.le_of_ble_eq_true rfl) dX12_perform_70 (fun r4 z3 H locs hB hP hD hS => ?_)
      refine lv_istore_n (lv' := [(3, .int r4), (0, .ref (ad G 100)), (1, .int x1), (2, .int x2)]) hx hb dX12_perform_73 rfl hl (by decide) rfl (fun ls hl => ?_)
      obtain ⟨v5, ev5⟩ : ∃ y9, y9 = x2 + (1 : Int32) := ⟨_, rfl⟩
      have hB := hB v5 ev5
      refine lv_iinc (v := v5) (lv' := [(2, .int v5), (3, .int r4), (0, .ref (ad G 100)), (1, .int x1)]) hx hb dX12_perform_74 hl (k := 3) rfl (by rw [ev5]; rfl) (by decide) rfl (fun ls hl => ?_)
      refine lv_goto (tgt := 24) hx hb dX12_perform_77 (by decide) ?_
      exact h24 x1 v5 z3 hB _ _ _ hP hD hS (lv_sub hl [2, 3, 0] rfl)
def L_M_perform_24 (post : Int32 → St → Prop) : Nat → Int32 → Int32 → St → Prop
  | 0 => fun _ _ _ => False
  | n + 1 => B_M_perform_24 post (L_M_perform_24 post n)
theorem wl_M_perform_24 {p : Program} {l : Launch} {e : Env} {R : Room} {s : State} {m : MethodId} {args : Array Value} {below : List Frame} {meth : Method} {c : Code} {Q : State → Prop} {G : GX} {A : Nat → Prop} (S : CallFix p m c cX12_perform 4 s args GW RX12) (hE : env G A s s.heap) (hA : ∀ q, s.heap.size ≤ q → A q) (hRf : 64 ≤ R.frames) (hRl : 1796 ≤ R.locals) {post : Int32 → St → Prop} (hret : RetI p l e R s m args below meth c Q 0 0 wM G A cX12_perform post) : ∀ (n : Nat) (x1 : Int32) (x2 : Int32) (z0 : St), L_M_perform_24 post n x1 x2 z0 → Xw p l e R s m args below meth c Q 0 0 wM G A z0 4 [(0, .ref (ad G 100)), (1, .int x1), (2, .int x2)] 24 [] := by
  intro n
  induction n with
  | zero => intro x1 x2 z0 hB; exact absurd hB id
  | succ n ih => exact fun x1 x2 z0 hB => w_M_perform_24 S hE hA hRf hRl hret ih x1 x2 z0 hB
def S_M_perform (post : Int32 → St → Prop) (x1 : Int32) (z0 : St) : Prop :=
  (∀ z1 : St, z1 = sI z0 100 (0 : Int32) → (S_M_isWinter (fun (r1 : Int32) (z2 : St) => ((r1 = 0 → (post (-1 : Int32) z2)) ∧ (¬ r1 = 0 → (((gI z2 112) = 0 → (post (-1 : Int32) z2)) ∧ (¬ (gI z2 112) = 0 → (∃ n4, L_M_perform_24 post n4 x1 (0 : Int32) z2)))))) x1 z1))
set_option maxHeartbeats 4000000 in
set_option maxRecDepth 100000 in
theorem w_M_perform_0 {p : Program} {l : Launch} {e : Env} {R : Room} {s : State} {m : MethodId} {args : Array Value} {below : List Frame} {meth : Method} {c : Code} {Q : State → Prop} {G : GX} {A : Nat → Prop} (S : CallFix p m c cX12_perform 4 s args GW RX12) (hE : env G A s s.heap) (hA : ∀ q, s.heap.size ≤ q → A q) (hRf : 64 ≤ R.frames) (hRl : 1796 ≤ R.locals) {post : Int32 → St → Prop} (hret : RetI p l e R s m args below meth c Q 0 0 wM G A cX12_perform post) (x1 : Int32) (z0 : St) (hB : S_M_perform post x1 z0) : Xw p l e R s m args below meth c Q 0 0 wM G A z0 4 [(0, .ref (ad G 100)), (1, .int x1)] 0 [] := by
  intro H locs ls hP hD hS hl
  have hx := S.1
  have hb := S.2.1
  refine lv_aload_n hx hb dX12_perform_0 rfl (lv_at hl 0 rfl) ?_
  refine lv_iconst (v := 0) hx hb dX12_perform_1 (by decide) ?_
  obtain ⟨z1, ez1⟩ : ∃ z9, z9 = sI z0 100 (0 : Int32) := ⟨_, rfl⟩
  have hB := hB z1 ez1
  refine xMp_100_thrown S hE hP hD hS lk_X12_89 dX12_perform_2 (fun H locs hP hD hS => ?_)
  rw [← ez1] at hP hD
  refine lv_aload_n hx hb dX12_perform_5 rfl (lv_at hl 0 rfl) ?_
  refine lv_iload_n hx hb dX12_perform_6 rfl (lv_at hl 1 rfl) ?_
  refine xcVi [.int x1] S hE hA hP hD hS (c_M_isWinter l G z1 H.size x1 _) hB (gw_c lk_X12_367 (gw_c wi_X12_isWinter (gw_c we_X12_X12_isWinter_X12_isWinter (gw_c wn_X12 (gw_c wc_X12_isWinter (fun _ h9 => h9)))))) hd_X12_isWinter rfl rfl (Nat.le_trans (Nat.le_of_ble_eq_true rfl) hRf) (Nat.le_trans (Nat.le_of_ble_eq_true rfl) hRl) ⟨Nat.zero_le _, Nat.zero_le _⟩ (va_recv hE.1 hP (ci := 11) (q0 := 0) rfl rfl) rfl hl.1 rfl (Nat.le_of_ble_eq_true rfl) dX12_perform_7 (fun r1 z2 H locs hB hP hD hS => ?_)
  refine lv_if_eq (tgt := 20) hx hb dX12_perform_10 (by decide) (fun c2 => ?_) (fun c2 => ?_)
  · have hB := hB.1 c2
    refine lv_iconst (v := -1) hx hb dX12_perform_20 (by decide) ?_
    exact hret _ _ _ _ _ _ dX12_perform_21 hB hP hD hS
  · have hB := hB.2 c2
    refine lv_aload_n hx hb dX12_perform_13 rfl (lv_at hl 0 rfl) ?_
    refine xMg_100_guests S hE hP lk_X12_284 dX12_perform_14 ?_
    refine lv_if_ne (tgt := 22) hx hb dX12_perform_17 (by decide) (fun c3 => ?_) (fun c3 => ?_)
    · have hB := hB.2 c3
      refine lv_iconst (v := 0) hx hb dX12_perform_22 (by decide) ?_
      refine lv_istore_n (lv' := [(2, .int (0 : Int32)), (0, .ref (ad G 100)), (1, .int x1)]) hx hb dX12_perform_23 rfl hl (by decide) rfl (fun ls hl => ?_)
      obtain ⟨n4, hB⟩ := hB
      exact wl_M_perform_24 S hE hA hRf hRl hret n4 x1 (0 : Int32) z2 hB _ _ _ hP hD hS (lv_sub hl [1, 2, 0] rfl)
    · have hB := hB.1 c3
      refine lv_iconst (v := -1) hx hb dX12_perform_20 (by decide) ?_
      exact hret _ _ _ _ _ _ dX12_perform_21 hB hP hD hS
set_option maxHeartbeats 4000000 in
set_option maxRecDepth 100000 in
theorem c_M_perform (l : Launch) (G : GX) (z0 : St) (sz : Nat) (x1 : Int32) (post : Int32 → St → Prop) : MetI l wM yX12_perform cX12_perform 4 (some .int) ({ frames := 64, cells := 0, slots := 0, locals := 1796 }) [.ref (ad G 100), .int x1] G z0 sz (S_M_perform post x1 z0) post := by
  refine Met.ofW (cc := cX12_perform) (maxL := 4) (ret := (some .int)) (by decide) rfl ?_
  intro p e s m args below meth c s₁ B hml hv
  obtain ⟨rfl, hsz, hP, hD0, hE, hB⟩ := hv
  have S : CallFix p m c cX12_perform 4 s _ GW RX12 := ⟨B.exec, B.bytes, hml, findClass_of_methodNamed B.named, fun w h => atoms_spec (ws := Cond.code yX12_perform cX12_perform 4 (some .int) :: GW) B.pre w (List.mem_cons_of_mem _ h)⟩
  have hlocks := B.notSynchronized
  subst hsz
  have hD := hD0.self (sz := s.heap.size)
  generalize hAe : va_A (wM G z0) s.heap.size = A at hD hE ⊢
  have hA : ∀ q : Nat, s.heap.size ≤ q → A q := fun q h => by rw [← hAe]; exact Or.inr h
  have hS : va_S A s.heap s.heap [] := va_S.rf
  have hl := lv_entry ([.ref (ad G 100), .int x1]) (n := 4) (Nat.le_of_ble_eq_true rfl)
  rw [lg_entry_eq]
  generalize (lg_sl ([.ref (ad G 100), .int x1]) ++ List.replicate (4 - (lg_sl ([.ref (ad G 100), .int x1])).length) Slot.unset).toArray = ls at hl ⊢
  have hl : lv_has ls 4 [(0, .ref (ad G 100)), (1, .int x1)] := hl
  refine w_M_perform_0 S hE hA (Nat.le_refl _) (Nat.le_refl _) ?_ x1 z0 hB _ _ _ hP hD hS hl
  intro pc ls r σ H locs hd hp hP hD hS
  exact W.iret (v := r) B.exec B.bytes B.returns (fun t ht hW => ⟨⟨r, σ, rfl, hp, by rw [ht]; exact hP, hD⟩, hS.F ht⟩) hS.2.2 hd
def B_M_endsRow_79 (post : St → Prop) (z0 : St) : Prop :=
  (∀ z1 : St, z1 = sI z0 125 ((gI z0 125) + (1 : Int32)) → (post z1))
set_option maxHeartbeats 4000000 in
set_option maxRecDepth 100000 in
theorem w_M_endsRow_79 {p : Program} {l : Launch} {e : Env} {R : Room} {s : State} {m : MethodId} {args : Array Value} {below : List Frame} {meth : Method} {c : Code} {Q : State → Prop} {G : GX} {A : Nat → Prop} (S : CallFix p m c cX12_endsRow 3 s args GW RX12) (hE : env G A s s.heap) (hA : ∀ q, s.heap.size ≤ q → A q) (hRf : 0 ≤ R.frames) (hRl : 0 ≤ R.locals) {post : St → Prop} (hret : RetV p l e R s m args below meth c Q 0 0 wM G A cX12_endsRow post) (z0 : St) (hB : B_M_endsRow_79 post z0) : Xw p l e R s m args below meth c Q 0 0 wM G A z0 3 [(0, .ref (ad G 100))] 79 [] := by
  intro H locs ls hP hD hS hl
  have hx := S.1
  have hb := S.2.1
  refine lv_aload_n hx hb dX12_endsRow_79 rfl (lv_at hl 0 rfl) ?_
  refine lv_dup hx hb dX12_endsRow_80 rfl ?_
  refine xMg_100_counted S hE hP lk_X12_398 dX12_endsRow_81 ?_
  refine lv_iconst (v := 1) hx hb dX12_endsRow_84 (by decide) ?_
  refine lv_iadd hx hb dX12_endsRow_85 ?_
  obtain ⟨z1, ez1⟩ : ∃ z9, z9 = sI z0 125 ((gI z0 125) + (1 : Int32)) := ⟨_, rfl⟩
  have hB := hB z1 ez1
  refine xMp_100_counted S hE hP hD hS lk_X12_398 dX12_endsRow_86 (fun H locs hP hD hS => ?_)
  rw [← ez1] at hP hD
  exact hret _ _ _ _ _ dX12_endsRow_89 hB hP hD hS
def B_M_endsRow_59 (post : St → Prop) (x2 : Int32) (s0 : Int32) (s1 : Int32) (z0 : St) : Prop :=
  ((s1 = s0 → (((gI z0 125) = (gI z0 126) → (∀ z1 : St, z1 = sI z0 124 x2 → (B_M_endsRow_79 post z1))) ∧ (¬ (gI z0 125) = (gI z0 126) → (B_M_endsRow_79 post z0)))) ∧ (¬ s1 = s0 → (post z0)))
set_option maxHeartbeats 4000000 in
set_option maxRecDepth 100000 in
theorem w_M_endsRow_59 {p : Program} {l : Launch} {e : Env} {R : Room} {s : State} {m : MethodId} {args : Array Value} {below : List Frame} {meth : Method} {c : Code} {Q : State → Prop} {G : GX} {A : Nat → Prop} (S : CallFix p m c cX12_endsRow 3 s args GW RX12) (hE : env G A s s.heap) (hA : ∀ q, s.heap.size ≤ q → A q) (hRf : 0 ≤ R.frames) (hRl : 0 ≤ R.locals) {post : St → Prop} (hret : RetV p l e R s m args below meth c Q 0 0 wM G A cX12_endsRow post) (x2 : Int32) (s0 : Int32) (s1 : Int32) (z0 : St) (hB : B_M_endsRow_59 post x2 s0 s1 z0) : Xw p l e R s m args below meth c Q 0 0 wM G A z0 3 [(0, .ref (ad G 100)), (2, .int x2)] 59 [.int s0, .int s1] := by
  intro H locs ls hP hD hS hl
  have hx := S.1
  have hb := S.2.1
  refine lv_icmp_eq (tgt := 63) hx hb dX12_endsRow_59 (by decide) (fun c1 => ?_) (fun c1 => ?_)
  · have hB := hB.1 c1
    refine lv_aload_n hx hb dX12_endsRow_63 rfl (lv_at hl 0 rfl) ?_
    refine xMg_100_counted S hE hP lk_X12_398 dX12_endsRow_64 ?_
    refine lv_aload_n hx hb dX12_endsRow_67 rfl (lv_at hl 0 rfl) ?_
    refine xMg_100_wanted S hE hP lk_X12_401 dX12_endsRow_68 ?_
    refine lv_icmp_ne (tgt := 79) hx hb dX12_endsRow_71 (by decide) (fun c2 => ?_) (fun c2 => ?_)
    · have hB := hB.2 c2
      exact w_M_endsRow_79 S hE hA hRf hRl hret z0 hB _ _ _ hP hD hS (lv_sub hl [0] rfl)
    · have hB := hB.1 c2
      refine lv_aload_n hx hb dX12_endsRow_74 rfl (lv_at hl 0 rfl) ?_
      refine lv_iload_n hx hb dX12_endsRow_75 rfl (lv_at hl 1 rfl) ?_
      obtain ⟨z1, ez1⟩ : ∃ z9, z9 = sI z0 124 x2 := ⟨_, rfl⟩
      have hB := hB z1 ez1
      refine xMp_100_bestRow S hE hP hD hS lk_X12_392 dX12_endsRow_76 (fun H locs hP hD hS => ?_)
      rw [← ez1] at hP hD
      exact w_M_endsRow_79 S hE hA hRf hRl hret z1 hB _ _ _ hP hD hS (lv_sub hl [0] rfl)
  · have hB := hB.2 c1
    exact hret _ _ _ _ _ dX12_endsRow_62 hB hP hD hS
def B_M_endsRow_46 (post : St → Prop) (x2 : Int32) (s0 : Int32) (z0 : St) : Prop :=
  (((gI z0 121) = (1 : Int32) → (B_M_endsRow_59 post x2 (1 : Int32) s0 z0)) ∧ (¬ (gI z0 121) = (1 : Int32) → (B_M_endsRow_59 post x2 (0 : Int32) s0 z0)))
set_option maxHeartbeats 4000000 in
set_option maxRecDepth 100000 in
theorem w_M_endsRow_46 {p : Program} {l : Launch} {e : Env} {R : Room} {s : State} {m : MethodId} {args : Array Value} {below : List Frame} {meth : Method} {c : Code} {Q : State → Prop} {G : GX} {A : Nat → Prop} (S : CallFix p m c cX12_endsRow 3 s args GW RX12) (hE : env G A s s.heap) (hA : ∀ q, s.heap.size ≤ q → A q) (hRf : 0 ≤ R.frames) (hRl : 0 ≤ R.locals) {post : St → Prop} (hret : RetV p l e R s m args below meth c Q 0 0 wM G A cX12_endsRow post) (x2 : Int32) (s0 : Int32) (z0 : St) (hB : B_M_endsRow_46 post x2 s0 z0) : Xw p l e R s m args below meth c Q 0 0 wM G A z0 3 [(0, .ref (ad G 100)), (2, .int x2)] 46 [.int s0] := by
  intro H locs ls hP hD hS hl
  have hx := S.1
  have hb := S.2.1
  refine lv_aload_n hx hb dX12_endsRow_46 rfl (lv_at hl 0 rfl) ?_
  refine xMg_100_aim S hE hP lk_X12_386 dX12_endsRow_47 ?_
  refine lv_iconst (v := 1) hx hb dX12_endsRow_50 (by decide) ?_
  refine lv_icmp_ne (tgt := 58) hx hb dX12_endsRow_51 (by decide) (fun c1 => ?_) (fun c1 => ?_)
  · have hB := hB.2 c1
    refine lv_iconst (v := 0) hx hb dX12_endsRow_58 (by decide) ?_
    exact w_M_endsRow_59 S hE hA hRf hRl hret x2 (0 : Int32) s0 z0 hB _ _ _ hP hD hS (lv_sub hl [0, 1] rfl)
  · have hB := hB.1 c1
    refine lv_iconst (v := 1) hx hb dX12_endsRow_54 (by decide) ?_
    refine lv_goto (tgt := 59) hx hb dX12_endsRow_55 (by decide) ?_
    exact w_M_endsRow_59 S hE hA hRf hRl hret x2 (1 : Int32) s0 z0 hB _ _ _ hP hD hS (lv_sub hl [0, 1] rfl)
def S_M_endsRow (post : St → Prop) (x1 : Int32) (x2 : Int32) (z0 : St) : Prop :=
  (((gI z0 121) = 0 → (((gI z0 123) < x1 → (∀ z1 : St, z1 = sI z0 123 x1 → (∀ z2 : St, z2 = sI z1 124 x2 → (post z2)))) ∧ (¬ (gI z0 123) < x1 → (post z0)))) ∧ (¬ (gI z0 121) = 0 → (((gA z0 114 24) = (gI z0 122) → (B_M_endsRow_46 post x2 (1 : Int32) z0)) ∧ (¬ (gA z0 114 24) = (gI z0 122) → (B_M_endsRow_46 post x2 (0 : Int32) z0)))))
set_option maxHeartbeats 4000000 in
set_option maxRecDepth 100000 in
theorem w_M_endsRow_0 {p : Program} {l : Launch} {e : Env} {R : Room} {s : State} {m : MethodId} {args : Array Value} {below : List Frame} {meth : Method} {c : Code} {Q : State → Prop} {G : GX} {A : Nat → Prop} (S : CallFix p m c cX12_endsRow 3 s args GW RX12) (hE : env G A s s.heap) (hA : ∀ q, s.heap.size ≤ q → A q) (hRf : 0 ≤ R.frames) (hRl : 0 ≤ R.locals) {post : St → Prop} (hret : RetV p l e R s m args below meth c Q 0 0 wM G A cX12_endsRow post) (x1 : Int32) (x2 : Int32) (z0 : St) (hB : S_M_endsRow post x1 x2 z0) : Xw p l e R s m args below meth c Q 0 0 wM G A z0 3 [(0, .ref (ad G 100)), (1, .int x1), (2, .int x2)] 0 [] := by
  intro H locs ls hP hD hS hl
  have hx := S.1
  have hb := S.2.1
  refine lv_aload_n hx hb dX12_endsRow_0 rfl (lv_at hl 0 rfl) ?_
  refine xMg_100_aim S hE hP lk_X12_386 dX12_endsRow_1 ?_
  refine lv_if_ne (tgt := 27) hx hb dX12_endsRow_4 (by decide) (fun c1 => ?_) (fun c1 => ?_)
  · have hB := hB.2 c1
    refine lv_aload_n hx hb dX12_endsRow_27 rfl (lv_at hl 0 rfl) ?_
    refine xMg_100_trial S hE hP lk_X12_64 dX12_endsRow_28 ?_
    refine lv_bipush (v := 24) hx hb dX12_endsRow_31 (by decide) ?_
    refine xMk_114 S hE hP 24 (by decide) (by unfold vp_in; decide) dX12_endsRow_33 ?_
    refine lv_aload_n hx hb dX12_endsRow_34 rfl (lv_at hl 0 rfl) ?_
    refine xMg_100_aimDrink S hE hP lk_X12_395 dX12_endsRow_35 ?_
    refine lv_icmp_ne (tgt := 45) hx hb dX12_endsRow_38 (by decide) (fun c2 => ?_) (fun c2 => ?_)
    · have hB := hB.2 c2
      refine lv_iconst (v := 0) hx hb dX12_endsRow_45 (by decide) ?_
      exact w_M_endsRow_46 S hE hA hRf hRl hret x2 (0 : Int32) z0 hB _ _ _ hP hD hS (lv_sub hl [0, 2] rfl)
    · have hB := hB.1 c2
      refine lv_iconst (v := 1) hx hb dX12_endsRow_41 (by decide) ?_
      refine lv_goto (tgt := 46) hx hb dX12_endsRow_42 (by decide) ?_
      exact w_M_endsRow_46 S hE hA hRf hRl hret x2 (1 : Int32) z0 hB _ _ _ hP hD hS (lv_sub hl [0, 2] rfl)
  · have hB := hB.1 c1
    refine lv_iload_n hx hb dX12_endsRow_7 rfl (lv_at hl 1 rfl) ?_
    refine lv_aload_n hx hb dX12_endsRow_8 rfl (lv_at hl 0 rfl) ?_
    refine xMg_100_bestJoy S hE hP lk_X12_389 dX12_endsRow_9 ?_
    refine lv_icmp_gt (tgt := 16) hx hb dX12_endsRow_12 (by decide) (fun c3 => ?_) (fun c3 => ?_)
    · have hB := hB.1 c3
      refine lv_aload_n hx hb dX12_endsRow_16 rfl (lv_at hl 0 rfl) ?_
      refine lv_iload_n hx hb dX12_endsRow_17 rfl (lv_at hl 1 rfl) ?_
      obtain ⟨z1, ez1⟩ : ∃ z9, z9 = sI z0 123 x1 := ⟨_, rfl⟩
      have hB := hB z1 ez1
      refine xMp_100_bestJoy S hE hP hD hS lk_X12_389 dX12_endsRow_18 (fun H locs hP hD hS => ?_)
      rw [← ez1] at hP hD
      refine lv_aload_n hx hb dX12_endsRow_21 rfl (lv_at hl 0 rfl) ?_
      refine lv_iload_n hx hb dX12_endsRow_22 rfl (lv_at hl 2 rfl) ?_
      obtain ⟨z2, ez2⟩ : ∃ z9, z9 = sI z1 124 x2 := ⟨_, rfl⟩
      have hB := hB z2 ez2
      refine xMp_100_bestRow S hE hP hD hS lk_X12_392 dX12_endsRow_23 (fun H locs hP hD hS => ?_)
      rw [← ez2] at hP hD
      exact hret _ _ _ _ _ dX12_endsRow_26 hB hP hD hS
    · have hB := hB.2 c3
      exact hret _ _ _ _ _ dX12_endsRow_15 hB hP hD hS
set_option maxHeartbeats 4000000 in
set_option maxRecDepth 100000 in
theorem c_M_endsRow (l : Launch) (G : GX) (z0 : St) (sz : Nat) (x1 : Int32) (x2 : Int32) (post : St → Prop) : MetV l wM yX12_endsRow cX12_endsRow 3 none ({ frames := 0, cells := 0, slots := 0, locals := 0 }) [.ref (ad G 100), .int x1, .int x2] G z0 sz (S_M_endsRow post x1 x2 z0) post := by
  refine Met.ofW (cc := cX12_endsRow) (maxL := 3) (ret := none) (by decide) rfl ?_
  intro p e s m args below meth c s₁ B hml hv
  obtain ⟨rfl, hsz, hP, hD0, hE, hB⟩ := hv
  have S : CallFix p m c cX12_endsRow 3 s _ GW RX12 := ⟨B.exec, B.bytes, hml, findClass_of_methodNamed B.named, fun w h => atoms_spec (ws := Cond.code yX12_endsRow cX12_endsRow 3 none :: GW) B.pre w (List.mem_cons_of_mem _ h)⟩
  have hlocks := B.notSynchronized
  subst hsz
  have hD := hD0.self (sz := s.heap.size)
  generalize hAe : va_A (wM G z0) s.heap.size = A at hD hE ⊢
  have hA : ∀ q : Nat, s.heap.size ≤ q → A q := fun q h => by rw [← hAe]; exact Or.inr h
  have hS : va_S A s.heap s.heap [] := va_S.rf
  have hl := lv_entry ([.ref (ad G 100), .int x1, .int x2]) (n := 3) (Nat.le_of_ble_eq_true rfl)
  rw [lg_entry_eq]
  generalize (lg_sl ([.ref (ad G 100), .int x1, .int x2]) ++ List.replicate (3 - (lg_sl ([.ref (ad G 100), .int x1, .int x2])).length) Slot.unset).toArray = ls at hl ⊢
  have hl : lv_has ls 3 [(0, .ref (ad G 100)), (1, .int x1), (2, .int x2)] := hl
  refine w_M_endsRow_0 S hE hA (Nat.le_refl _) (Nat.le_refl _) ?_ x1 x2 z0 hB _ _ _ hP hD hS hl
  intro pc ls σ H locs hd hp hP hD hS
  exact W.vret B.exec B.bytes B.returns (fun t ht hW => ⟨⟨σ, rfl, hp, by rw [ht]; exact hP, hD⟩, hS.F ht⟩) hS.2.2 hd
def B_M_goRows_146 (rq : (St → Prop) → Int32 → Int32 → Int32 → Int32 → St → Prop) (post : St → Prop) (ih50 : Int32 → Int32 → Int32 → Int32 → Int32 → St → Prop) (x1 : Int32) (x2 : Int32) (x3 : Int32) (x4 : Int32) (x5 : Int32) (z0 : St) : Prop :=
  (∀ v1 : Int32, v1 = x5 + (1 : Int32) → (ih50 x1 x2 x3 x4 v1 z0))
set_option maxHeartbeats 4000000 in
set_option maxRecDepth 100000 in
theorem w_M_goRows_146 {p : Program} {l : Launch} {e : Env} {R : Room} {s : State} {m : MethodId} {args : Array Value} {below : List Frame} {meth : Method} {c : Code} {Q : State → Prop} {G : GX} {A : Nat → Prop} {rq : (St → Prop) → Int32 → Int32 → Int32 → Int32 → St → Prop} {frec lrec : Nat} (S : CallFix p m c cX12_goRows 7 s args GW RX12) (hE : env G A s s.heap) (hA : ∀ q, s.heap.size ≤ q → A q) (hRf : frec + 1 ≤ R.frames) (hRl : lrec + 40 ≤ R.locals) (hq : ∀ (G : GX) (z0 : St) (sz : Nat) (x1 : Int32) (x2 : Int32) (x3 : Int32) (x4 : Int32) (post : St → Prop), MetV l wM yX12_goRows cX12_goRows 7 none { frames := frec, cells := 0, slots := 0, locals := lrec } [.ref (ad G 100), .int x1, .int x2, .int x3, .int x4] G z0 sz (rq post x1 x2 x3 x4 z0) post) (hfb : 63 ≤ frec ∧ 1774 ≤ lrec) {post : St → Prop} (hret : RetV p l e R s m args below meth c Q 0 0 wM G A cX12_goRows post) {ih50 : Int32 → Int32 → Int32 → Int32 → Int32 → St → Prop} (h50 : ∀ (x1 : Int32) (x2 : Int32) (x3 : Int32) (x4 : Int32) (x5 : Int32) (z0 : St), ih50 x1 x2 x3 x4 x5 z0 → Xw p l e R s m args below meth c Q 0 0 wM G A z0 7 [(0, .ref (ad G 100)), (1, .int x1), (2, .int x2), (3, .int x3), (4, .int x4), (5, .int x5)] 50 []) (x1 : Int32) (x2 : Int32) (x3 : Int32) (x4 : Int32) (x5 : Int32) (z0 : St) (hB : B_M_goRows_146 rq post ih50 x1 x2 x3 x4 x5 z0) : Xw p l e R s m args below meth c Q 0 0 wM G A z0 7 [(0, .ref (ad G 100)), (1, .int x1), (2, .int x2), (3, .int x3), (4, .int x4), (5, .int x5)] 146 [] := by
  intro H locs ls hP hD hS hl
  have hx := S.1
  have hb := S.2.1
  obtain ⟨v1, ev1⟩ : ∃ y9, y9 = x5 + (1 : Int32) := ⟨_, rfl⟩
  have hB := hB v1 ev1
  refine lv_iinc (v := v1) (lv' := [(5, .int v1), (0, .ref (ad G 100)), (1, .int x1), (2, .int x2), (3, .int x3), (4, .int x4)]) hx hb dX12_goRows_146 hl (k := 5) rfl (by rw [ev1]; rfl) (by decide) rfl (fun ls hl => ?_)
  refine lv_goto (tgt := 50) hx hb dX12_goRows_149 (by decide) ?_
  exact h50 x1 x2 x3 x4 v1 z0 hB _ _ _ hP hD hS (lv_sub hl [1, 2, 3, 4, 5, 0] rfl)
def B_M_goRows_114 (rq : (St → Prop) → Int32 → Int32 → Int32 → Int32 → St → Prop) (post : St → Prop) (ih50 : Int32 → Int32 → Int32 → Int32 → Int32 → St → Prop) (ih114 : Int32 → Int32 → Int32 → Int32 → Int32 → Int32 → St → Prop) (x1 : Int32) (x2 : Int32) (x3 : Int32) (x4 : Int32) (x5 : Int32) (x6 : Int32) (z0 : St) : Prop :=
  (((29 : Int32) ≤ x6 → (B_M_goRows_146 rq post ih50 x1 x2 x3 x4 x5 z0)) ∧ (¬ (29 : Int32) ≤ x6 → (vp_in (((29 : Int32) * x1) + x6) 203 ∧ (vp_in x6 269 ∧ (∀ z1 : St, z1 = sA z0 114 x6.toNatClampNeg (gA z0 116 (((29 : Int32) * x1) + x6).toNatClampNeg) → (∀ v2 : Int32, v2 = x6 + (1 : Int32) → (ih114 x1 x2 x3 x4 x5 v2 z1)))))))
set_option maxHeartbeats 4000000 in
set_option maxRecDepth 100000 in
theorem w_M_goRows_114 {p : Program} {l : Launch} {e : Env} {R : Room} {s : State} {m : MethodId} {args : Array Value} {below : List Frame} {meth : Method} {c : Code} {Q : State → Prop} {G : GX} {A : Nat → Prop} {rq : (St → Prop) → Int32 → Int32 → Int32 → Int32 → St → Prop} {frec lrec : Nat} (S : CallFix p m c cX12_goRows 7 s args GW RX12) (hE : env G A s s.heap) (hA : ∀ q, s.heap.size ≤ q → A q) (hRf : frec + 1 ≤ R.frames) (hRl : lrec + 40 ≤ R.locals) (hq : ∀ (G : GX) (z0 : St) (sz : Nat) (x1 : Int32) (x2 : Int32) (x3 : Int32) (x4 : Int32) (post : St → Prop), MetV l wM yX12_goRows cX12_goRows 7 none { frames := frec, cells := 0, slots := 0, locals := lrec } [.ref (ad G 100), .int x1, .int x2, .int x3, .int x4] G z0 sz (rq post x1 x2 x3 x4 z0) post) (hfb : 63 ≤ frec ∧ 1774 ≤ lrec) {post : St → Prop} (hret : RetV p l e R s m args below meth c Q 0 0 wM G A cX12_goRows post) {ih50 : Int32 → Int32 → Int32 → Int32 → Int32 → St → Prop} (h50 : ∀ (x1 : Int32) (x2 : Int32) (x3 : Int32) (x4 : Int32) (x5 : Int32) (z0 : St), ih50 x1 x2 x3 x4 x5 z0 → Xw p l e R s m args below meth c Q 0 0 wM G A z0 7 [(0, .ref (ad G 100)), (1, .int x1), (2, .int x2), (3, .int x3), (4, .int x4), (5, .int x5)] 50 []) {ih114 : Int32 → Int32 → Int32 → Int32 → Int32 → Int32 → St → Prop} (h114 : ∀ (x1 : Int32) (x2 : Int32) (x3 : Int32) (x4 : Int32) (x5 : Int32) (x6 : Int32) (z0 : St), ih114 x1 x2 x3 x4 x5 x6 z0 → Xw p l e R s m args below meth c Q 0 0 wM G A z0 7 [(0, .ref (ad G 100)), (1, .int x1), (2, .int x2), (3, .int x3), (4, .int x4), (5, .int x5), (6, .int x6)] 114 []) (x1 : Int32) (x2 : Int32) (x3 : Int32) (x4 : Int32) (x5 : Int32) (x6 : Int32) (z0 : St) (hB : B_M_goRows_114 rq post ih50 ih114 x1 x2 x3 x4 x5 x6 z0) : Xw p l e R s m args below meth c Q 0 0 wM G A z0 7 [(0, .ref (ad G 100)), (1, .int x1), (2, .int x2), (3, .int x3), (4, .int x4), (5, .int x5), (6, .int x6)] 114 [] := by
  intro H locs ls hP hD hS hl
  have hx := S.1
  have hb := S.2.1
  refine lv_iload hx hb dX12_goRows_114 (lv_at hl 6 rfl) ?_
  refine lv_bipush (v := 29) hx hb dX12_goRows_116 (by decide) ?_
  refine lv_icmp_ge (tgt := 146) hx hb dX12_goRows_118 (by decide) (fun c1 => ?_) (fun c1 => ?_)
  · have hB := hB.1 c1
    exact w_M_goRows_146 S hE hA hRf hRl hq hfb hret h50 x1 x2 x3 x4 x5 z0 hB _ _ _ hP hD hS (lv_sub hl [0, 1, 2, 3, 4, 5] rfl)
  · have hB := hB.2 c1
    refine lv_aload_n hx hb dX12_goRows_121 rfl (lv_at hl 0 rfl) ?_
    refine xMg_100_trial S hE hP lk_X12_64 dX12_goRows_122 ?_
    refine lv_iload hx hb dX12_goRows_125 (lv_at hl 6 rfl) ?_
    refine lv_aload_n hx hb dX12_goRows_127 rfl (lv_at hl 0 rfl) ?_
    refine xMg_100_saved S hE hP lk_X12_77 dX12_goRows_128 ?_
    refine lv_bipush (v := 29) hx hb dX12_goRows_131 (by decide) ?_
    refine lv_iload_n hx hb dX12_goRows_133 rfl (lv_at hl 1 rfl) ?_
    refine lv_imul hx hb dX12_goRows_134 ?_
    refine lv_iload hx hb dX12_goRows_135 (lv_at hl 6 rfl) ?_
    refine lv_iadd hx hb dX12_goRows_137 ?_
    obtain ⟨hi, hB⟩ := hB
    refine xMl_116 S hE hP hi dX12_goRows_138 ?_
    obtain ⟨hi, hB⟩ := hB
    obtain ⟨z1, ez1⟩ : ∃ z9, z9 = sA z0 114 x6.toNatClampNeg (gA z0 116 (((29 : Int32) * x1) + x6).toNatClampNeg) := ⟨_, rfl⟩
    have hB := hB z1 ez1
    refine xMs_114 S hE hP hD hS _ rfl hi dX12_goRows_139 (fun H locs hP hD hS => ?_)
    rw [← ez1] at hP hD
    obtain ⟨v2, ev2⟩ : ∃ y9, y9 = x6 + (1 : Int32) := ⟨_, rfl⟩
    have hB := hB v2 ev2
    refine lv_iinc (v := v2) (lv' := [(6, .int v2), (0, .ref (ad G 100)), (1, .int x1), (2, .int x2), (3, .int x3), (4, .int x4), (5, .int x5)]) hx hb dX12_goRows_140 hl (k := 6) rfl (by rw [ev2]; rfl) (by decide) rfl (fun ls hl => ?_)
    refine lv_goto (tgt := 114) hx hb dX12_goRows_143 (by decide) ?_
    exact h114 x1 x2 x3 x4 x5 v2 z1 hB _ _ _ hP hD hS (lv_sub hl [1, 2, 3, 4, 5, 6, 0] rfl)
def L_M_goRows_114 (rq : (St → Prop) → Int32 → Int32 → Int32 → Int32 → St → Prop) (post : St → Prop) (ih50 : Int32 → Int32 → Int32 → Int32 → Int32 → St → Prop) : Nat → Int32 → Int32 → Int32 → Int32 → Int32 → Int32 → St → Prop
  | 0 => fun _ _ _ _ _ _ _ => False
  | n + 1 => B_M_goRows_114 rq post ih50 (L_M_goRows_114 rq post ih50 n)
theorem wl_M_goRows_114 {p : Program} {l : Launch} {e : Env} {R : Room} {s : State} {m : MethodId} {args : Array Value} {below : List Frame} {meth : Method} {c : Code} {Q : State → Prop} {G : GX} {A : Nat → Prop} {rq : (St → Prop) → Int32 → Int32 → Int32 → Int32 → St → Prop} {frec lrec : Nat} (S : CallFix p m c cX12_goRows 7 s args GW RX12) (hE : env G A s s.heap) (hA : ∀ q, s.heap.size ≤ q → A q) (hRf : frec + 1 ≤ R.frames) (hRl : lrec + 40 ≤ R.locals) (hq : ∀ (G : GX) (z0 : St) (sz : Nat) (x1 : Int32) (x2 : Int32) (x3 : Int32) (x4 : Int32) (post : St → Prop), MetV l wM yX12_goRows cX12_goRows 7 none { frames := frec, cells := 0, slots := 0, locals := lrec } [.ref (ad G 100), .int x1, .int x2, .int x3, .int x4] G z0 sz (rq post x1 x2 x3 x4 z0) post) (hfb : 63 ≤ frec ∧ 1774 ≤ lrec) {post : St → Prop} (hret : RetV p l e R s m args below meth c Q 0 0 wM G A cX12_goRows post) {ih50 : Int32 → Int32 → Int32 → Int32 → Int32 → St → Prop} (h50 : ∀ (x1 : Int32) (x2 : Int32) (x3 : Int32) (x4 : Int32) (x5 : Int32) (z0 : St), ih50 x1 x2 x3 x4 x5 z0 → Xw p l e R s m args below meth c Q 0 0 wM G A z0 7 [(0, .ref (ad G 100)), (1, .int x1), (2, .int x2), (3, .int x3), (4, .int x4), (5, .int x5)] 50 []) : ∀ (n : Nat) (x1 : Int32) (x2 : Int32) (x3 : Int32) (x4 : Int32) (x5 : Int32) (x6 : Int32) (z0 : St), L_M_goRows_114 rq post ih50 n x1 x2 x3 x4 x5 x6 z0 → Xw p l e R s m args below meth c Q 0 0 wM G A z0 7 [(0, .ref (ad G 100)), (1, .int x1), (2, .int x2), (3, .int x3), (4, .int x4), (5, .int x5), (6, .int x6)] 114 [] := by
  intro n
  induction n with
  | zero => intro x1 x2 x3 x4 x5 x6 z0 hB; exact absurd hB id
  | succ n ih => exact fun x1 x2 x3 x4 x5 x6 z0 hB => w_M_goRows_114 S hE hA hRf hRl hq hfb hret h50 ih x1 x2 x3 x4 x5 x6 z0 hB
def B_M_goRows_78 (rq : (St → Prop) → Int32 → Int32 → Int32 → Int32 → St → Prop) (post : St → Prop) (ih50 : Int32 → Int32 → Int32 → Int32 → Int32 → St → Prop) (x1 : Int32) (x2 : Int32) (x3 : Int32) (x4 : Int32) (x5 : Int32) (z0 : St) : Prop :=
  (S_M_visits_r114 (fun (r1 : Int32) (z1 : St) => (rq (fun (z2 : St) => (∃ n2, L_M_goRows_114 rq post ih50 n2 x1 x2 x3 x4 x5 (0 : Int32) z2)) (x1 - (1 : Int32)) (x2 ||| ((1 : Int32) <<< (x5 &&& 31))) (x3 + r1) (((10 : Int32) * x4) + x5) z1)) x5 z0)
set_option maxHeartbeats 4000000 in
set_option maxRecDepth 100000 in
theorem w_M_goRows_78 {p : Program} {l : Launch} {e : Env} {R : Room} {s : State} {m : MethodId} {args : Array Value} {below : List Frame} {meth : Method} {c : Code} {Q : State → Prop} {G : GX} {A : Nat → Prop} {rq : (St → Prop) → Int32 → Int32 → Int32 → Int32 → St → Prop} {frec lrec : Nat} (S : CallFix p m c cX12_goRows 7 s args GW RX12) (hE : env G A s s.heap) (hA : ∀ q, s.heap.size ≤ q → A q) (hRf : frec + 1 ≤ R.frames) (hRl : lrec + 40 ≤ R.locals) (hq : ∀ (G : GX) (z0 : St) (sz : Nat) (x1 : Int32) (x2 : Int32) (x3 : Int32) (x4 : Int32) (post : St → Prop), MetV l wM yX12_goRows cX12_goRows 7 none { frames := frec, cells := 0, slots := 0, locals := lrec } [.ref (ad G 100), .int x1, .int x2, .int x3, .int x4] G z0 sz (rq post x1 x2 x3 x4 z0) post) (hfb : 63 ≤ frec ∧ 1774 ≤ lrec) {post : St → Prop} (hret : RetV p l e R s m args below meth c Q 0 0 wM G A cX12_goRows post) {ih50 : Int32 → Int32 → Int32 → Int32 → Int32 → St → Prop} (h50 : ∀ (x1 : Int32) (x2 : Int32) (x3 : Int32) (x4 : Int32) (x5 : Int32) (z0 : St), ih50 x1 x2 x3 x4 x5 z0 → Xw p l e R s m args below meth c Q 0 0 wM G A z0 7 [(0, .ref (ad G 100)), (1, .int x1), (2, .int x2), (3, .int x3), (4, .int x4), (5, .int x5)] 50 []) (x1 : Int32) (x2 : Int32) (x3 : Int32) (x4 : Int32) (x5 : Int32) (z0 : St) (hB : B_M_goRows_78 rq post ih50 x1 x2 x3 x4 x5 z0) : Xw p l e R s m args below meth c Q 0 0 wM G A z0 7 [(0, .ref (ad G 100)), (1, .int x1), (2, .int x2), (3, .int x3), (4, .int x4), (5, .int x5)] 78 [] := by
  intro H locs ls hP hD hS hl
  have hx := S.1
  have hb := S.2.1
  refine lv_aload_n hx hb dX12_goRows_78 rfl (lv_at hl 0 rfl) ?_
  refine lv_iload_n hx hb dX12_goRows_79 rfl (lv_at hl 1 rfl) ?_
  refine lv_iconst (v := 1) hx hb dX12_goRows_80 (by decide) ?_
  refine lv_isub hx hb dX12_goRows_81 ?_
  refine lv_iload_n hx hb dX12_goRows_82 rfl (lv_at hl 2 rfl) ?_
  refine lv_iconst (v := 1) hx hb dX12_goRows_83 (by decide) ?_
  refine lv_iload hx hb dX12_goRows_84 (lv_at hl 5 rfl) ?_
  refine lv_ishl hx hb dX12_goRows_86 ?_
  refine lv_ior hx hb dX12_goRows_87 ?_
  refine lv_iload_n hx hb dX12_goRows_88 rfl (lv_at hl 3 rfl) ?_
  refine lv_aload_n hx hb dX12_goRows_89 rfl (lv_at hl 0 rfl) ?_
  refine lv_aload_n hx hb dX12_goRows_90 rfl (lv_at hl 0 rfl) ?_
  refine xMg_100_trial S hE hP lk_X12_64 dX12_goRows_91 ?_
  refine lv_iload hx hb dX12_goRows_94 (lv_at hl 5 rfl) ?_
  refine xcVi [.ref (ad G 114), .int x5] S hE hA hP hD hS (c_M_visits_r114 l G z0 H.size x5 _) hB (gw_c lk_X12_332 (gw_c wi_X12_visits (gw_c we_X12_X12_visits_X12_visits (gw_c wn_X12 (gw_c wc_X12_visits (fun _ h9 => h9)))))) hd_X12_visits rfl rfl (Nat.le_trans (show 62 + 1 ≤ frec + 1 by omega) hRf) (Nat.le_trans (show 8 + (8 + 11) + (1747) ≤ lrec + 40 by omega) hRl) ⟨Nat.zero_le _, Nat.zero_le _⟩ (va_recv hE.1 hP (ci := 11) (q0 := 0) rfl rfl) rfl hl.1 rfl (Nat.le_of_ble_eq_true rfl) dX12_goRows_96 (fun r1 z1 H locs hB hP hD hS => ?_)
  refine lv_iadd hx hb dX12_goRows_99 ?_
  refine lv_bipush (v := 10) hx hb dX12_goRows_100 (by decide) ?_
  refine lv_iload hx hb dX12_goRows_102 (lv_at hl 4 rfl) ?_
  refine lv_imul hx hb dX12_goRows_104 ?_
  refine lv_iload hx hb dX12_goRows_105 (lv_at hl 5 rfl) ?_
  refine lv_iadd hx hb dX12_goRows_107 ?_
  refine xcVv [.int (x1 - (1 : Int32)), .int (x2 ||| ((1 : Int32) <<< (x5 &&& 31))), .int (x3 + r1), .int (((10 : Int32) * x4) + x5)] S hE hA hP hD hS (hq G z1 H.size (x1 - (1 : Int32)) (x2 ||| ((1 : Int32) <<< (x5 &&& 31))) (x3 + r1) (((10 : Int32) * x4) + x5) _) hB (gw_c lk_X12_411 (gw_c wi_X12_goRows (gw_c we_X12_X12_goRows_X12_goRows (gw_c wn_X12 (gw_c wc_X12_goRows (fun _ h9 => h9)))))) hd_X12_goRows rfl rfl (Nat.le_trans (show frec + 1 ≤ frec + 1 by omega) hRf) (Nat.le_trans (show 8 + (7 + 11) + (lrec) ≤ lrec + 40 by omega) hRl) ⟨Nat.zero_le _, Nat.zero_le _⟩ (va_recv hE.1 hP (ci := 11) (q0 := 0) rfl rfl) rfl hl.1 rfl (Nat.le_of_ble_eq_true rfl) dX12_goRows_108 (fun z2 H locs hB hP hD hS => ?_)
  refine lv_iconst (v := 0) hx hb dX12_goRows_111 (by decide) ?_
  refine lv_istore (lv' := [(6, .int (0 : Int32)), (0, .ref (ad G 100)), (1, .int x1), (2, .int x2), (3, .int x3), (4, .int x4), (5, .int x5)]) hx hb dX12_goRows_112 hl (by decide) rfl (fun ls hl => ?_)
  obtain ⟨n2, hB⟩ := hB
  exact wl_M_goRows_114 S hE hA hRf hRl hq hfb hret h50 n2 x1 x2 x3 x4 x5 (0 : Int32) z2 hB _ _ _ hP hD hS (lv_sub hl [1, 2, 3, 4, 5, 6, 0] rfl)
def B_M_goRows_50 (rq : (St → Prop) → Int32 → Int32 → Int32 → Int32 → St → Prop) (post : St → Prop) (ih50 : Int32 → Int32 → Int32 → Int32 → Int32 → St → Prop) (x1 : Int32) (x2 : Int32) (x3 : Int32) (x4 : Int32) (x5 : Int32) (z0 : St) : Prop :=
  (((gI z0 112) ≤ x5 → (post z0)) ∧ (¬ (gI z0 112) ≤ x5 → (((gI z0 127) = 0 → (S_M_has (fun (r3 : Int32) (z1 : St) => ((r3 = 0 → (B_M_goRows_78 rq post ih50 x1 x2 x3 x4 x5 z1)) ∧ (¬ r3 = 0 → (B_M_goRows_146 rq post ih50 x1 x2 x3 x4 x5 z1)))) x2 x5 z0)) ∧ (¬ (gI z0 127) = 0 → (B_M_goRows_78 rq post ih50 x1 x2 x3 x4 x5 z0)))))
set_option maxHeartbeats 4000000 in
set_option maxRecDepth 100000 in
theorem w_M_goRows_50 {p : Program} {l : Launch} {e : Env} {R : Room} {s : State} {m : MethodId} {args : Array Value} {below : List Frame} {meth : Method} {c : Code} {Q : State → Prop} {G : GX} {A : Nat → Prop} {rq : (St → Prop) → Int32 → Int32 → Int32 → Int32 → St → Prop} {frec lrec : Nat} (S : CallFix p m c cX12_goRows 7 s args GW RX12) (hE : env G A s s.heap) (hA : ∀ q, s.heap.size ≤ q → A q) (hRf : frec + 1 ≤ R.frames) (hRl : lrec + 40 ≤ R.locals) (hq : ∀ (G : GX) (z0 : St) (sz : Nat) (x1 : Int32) (x2 : Int32) (x3 : Int32) (x4 : Int32) (post : St → Prop), MetV l wM yX12_goRows cX12_goRows 7 none { frames := frec, cells := 0, slots := 0, locals := lrec } [.ref (ad G 100), .int x1, .int x2, .int x3, .int x4] G z0 sz (rq post x1 x2 x3 x4 z0) post) (hfb : 63 ≤ frec ∧ 1774 ≤ lrec) {post : St → Prop} (hret : RetV p l e R s m args below meth c Q 0 0 wM G A cX12_goRows post) {ih50 : Int32 → Int32 → Int32 → Int32 → Int32 → St → Prop} (h50 : ∀ (x1 : Int32) (x2 : Int32) (x3 : Int32) (x4 : Int32) (x5 : Int32) (z0 : St), ih50 x1 x2 x3 x4 x5 z0 → Xw p l e R s m args below meth c Q 0 0 wM G A z0 7 [(0, .ref (ad G 100)), (1, .int x1), (2, .int x2), (3, .int x3), (4, .int x4), (5, .int x5)] 50 []) (x1 : Int32) (x2 : Int32) (x3 : Int32) (x4 : Int32) (x5 : Int32) (z0 : St) (hB : B_M_goRows_50 rq post ih50 x1 x2 x3 x4 x5 z0) : Xw p l e R s m args below meth c Q 0 0 wM G A z0 7 [(0, .ref (ad G 100)), (1, .int x1), (2, .int x2), (3, .int x3), (4, .int x4), (5, .int x5)] 50 [] := by
  intro H locs ls hP hD hS hl
  have hx := S.1
  have hb := S.2.1
  refine lv_iload hx hb dX12_goRows_50 (lv_at hl 5 rfl) ?_
  refine lv_aload_n hx hb dX12_goRows_52 rfl (lv_at hl 0 rfl) ?_
  refine xMg_100_guests S hE hP lk_X12_284 dX12_goRows_53 ?_
  refine lv_icmp_ge (tgt := 152) hx hb dX12_goRows_56 (by decide) (fun c1 => ?_) (fun c1 => ?_)
  · have hB := hB.1 c1
    exact hret _ _ _ _ _ dX12_goRows_152 hB hP hD hS
  · have hB := hB.2 c1
    refine lv_aload_n hx hb dX12_goRows_59 rfl (lv_at hl 0 rfl) ?_
    refine xMg_100_again S hE hP lk_X12_408 dX12_goRows_60 ?_
    refine lv_if_ne (tgt := 78) hx hb dX12_goRows_63 (by decide) (fun c2 => ?_) (fun c2 => ?_)
    · have hB := hB.2 c2
      exact w_M_goRows_78 S hE hA hRf hRl hq hfb hret h50 x1 x2 x3 x4 x5 z0 hB _ _ _ hP hD hS (lv_sub hl [0, 1, 2, 3, 4, 5] rfl)
    · have hB := hB.1 c2
      refine lv_iload_n hx hb dX12_goRows_66 rfl (lv_at hl 2 rfl) ?_
      refine lv_iload hx hb dX12_goRows_67 (lv_at hl 5 rfl) ?_
      refine xcSi [.int x2, .int x5] S hE hA hP hD hS (c_M_has l G z0 H.size x2 x5 _) hB (gw_c lk_X12_218 (gw_c wt_X12_has (gw_c wn_X12 (gw_c wc_X12_has (fun _ h9 => h9))))) hs_X12_has rfl rfl (Nat.le_trans (show 0 + 1 ≤ frec + 1 by omega) hRf) (Nat.le_trans (show 8 + (2 + 11) + (0) ≤ lrec + 40 by omega) hRl) ⟨Nat.zero_le _, Nat.zero_le _⟩ rfl hl.1 rfl (Nat.le_of_ble_eq_true rfl) dX12_goRows_69 (fun r3 z1 H locs hB hP hD hS => ?_)
      refine lv_if_eq (tgt := 78) hx hb dX12_goRows_72 (by decide) (fun c4 => ?_) (fun c4 => ?_)
      · have hB := hB.1 c4
        exact w_M_goRows_78 S hE hA hRf hRl hq hfb hret h50 x1 x2 x3 x4 x5 z1 hB _ _ _ hP hD hS (lv_sub hl [0, 1, 2, 3, 4, 5] rfl)
      · have hB := hB.2 c4
        refine lv_goto (tgt := 146) hx hb dX12_goRows_75 (by decide) ?_
        exact w_M_goRows_146 S hE hA hRf hRl hq hfb hret h50 x1 x2 x3 x4 x5 z1 hB _ _ _ hP hD hS (lv_sub hl [0, 1, 2, 3, 4, 5] rfl)
def L_M_goRows_50 (rq : (St → Prop) → Int32 → Int32 → Int32 → Int32 → St → Prop) (post : St → Prop) : Nat → Int32 → Int32 → Int32 → Int32 → Int32 → St → Prop
  | 0 => fun _ _ _ _ _ _ => False
  | n + 1 => B_M_goRows_50 rq post (L_M_goRows_50 rq post n)
theorem wl_M_goRows_50 {p : Program} {l : Launch} {e : Env} {R : Room} {s : State} {m : MethodId} {args : Array Value} {below : List Frame} {meth : Method} {c : Code} {Q : State → Prop} {G : GX} {A : Nat → Prop} {rq : (St → Prop) → Int32 → Int32 → Int32 → Int32 → St → Prop} {frec lrec : Nat} (S : CallFix p m c cX12_goRows 7 s args GW RX12) (hE : env G A s s.heap) (hA : ∀ q, s.heap.size ≤ q → A q) (hRf : frec + 1 ≤ R.frames) (hRl : lrec + 40 ≤ R.locals) (hq : ∀ (G : GX) (z0 : St) (sz : Nat) (x1 : Int32) (x2 : Int32) (x3 : Int32) (x4 : Int32) (post : St → Prop), MetV l wM yX12_goRows cX12_goRows 7 none { frames := frec, cells := 0, slots := 0, locals := lrec } [.ref (ad G 100), .int x1, .int x2, .int x3, .int x4] G z0 sz (rq post x1 x2 x3 x4 z0) post) (hfb : 63 ≤ frec ∧ 1774 ≤ lrec) {post : St → Prop} (hret : RetV p l e R s m args below meth c Q 0 0 wM G A cX12_goRows post) : ∀ (n : Nat) (x1 : Int32) (x2 : Int32) (x3 : Int32) (x4 : Int32) (x5 : Int32) (z0 : St), L_M_goRows_50 rq post n x1 x2 x3 x4 x5 z0 → Xw p l e R s m args below meth c Q 0 0 wM G A z0 7 [(0, .ref (ad G 100)), (1, .int x1), (2, .int x2), (3, .int x3), (4, .int x4), (5, .int x5)] 50 [] := by
  intro n
  induction n with
  | zero => intro x1 x2 x3 x4 x5 z0 hB; exact absurd hB id
  | succ n ih => exact fun x1 x2 x3 x4 x5 z0 hB => w_M_goRows_50 S hE hA hRf hRl hq hfb hret ih x1 x2 x3 x4 x5 z0 hB
def B_M_goRows_15 (rq : (St → Prop) → Int32 → Int32 → Int32 → Int32 → St → Prop) (post : St → Prop) (ih15 : Int32 → Int32 → Int32 → Int32 → Int32 → St → Prop) (x1 : Int32) (x2 : Int32) (x3 : Int32) (x4 : Int32) (x5 : Int32) (z0 : St) : Prop :=
  (((29 : Int32) ≤ x5 → (∃ n2, L_M_goRows_50 rq post n2 x1 x2 x3 x4 (0 : Int32) z0)) ∧ (¬ (29 : Int32) ≤ x5 → (vp_in x5 269 ∧ (vp_in (((29 : Int32) * x1) + x5) 203 ∧ (∀ z1 : St, z1 = sA z0 116 (((29 : Int32) * x1) + x5).toNatClampNeg (gA z0 114 x5.toNatClampNeg) → (∀ v3 : Int32, v3 = x5 + (1 : Int32) → (ih15 x1 x2 x3 x4 v3 z1)))))))
set_option maxHeartbeats 4000000 in
set_option maxRecDepth 100000 in
theorem w_M_goRows_15 {p : Program} {l : Launch} {e : Env} {R : Room} {s : State} {m : MethodId} {args : Array Value} {below : List Frame} {meth : Method} {c : Code} {Q : State → Prop} {G : GX} {A : Nat → Prop} {rq : (St → Prop) → Int32 → Int32 → Int32 → Int32 → St → Prop} {frec lrec : Nat} (S : CallFix p m c cX12_goRows 7 s args GW RX12) (hE : env G A s s.heap) (hA : ∀ q, s.heap.size ≤ q → A q) (hRf : frec + 1 ≤ R.frames) (hRl : lrec + 40 ≤ R.locals) (hq : ∀ (G : GX) (z0 : St) (sz : Nat) (x1 : Int32) (x2 : Int32) (x3 : Int32) (x4 : Int32) (post : St → Prop), MetV l wM yX12_goRows cX12_goRows 7 none { frames := frec, cells := 0, slots := 0, locals := lrec } [.ref (ad G 100), .int x1, .int x2, .int x3, .int x4] G z0 sz (rq post x1 x2 x3 x4 z0) post) (hfb : 63 ≤ frec ∧ 1774 ≤ lrec) {post : St → Prop} (hret : RetV p l e R s m args below meth c Q 0 0 wM G A cX12_goRows post) {ih15 : Int32 → Int32 → Int32 → Int32 → Int32 → St → Prop} (h15 : ∀ (x1 : Int32) (x2 : Int32) (x3 : Int32) (x4 : Int32) (x5 : Int32) (z0 : St), ih15 x1 x2 x3 x4 x5 z0 → Xw p l e R s m args below meth c Q 0 0 wM G A z0 7 [(0, .ref (ad G 100)), (1, .int x1), (2, .int x2), (3, .int x3), (4, .int x4), (5, .int x5)] 15 []) (x1 : Int32) (x2 : Int32) (x3 : Int32) (x4 : Int32) (x5 : Int32) (z0 : St) (hB : B_M_goRows_15 rq post ih15 x1 x2 x3 x4 x5 z0) : Xw p l e R s m args below meth c Q 0 0 wM G A z0 7 [(0, .ref (ad G 100)), (1, .int x1), (2, .int x2), (3, .int x3), (4, .int x4), (5, .int x5)] 15 [] := by
  intro H locs ls hP hD hS hl
  have hx := S.1
  have hb := S.2.1
  refine lv_iload hx hb dX12_goRows_15 (lv_at hl 5 rfl) ?_
  refine lv_bipush (v := 29) hx hb dX12_goRows_17 (by decide) ?_
  refine lv_icmp_ge (tgt := 47) hx hb dX12_goRows_19 (by decide) (fun c1 => ?_) (fun c1 => ?_)
  · have hB := hB.1 c1
    refine lv_iconst (v := 0) hx hb dX12_goRows_47 (by decide) ?_
    refine lv_istore (lv' := [(5, .int (0 : Int32)), (0, .ref (ad G 100)), (1, .int x1), (2, .int x2), (3, .int x3), (4, .int x4)]) hx hb dX12_goRows_48 hl (by decide) rfl (fun ls hl => ?_)
    obtain ⟨n2, hB⟩ := hB
    exact wl_M_goRows_50 S hE hA hRf hRl hq hfb hret n2 x1 x2 x3 x4 (0 : Int32) z0 hB _ _ _ hP hD hS (lv_sub hl [1, 2, 3, 4, 5, 0] rfl)
  · have hB := hB.2 c1
    refine lv_aload_n hx hb dX12_goRows_22 rfl (lv_at hl 0 rfl) ?_
    refine xMg_100_saved S hE hP lk_X12_77 dX12_goRows_23 ?_
    refine lv_bipush (v := 29) hx hb dX12_goRows_26 (by decide) ?_
    refine lv_iload_n hx hb dX12_goRows_28 rfl (lv_at hl 1 rfl) ?_
    refine lv_imul hx hb dX12_goRows_29 ?_
    refine lv_iload hx hb dX12_goRows_30 (lv_at hl 5 rfl) ?_
    refine lv_iadd hx hb dX12_goRows_32 ?_
    refine lv_aload_n hx hb dX12_goRows_33 rfl (lv_at hl 0 rfl) ?_
    refine xMg_100_trial S hE hP lk_X12_64 dX12_goRows_34 ?_
    refine lv_iload hx hb dX12_goRows_37 (lv_at hl 5 rfl) ?_
    obtain ⟨hi, hB⟩ := hB
    refine xMl_114 S hE hP hi dX12_goRows_39 ?_
    obtain ⟨hi, hB⟩ := hB
    obtain ⟨z1, ez1⟩ : ∃ z9, z9 = sA z0 116 (((29 : Int32) * x1) + x5).toNatClampNeg (gA z0 114 x5.toNatClampNeg) := ⟨_, rfl⟩
    have hB := hB z1 ez1
    refine xMs_116 S hE hP hD hS _ rfl hi dX12_goRows_40 (fun H locs hP hD hS => ?_)
    rw [← ez1] at hP hD
    obtain ⟨v3, ev3⟩ : ∃ y9, y9 = x5 + (1 : Int32) := ⟨_, rfl⟩
    have hB := hB v3 ev3
    refine lv_iinc (v := v3) (lv' := [(5, .int v3), (0, .ref (ad G 100)), (1, .int x1), (2, .int x2), (3, .int x3), (4, .int x4)]) hx hb dX12_goRows_41 hl (k := 5) rfl (by rw [ev3]; rfl) (by decide) rfl (fun ls hl => ?_)
    refine lv_goto (tgt := 15) hx hb dX12_goRows_44 (by decide) ?_
    exact h15 x1 x2 x3 x4 v3 z1 hB _ _ _ hP hD hS (lv_sub hl [1, 2, 3, 4, 5, 0] rfl)
def L_M_goRows_15 (rq : (St → Prop) → Int32 → Int32 → Int32 → Int32 → St → Prop) (post : St → Prop) : Nat → Int32 → Int32 → Int32 → Int32 → Int32 → St → Prop
  | 0 => fun _ _ _ _ _ _ => False
  | n + 1 => B_M_goRows_15 rq post (L_M_goRows_15 rq post n)
theorem wl_M_goRows_15 {p : Program} {l : Launch} {e : Env} {R : Room} {s : State} {m : MethodId} {args : Array Value} {below : List Frame} {meth : Method} {c : Code} {Q : State → Prop} {G : GX} {A : Nat → Prop} {rq : (St → Prop) → Int32 → Int32 → Int32 → Int32 → St → Prop} {frec lrec : Nat} (S : CallFix p m c cX12_goRows 7 s args GW RX12) (hE : env G A s s.heap) (hA : ∀ q, s.heap.size ≤ q → A q) (hRf : frec + 1 ≤ R.frames) (hRl : lrec + 40 ≤ R.locals) (hq : ∀ (G : GX) (z0 : St) (sz : Nat) (x1 : Int32) (x2 : Int32) (x3 : Int32) (x4 : Int32) (post : St → Prop), MetV l wM yX12_goRows cX12_goRows 7 none { frames := frec, cells := 0, slots := 0, locals := lrec } [.ref (ad G 100), .int x1, .int x2, .int x3, .int x4] G z0 sz (rq post x1 x2 x3 x4 z0) post) (hfb : 63 ≤ frec ∧ 1774 ≤ lrec) {post : St → Prop} (hret : RetV p l e R s m args below meth c Q 0 0 wM G A cX12_goRows post) : ∀ (n : Nat) (x1 : Int32) (x2 : Int32) (x3 : Int32) (x4 : Int32) (x5 : Int32) (z0 : St), L_M_goRows_15 rq post n x1 x2 x3 x4 x5 z0 → Xw p l e R s m args below meth c Q 0 0 wM G A z0 7 [(0, .ref (ad G 100)), (1, .int x1), (2, .int x2), (3, .int x3), (4, .int x4), (5, .int x5)] 15 [] := by
  intro n
  induction n with
  | zero => intro x1 x2 x3 x4 x5 z0 hB; exact absurd hB id
  | succ n ih => exact fun x1 x2 x3 x4 x5 z0 hB => w_M_goRows_15 S hE hA hRf hRl hq hfb hret ih x1 x2 x3 x4 x5 z0 hB
def S_M_goRows (rq : (St → Prop) → Int32 → Int32 → Int32 → Int32 → St → Prop) (post : St → Prop) (x1 : Int32) (x2 : Int32) (x3 : Int32) (x4 : Int32) (z0 : St) : Prop :=
  ((x1 = 0 → (S_M_endsRow (fun (z1 : St) => (post z1)) x3 x4 z0)) ∧ (¬ x1 = 0 → (∃ n2, L_M_goRows_15 rq post n2 x1 x2 x3 x4 (0 : Int32) z0)))
set_option maxHeartbeats 4000000 in
set_option maxRecDepth 100000 in
theorem w_M_goRows_0 {p : Program} {l : Launch} {e : Env} {R : Room} {s : State} {m : MethodId} {args : Array Value} {below : List Frame} {meth : Method} {c : Code} {Q : State → Prop} {G : GX} {A : Nat → Prop} {rq : (St → Prop) → Int32 → Int32 → Int32 → Int32 → St → Prop} {frec lrec : Nat} (S : CallFix p m c cX12_goRows 7 s args GW RX12) (hE : env G A s s.heap) (hA : ∀ q, s.heap.size ≤ q → A q) (hRf : frec + 1 ≤ R.frames) (hRl : lrec + 40 ≤ R.locals) (hq : ∀ (G : GX) (z0 : St) (sz : Nat) (x1 : Int32) (x2 : Int32) (x3 : Int32) (x4 : Int32) (post : St → Prop), MetV l wM yX12_goRows cX12_goRows 7 none { frames := frec, cells := 0, slots := 0, locals := lrec } [.ref (ad G 100), .int x1, .int x2, .int x3, .int x4] G z0 sz (rq post x1 x2 x3 x4 z0) post) (hfb : 63 ≤ frec ∧ 1774 ≤ lrec) {post : St → Prop} (hret : RetV p l e R s m args below meth c Q 0 0 wM G A cX12_goRows post) (x1 : Int32) (x2 : Int32) (x3 : Int32) (x4 : Int32) (z0 : St) (hB : S_M_goRows rq post x1 x2 x3 x4 z0) : Xw p l e R s m args below meth c Q 0 0 wM G A z0 7 [(0, .ref (ad G 100)), (1, .int x1), (2, .int x2), (3, .int x3), (4, .int x4)] 0 [] := by
  intro H locs ls hP hD hS hl
  have hx := S.1
  have hb := S.2.1
  refine lv_iload_n hx hb dX12_goRows_0 rfl (lv_at hl 1 rfl) ?_
  refine lv_if_ne (tgt := 12) hx hb dX12_goRows_1 (by decide) (fun c1 => ?_) (fun c1 => ?_)
  · have hB := hB.2 c1
    refine lv_iconst (v := 0) hx hb dX12_goRows_12 (by decide) ?_
    refine lv_istore (lv' := [(5, .int (0 : Int32)), (0, .ref (ad G 100)), (1, .int x1), (2, .int x2), (3, .int x3), (4, .int x4)]) hx hb dX12_goRows_13 hl (by decide) rfl (fun ls hl => ?_)
    obtain ⟨n2, hB⟩ := hB
    exact wl_M_goRows_15 S hE hA hRf hRl hq hfb hret n2 x1 x2 x3 x4 (0 : Int32) z0 hB _ _ _ hP hD hS (lv_sub hl [1, 2, 3, 4, 5, 0] rfl)
  · have hB := hB.1 c1
    refine lv_aload_n hx hb dX12_goRows_4 rfl (lv_at hl 0 rfl) ?_
    refine lv_iload_n hx hb dX12_goRows_5 rfl (lv_at hl 3 rfl) ?_
    refine lv_iload hx hb dX12_goRows_6 (lv_at hl 4 rfl) ?_
    refine xcVv [.int x3, .int x4] S hE hA hP hD hS (c_M_endsRow l G z0 H.size x3 x4 _) hB (gw_c lk_X12_404 (gw_c wi_X12_endsRow (gw_c we_X12_X12_endsRow_X12_endsRow (gw_c wn_X12 (gw_c wc_X12_endsRow (fun _ h9 => h9)))))) hd_X12_endsRow rfl rfl (Nat.le_trans (show 0 + 1 ≤ frec + 1 by omega) hRf) (Nat.le_trans (show 8 + (3 + 11) + (0) ≤ lrec + 40 by omega) hRl) ⟨Nat.zero_le _, Nat.zero_le _⟩ (va_recv hE.1 hP (ci := 11) (q0 := 0) rfl rfl) rfl hl.1 rfl (Nat.le_of_ble_eq_true rfl) dX12_goRows_8 (fun z1 H locs hB hP hD hS => ?_)
    exact hret _ _ _ _ _ dX12_goRows_11 hB hP hD hS
set_option maxHeartbeats 4000000 in
set_option maxRecDepth 100000 in
theorem c_M_goRows (l : Launch) {rq : (St → Prop) → Int32 → Int32 → Int32 → Int32 → St → Prop} {frec lrec : Nat} (hq : ∀ (G : GX) (z0 : St) (sz : Nat) (x1 : Int32) (x2 : Int32) (x3 : Int32) (x4 : Int32) (post : St → Prop), MetV l wM yX12_goRows cX12_goRows 7 none { frames := frec, cells := 0, slots := 0, locals := lrec } [.ref (ad G 100), .int x1, .int x2, .int x3, .int x4] G z0 sz (rq post x1 x2 x3 x4 z0) post) (hfb : 63 ≤ frec ∧ 1774 ≤ lrec) (G : GX) (z0 : St) (sz : Nat) (x1 : Int32) (x2 : Int32) (x3 : Int32) (x4 : Int32) (post : St → Prop) : MetV l wM yX12_goRows cX12_goRows 7 none ({ frames := frec + 1, cells := 0, slots := 0, locals := lrec + 40 }) [.ref (ad G 100), .int x1, .int x2, .int x3, .int x4] G z0 sz (S_M_goRows rq post x1 x2 x3 x4 z0) post := by
  refine Met.ofW (cc := cX12_goRows) (maxL := 7) (ret := none) (by decide) rfl ?_
  intro p e s m args below meth c s₁ B hml hv
  obtain ⟨rfl, hsz, hP, hD0, hE, hB⟩ := hv
  have S : CallFix p m c cX12_goRows 7 s _ GW RX12 := ⟨B.exec, B.bytes, hml, findClass_of_methodNamed B.named, fun w h => atoms_spec (ws := Cond.code yX12_goRows cX12_goRows 7 none :: GW) B.pre w (List.mem_cons_of_mem _ h)⟩
  have hlocks := B.notSynchronized
  subst hsz
  have hD := hD0.self (sz := s.heap.size)
  generalize hAe : va_A (wM G z0) s.heap.size = A at hD hE ⊢
  have hA : ∀ q : Nat, s.heap.size ≤ q → A q := fun q h => by rw [← hAe]; exact Or.inr h
  have hS : va_S A s.heap s.heap [] := va_S.rf
  have hl := lv_entry ([.ref (ad G 100), .int x1, .int x2, .int x3, .int x4]) (n := 7) (Nat.le_of_ble_eq_true rfl)
  rw [lg_entry_eq]
  generalize (lg_sl ([.ref (ad G 100), .int x1, .int x2, .int x3, .int x4]) ++ List.replicate (7 - (lg_sl ([.ref (ad G 100), .int x1, .int x2, .int x3, .int x4])).length) Slot.unset).toArray = ls at hl ⊢
  have hl : lv_has ls 7 [(0, .ref (ad G 100)), (1, .int x1), (2, .int x2), (3, .int x3), (4, .int x4)] := hl
  refine w_M_goRows_0 S hE hA (Nat.le_refl _) (Nat.le_refl _) hq hfb ?_ x1 x2 x3 x4 z0 hB _ _ _ hP hD hS hl
  intro pc ls σ H locs hd hp hP hD hS
  exact W.vret B.exec B.bytes B.returns (fun t ht hW => ⟨⟨σ, rfl, hp, by rw [ht]; exact hP, hD⟩, hS.F ht⟩) hS.2.2 hd
def D_M_goRows : Nat → (St → Prop) → Int32 → Int32 → Int32 → Int32 → St → Prop
  | 0 => fun _ _ _ _ _ _ => False
  | d + 1 => S_M_goRows (D_M_goRows d)
theorem cd_M_goRows (l : Launch) : ∀ (d : Nat) (G : GX) (z0 : St) (sz : Nat) (x1 : Int32) (x2 : Int32) (x3 : Int32) (x4 : Int32) (post : St → Prop), MetV l wM yX12_goRows cX12_goRows 7 none { frames := 63 + 1 * d, cells := 0, slots := 0, locals := 1774 + 40 * d } [.ref (ad G 100), .int x1, .int x2, .int x3, .int x4] G z0 sz (D_M_goRows d post x1 x2 x3 x4 z0) post := by
  intro d
  induction d with
  | zero => exact fun G z0 sz x1 x2 x3 x4 post => Met.never (by decide) rfl (fun _ _ h => h.2.2.2.2.2)
  | succ d ih =>
    intro G z0 sz x1 x2 x3 x4 post
    have h9 := c_M_goRows l ih ⟨by omega, by omega⟩ G z0 sz x1 x2 x3 x4 post
    rw [show 63 + 1 * d + 1 = 63 + 1 * (d + 1) by omega, show 1774 + 40 * d + 40 = 1774 + 40 * (d + 1) by omega] at h9
    exact h9
