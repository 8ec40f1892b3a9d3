def St_feed (Inv Inv1 : St → St → Prop) : Prop := ∀ (z y : St) (a1 a2 a3 a4 a5 : Int32), Inv z y → S_B_feed (fun r z1 => S_M_feed (fun r1 y1 => r = r1 ∧ Inv1 z1 y1) (a1) (a2) (a3) (a4) (a5) y) (a1) (a2) (a3) (a4) (a5) z
def St_end (Inv Inv1 : St → St → Prop) : Prop := ∀ (z y : St) (a1 a2 a3 a4 a5 : Int32), Inv z y → S_B_end (fun r z1 => S_M_end (fun r1 y1 => r = r1 ∧ Inv1 z1 y1) (a1) y) (a1) z
def St_fault_v0 (Inv Inv1 : St → St → Prop) : Prop := ∀ (z y : St) (a1 a2 a3 a4 a5 : Int32), Inv z y → a1 = 0 → S_B_fault_v0 (fun r z1 => S_M_fault (fun r1 y1 => r = r1 ∧ Inv1 z1 y1) (a1) y) (a1) z
def St_fault_v1 (Inv Inv1 : St → St → Prop) : Prop := ∀ (z y : St) (a1 a2 a3 a4 a5 : Int32), Inv z y → a1 = 1 → S_B_fault_v1 (fun r z1 => S_M_fault (fun r1 y1 => r = r1 ∧ Inv1 z1 y1) (a1) y) (a1) z
def St_fault_v2 (Inv Inv1 : St → St → Prop) : Prop := ∀ (z y : St) (a1 a2 a3 a4 a5 : Int32), Inv z y → a1 = 2 → S_B_fault_v2 (fun r z1 => S_M_fault (fun r1 y1 => r = r1 ∧ Inv1 z1 y1) (a1) y) (a1) z
def St_fault_vn (Inv Inv1 : St → St → Prop) : Prop := ∀ (z y : St) (a1 a2 a3 a4 a5 : Int32), Inv z y → ¬ a1 = 0 → ¬ a1 = 1 → ¬ a1 = 2 → S_B_fault_vn (fun r z1 => S_M_fault (fun r1 y1 => r = r1 ∧ Inv1 z1 y1) (a1) y) (a1) z
def St_text_v0 (Inv Inv1 : St → St → Prop) : Prop := ∀ (z y : St) (a1 a2 a3 a4 a5 : Int32), Inv z y → a1 = 0 → S_B_text_v0 (fun r z1 => S_M_text (fun r1 y1 => r = r1 ∧ Inv1 z1 y1) (a1) y) (a1) z
def St_text_v1 (Inv Inv1 : St → St → Prop) : Prop := ∀ (z y : St) (a1 a2 a3 a4 a5 : Int32), Inv z y → a1 = 1 → S_B_text_v1 (fun r z1 => S_M_text (fun r1 y1 => r = r1 ∧ Inv1 z1 y1) (a1) y) (a1) z
def St_text_v2 (Inv Inv1 : St → St → Prop) : Prop := ∀ (z y : St) (a1 a2 a3 a4 a5 : Int32), Inv z y → a1 = 2 → S_B_text_v2 (fun r z1 => S_M_text (fun r1 y1 => r = r1 ∧ Inv1 z1 y1) (a1) y) (a1) z
def St_text_vn (Inv Inv1 : St → St → Prop) : Prop := ∀ (z y : St) (a1 a2 a3 a4 a5 : Int32), Inv z y → ¬ a1 = 0 → ¬ a1 = 1 → ¬ a1 = 2 → S_B_text_vn (fun r z1 => S_M_text (fun r1 y1 => r = r1 ∧ Inv1 z1 y1) (a1) y) (a1) z
def St_rule (Inv Inv1 : St → St → Prop) : Prop := ∀ (z y : St) (a1 a2 a3 a4 a5 : Int32), Inv z y → S_B_rule (fun r z1 => S_M_rule (fun r1 y1 => r = r1 ∧ Inv1 z1 y1) (a1) y) (a1) z
def St_drink (Inv Inv1 : St → St → Prop) : Prop := ∀ (z y : St) (a1 a2 a3 a4 a5 : Int32), Inv z y → S_B_drink (fun r z1 => S_M_drink (fun r1 y1 => r = r1 ∧ Inv1 z1 y1) (a1) (a2) y) (a1) (a2) z
def St_guest (Inv Inv1 : St → St → Prop) : Prop := ∀ (z y : St) (f : Nat → Int64) (a1 a2 a3 a4 a5 : Int32), Inv z y → S_B_guest (fun r z1 => GPP Inv1 a1 a2 y 0 (z1, vp_updL f (0 : Int32).toNatClampNeg r.toInt64)) (fun z1 => GPP Inv1 a1 a2 y 1 (z1, f)) a1 a2 z
def St_law (Inv Inv1 : St → St → Prop) : Prop := ∀ (z y : St) (a1 a2 a3 a4 a5 : Int32), Inv z y → S_B_law (fun r z1 => S_M_law (fun r1 y1 => r = r1 ∧ Inv1 z1 y1) (a1) y) (a1) z
def St_snow (Inv Inv1 : St → St → Prop) : Prop := ∀ (z y : St) (a1 a2 a3 a4 a5 : Int32), Inv z y → S_B_snow (fun r z1 => S_M_snow (fun r1 y1 => r = r1 ∧ Inv1 z1 y1) (a1) y) (a1) z
def St_visit (Inv Inv1 : St → St → Prop) : Prop := ∀ (z y : St) (a1 a2 a3 a4 a5 : Int32), Inv z y → S_B_visit (fun r z1 => S_M_visit (fun r1 y1 => r = r1 ∧ Inv1 z1 y1) (a1) y) (a1) z
def St_month (Inv Inv1 : St → St → Prop) : Prop := ∀ (z y : St) (a1 a2 a3 a4 a5 : Int32), Inv z y → S_B_month (fun r z1 => S_M_month (fun r1 y1 => r = r1 ∧ Inv1 z1 y1)  y)  z
def St_host (Inv Inv1 : St → St → Prop) : Prop := ∀ (z y : St) (a1 a2 a3 a4 a5 : Int32), Inv z y → S_B_host (fun r z1 => S_M_host (fun r1 y1 => r = r1 ∧ Inv1 z1 y1) (a1) y) (a1) z
def St_pay (Inv Inv1 : St → St → Prop) : Prop := ∀ (z y : St) (a1 a2 a3 a4 a5 : Int32), Inv z y → S_B_pay (fun r z1 => S_M_pay (fun r1 y1 => r = r1 ∧ Inv1 z1 y1) (a1) (a2) y) (a1) (a2) z
def St_price (Inv Inv1 : St → St → Prop) : Prop := ∀ (z y : St) (a1 a2 a3 a4 a5 : Int32), Inv z y → S_B_price (fun r z1 => S_M_price (fun r1 y1 => r = r1 ∧ Inv1 z1 y1) (a1) (a2) y) (a1) (a2) z
def St_years (Inv Inv1 : St → St → Prop) : Prop := ∀ (z y : St) (a1 a2 a3 a4 a5 : Int32), Inv z y → S_B_years (fun r z1 => S_M_years (fun r1 y1 => r = r1 ∧ Inv1 z1 y1) (a1) (((a2.toInt64 <<< ((32 : Int32).toInt64 &&& 63)) ||| (a3.toInt64 &&& (4294967295 : Int64)))) y) (a1) (((a2.toInt64 <<< ((32 : Int32).toInt64 &&& 63)) ||| (a3.toInt64 &&& (4294967295 : Int64)))) z
def St_undo (Inv Inv1 : St → St → Prop) : Prop := ∀ (z y : St) (a1 a2 a3 a4 a5 : Int32), Inv z y → S_B_undo (fun r z1 => S_M_undo (fun r1 y1 => r = r1 ∧ Inv1 z1 y1)  y)  z
def St_book (Inv Inv1 : St → St → Prop) : Prop := ∀ (z y : St) (a1 a2 a3 a4 a5 : Int32), Inv z y → S_B_book (fun r z1 => S_M_book (fun r1 y1 => r = r1 ∧ Inv1 z1 y1) (a1) (a2) y) (a1) (a2) z
def St_step (Inv Inv1 : St → St → Prop) : Prop := ∀ (z y : St) (a1 a2 a3 a4 a5 : Int32), Inv z y → S_B_step (fun r z1 => S_M_step (fun r1 y1 => r = r1 ∧ Inv1 z1 y1) (a1) (a2) (a3) y) (a1) (a2) (a3) z
def St_run (Inv Inv1 : St → St → Prop) : Prop := ∀ (z y : St) (a1 a2 a3 a4 a5 : Int32), Inv z y → S_B_run (fun r z1 => S_M_run (fun r1 y1 => r = r1 ∧ Inv1 z1 y1) (a1) (a2) y) (a1) (a2) z
def St_perform (Inv Inv1 : St → St → Prop) : Prop := ∀ (z y : St) (a1 a2 a3 a4 a5 : Int32), Inv z y → S_B_perform (fun r z1 => S_M_perform (fun r1 y1 => r = r1 ∧ Inv1 z1 y1) (a1) y) (a1) z
def St_best (Inv Inv1 : St → St → Prop) : Prop := ∀ (z y : St) (a1 a2 a3 a4 a5 : Int32), Inv z y → S_B_best (fun r z1 => S_M_best (fun r1 y1 => r = r1 ∧ Inv1 z1 y1) (a1) y) (a1) z
def St_comes (Inv Inv1 : St → St → Prop) : Prop := ∀ (z y : St) (a1 a2 a3 a4 a5 : Int32), Inv z y → S_B_comes (fun r z1 => S_M_comes (fun r1 y1 => r = r1 ∧ Inv1 z1 y1) (a1) (a2) y) (a1) (a2) z
def St_soonest (Inv Inv1 : St → St → Prop) : Prop := ∀ (z y : St) (a1 a2 a3 a4 a5 : Int32), Inv z y → S_B_soonest (fun r z1 => S_M_soonest (fun r1 y1 => r = r1 ∧ Inv1 z1 y1) (a1) (a2) y) (a1) (a2) z
def St_ends (Inv Inv1 : St → St → Prop) : Prop := ∀ (z y : St) (a1 a2 a3 a4 a5 : Int32), Inv z y → S_B_ends (fun r z1 => S_M_ends (fun r1 y1 => r = r1 ∧ Inv1 z1 y1) (a1) y) (a1) z
def St_round (Inv Inv1 : St → St → Prop) : Prop := ∀ (z y : St) (a1 a2 a3 a4 a5 : Int32), Inv z y → S_B_round (fun r z1 => S_M_round (fun r1 y1 => r = r1 ∧ Inv1 z1 y1) (a1) y) (a1) z
def St_seen (Inv Inv1 : St → St → Prop) : Prop := ∀ (z y : St) (a1 a2 a3 a4 a5 : Int32), Inv z y → S_B_seen (fun r z1 => S_M_seen (fun r1 y1 => r = r1 ∧ Inv1 z1 y1) (a1) (a2) (a3) (a4) y) (a1) (a2) (a3) (a4) z
def St_fits (Inv Inv1 : St → St → Prop) : Prop := ∀ (z y : St) (a1 a2 a3 a4 a5 : Int32), Inv z y → S_B_fits (fun r z1 => S_M_fits (fun r1 y1 => r = r1 ∧ Inv1 z1 y1) (a1) (a2) y) (a1) (a2) z
def St_serve (Inv Inv1 : St → St → Prop) : Prop := ∀ (z y : St) (a1 a2 a3 a4 a5 : Int32), Inv z y → S_B_serve (fun r z1 => S_M_serve (fun r1 y1 => r = r1 ∧ Inv1 z1 y1) (a1) (a2) y) (a1) (a2) z
def St_who (Inv Inv1 : St → St → Prop) : Prop := ∀ (z y : St) (a1 a2 a3 a4 a5 : Int32), Inv z y → S_B_who (fun r z1 => S_M_who (fun r1 y1 => r = r1 ∧ Inv1 z1 y1) (a1) (a2) (a3) y) (a1) (a2) (a3) z
def St_game (Inv Inv1 : St → St → Prop) : Prop := ∀ (z y : St) (a1 a2 a3 a4 a5 : Int32), Inv z y → S_B_game (fun r z1 => S_M_game (fun r1 y1 => r = r1 ∧ Inv1 z1 y1) (a1) (a2) (a3) (a4) (a5) y) (a1) (a2) (a3) (a4) (a5) z
def St_rests (Inv Inv1 : St → St → Prop) : Prop := ∀ (z y : St) (a1 a2 a3 a4 a5 : Int32), Inv z y → S_B_rests (fun r z1 => S_M_rests (fun r1 y1 => r = r1 ∧ Inv1 z1 y1) (a1) (a2) (a3) y) (a1) (a2) (a3) z
def St_dealt (Inv Inv1 : St → St → Prop) : Prop := ∀ (z y : St) (a1 a2 a3 a4 a5 : Int32), Inv z y → S_B_dealt (fun r z1 => S_M_dealt (fun r1 y1 => r = r1 ∧ Inv1 z1 y1) (a1) y) (a1) z
def St_odds (Inv Inv1 : St → St → Prop) : Prop := ∀ (z y : St) (a1 a2 a3 a4 a5 : Int32), Inv z y → S_B_odds (fun r z1 => S_M_odds (fun r1 y1 => r = r1 ∧ Inv1 z1 y1) (a1) (a2) y) (a1) (a2) z
def St_makes (Inv Inv1 : St → St → Prop) : Prop := ∀ (z y : St) (a1 a2 a3 a4 a5 : Int32), Inv z y → S_B_makes (fun r z1 => S_M_makes (fun r1 y1 => r = r1 ∧ Inv1 z1 y1) (a1) (a2) y) (a1) (a2) z
def St_glad (Inv Inv1 : St → St → Prop) : Prop := ∀ (z y : St) (a1 a2 a3 a4 a5 : Int32), Inv z y → S_B_glad (fun r z1 => S_M_glad (fun r1 y1 => r = r1 ∧ Inv1 z1 y1) (a1) y) (a1) z
def St_all (Inv Inv1 : St → St → Prop) : Prop := ∀ (z y : St) (a1 a2 a3 a4 a5 : Int32), Inv z y → S_B_all (fun r z1 => S_M_all (fun r1 y1 => r = r1 ∧ Inv1 z1 y1) (a1) y) (a1) z
def St_affords (Inv Inv1 : St → St → Prop) : Prop := ∀ (z y : St) (a1 a2 a3 a4 a5 : Int32), Inv z y → S_B_affords (fun r z1 => S_M_affords (fun r1 y1 => r = r1 ∧ Inv1 z1 y1) (a1) y) (a1) z
def St_brought (Inv Inv1 : St → St → Prop) : Prop := ∀ (z y : St) (a1 a2 a3 a4 a5 : Int32), Inv z y → S_B_brought (fun r z1 => S_M_brought (fun r1 y1 => r = r1 ∧ Inv1 z1 y1) (a1) y) (a1) z
def St_saves (Inv Inv1 : St → St → Prop) : Prop := ∀ (z y : St) (a1 a2 a3 a4 a5 : Int32), Inv z y → S_B_saves (fun r z1 => S_M_saves (fun r1 y1 => r = r1 ∧ Inv1 z1 y1) (a1) (a2) y) (a1) (a2) z
def St_image (Inv Inv1 : St → St → Prop) : Prop := ∀ (z y : St) (a1 a2 a3 a4 a5 : Int32), Inv z y → S_B_image (fun r z1 => S_M_image (fun r1 y1 => r = r1 ∧ Inv1 z1 y1)  y)  z
def St_back (Inv Inv1 : St → St → Prop) : Prop := ∀ (z y : St) (a1 a2 a3 a4 a5 : Int32), Inv z y → S_B_back (fun r z1 => S_M_back (fun r1 y1 => r = r1 ∧ Inv1 z1 y1)  y)  z
def St_count (Inv Inv1 : St → St → Prop) : Prop := ∀ (z y : St) (a1 a2 a3 a4 a5 : Int32), Inv z y → S_B_count (fun r z1 => S_M_count (fun r1 y1 => r = r1 ∧ Inv1 z1 y1) (a1) y) (a1) z
/-- all that is owed of the two systems, with no machine in it -/
def YStep (J : Nat → St → St → Prop) : Prop := ∀ k : Nat, k < 512 → (∀ z y, J k z y → J (k + 1) z y) ∧
  St_feed (J k) (J (k + 1)) ∧
  St_end (J k) (J (k + 1)) ∧
  St_fault_v0 (J k) (J (k + 1)) ∧
  St_fault_v1 (J k) (J (k + 1)) ∧
  St_fault_v2 (J k) (J (k + 1)) ∧
  St_fault_vn (J k) (J (k + 1)) ∧
  St_text_v0 (J k) (J (k + 1)) ∧
  St_text_v1 (J k) (J (k + 1)) ∧
  St_text_v2 (J k) (J (k + 1)) ∧
  St_text_vn (J k) (J (k + 1)) ∧
  St_rule (J k) (J (k + 1)) ∧
  St_drink (J k) (J (k + 1)) ∧
  St_guest (J k) (J (k + 1)) ∧
  St_law (J k) (J (k + 1)) ∧
  St_snow (J k) (J (k + 1)) ∧
  St_visit (J k) (J (k + 1)) ∧
  St_month (J k) (J (k + 1)) ∧
  St_host (J k) (J (k + 1)) ∧
  St_pay (J k) (J (k + 1)) ∧
  St_price (J k) (J (k + 1)) ∧
  St_years (J k) (J (k + 1)) ∧
  St_undo (J k) (J (k + 1)) ∧
  St_book (J k) (J (k + 1)) ∧
  St_step (J k) (J (k + 1)) ∧
  St_run (J k) (J (k + 1)) ∧
  St_perform (J k) (J (k + 1)) ∧
  St_best (J k) (J (k + 1)) ∧
  St_comes (J k) (J (k + 1)) ∧
  St_soonest (J k) (J (k + 1)) ∧
  St_ends (J k) (J (k + 1)) ∧
  St_round (J k) (J (k + 1)) ∧
  St_seen (J k) (J (k + 1)) ∧
  St_fits (J k) (J (k + 1)) ∧
  St_serve (J k) (J (k + 1)) ∧
  St_who (J k) (J (k + 1)) ∧
  St_game (J k) (J (k + 1)) ∧
  St_rests (J k) (J (k + 1)) ∧
  St_dealt (J k) (J (k + 1)) ∧
  St_odds (J k) (J (k + 1)) ∧
  St_makes (J k) (J (k + 1)) ∧
  St_glad (J k) (J (k + 1)) ∧
  St_all (J k) (J (k + 1)) ∧
  St_affords (J k) (J (k + 1)) ∧
  St_brought (J k) (J (k + 1)) ∧
  St_saves (J k) (J (k + 1)) ∧
  St_image (J k) (J (k + 1)) ∧
  St_back (J k) (J (k + 1)) ∧
  St_count (J k) (J (k + 1))
theorem yswitch {x : Int32} (h : ¬ (x.toInt < 0 ∨ 41 < x.toInt)) : ∃ j : Nat, j ≤ 41 ∧ x = nI j := by
  refine ⟨x.toInt.toNat, by omega, Int32.toInt_inj.mp ?_⟩
  rw [nI_toInt (by omega)]
  omega
section LOOP
variable {p : Program} {l : Launch} {e : Env} {s : State} {m : MethodId} {below : List Frame} {meth : Method} {c : Code} {b L : Nat} {xs : Nat → Int32} {G : GX} {A : Nat → Prop} {cL : ClassId} {ao : Nat} {J : Nat → St → St → Prop}
theorem ysub {L : Nat} (hL : L ≤ 3072) : (Int32.ofNat L - 6).toInt = (L : Int) - 6 := by
  have h1 : (Int32.ofNat L).toInt = (L : Int) := nI_toInt (by omega)
  have h2 : (6 : Int32).toInt = 6 := by decide
  rw [Int32.toInt_sub, h1, h2]
  have h3 : ((2 ^ 32 : Nat) : Int) = 4294967296 := by decide
  show (if ((L : Int) - 6) % ((2 ^ 32 : Nat) : Int) < (((2 ^ 32 : Nat) : Int) + 1) / 2 then ((L : Int) - 6) % ((2 ^ 32 : Nat) : Int) else ((L : Int) - 6) % ((2 ^ 32 : Nat) : Int) - ((2 ^ 32 : Nat) : Int)) = (L : Int) - 6
  rw [h3]
  split <;> omega
theorem law_exit (hL : L ≤ 3072) (S : CallFix p m c cL_law 7 s #[Value.ref b] GW RL) (hr : meth.sig.returnType = ret) (hlocks : meth.locks = false) (hlt : l.stackTraces = false) (hKL : va_K G.1 classes [(cL, .long)] s) (hE : env G A s s.heap) (hA : ∀ q, s.heap.size ≤ q → A q) (hAs : ∀ q, A q → s.heap.size ≤ q) (hX : va_X b L xs s s.heap) (hbl : b < s.heap.size) (hbA : ¬ A b) {H : Heap} {locs : List Loc} {ls : Array Slot} {cells slots : Nat} (hS : va_S A s.heap H locs) (hc : cells ≤ 601024) (hs : slots ≤ 7293034) : W p l e room_1 s m #[Value.ref b] below meth c H locs cells slots (lw_Z below #[Value.ref b] s) (F0 m 1667 ls []) := by
  refine lv_iconst (v := 1) S.1 S.2.1 dL_law_1667 (by decide) ?_
  refine va_forget (fun q hq => hAs _ (hS.2.2 q hq)) ?_
  refine W.widen (k := 601024) (n := 7293034) hc hs ?_
  exact lw_ret S.1 S.2.1 hr hlocks dL_law_1668
theorem law_head (hL : L ≤ 3072) (S : CallFix p m c cL_law 7 s #[Value.ref b] GW RL) (hr : meth.sig.returnType = ret) (hlocks : meth.locks = false) (hlt : l.stackTraces = false) (hKL : va_K G.1 classes [(cL, .long)] s) (hE : env G A s s.heap) (hA : ∀ q, s.heap.size ≤ q → A q) (hAs : ∀ q, A q → s.heap.size ≤ q) (hX : va_X b L xs s s.heap) (hbl : b < s.heap.size) (hbA : ¬ A b) {k : Nat} {H : Heap} {locs : List Loc} {ls : Array Slot} {cells slots : Nat} (hS : va_S A s.heap H locs) (hl : lv_has ls 7 [(4, .int (nI (6 * k))), (3, .ref ao), (2, .ref (ad G 100)), (1, .ref (ad G 0)), (0, .ref b)]) (hc : cells ≤ 601024) (hs : slots ≤ 7293034) (hk : 6 * k ≤ L + 6)
    (kk : 6 * k + 6 ≤ L → W p l e room_1 s m #[Value.ref b] below meth c H locs cells slots (lw_Z below #[Value.ref b] s) (F0 m 33 ls [])) : W p l e room_1 s m #[Value.ref b] below meth c H locs cells slots (lw_Z below #[Value.ref b] s) (F0 m 23 ls []) := by
  have hx := S.1
  have hb := S.2.1
  refine lv_iload hx hb dL_law_23 (lv_at hl 0 rfl) ?_
  refine lv_aload_n hx hb dL_law_25 rfl (lv_at hl 4 rfl) ?_
  refine va_slen hx hb hX hbl hbA hS dL_law_26 ?_
  refine lv_bipush (v := 6) hx hb dL_law_27 (by decide) ?_
  refine lv_isub hx hb dL_law_29 ?_
  refine lv_icmp_gt (tgt := 1667) hx hb dL_law_30 (by decide) (fun _ => law_exit hL S hr hlocks hlt hKL hE hA hAs hX hbl hbA hS hc hs) (fun c9 => kk ?_)
  have h1 : ¬ (Int32.ofNat L - 6).toInt < (nI (6 * k)).toInt := fun q => c9 (Int32.lt_iff_toInt_lt.mpr q)
  rw [ysub hL, nI_toInt (by omega)] at h1
  omega
set_option maxHeartbeats 8000000 in
set_option maxRecDepth 100000 in
theorem law_loop (hL : L ≤ 3072) (S : CallFix p m c cL_law 7 s #[Value.ref b] GW RL) (hr : meth.sig.returnType = ret) (hlocks : meth.locks = false) (hlt : l.stackTraces = false) (hKL : va_K G.1 classes [(cL, .long)] s) (hE : env G A s s.heap) (hA : ∀ q, s.heap.size ≤ q → A q) (hAs : ∀ q, A q → s.heap.size ≤ q) (hX : va_X b L xs s s.heap) (hbl : b < s.heap.size) (hbA : ¬ A b) (hst0 : YStep J) : ∀ (n k cells slots : Nat) (z y : St) (f : Nat → Int64) (H : Heap) (locs : List Loc) (ls : Array Slot), L < 6 * (k + n) + 6 → 6 * k ≤ L + 6 → cells + n ≤ 601024 → slots + 241 * n ≤ 7293034 → J k z y →
    va_P G.1 classes (wX G z) H → va_P G.1 classes (wM G y) H → va_P G.1 classes (wO ao cL f) H → va_D A (wX G z ++ (wM G y ++ wO ao cL f)) → va_S A s.heap H locs → lv_has ls 7 [(4, .int (nI (6 * k))), (3, .ref ao), (2, .ref (ad G 100)), (1, .ref (ad G 0)), (0, .ref b)] → W p l e room_1 s m #[Value.ref b] below meth c H locs cells slots (lw_Z below #[Value.ref b] s) (F0 m 23 ls []) := by
  have hx := S.1
  have hb := S.2.1
  intro n
  induction n with
  | zero =>
    intro k cells slots z y f H locs ls hn hk hc hs hI hPX hPM hPO hD hS hl
    exact law_head hL S hr hlocks hlt hKL hE hA hAs hX hbl hbA hS hl (by omega) (by omega) hk (fun h => absurd h (by omega))
  | succ n ih =>
    intro k cells slots z y f H locs ls hn hk hc hs hI hPX hPM hPO hD hS hl
    refine law_head hL S hr hlocks hlt hKL hE hA hAs hX hbl hbA hS hl (by omega) (by omega) hk (fun h => ?_)
    have hst := (hst0 k (by omega)).2
    have h0 : vp_in (nI (6 * k)) L := vp_in_nI (by omega) (by omega)
    have h1 : vp_in (nI (6 * k) + 1) L := by rw [show nI (6 * k) + 1 = nI (6 * k + 1) from nI_add _ 1]; exact vp_in_nI (by omega) (by omega)
    have h2 : vp_in (nI (6 * k) + 2) L := by rw [show nI (6 * k) + 2 = nI (6 * k + 2) from nI_add _ 2]; exact vp_in_nI (by omega) (by omega)
    have h3 : vp_in (nI (6 * k) + 3) L := by rw [show nI (6 * k) + 3 = nI (6 * k + 3) from nI_add _ 3]; exact vp_in_nI (by omega) (by omega)
    have h4 : vp_in (nI (6 * k) + 4) L := by rw [show nI (6 * k) + 4 = nI (6 * k + 4) from nI_add _ 4]; exact vp_in_nI (by omega) (by omega)
    have h5 : vp_in (nI (6 * k) + 5) L := by rw [show nI (6 * k) + 5 = nI (6 * k + 5) from nI_add _ 5]; exact vp_in_nI (by omega) (by omega)
    have kk : YK p l e s m below meth c b L xs G A cL ao (nI (6 * k)) (J (k + 1)) (lw_Z below #[Value.ref b] s) cells slots := fun z y f H locs ls hI hPX hPM hPO hD hS hl => by
      refine lv_iinc (v := nI (6 * (k + 1))) (lv' := [(4, .int (nI (6 * (k + 1)))), (3, .ref ao), (2, .ref (ad G 100)), (1, .ref (ad G 0)), (0, .ref b)]) hx hb dL_law_1661 hl (k := 0) rfl ?_ (by decide) rfl (fun ls hl => ?_)
      · exact (show nI (6 * k) + 6 = nI (6 * k + 6) from nI_add _ 6)
      refine lv_goto (tgt := 23) hx hb dL_law_1664 (by decide) ?_
      exact ih (k + 1) (cells + 1) (slots + 241) z y f H locs ls (by omega) (by omega) (by omega) (by omega) hI hPX hPM hPO hD hS hl
    refine lv_aload_n hx hb dL_law_33 rfl (lv_at hl 4 rfl) ?_
    refine lv_iload hx hb dL_law_34 (lv_at hl 0 rfl) ?_
    refine va_sld hx hb hX hbl hbA hS h0 dL_law_36 ?_
    refine lv_bipush (v := 63) hx hb dL_law_37 (by decide) ?_
    refine lv_iand hx hb dL_law_39 ?_
    generalize xs (nI (6 * k)).toNatClampNeg &&& 63 = x
    by_cases hout : x.toInt < 0 ∨ 41 < x.toInt
    · refine lv_tableOut (tgt := 1661) hx hb dL_law_40 hout (by decide) ?_
      exact W.widen (k := cells + 1) (n := slots + 241) (by omega) (by omega) (kk z y f H locs ls ((hst0 k (by omega)).1 z y hI) hPX hPM hPO hD hS hl)
    obtain ⟨j, hj, ej⟩ := yswitch hout
    have hjs : j = 0 ∨ j = 1 ∨ j = 2 ∨ j = 3 ∨ j = 4 ∨ j = 5 ∨ j = 6 ∨ j = 7 ∨ j = 8 ∨ j = 9 ∨ j = 10 ∨ j = 11 ∨ j = 12 ∨ j = 13 ∨ j = 14 ∨ j = 15 ∨ j = 16 ∨ j = 17 ∨ j = 18 ∨ j = 19 ∨ j = 20 ∨ j = 21 ∨ j = 22 ∨ j = 23 ∨ j = 24 ∨ j = 25 ∨ j = 26 ∨ j = 27 ∨ j = 28 ∨ j = 29 ∨ j = 30 ∨ j = 31 ∨ j = 32 ∨ j = 33 ∨ j = 34 ∨ j = 35 ∨ j = 36 ∨ j = 37 ∨ j = 38 ∨ j = 39 ∨ j = 40 ∨ j = 41 := by omega
    rcases hjs with rfl | rfl | rfl | rfl | rfl | rfl | rfl | rfl | rfl | rfl | rfl | rfl | rfl | rfl | rfl | rfl | rfl | rfl | rfl | rfl | rfl | rfl | rfl | rfl | rfl | rfl | rfl | rfl | rfl | rfl | rfl | rfl | rfl | rfl | rfl | rfl | rfl | rfl | rfl | rfl | rfl | rfl
    · refine lv_tableIn (tgt := 224) (off := 184) hx hb dL_law_40 (by rw [ej]; decide) (by rw [ej]; decide) (by rw [ej]; decide) (by decide) ?_
      exact lc_feed S hE hA hX hbl hbA hPX hPM hPO hD hS hl ⟨by omega, by omega⟩ h1 h2 h3 h4 h5 (hst.1 z y _ _ _ _ _ hI) kk
    · refine lv_tableIn (tgt := 297) (off := 257) hx hb dL_law_40 (by rw [ej]; decide) (by rw [ej]; decide) (by rw [ej]; decide) (by decide) ?_
      exact lc_end S hE hA hX hbl hbA hPX hPM hPO hD hS hl ⟨by omega, by omega⟩ h1 h2 h3 h4 h5 (hst.2.1 z y _ 0 0 0 0 hI) kk
    · refine lv_tableIn (tgt := 322) (off := 282) hx hb dL_law_40 (by rw [ej]; decide) (by rw [ej]; decide) (by rw [ej]; decide) (by decide) ?_
      by_cases ev0 : xs (nI (6 * k) + 1).toNatClampNeg = 0
      · exact lc_fault_v0 S hE hA hX hbl hbA hPX hPM hPO hD hS hl ⟨by omega, by omega⟩ h1 h2 h3 h4 h5 (hst.2.2.1 z y _ 0 0 0 0 hI ev0) kk
      by_cases ev1 : xs (nI (6 * k) + 1).toNatClampNeg = 1
      · exact lc_fault_v1 S hE hA hX hbl hbA hPX hPM hPO hD hS hl ⟨by omega, by omega⟩ h1 h2 h3 h4 h5 (hst.2.2.2.1 z y _ 0 0 0 0 hI ev1) kk
      by_cases ev2 : xs (nI (6 * k) + 1).toNatClampNeg = 2
      · exact lc_fault_v2 S hE hA hX hbl hbA hPX hPM hPO hD hS hl ⟨by omega, by omega⟩ h1 h2 h3 h4 h5 (hst.2.2.2.2.1 z y _ 0 0 0 0 hI ev2) kk
      exact lc_fault_vn S hE hA hX hbl hbA hPX hPM hPO hD hS hl ⟨by omega, by omega⟩ h1 h2 h3 h4 h5 (hst.2.2.2.2.2.1 z y _ 0 0 0 0 hI ev0 ev1 ev2) kk
    · refine lv_tableIn (tgt := 347) (off := 307) hx hb dL_law_40 (by rw [ej]; decide) (by rw [ej]; decide) (by rw [ej]; decide) (by decide) ?_
      by_cases ev0 : xs (nI (6 * k) + 1).toNatClampNeg = 0
      · exact lc_text_v0 S hE hA hX hbl hbA hPX hPM hPO hD hS hl ⟨by omega, by omega⟩ h1 h2 h3 h4 h5 (hst.2.2.2.2.2.2.1 z y _ 0 0 0 0 hI ev0) kk
      by_cases ev1 : xs (nI (6 * k) + 1).toNatClampNeg = 1
      · exact lc_text_v1 S hE hA hX hbl hbA hPX hPM hPO hD hS hl ⟨by omega, by omega⟩ h1 h2 h3 h4 h5 (hst.2.2.2.2.2.2.2.1 z y _ 0 0 0 0 hI ev1) kk
      by_cases ev2 : xs (nI (6 * k) + 1).toNatClampNeg = 2
      · exact lc_text_v2 S hE hA hX hbl hbA hPX hPM hPO hD hS hl ⟨by omega, by omega⟩ h1 h2 h3 h4 h5 (hst.2.2.2.2.2.2.2.2.1 z y _ 0 0 0 0 hI ev2) kk
      exact lc_text_vn S hE hA hX hbl hbA hPX hPM hPO hD hS hl ⟨by omega, by omega⟩ h1 h2 h3 h4 h5 (hst.2.2.2.2.2.2.2.2.2.1 z y _ 0 0 0 0 hI ev0 ev1 ev2) kk
    · refine lv_tableIn (tgt := 372) (off := 332) hx hb dL_law_40 (by rw [ej]; decide) (by rw [ej]; decide) (by rw [ej]; decide) (by decide) ?_
      exact lc_rule S hE hA hX hbl hbA hPX hPM hPO hD hS hl ⟨by omega, by omega⟩ h1 h2 h3 h4 h5 (hst.2.2.2.2.2.2.2.2.2.2.1 z y _ 0 0 0 0 hI) kk
    · refine lv_tableIn (tgt := 397) (off := 357) hx hb dL_law_40 (by rw [ej]; decide) (by rw [ej]; decide) (by rw [ej]; decide) (by decide) ?_
      exact lc_drink S hE hA hX hbl hbA hPX hPM hPO hD hS hl ⟨by omega, by omega⟩ h1 h2 h3 h4 h5 (hst.2.2.2.2.2.2.2.2.2.2.2.1 z y _ _ 0 0 0 hI) kk
    · refine lv_tableIn (tgt := 434) (off := 394) hx hb dL_law_40 (by rw [ej]; decide) (by rw [ej]; decide) (by rw [ej]; decide) (by decide) ?_
      exact lc_guest S hE hA hX hbl hbA hPX hPM hPO hD hS hl ⟨by omega, by omega⟩ h1 h2 h3 h4 h5 hlt hKL (hst.2.2.2.2.2.2.2.2.2.2.2.2.1 z y f _ _ 0 0 0 hI) kk
    · refine lv_tableIn (tgt := 502) (off := 462) hx hb dL_law_40 (by rw [ej]; decide) (by rw [ej]; decide) (by rw [ej]; decide) (by decide) ?_
      exact lc_law S hE hA hX hbl hbA hPX hPM hPO hD hS hl ⟨by omega, by omega⟩ h1 h2 h3 h4 h5 (hst.2.2.2.2.2.2.2.2.2.2.2.2.2.1 z y _ 0 0 0 0 hI) kk
    · refine lv_tableIn (tgt := 527) (off := 487) hx hb dL_law_40 (by rw [ej]; decide) (by rw [ej]; decide) (by rw [ej]; decide) (by decide) ?_
      exact lc_snow S hE hA hX hbl hbA hPX hPM hPO hD hS hl ⟨by omega, by omega⟩ h1 h2 h3 h4 h5 (hst.2.2.2.2.2.2.2.2.2.2.2.2.2.2.1 z y _ 0 0 0 0 hI) kk
    · refine lv_tableIn (tgt := 552) (off := 512) hx hb dL_law_40 (by rw [ej]; decide) (by rw [ej]; decide) (by rw [ej]; decide) (by decide) ?_
      exact lc_visit S hE hA hX hbl hbA hPX hPM hPO hD hS hl ⟨by omega, by omega⟩ h1 h2 h3 h4 h5 (hst.2.2.2.2.2.2.2.2.2.2.2.2.2.2.2.1 z y _ 0 0 0 0 hI) kk
    · refine lv_tableIn (tgt := 577) (off := 537) hx hb dL_law_40 (by rw [ej]; decide) (by rw [ej]; decide) (by rw [ej]; decide) (by decide) ?_
      exact lc_month S hE hA hX hbl hbA hPX hPM hPO hD hS hl ⟨by omega, by omega⟩ h1 h2 h3 h4 h5 (hst.2.2.2.2.2.2.2.2.2.2.2.2.2.2.2.2.1 z y 0 0 0 0 0 hI) kk
    · refine lv_tableIn (tgt := 590) (off := 550) hx hb dL_law_40 (by rw [ej]; decide) (by rw [ej]; decide) (by rw [ej]; decide) (by decide) ?_
      exact lc_host S hE hA hX hbl hbA hPX hPM hPO hD hS hl ⟨by omega, by omega⟩ h1 h2 h3 h4 h5 (hst.2.2.2.2.2.2.2.2.2.2.2.2.2.2.2.2.2.1 z y _ 0 0 0 0 hI) kk
    · refine lv_tableIn (tgt := 615) (off := 575) hx hb dL_law_40 (by rw [ej]; decide) (by rw [ej]; decide) (by rw [ej]; decide) (by decide) ?_
      exact lc_pay S hE hA hX hbl hbA hPX hPM hPO hD hS hl ⟨by omega, by omega⟩ h1 h2 h3 h4 h5 (hst.2.2.2.2.2.2.2.2.2.2.2.2.2.2.2.2.2.2.1 z y _ _ 0 0 0 hI) kk
    · refine lv_tableIn (tgt := 652) (off := 612) hx hb dL_law_40 (by rw [ej]; decide) (by rw [ej]; decide) (by rw [ej]; decide) (by decide) ?_
      exact lc_price S hE hA hX hbl hbA hPX hPM hPO hD hS hl ⟨by omega, by omega⟩ h1 h2 h3 h4 h5 (hst.2.2.2.2.2.2.2.2.2.2.2.2.2.2.2.2.2.2.2.1 z y _ _ 0 0 0 hI) kk
    · refine lv_tableIn (tgt := 689) (off := 649) hx hb dL_law_40 (by rw [ej]; decide) (by rw [ej]; decide) (by rw [ej]; decide) (by decide) ?_
      exact lc_years S hE hA hX hbl hbA hPX hPM hPO hD hS hl ⟨by omega, by omega⟩ h1 h2 h3 h4 h5 (hst.2.2.2.2.2.2.2.2.2.2.2.2.2.2.2.2.2.2.2.2.1 z y _ _ _ 0 0 hI) kk
    · refine lv_tableIn (tgt := 758) (off := 718) hx hb dL_law_40 (by rw [ej]; decide) (by rw [ej]; decide) (by rw [ej]; decide) (by decide) ?_
      exact lc_undo S hE hA hX hbl hbA hPX hPM hPO hD hS hl ⟨by omega, by omega⟩ h1 h2 h3 h4 h5 (hst.2.2.2.2.2.2.2.2.2.2.2.2.2.2.2.2.2.2.2.2.2.1 z y 0 0 0 0 0 hI) kk
    · refine lv_tableIn (tgt := 771) (off := 731) hx hb dL_law_40 (by rw [ej]; decide) (by rw [ej]; decide) (by rw [ej]; decide) (by decide) ?_
      exact lc_book S hE hA hX hbl hbA hPX hPM hPO hD hS hl ⟨by omega, by omega⟩ h1 h2 h3 h4 h5 (hst.2.2.2.2.2.2.2.2.2.2.2.2.2.2.2.2.2.2.2.2.2.2.1 z y _ _ 0 0 0 hI) kk
    · refine lv_tableIn (tgt := 808) (off := 768) hx hb dL_law_40 (by rw [ej]; decide) (by rw [ej]; decide) (by rw [ej]; decide) (by decide) ?_
      exact lc_step S hE hA hX hbl hbA hPX hPM hPO hD hS hl ⟨by omega, by omega⟩ h1 h2 h3 h4 h5 (hst.2.2.2.2.2.2.2.2.2.2.2.2.2.2.2.2.2.2.2.2.2.2.2.1 z y _ _ _ 0 0 hI) kk
    · refine lv_tableIn (tgt := 857) (off := 817) hx hb dL_law_40 (by rw [ej]; decide) (by rw [ej]; decide) (by rw [ej]; decide) (by decide) ?_
      exact lc_run S hE hA hX hbl hbA hPX hPM hPO hD hS hl ⟨by omega, by omega⟩ h1 h2 h3 h4 h5 (hst.2.2.2.2.2.2.2.2.2.2.2.2.2.2.2.2.2.2.2.2.2.2.2.2.1 z y _ _ 0 0 0 hI) kk
    · refine lv_tableIn (tgt := 894) (off := 854) hx hb dL_law_40 (by rw [ej]; decide) (by rw [ej]; decide) (by rw [ej]; decide) (by decide) ?_
      exact lc_perform S hE hA hX hbl hbA hPX hPM hPO hD hS hl ⟨by omega, by omega⟩ h1 h2 h3 h4 h5 (hst.2.2.2.2.2.2.2.2.2.2.2.2.2.2.2.2.2.2.2.2.2.2.2.2.2.1 z y _ 0 0 0 0 hI) kk
    · refine lv_tableIn (tgt := 919) (off := 879) hx hb dL_law_40 (by rw [ej]; decide) (by rw [ej]; decide) (by rw [ej]; decide) (by decide) ?_
      exact lc_best S hE hA hX hbl hbA hPX hPM hPO hD hS hl ⟨by omega, by omega⟩ h1 h2 h3 h4 h5 (hst.2.2.2.2.2.2.2.2.2.2.2.2.2.2.2.2.2.2.2.2.2.2.2.2.2.2.1 z y _ 0 0 0 0 hI) kk
    · refine lv_tableIn (tgt := 944) (off := 904) hx hb dL_law_40 (by rw [ej]; decide) (by rw [ej]; decide) (by rw [ej]; decide) (by decide) ?_
      exact lc_comes S hE hA hX hbl hbA hPX hPM hPO hD hS hl ⟨by omega, by omega⟩ h1 h2 h3 h4 h5 (hst.2.2.2.2.2.2.2.2.2.2.2.2.2.2.2.2.2.2.2.2.2.2.2.2.2.2.2.1 z y _ _ 0 0 0 hI) kk
    · refine lv_tableIn (tgt := 981) (off := 941) hx hb dL_law_40 (by rw [ej]; decide) (by rw [ej]; decide) (by rw [ej]; decide) (by decide) ?_
      exact lc_soonest S hE hA hX hbl hbA hPX hPM hPO hD hS hl ⟨by omega, by omega⟩ h1 h2 h3 h4 h5 (hst.2.2.2.2.2.2.2.2.2.2.2.2.2.2.2.2.2.2.2.2.2.2.2.2.2.2.2.2.1 z y _ _ 0 0 0 hI) kk
    · refine lv_tableIn (tgt := 1018) (off := 978) hx hb dL_law_40 (by rw [ej]; decide) (by rw [ej]; decide) (by rw [ej]; decide) (by decide) ?_
      exact lc_ends S hE hA hX hbl hbA hPX hPM hPO hD hS hl ⟨by omega, by omega⟩ h1 h2 h3 h4 h5 (hst.2.2.2.2.2.2.2.2.2.2.2.2.2.2.2.2.2.2.2.2.2.2.2.2.2.2.2.2.2.1 z y _ 0 0 0 0 hI) kk
    · refine lv_tableIn (tgt := 1043) (off := 1003) hx hb dL_law_40 (by rw [ej]; decide) (by rw [ej]; decide) (by rw [ej]; decide) (by decide) ?_
      exact lc_round S hE hA hX hbl hbA hPX hPM hPO hD hS hl ⟨by omega, by omega⟩ h1 h2 h3 h4 h5 (hst.2.2.2.2.2.2.2.2.2.2.2.2.2.2.2.2.2.2.2.2.2.2.2.2.2.2.2.2.2.2.1 z y _ 0 0 0 0 hI) kk
    · refine lv_tableIn (tgt := 1068) (off := 1028) hx hb dL_law_40 (by rw [ej]; decide) (by rw [ej]; decide) (by rw [ej]; decide) (by decide) ?_
      exact lc_seen S hE hA hX hbl hbA hPX hPM hPO hD hS hl ⟨by omega, by omega⟩ h1 h2 h3 h4 h5 (hst.2.2.2.2.2.2.2.2.2.2.2.2.2.2.2.2.2.2.2.2.2.2.2.2.2.2.2.2.2.2.2.1 z y _ _ _ _ 0 hI) kk
    · refine lv_tableIn (tgt := 1129) (off := 1089) hx hb dL_law_40 (by rw [ej]; decide) (by rw [ej]; decide) (by rw [ej]; decide) (by decide) ?_
      exact lc_fits S hE hA hX hbl hbA hPX hPM hPO hD hS hl ⟨by omega, by omega⟩ h1 h2 h3 h4 h5 (hst.2.2.2.2.2.2.2.2.2.2.2.2.2.2.2.2.2.2.2.2.2.2.2.2.2.2.2.2.2.2.2.2.1 z y _ _ 0 0 0 hI) kk
    · refine lv_tableIn (tgt := 1166) (off := 1126) hx hb dL_law_40 (by rw [ej]; decide) (by rw [ej]; decide) (by rw [ej]; decide) (by decide) ?_
      exact lc_serve S hE hA hX hbl hbA hPX hPM hPO hD hS hl ⟨by omega, by omega⟩ h1 h2 h3 h4 h5 (hst.2.2.2.2.2.2.2.2.2.2.2.2.2.2.2.2.2.2.2.2.2.2.2.2.2.2.2.2.2.2.2.2.2.1 z y _ _ 0 0 0 hI) kk
    · refine lv_tableIn (tgt := 1203) (off := 1163) hx hb dL_law_40 (by rw [ej]; decide) (by rw [ej]; decide) (by rw [ej]; decide) (by decide) ?_
      exact lc_who S hE hA hX hbl hbA hPX hPM hPO hD hS hl ⟨by omega, by omega⟩ h1 h2 h3 h4 h5 (hst.2.2.2.2.2.2.2.2.2.2.2.2.2.2.2.2.2.2.2.2.2.2.2.2.2.2.2.2.2.2.2.2.2.2.1 z y _ _ _ 0 0 hI) kk
    · refine lv_tableIn (tgt := 1252) (off := 1212) hx hb dL_law_40 (by rw [ej]; decide) (by rw [ej]; decide) (by rw [ej]; decide) (by decide) ?_
      exact lc_game S hE hA hX hbl hbA hPX hPM hPO hD hS hl ⟨by omega, by omega⟩ h1 h2 h3 h4 h5 (hst.2.2.2.2.2.2.2.2.2.2.2.2.2.2.2.2.2.2.2.2.2.2.2.2.2.2.2.2.2.2.2.2.2.2.2.1 z y _ _ _ _ _ hI) kk
    · refine lv_tableIn (tgt := 1325) (off := 1285) hx hb dL_law_40 (by rw [ej]; decide) (by rw [ej]; decide) (by rw [ej]; decide) (by decide) ?_
      exact lc_rests S hE hA hX hbl hbA hPX hPM hPO hD hS hl ⟨by omega, by omega⟩ h1 h2 h3 h4 h5 (hst.2.2.2.2.2.2.2.2.2.2.2.2.2.2.2.2.2.2.2.2.2.2.2.2.2.2.2.2.2.2.2.2.2.2.2.2.1 z y _ _ _ 0 0 hI) kk
    · refine lv_tableIn (tgt := 1374) (off := 1334) hx hb dL_law_40 (by rw [ej]; decide) (by rw [ej]; decide) (by rw [ej]; decide) (by decide) ?_
      exact lc_dealt S hE hA hX hbl hbA hPX hPM hPO hD hS hl ⟨by omega, by omega⟩ h1 h2 h3 h4 h5 (hst.2.2.2.2.2.2.2.2.2.2.2.2.2.2.2.2.2.2.2.2.2.2.2.2.2.2.2.2.2.2.2.2.2.2.2.2.2.1 z y _ 0 0 0 0 hI) kk
    · refine lv_tableIn (tgt := 1399) (off := 1359) hx hb dL_law_40 (by rw [ej]; decide) (by rw [ej]; decide) (by rw [ej]; decide) (by decide) ?_
      exact lc_odds S hE hA hX hbl hbA hPX hPM hPO hD hS hl ⟨by omega, by omega⟩ h1 h2 h3 h4 h5 (hst.2.2.2.2.2.2.2.2.2.2.2.2.2.2.2.2.2.2.2.2.2.2.2.2.2.2.2.2.2.2.2.2.2.2.2.2.2.2.1 z y _ _ 0 0 0 hI) kk
    · refine lv_tableIn (tgt := 1436) (off := 1396) hx hb dL_law_40 (by rw [ej]; decide) (by rw [ej]; decide) (by rw [ej]; decide) (by decide) ?_
      exact lc_makes S hE hA hX hbl hbA hPX hPM hPO hD hS hl ⟨by omega, by omega⟩ h1 h2 h3 h4 h5 (hst.2.2.2.2.2.2.2.2.2.2.2.2.2.2.2.2.2.2.2.2.2.2.2.2.2.2.2.2.2.2.2.2.2.2.2.2.2.2.2.1 z y _ _ 0 0 0 hI) kk
    · refine lv_tableIn (tgt := 1473) (off := 1433) hx hb dL_law_40 (by rw [ej]; decide) (by rw [ej]; decide) (by rw [ej]; decide) (by decide) ?_
      exact lc_glad S hE hA hX hbl hbA hPX hPM hPO hD hS hl ⟨by omega, by omega⟩ h1 h2 h3 h4 h5 (hst.2.2.2.2.2.2.2.2.2.2.2.2.2.2.2.2.2.2.2.2.2.2.2.2.2.2.2.2.2.2.2.2.2.2.2.2.2.2.2.2.1 z y _ 0 0 0 0 hI) kk
    · refine lv_tableIn (tgt := 1498) (off := 1458) hx hb dL_law_40 (by rw [ej]; decide) (by rw [ej]; decide) (by rw [ej]; decide) (by decide) ?_
      exact lc_all S hE hA hX hbl hbA hPX hPM hPO hD hS hl ⟨by omega, by omega⟩ h1 h2 h3 h4 h5 (hst.2.2.2.2.2.2.2.2.2.2.2.2.2.2.2.2.2.2.2.2.2.2.2.2.2.2.2.2.2.2.2.2.2.2.2.2.2.2.2.2.2.1 z y _ 0 0 0 0 hI) kk
    · refine lv_tableIn (tgt := 1523) (off := 1483) hx hb dL_law_40 (by rw [ej]; decide) (by rw [ej]; decide) (by rw [ej]; decide) (by decide) ?_
      exact lc_affords S hE hA hX hbl hbA hPX hPM hPO hD hS hl ⟨by omega, by omega⟩ h1 h2 h3 h4 h5 (hst.2.2.2.2.2.2.2.2.2.2.2.2.2.2.2.2.2.2.2.2.2.2.2.2.2.2.2.2.2.2.2.2.2.2.2.2.2.2.2.2.2.2.1 z y _ 0 0 0 0 hI) kk
    · refine lv_tableIn (tgt := 1548) (off := 1508) hx hb dL_law_40 (by rw [ej]; decide) (by rw [ej]; decide) (by rw [ej]; decide) (by decide) ?_
      exact lc_brought S hE hA hX hbl hbA hPX hPM hPO hD hS hl ⟨by omega, by omega⟩ h1 h2 h3 h4 h5 (hst.2.2.2.2.2.2.2.2.2.2.2.2.2.2.2.2.2.2.2.2.2.2.2.2.2.2.2.2.2.2.2.2.2.2.2.2.2.2.2.2.2.2.2.1 z y _ 0 0 0 0 hI) kk
    · refine lv_tableIn (tgt := 1573) (off := 1533) hx hb dL_law_40 (by rw [ej]; decide) (by rw [ej]; decide) (by rw [ej]; decide) (by decide) ?_
      exact lc_saves S hE hA hX hbl hbA hPX hPM hPO hD hS hl ⟨by omega, by omega⟩ h1 h2 h3 h4 h5 (hst.2.2.2.2.2.2.2.2.2.2.2.2.2.2.2.2.2.2.2.2.2.2.2.2.2.2.2.2.2.2.2.2.2.2.2.2.2.2.2.2.2.2.2.2.1 z y _ _ 0 0 0 hI) kk
    · refine lv_tableIn (tgt := 1610) (off := 1570) hx hb dL_law_40 (by rw [ej]; decide) (by rw [ej]; decide) (by rw [ej]; decide) (by decide) ?_
      exact lc_image S hE hA hX hbl hbA hPX hPM hPO hD hS hl ⟨by omega, by omega⟩ h1 h2 h3 h4 h5 (hst.2.2.2.2.2.2.2.2.2.2.2.2.2.2.2.2.2.2.2.2.2.2.2.2.2.2.2.2.2.2.2.2.2.2.2.2.2.2.2.2.2.2.2.2.2.1 z y 0 0 0 0 0 hI) kk
    · refine lv_tableIn (tgt := 1623) (off := 1583) hx hb dL_law_40 (by rw [ej]; decide) (by rw [ej]; decide) (by rw [ej]; decide) (by decide) ?_
      exact lc_back S hE hA hX hbl hbA hPX hPM hPO hD hS hl ⟨by omega, by omega⟩ h1 h2 h3 h4 h5 (hst.2.2.2.2.2.2.2.2.2.2.2.2.2.2.2.2.2.2.2.2.2.2.2.2.2.2.2.2.2.2.2.2.2.2.2.2.2.2.2.2.2.2.2.2.2.2.1 z y 0 0 0 0 0 hI) kk
    · refine lv_tableIn (tgt := 1636) (off := 1596) hx hb dL_law_40 (by rw [ej]; decide) (by rw [ej]; decide) (by rw [ej]; decide) (by decide) ?_
      exact lc_count S hE hA hX hbl hbA hPX hPM hPO hD hS hl ⟨by omega, by omega⟩ h1 h2 h3 h4 h5 (hst.2.2.2.2.2.2.2.2.2.2.2.2.2.2.2.2.2.2.2.2.2.2.2.2.2.2.2.2.2.2.2.2.2.2.2.2.2.2.2.2.2.2.2.2.2.2.2 z y _ 0 0 0 0 hI) kk
end LOOP
