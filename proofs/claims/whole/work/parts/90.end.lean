/-- the tie between the two systems' states: to be written -/
def InvW (z y : St) : Prop := ∃ r : Nat → Nat, z = zI r ∧ y = yI
theorem pure_step : YStep InvW := sorry
theorem pure_start : ∀ r : Nat → Nat, InvW (zI r) yI := fun r => ⟨r, rfl, rfl⟩
theorem i_vc : Claimed_1_1 ∧ Claimed_1_2 := i_vc_of pure_step pure_start
