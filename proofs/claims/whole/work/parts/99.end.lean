/-! the end: new objects, every call, the claim -/
theorem inv_0 (r : Nat → Nat) : Inv 0 (zI r) yI := by
  refine ⟨0, 0, 0, 0, 0, 0, 0, 0, fun _ => 0, ?_, ?_, ?_, ?_, ?_, ?_, ?_, ?_, rfl⟩
  · exact ⟨rfl, rfl, rfl, rfl, by omega, by omega, fun q => absurd q (Nat.lt_irrefl 0), fun _ => rfl, rfl, rfl, ⟨0, by omega, rfl⟩, ⟨0, by omega, rfl⟩, fun d hd => absurd hd (Nat.not_lt_zero _), fun d hd => absurd hd (Nat.not_lt_zero _), fun d hd => absurd hd (Nat.not_lt_zero _)⟩
  · exact ⟨rfl, rfl, by omega, fun i hi => absurd hi (Nat.not_lt_zero _)⟩
  · exact ⟨rfl, rfl, by omega, .inl ⟨rfl, rfl⟩, fun i hi => absurd hi (Nat.not_lt_zero _)⟩
  · exact ⟨rfl, rfl, by omega, fun i hi => absurd hi (Nat.not_lt_zero _)⟩
  · exact ⟨rfl, rfl, by omega, fun i hi => absurd hi (Nat.not_lt_zero _), fun i hi => absurd hi (by omega), fun i hi => absurd hi (Nat.not_lt_zero _)⟩
  · show TaI 0 0 0 _ _ _
    refine ⟨fun k _ => rfl, ⟨⟨0, by omega, rfl⟩, ⟨0, by omega, rfl⟩, .inl rfl, ⟨0, by omega, rfl⟩, fun _ _ => ⟨0, by omega, rfl⟩, fun _ _ => ⟨0, by omega, rfl⟩, fun _ _ => ⟨0, by omega, rfl⟩, fun _ _ => ⟨0, by omega, rfl⟩⟩, rfl, by omega, rfl, fun i t hi => absurd hi (by omega), fun i hi => absurd hi (by omega)⟩
  · exact ⟨rfl, rfl, by omega, rfl, by omega, fun j hj => absurd hj (Nat.not_lt_zero _)⟩
  · exact .inl ⟨rfl, rfl⟩
theorem whole_step : YStep (fun k => Inv (60 * k)) := by
  intro k hk
  have hV : 60 * k ≤ 60 * (k + 1) := by omega
  have h60 : 60 * k + 60 ≤ 60 * (k + 1) := by omega
  have h1 : 60 * k + 1 ≤ 60 * (k + 1) := by omega
  have b25 : 60 * k < 2 ^ 25 := by omega
  have b29 : 60 * k < 2 ^ 29 := by omega
  have b31 : 60 * k < 2 ^ 31 := by omega
  have c29 : 60 * (k + 1) < 2 ^ 29 := by omega
  exact ⟨fun z y h => h.mono hV, o_feed hV, o_end hV, o_fault_v0 hV, o_fault_v1 hV, o_fault_v2 hV, o_fault_vn hV, o_text_v0 hV, o_text_v1 hV, o_text_v2 hV, o_text_vn hV, o_rule hV, o_drink hV, o_guest hV, o_law hV, o_snow hV, o_visit h1 b29, o_month hV b29, o_host hV b29, o_pay hV, o_price hV, o_years h60 c29, o_undo hV, o_book hV b29, o_step hV, o_run hV b29, o_perform h60 c29, o_best hV c29, o_comes hV c29, o_soonest hV c29, o_ends hV c29, o_round hV b29, o_seen hV, o_fits hV, o_serve hV, o_who hV c29, o_game hV, o_rests hV, o_dealt hV, o_odds hV c29, o_makes hV b31, o_glad hV, o_all hV b25, o_affords hV, o_brought hV b25, o_saves hV, o_image hV, o_back hV, o_count hV b31⟩
theorem i_vc : Claimed_1_1 ∧ Claimed_1_2 := i_vc_of whole_step inv_0
