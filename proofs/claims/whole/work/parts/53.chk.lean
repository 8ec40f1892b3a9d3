theorem q_House_hasGuest_y {post : Int32 → St → Prop} {z : St} {n g : Nat} (hn : gI z 27 = nI n) (h6 : n ≤ 6) (hg : g < n) (hp : post 1 z) : S_House_hasGuest post (nI g) z := by
  unfold S_House_hasGuest
  rw [hn]
  exact ⟨fun h => absurd h (nI_pos (by omega)), fun _ => ⟨fun h => absurd h (nI_ge hg (by omega)), fun _ => hp⟩⟩
theorem q_House_hasGuest_n {post : Int32 → St → Prop} {z : St} {n : Nat} {x : Int32} (hn : gI z 27 = nI n) (hx : x < 0 ∨ (¬ x < 0 ∧ nI n ≤ x)) (hp : post 0 z) : S_House_hasGuest post x z := by
  unfold S_House_hasGuest
  rw [hn]
  exact ⟨fun _ => hp, fun h => ⟨fun _ => hp, fun h2 => absurd (hx.resolve_left h).2 h2⟩⟩
theorem q_House_hasDrink_y {post : Int32 → St → Prop} {z : St} {n g : Nat} (hn : gI z 26 = nI n) (h6 : n ≤ 6) (hg : g < n) (hp : post 1 z) : S_House_hasDrink post (nI g) z := by
  unfold S_House_hasDrink
  rw [hn]
  exact ⟨fun h => absurd h (nI_pos (by omega)), fun _ => ⟨fun h => absurd h (nI_ge hg (by omega)), fun _ => hp⟩⟩
theorem q_House_hasDrink_n {post : Int32 → St → Prop} {z : St} {n : Nat} {x : Int32} (hn : gI z 26 = nI n) (hx : x < 0 ∨ (¬ x < 0 ∧ nI n ≤ x)) (hp : post 0 z) : S_House_hasDrink post x z := by
  unfold S_House_hasDrink
  rw [hn]
  exact ⟨fun _ => hp, fun h => ⟨fun _ => hp, fun h2 => absurd (hx.resolve_left h).2 h2⟩⟩
theorem q_M_isGuest_y {post : Int32 → St → Prop} {z : St} {n g : Nat} (hn : gI z 112 = nI n) (h6 : n ≤ 6) (hg : g < n) (hp : post 1 z) : S_M_isGuest post (nI g) z := by
  unfold S_M_isGuest
  rw [hn]
  exact ⟨fun h => absurd h (nI_pos (by omega)), fun _ => ⟨fun h => absurd h (nI_ge hg (by omega)), fun _ => hp⟩⟩
theorem q_M_isGuest_n {post : Int32 → St → Prop} {z : St} {n : Nat} {x : Int32} (hn : gI z 112 = nI n) (hx : x < 0 ∨ (¬ x < 0 ∧ nI n ≤ x)) (hp : post 0 z) : S_M_isGuest post x z := by
  unfold S_M_isGuest
  rw [hn]
  exact ⟨fun _ => hp, fun h => ⟨fun _ => hp, fun h2 => absurd (hx.resolve_left h).2 h2⟩⟩
theorem q_M_isDrink_y {post : Int32 → St → Prop} {z : St} {n g : Nat} (hn : gI z 111 = nI n) (h6 : n ≤ 6) (hg : g < n) (hp : post 1 z) : S_M_isDrink post (nI g) z := by
  unfold S_M_isDrink
  rw [hn]
  exact ⟨fun h => absurd h (nI_pos (by omega)), fun _ => ⟨fun h => absurd h (nI_ge hg (by omega)), fun _ => hp⟩⟩
theorem q_M_isDrink_n {post : Int32 → St → Prop} {z : St} {n : Nat} {x : Int32} (hn : gI z 111 = nI n) (hx : x < 0 ∨ (¬ x < 0 ∧ nI n ≤ x)) (hp : post 0 z) : S_M_isDrink post x z := by
  unfold S_M_isDrink
  rw [hn]
  exact ⟨fun _ => hp, fun h => ⟨fun _ => hp, fun h2 => absurd (hx.resolve_left h).2 h2⟩⟩
theorem q_B_hasWinter_y {post : Int32 → St → Prop} {z : St} {n g : Nat} (hn : gI z 0 = nI n) (h6 : n ≤ 4) (hg : g < n) (hp : post 1 z) : S_B_hasWinter post (nI g) z := by
  unfold S_B_hasWinter
  rw [hn]
  exact ⟨fun h => absurd h (nI_pos (by omega)), fun _ => ⟨fun h => absurd h (nI_ge hg (by omega)), fun _ => hp⟩⟩
theorem q_B_hasWinter_n {post : Int32 → St → Prop} {z : St} {n : Nat} {x : Int32} (hn : gI z 0 = nI n) (hx : x < 0 ∨ (¬ x < 0 ∧ nI n ≤ x)) (hp : post 0 z) : S_B_hasWinter post x z := by
  unfold S_B_hasWinter
  rw [hn]
  exact ⟨fun _ => hp, fun h => ⟨fun _ => hp, fun h2 => absurd (hx.resolve_left h).2 h2⟩⟩
theorem q_M_isWinter_y {post : Int32 → St → Prop} {z : St} {n g : Nat} (hn : gI z 115 = nI n) (h6 : n ≤ 4) (hg : g < n) (hp : post 1 z) : S_M_isWinter post (nI g) z := by
  unfold S_M_isWinter
  rw [hn]
  exact ⟨fun h => absurd h (nI_pos (by omega)), fun _ => ⟨fun h => absurd h (nI_ge hg (by omega)), fun _ => hp⟩⟩
theorem q_M_isWinter_n {post : Int32 → St → Prop} {z : St} {n : Nat} {x : Int32} (hn : gI z 115 = nI n) (hx : x < 0 ∨ (¬ x < 0 ∧ nI n ≤ x)) (hp : post 0 z) : S_M_isWinter post x z := by
  unfold S_M_isWinter
  rw [hn]
  exact ⟨fun _ => hp, fun h => ⟨fun _ => hp, fun h2 => absurd (hx.resolve_left h).2 h2⟩⟩
theorem q_isTold_y {post : Int32 → St → Prop} {z : St} {n : Nat} (hn : gI z 27 = nI n) (h6 : n ≤ 6) (hg : 0 < n) (hp : post 1 z) : S_House_isTold post z := by
  unfold S_House_isTold
  rw [hn, nI_le0 (by omega)]
  exact pp_n (by omega) hp
theorem q_isTold_n {post : Int32 → St → Prop} {z : St} {n : Nat} (hn : gI z 27 = nI n) (hg : n = 0) (hp : post 0 z) : S_House_isTold post z := by
  unfold S_House_isTold
  rw [hn, nI_le0 (by omega)]
  exact pp_y hg hp
theorem r01 {A B : Prop} (h : A) : ((0 : Int32) = 0 → A) ∧ (¬ (0 : Int32) = 0 → B) := pp_y rfl h
theorem r11 {A B : Prop} (h : B) : ((1 : Int32) = 0 → A) ∧ (¬ (1 : Int32) = 0 → B) := pp_n (by decide) h
