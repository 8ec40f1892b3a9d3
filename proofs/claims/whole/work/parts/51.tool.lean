/-! tools of the pure side -/
theorem pp_y {c A B : Prop} (hc : c) (h : A) : (c → A) ∧ (¬ c → B) := ⟨fun _ => h, fun n => absurd hc n⟩
theorem pp_n {c A B : Prop} (hc : ¬ c) (h : B) : (c → A) ∧ (¬ c → B) := ⟨fun n => absurd n hc, fun _ => h⟩
/-- what stays: ints but for the list's, arrays but for the list's, numbers -/
def Fr (is as : List Nat) (z z' : St) : Prop := (∀ k, k ∉ is → gI z' k = gI z k) ∧ (∀ a, a ∉ as → gA z' a = gA z a) ∧ gZ z' = gZ z ∧ gL z' = gL z
theorem Fr.rf {is as : List Nat} {z : St} : Fr is as z z := ⟨fun _ _ => rfl, fun _ _ => rfl, rfl, rfl⟩
theorem Fr.tr {is as : List Nat} {z z1 z2 : St} (h : Fr is as z z1) (h2 : Fr is as z1 z2) : Fr is as z z2 :=
  ⟨fun k hk => (h2.1 k hk).trans (h.1 k hk), fun k hk => (h2.2.1 k hk).trans (h.2.1 k hk), h2.2.2.1.trans h.2.2.1, h2.2.2.2.trans h.2.2.2⟩
theorem Fr.wk {is as js bs : List Nat} {z z1 : St} (h : Fr is as z z1) (hi : ∀ k, k ∈ is → k ∈ js) (ha : ∀ k, k ∈ as → k ∈ bs) : Fr js bs z z1 :=
  ⟨fun k hk => h.1 k (fun q => hk (hi k q)), fun k hk => h.2.1 k (fun q => hk (ha k q)), h.2.2⟩
theorem Fr.sI {is as : List Nat} {z z1 : St} (h : Fr is as z z1) {k : Nat} {v : Int32} (hk : k ∈ is) : Fr is as z (sI z1 k v) := by
  refine ⟨fun j hj => ?_, fun a ha => ?_, ?_⟩
  · rw [gI_sI, if_neg (show ¬ j = k from fun e => hj (e ▸ hk))]; exact h.1 j hj
  · rw [gA_sI]; exact h.2.1 a ha
  · exact h.2.2
theorem Fr.sF {is as : List Nat} {z z1 : St} (h : Fr is as z z1) {k : Nat} {f : Nat → Int32} (hk : k ∈ as) : Fr is as z (sF z1 k f) := by
  refine ⟨fun j hj => ?_, fun a ha => ?_, ?_⟩
  · rw [gI_sF]; exact h.1 j hj
  · rw [gA_sF, if_neg (show ¬ a = k from fun e => ha (e ▸ hk))]; exact h.2.1 a ha
  · exact h.2.2
theorem Fr.sA {is as : List Nat} {z z1 : St} (h : Fr is as z z1) {k i : Nat} {v : Int32} (hk : k ∈ as) : Fr is as z (sA z1 k i v) := Fr.sF h hk
theorem Fr.sT {is as : List Nat} {z z1 : St} (h : Fr is as z z1) {k : Nat} {v : Nat} : Fr is as z (sT z1 k v) := h
/-! ints -/
theorem nI_m1 {n : Nat} (h : n < 2 ^ 31) : nI n = -1 ↔ False := by
  refine ⟨fun e => ?_, False.elim⟩
  have h1 := congrArg Int32.toInt e
  rw [nI_toInt h] at h1
  have h2 : (-1 : Int32).toInt = -1 := by decide
  omega
theorem m1_nI {n : Nat} (h : n < 2 ^ 31) : -1 = nI n ↔ False := by rw [eq_comm]; exact nI_m1 h
theorem ti_m1 : (-1 : Int32).toInt = -1 := by decide
theorem ti_lit (n : Nat) (h : n < 2 ^ 31) : (OfNat.ofNat n : Int32).toInt = n := by rw [fa_lit]; exact nI_toInt h
theorem nI_lt0 {n : Nat} (h : n < 2 ^ 31) : nI n < 0 ↔ False := ⟨fun q => nI_pos h q, False.elim⟩
theorem nI_le0 {n : Nat} (h : n < 2 ^ 31) : nI n ≤ 0 ↔ n = 0 := by
  rw [fa_le, nI_toInt h, show (0 : Int32).toInt = 0 by decide]; omega
theorem nI_eq0 {n : Nat} (h : n < 2 ^ 31) : nI n = 0 ↔ n = 0 := by
  rw [fa_eq, nI_toInt h, show (0 : Int32).toInt = 0 by decide]; omega
/-- an index that is refused on both sides, or a number -/
theorem ix_cases (x : Int32) {n : Nat} (hn : n < 2 ^ 31) : (x < 0 ∨ (¬ x < 0 ∧ nI n ≤ x)) ∨ ∃ j : Nat, j < n ∧ x = nI j := by
  rcases pk_ix x hn with h | h | h
  · exact .inl (.inl h)
  · exact .inl (.inr ⟨fun q => by rw [fa_lt, show (0 : Int32).toInt = 0 by decide] at q; rw [fa_le, nI_toInt hn] at h; omega, h⟩)
  · exact .inr h
theorem lc_lt (x y : Int32) : lg_cmp x.toInt64 y.toInt64 < 0 ↔ x < y := by
  unfold lg_cmp
  simp only [gt_iff_lt, fa_wide_lt, fa_wide_eq]
  rcases fa_three x y with h | h | h
  · rw [if_neg (fa_of_lt h).2.2.1, if_neg (fa_of_lt h).2.2.2.1]; simp [h]
  · subst h; simp
  · rw [if_pos h]; simp only [(fa_of_lt h).2.2.1, iff_false]; decide
theorem lc_gt (x y : Int32) : 0 < lg_cmp x.toInt64 y.toInt64 ↔ y < x := by
  unfold lg_cmp
  simp only [gt_iff_lt, fa_wide_lt, fa_wide_eq]
  rcases fa_three x y with h | h | h
  · rw [if_neg (fa_of_lt h).2.2.1, if_neg (fa_of_lt h).2.2.2.1]; simp only [(fa_of_lt h).2.2.1, iff_false]; decide
  · subst h; simp
  · rw [if_pos h]; simp [h]
theorem q_isIn {post : Int32 → St → Prop} {x a b : Int32} {A B : Int64} {z : St} (ha : A = a.toInt64) (hb : B = b.toInt64) (h1 : a ≤ x → x ≤ b → post 1 z) (h0 : (x < a ∨ b < x) → post 0 z) : S_M_isIn post x.toInt64 A B z := by
  subst ha hb
  unfold S_M_isIn
  rw [lc_lt, lc_gt]
  refine ⟨fun h => h0 (.inl h), fun h => ⟨fun h2 => h0 (.inr h2), fun h2 => h1 (fa_of_nlt h) (fa_of_nlt h2)⟩⟩
theorem k2 : (2 : Int32) = nI 2 := rfl
theorem k3 : (3 : Int32) = nI 3 := rfl
theorem k4 : (4 : Int32) = nI 4 := rfl
theorem k5 : (5 : Int32) = nI 5 := rfl
theorem k6 : (6 : Int32) = nI 6 := rfl
theorem k7 : (7 : Int32) = nI 7 := rfl
theorem k8 : (8 : Int32) = nI 8 := rfl
theorem k9 : (9 : Int32) = nI 9 := rfl
theorem k10 : (10 : Int32) = nI 10 := rfl
theorem k11 : (11 : Int32) = nI 11 := rfl
theorem k12 : (12 : Int32) = nI 12 := rfl
theorem k13 : (13 : Int32) = nI 13 := rfl
theorem k15 : (15 : Int32) = nI 15 := rfl
theorem k16 : (16 : Int32) = nI 16 := rfl
theorem k18 : (18 : Int32) = nI 18 := rfl
theorem k20 : (20 : Int32) = nI 20 := rfl
theorem k22 : (22 : Int32) = nI 22 := rfl
theorem k24 : (24 : Int32) = nI 24 := rfl
theorem k28 : (28 : Int32) = nI 28 := rfl
theorem k29 : (29 : Int32) = nI 29 := rfl
theorem k30 : (30 : Int32) = nI 30 := rfl
theorem k32 : (32 : Int32) = nI 32 := rfl
theorem k33 : (33 : Int32) = nI 33 := rfl
theorem k40 : (40 : Int32) = nI 40 := rfl
theorem k41 : (41 : Int32) = nI 41 := rfl
theorem k42 : (42 : Int32) = nI 42 := rfl
theorem k43 : (43 : Int32) = nI 43 := rfl
theorem k45 : (45 : Int32) = nI 45 := rfl
theorem k47 : (47 : Int32) = nI 47 := rfl
theorem k48 : (48 : Int32) = nI 48 := rfl
theorem k50 : (50 : Int32) = nI 50 := rfl
theorem k57 : (57 : Int32) = nI 57 := rfl
theorem k59 : (59 : Int32) = nI 59 := rfl
theorem k60 : (60 : Int32) = nI 60 := rfl
theorem k61 : (61 : Int32) = nI 61 := rfl
theorem k62 : (62 : Int32) = nI 62 := rfl
theorem k63 : (63 : Int32) = nI 63 := rfl
theorem k64 : (64 : Int32) = nI 64 := rfl
theorem k91 : (91 : Int32) = nI 91 := rfl
theorem k93 : (93 : Int32) = nI 93 := rfl
theorem k99 : (99 : Int32) = nI 99 := rfl
theorem k100 : (100 : Int32) = nI 100 := rfl
theorem k103 : (103 : Int32) = nI 103 := rfl
theorem k108 : (108 : Int32) = nI 108 := rfl
theorem k115 : (115 : Int32) = nI 115 := rfl
theorem k121 : (121 : Int32) = nI 121 := rfl
theorem k236 : (236 : Int32) = nI 236 := rfl
theorem k240 : (240 : Int32) = nI 240 := rfl
theorem k255 : (255 : Int32) = nI 255 := rfl
theorem k269 : (269 : Int32) = nI 269 := rfl
theorem k400 : (400 : Int32) = nI 400 := rfl
theorem k999 : (999 : Int32) = nI 999 := rfl
theorem k10491 : (10491 : Int32) = nI 10491 := rfl
theorem k0 : (0 : Int32) = nI 0 := rfl
theorem k1 : (1 : Int32) = nI 1 := rfl
