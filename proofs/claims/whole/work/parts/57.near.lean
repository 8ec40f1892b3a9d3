theorem lit_add {a b : Nat} : (OfNat.ofNat a : Int32) + nI b = nI (a + b) := by rw [fa_lit, nI_add]
theorem add_lit {a b : Nat} : nI a + (OfNat.ofNat b : Int32) = nI (a + b) := by rw [fa_lit, nI_add]
theorem lit_mul {a b : Nat} : (OfNat.ofNat a : Int32) * nI b = nI (a * b) := by rw [fa_lit, pk_mul]
theorem mul_lit {a b : Nat} : nI a * (OfNat.ofNat b : Int32) = nI (a * b) := by rw [fa_lit, pk_mul]
theorem sub_lit {a b : Nat} (h : b ≤ a) : nI a - (OfNat.ofNat b : Int32) = nI (a - b) := by rw [fa_lit, pk_sub h]
theorem lit_le {a b : Nat} (ha : a < 2 ^ 31) (hb : b < 2 ^ 31) : (OfNat.ofNat a : Int32) ≤ nI b ↔ a ≤ b := by rw [fa_lit, nI_leI ha hb]
theorem le_lit {a b : Nat} (ha : a < 2 ^ 31) (hb : b < 2 ^ 31) : nI a ≤ (OfNat.ofNat b : Int32) ↔ a ≤ b := by rw [fa_lit, nI_leI ha hb]
theorem lit_lt {a b : Nat} (ha : a < 2 ^ 31) (hb : b < 2 ^ 31) : (OfNat.ofNat a : Int32) < nI b ↔ a < b := by rw [fa_lit, nI_ltI ha hb]
theorem lt_lit {a b : Nat} (ha : a < 2 ^ 31) (hb : b < 2 ^ 31) : nI a < (OfNat.ofNat b : Int32) ↔ a < b := by rw [fa_lit, nI_ltI ha hb]
theorem eq_lit {a b : Nat} (ha : a < 2 ^ 31) (hb : b < 2 ^ 31) : nI a = (OfNat.ofNat b : Int32) ↔ a = b := by rw [fa_lit, nI_eq ha hb]
theorem lit_eq {a b : Nat} (ha : a < 2 ^ 31) (hb : b < 2 ^ 31) : (OfNat.ofNat a : Int32) = nI b ↔ a = b := by rw [fa_lit, nI_eq ha hb]
/-- a loop that counts up -/
theorem lp_up (L : Nat → Nat → Prop) (N : Nat) (hs : ∀ n i, i < N → L n (i + 1) → L (n + 1) i) (hl : L 1 N) : ∃ n, L n 0 := by
  have h : ∀ m, m ≤ N → ∃ n, L n (N - m) := by
    intro m
    induction m with
    | zero => intro _; exact ⟨1, hl⟩
    | succ m ih =>
      intro hm
      obtain ⟨n, hn⟩ := ih (by omega)
      refine ⟨n + 1, hs n _ (by omega) ?_⟩
      rw [show N - (m + 1) + 1 = N - m by omega]
      exact hn
  obtain ⟨n, hn⟩ := h N (Nat.le_refl _)
  rw [Nat.sub_self] at hn
  exact ⟨n, hn⟩
def dis (a b : Nat) : Nat := if a < b then b - a else a - b
theorem abs_y {a b : Nat} (ha : a < 2 ^ 30) (hb : b < 2 ^ 30) (h : ¬ a < b) : 0 ≤ nI a - nI b := by
  rw [fa_le, pk_sub_toInt ha hb, show (0 : Int32).toInt = 0 by decide]; omega
theorem abs_n {a b : Nat} (ha : a < 2 ^ 30) (hb : b < 2 ^ 30) (h : a < b) : ¬ 0 ≤ nI a - nI b := by
  rw [fa_le, pk_sub_toInt ha hb, show (0 : Int32).toInt = 0 by decide]; omega
theorem neg_sub' (a b : Nat) (h : a < b) (hb : b < 2 ^ 30) : -(nI a - nI b) = nI (b - a) := by
  rw [fa_eq, fb_negI (by rw [pk_sub_toInt (by omega) hb]; omega), pk_sub_toInt (by omega) hb, nI_toInt (by omega)]; omega
theorem q_absX {post : Int32 → St → Prop} {z : St} {a b : Nat} (ha : a < 2 ^ 30) (hb : b < 2 ^ 30) (h : post (nI (dis a b)) z) : S_Math_abs_0f7a4_X post (nI a - nI b) z := by
  unfold S_Math_abs_0f7a4_X
  unfold dis at h
  by_cases c : a < b
  · rw [if_pos c] at h; rw [neg_sub' a b c hb]; exact pp_n (abs_n ha hb c) h
  · rw [if_neg c] at h; rw [pk_sub (by omega)]; exact pp_y (nI_pos' (by omega)) h
theorem q_absM {post : Int32 → St → Prop} {z : St} {a b : Nat} (ha : a < 2 ^ 30) (hb : b < 2 ^ 30) (h : post (nI (dis a b)) z) : S_Math_abs_0f7a4_M post (nI a - nI b) z := by
  unfold S_Math_abs_0f7a4_M
  unfold dis at h
  by_cases c : a < b
  · rw [if_pos c] at h; rw [neg_sub' a b c hb]; exact pp_n (abs_n ha hb c) h
  · rw [if_neg c] at h; rw [pk_sub (by omega)]; exact pp_y (nI_pos' (by omega)) h
/-- the drink that is brought, out of the first k -/
def nstep (q : Nat → Nat) (p : Nat → Int32) (w : Nat) (m : Int32) (b : Option Nat) (d : Nat) : Option Nat :=
  if p d ≤ m then (match b with
    | none => some d
    | some c => if dis (q d) w < dis (q c) w ∨ (dis (q d) w = dis (q c) w ∧ p d < p c) then some d else some c) else b
def nearR (q : Nat → Nat) (p : Nat → Int32) (w : Nat) (m : Int32) : Nat → Option Nat
  | 0 => none
  | k + 1 => nstep q p w m (nearR q p w m k) k
def enc : Option Nat → Int32
  | none => -1
  | some c => nI c
def lst (q : Nat → Nat) (w : Nat) : Option Nat → Int32
  | none => 0
  | some c => nI (dis (q c) w)
theorem near_lt {q : Nat → Nat} {p : Nat → Int32} {w : Nat} {m : Int32} : ∀ {k c : Nat}, nearR q p w m k = some c → c < k ∧ p c ≤ m
  | 0, c, h => by simp [nearR] at h
  | k + 1, c, h => by
    simp only [nearR, nstep] at h
    cases hr : nearR q p w m k with
    | none =>
      rw [hr] at h
      by_cases hp : p k ≤ m
      · simp only [if_pos hp] at h; injection h with h; subst h; exact ⟨Nat.lt_succ_self _, hp⟩
      · simp only [if_neg hp] at h; exact absurd h (by simp)
    | some c0 =>
      have ih := near_lt hr
      rw [hr] at h
      by_cases hp : p k ≤ m
      · simp only [if_pos hp] at h
        split at h
        · injection h with h; subst h; exact ⟨Nat.lt_succ_self _, hp⟩
        · injection h with h; subst h; exact ⟨by omega, ih.2⟩
      · simp only [if_neg hp] at h; injection h with h; subst h; exact ⟨by omega, ih.2⟩
theorem near_cg {q q' : Nat → Nat} {p p' : Nat → Int32} {w : Nat} {m : Int32} : ∀ {k : Nat}, (∀ d, d < k → q d = q' d) → (∀ d, d < k → p d = p' d) → nearR q p w m k = nearR q' p' w m k
  | 0, _, _ => rfl
  | k + 1, hq, hp => by
    have ih := near_cg (k := k) (w := w) (m := m) (fun d hd => hq d (by omega)) (fun d hd => hp d (by omega))
    simp only [nearR, ih, nstep, hq k (by omega), hp k (by omega)]
    cases hr : nearR q' p' w m k with
    | none => rfl
    | some c => have hc := (near_lt hr).1; simp only [hq c (by omega), hp c (by omega)]
theorem dis_le {a b : Nat} (ha : a ≤ 9) (hb : b ≤ 9) : dis a b ≤ 9 := by unfold dis; split <;> omega
theorem q_near8 {post : Int32 → St → Prop} {m : Int32} {z : St} {nd w : Nat} {q : Nat → Nat} {p : Nat → Int32} (hd : gI z 26 = nI nd) (h6 : nd ≤ 6) (hq : ∀ d, d < nd → gA z 18 d = nI (q d)) (hq9 : ∀ d, d < nd → q d ≤ 9) (hp : ∀ d, d < nd → gA z 23 (22 + d) = p d) (hw : w ≤ 9) (hpost : post (enc (nearR q p w m nd)) z) : S_Table_nearest_8 post (nI w) m z := by
  unfold S_Table_nearest_8
  refine lp_up (fun n i => L_Table_nearest_8_8 post n (nI w) m (enc (nearR q p w m i)) (lst q w (nearR q p w m i)) (nI i) z) nd ?_ ?_
  · intro n i hi ih
    show B_Table_nearest_8_8 post _ _ _ _ _ _ z
    have hi9 := hq9 i hi
    have e1 : nI i + 1 = nI (i + 1) := add_lit
    unfold B_Table_nearest_8_8
    rw [hd]
    refine pp_n (nI_ge hi (by omega)) ?_
    simp (disch := omega) only [k18, k22, nI_add, vp_in_nI, true_and, nI_clamp, forall_eq]
    rw [hp i hi, hq i hi]
    refine q_absX (by omega) (by omega) ?_
    simp only [B_Table_nearest_8_82, B_Table_nearest_8_86, B_Table_nearest_8_87, B_Table_nearest_8_107, forall_eq, e1]
    have dn : ¬ (1 : Int32) = 0 := by decide
    have stay : nearR q p w m (i + 1) = nearR q p w m i → L_Table_nearest_8_8 post n (nI w) m (enc (nearR q p w m i)) (lst q w (nearR q p w m i)) (nI (i + 1)) z := fun e => by rw [← e]; exact ih
    have take : nearR q p w m (i + 1) = some i → L_Table_nearest_8_8 post n (nI w) m (nI i) (nI (dis (q i) w)) (nI (i + 1)) z := fun e => by have h9 := ih; simp only [e] at h9; exact h9
    have hR : nearR q p w m (i + 1) = nstep q p w m (nearR q p w m i) i := rfl
    cases hr : nearR q p w m i with
    | none =>
      rw [hr] at hR stay
      simp only [nstep] at hR
      refine pp_y rfl ?_
      refine ⟨fun c => stay (by rw [hR, if_neg (fun h => absurd c (fun c => by rw [fa_lt] at c; rw [fa_le] at h; omega))]), fun c => pp_n dn (take (by rw [hR, if_pos (fa_of_nlt c)]))⟩
    | some c0 =>
      have hc0 := (near_lt hr).1
      have hc9 := hq9 c0 (by omega)
      have d1 := dis_le hi9 hw
      have d2 := dis_le hc9 hw
      rw [hr] at hR stay
      simp only [nstep] at hR
      simp only [enc, lst] at stay ⊢
      refine pp_n (fun h => (nI_m1 (by omega)).mp h) ?_
      have out : m < p i → nearR q p w m (i + 1) = some c0 := fun c => by rw [hR, if_neg (fun h => absurd c (fun c => by rw [fa_lt] at c; rw [fa_le] at h; omega))]
      simp (disch := omega) only [k18, k22, nI_add, vp_in_nI, true_and, nI_clamp, nI_ltI, nI_eq]
      rw [hp c0 (by omega)]
      refine ⟨fun c => ⟨fun c1 => stay (out c1), fun c1 => pp_n dn (take (by rw [hR, if_pos (fa_of_nlt c1), if_pos (.inl c)]))⟩, fun c => ⟨fun c2 => ⟨fun c3 => ?_, fun c3 => ?_⟩, fun c2 => ?_⟩⟩
      · exact ⟨fun c1 => stay (out c1), fun c1 => pp_y (by trivial) (stay (by rw [hR, if_pos (fa_of_nlt c1), if_neg (fun h => h.elim c (fun h => absurd h.2 (fun h => by rw [fa_lt] at h; rw [fa_le] at c3; omega)))]))⟩
      · exact ⟨fun c1 => stay (out c1), fun c1 => pp_n dn (take (by rw [hR, if_pos (fa_of_nlt c1), if_pos (.inr ⟨c2, fa_of_nle c3⟩)]))⟩
      · exact ⟨fun c1 => stay (out c1), fun c1 => pp_y (by trivial) (stay (by rw [hR, if_pos (fa_of_nlt c1), if_neg (fun h => h.elim c (fun h => c2 h.1))]))⟩
  · show B_Table_nearest_8_8 post _ _ _ _ _ _ z
    unfold B_Table_nearest_8_8
    rw [hd]
    exact pp_y (nI_le (Nat.le_refl _) (by omega)) hpost
theorem q_near9 {post : Int32 → St → Prop} {m : Int32} {z : St} {nd w : Nat} {q : Nat → Nat} {p : Nat → Int32} (hd : gI z 26 = nI nd) (h6 : nd ≤ 6) (hq : ∀ d, d < nd → gA z 18 d = nI (q d)) (hq9 : ∀ d, d < nd → q d ≤ 9) (hp : ∀ d, d < nd → gA z 24 (22 + d) = p d) (hw : w ≤ 9) (hpost : post (enc (nearR q p w m nd)) z) : S_Table_nearest_9 post (nI w) m z := by
  unfold S_Table_nearest_9
  refine lp_up (fun n i => L_Table_nearest_9_8 post n (nI w) m (enc (nearR q p w m i)) (lst q w (nearR q p w m i)) (nI i) z) nd ?_ ?_
  · intro n i hi ih
    show B_Table_nearest_9_8 post _ _ _ _ _ _ z
    have hi9 := hq9 i hi
    have e1 : nI i + 1 = nI (i + 1) := add_lit
    unfold B_Table_nearest_9_8
    rw [hd]
    refine pp_n (nI_ge hi (by omega)) ?_
    simp (disch := omega) only [k18, k22, nI_add, vp_in_nI, true_and, nI_clamp, forall_eq]
    rw [hp i hi, hq i hi]
    refine q_absX (by omega) (by omega) ?_
    simp only [B_Table_nearest_9_82, B_Table_nearest_9_86, B_Table_nearest_9_87, B_Table_nearest_9_107, forall_eq, e1]
    have dn : ¬ (1 : Int32) = 0 := by decide
    have stay : nearR q p w m (i + 1) = nearR q p w m i → L_Table_nearest_9_8 post n (nI w) m (enc (nearR q p w m i)) (lst q w (nearR q p w m i)) (nI (i + 1)) z := fun e => by rw [← e]; exact ih
    have take : nearR q p w m (i + 1) = some i → L_Table_nearest_9_8 post n (nI w) m (nI i) (nI (dis (q i) w)) (nI (i + 1)) z := fun e => by have h9 := ih; simp only [e] at h9; exact h9
    have hR : nearR q p w m (i + 1) = nstep q p w m (nearR q p w m i) i := rfl
    cases hr : nearR q p w m i with
    | none =>
      rw [hr] at hR stay
      simp only [nstep] at hR
      refine pp_y rfl ?_
      refine ⟨fun c => stay (by rw [hR, if_neg (fun h => absurd c (fun c => by rw [fa_lt] at c; rw [fa_le] at h; omega))]), fun c => pp_n dn (take (by rw [hR, if_pos (fa_of_nlt c)]))⟩
    | some c0 =>
      have hc0 := (near_lt hr).1
      have hc9 := hq9 c0 (by omega)
      have d1 := dis_le hi9 hw
      have d2 := dis_le hc9 hw
      rw [hr] at hR stay
      simp only [nstep] at hR
      simp only [enc, lst] at stay ⊢
      refine pp_n (fun h => (nI_m1 (by omega)).mp h) ?_
      have out : m < p i → nearR q p w m (i + 1) = some c0 := fun c => by rw [hR, if_neg (fun h => absurd c (fun c => by rw [fa_lt] at c; rw [fa_le] at h; omega))]
      simp (disch := omega) only [k18, k22, nI_add, vp_in_nI, true_and, nI_clamp, nI_ltI, nI_eq]
      rw [hp c0 (by omega)]
      refine ⟨fun c => ⟨fun c1 => stay (out c1), fun c1 => pp_n dn (take (by rw [hR, if_pos (fa_of_nlt c1), if_pos (.inl c)]))⟩, fun c => ⟨fun c2 => ⟨fun c3 => ?_, fun c3 => ?_⟩, fun c2 => ?_⟩⟩
      · exact ⟨fun c1 => stay (out c1), fun c1 => pp_y (by trivial) (stay (by rw [hR, if_pos (fa_of_nlt c1), if_neg (fun h => h.elim c (fun h => absurd h.2 (fun h => by rw [fa_lt] at h; rw [fa_le] at c3; omega)))]))⟩
      · exact ⟨fun c1 => stay (out c1), fun c1 => pp_n dn (take (by rw [hR, if_pos (fa_of_nlt c1), if_pos (.inr ⟨c2, fa_of_nle c3⟩)]))⟩
      · exact ⟨fun c1 => stay (out c1), fun c1 => pp_y (by trivial) (stay (by rw [hR, if_pos (fa_of_nlt c1), if_neg (fun h => h.elim c (fun h => c2 h.1))]))⟩
  · show B_Table_nearest_9_8 post _ _ _ _ _ _ z
    unfold B_Table_nearest_9_8
    rw [hd]
    exact pp_y (nI_le (Nat.le_refl _) (by omega)) hpost
