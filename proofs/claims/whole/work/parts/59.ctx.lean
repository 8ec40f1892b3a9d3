def joyN (q : Nat → Nat) (mo : Nat) (l : Int32) (got : Nat) : Nat := if l = nI got then q got + mo else q got
def moodN (m j : Nat) : Nat := if 6 ≤ j then min 9 (m + 1) else if j < 4 then m - 1 else m
def cl9 (x : Int32) : Nat := if x < 0 then 0 else if 9 < x then 9 else x.toNatClampNeg
def six (a b c d e f : Int32) : Nat → Int32 := cut6 (fun i => [a, b, c, d, e, f].getD i 0)
def wishN (lw : Option ((Nat → Int32) → Int32)) (q : Nat → Nat) (p : Nat → Int32) (l : Int32) (h : Nat) (m n : Int32) (got : Nat) : Nat :=
  match lw with
  | none => (q got + h) / 2
  | some ev => cl9 (ev (six (nI (q got)) (nI h) (if l = nI got then 1 else 0) m n (p got)))
def bringN (nd : Nat) (q : Nat → Nat) (mo : Nat) (p : Nat → Int32) (lw : Option ((Nat → Int32) → Int32)) (l : Int32) (mood : Nat) (m n : Int32) (got : Nat) : Option Nat :=
  nearR q p (wishN lw q p l (moodN mood (joyN q mo l got)) m n got) m nd
def LawZ (lw : Option ((Nat → Int32) → Int32)) (z : St) : Prop :=
  (gI z 31 = -1 ∧ lw = none) ∨ ∃ h ev, h < 4 ∧ gI z 31 = nI h ∧ gI z 31 < gI z 30 ∧ LawC (gA z (32 + (4 + h))) (gZ z (8 + (4 + h))) ev ∧ lw = some ev
def LawY (lw : Option ((Nat → Int32) → Int32)) (y : St) : Prop :=
  (gI y 117 = -1 ∧ lw = none) ∨ ∃ h ev n, h < 4 ∧ n ≤ 240 ∧ gI y 117 = nI h ∧ gA y 103 h = nI n ∧ LawM (fun i => gA y 102 (240 * h + i)) n ev ∧ lw = some ev
/-- house and law as the class holds them -/
def CZ (nd ng mo wg : Nat) (q : Nat → Nat) (lk : Nat → Int32) (lw : Option ((Nat → Int32) → Int32)) (z : St) : Prop :=
  gI z 26 = nI nd ∧ gI z 27 = nI ng ∧ gI z 28 = nI wg ∧ gI z 29 = nI mo ∧ (∀ d, d < nd → gA z 18 d = nI (q d)) ∧ (∀ g, g < ng → gA z 19 g = lk g) ∧ LawZ lw z
def CY (nd ng mo wg : Nat) (q : Nat → Nat) (lk : Nat → Int32) (lw : Option ((Nat → Int32) → Int32)) (y : St) : Prop :=
  gI y 111 = nI nd ∧ gI y 112 = nI ng ∧ gA y 105 1 = nI wg ∧ gA y 105 2 = nI mo ∧ (∀ d, d < nd → gA y 107 (2 * d) = nI (q d)) ∧ (∀ g, g < ng → gA y 109 (3 * g) = lk g) ∧ LawY lw y
def Lim (nd ng mo wg : Nat) (q : Nat → Nat) : Prop := nd ≤ 6 ∧ ng ≤ 6 ∧ mo ≤ 9 ∧ wg ≤ 30 ∧ (∀ d, d < nd → q d ≤ 9) ∧ (0 < ng → 2 ≤ nd) ∧ (ng = 0 → nd = 0)
/-- ints and arrays that the contexts rest on -/
def CI : List Nat := [26, 27, 28, 29, 30, 31, 111, 112, 117]
def CA : List Nat := [18, 19, 36, 37, 38, 39, 102, 103, 105, 107, 109]
theorem LawZ.fr {lw : Option ((Nat → Int32) → Int32)} {z z' : St} {is as : List Nat} (h : LawZ lw z) (hf : Fr is as z z') (hi : ∀ k, k ∈ CI → k ∉ is) (ha : ∀ k, k ∈ CA → k ∉ as) : LawZ lw z' := by
  unfold LawZ
  rw [hf.1 31 (hi _ (by decide)), hf.1 30 (hi _ (by decide)), hf.2.2.1]
  rcases h with h | ⟨h, ev, h4, e1, e2, e3, e4⟩
  · exact .inl h
  · refine .inr ⟨h, ev, h4, e1, e2, ?_, e4⟩
    rw [hf.2.1 (32 + (4 + h)) (ha _ (by have : h = 0 ∨ h = 1 ∨ h = 2 ∨ h = 3 := (by omega); rcases this with rfl | rfl | rfl | rfl <;> decide))]
    exact e3
theorem LawY.fr {lw : Option ((Nat → Int32) → Int32)} {z z' : St} {is as : List Nat} (h : LawY lw z) (hf : Fr is as z z') (hi : ∀ k, k ∈ CI → k ∉ is) (ha : ∀ k, k ∈ CA → k ∉ as) : LawY lw z' := by
  unfold LawY
  rw [hf.1 117 (hi _ (by decide)), hf.2.1 102 (ha _ (by decide)), hf.2.1 103 (ha _ (by decide))]
  exact h
theorem CZ.fr {nd ng mo wg : Nat} {q : Nat → Nat} {lk : Nat → Int32} {lw : Option ((Nat → Int32) → Int32)} {z z' : St} {is as : List Nat} (h : CZ nd ng mo wg q lk lw z) (hf : Fr is as z z') (hi : ∀ k, k ∈ CI → k ∉ is) (ha : ∀ k, k ∈ CA → k ∉ as) : CZ nd ng mo wg q lk lw z' := by
  obtain ⟨h1, h2, h3, h4, h5, h6, h7⟩ := h
  refine ⟨?_, ?_, ?_, ?_, ?_, ?_, h7.fr hf hi ha⟩
  · rw [hf.1 26 (hi _ (by decide))]; exact h1
  · rw [hf.1 27 (hi _ (by decide))]; exact h2
  · rw [hf.1 28 (hi _ (by decide))]; exact h3
  · rw [hf.1 29 (hi _ (by decide))]; exact h4
  · rw [hf.2.1 18 (ha _ (by decide))]; exact h5
  · rw [hf.2.1 19 (ha _ (by decide))]; exact h6
theorem CY.fr {nd ng mo wg : Nat} {q : Nat → Nat} {lk : Nat → Int32} {lw : Option ((Nat → Int32) → Int32)} {z z' : St} {is as : List Nat} (h : CY nd ng mo wg q lk lw z) (hf : Fr is as z z') (hi : ∀ k, k ∈ CI → k ∉ is) (ha : ∀ k, k ∈ CA → k ∉ as) : CY nd ng mo wg q lk lw z' := by
  obtain ⟨h1, h2, h3, h4, h5, h6, h7⟩ := h
  refine ⟨?_, ?_, ?_, ?_, ?_, ?_, h7.fr hf hi ha⟩
  · rw [hf.1 111 (hi _ (by decide))]; exact h1
  · rw [hf.1 112 (hi _ (by decide))]; exact h2
  · rw [hf.2.1 105 (ha _ (by decide))]; exact h3
  · rw [hf.2.1 105 (ha _ (by decide))]; exact h4
  · rw [hf.2.1 107 (ha _ (by decide))]; exact h5
  · rw [hf.2.1 109 (ha _ (by decide))]; exact h6
theorem nI_self {x : Int32} {n : Nat} (h : x = nI n) (hn : n < 2 ^ 31) : x = nI x.toNatClampNeg := by rw [h, nI_clamp hn]
/-- the tie gives both contexts -/
theorem Inv.ctx {V : Nat} {z y : St} (h : Inv V z y) : ∃ (nd ng mo wg : Nat) (q : Nat → Nat) (lk : Nat → Int32) (lw : Option ((Nat → Int32) → Int32)), CZ nd ng mo wg q lk lw z ∧ CY nd ng mo wg q lk lw y ∧ Lim nd ng mo wg q := by
  obtain ⟨nd, ng, tl, ln, wn, sn, a, n, v, ⟨h1, h2, h3, h4, h5, h6, h7, h8, h9, h10, ⟨wg, hw, ew⟩, ⟨mo, hm, em⟩, h13, h14, h15⟩, hT, ⟨l1, l2, l3, l4, l5⟩, _⟩ := h
  have hq : ∀ d, d < nd → gA z 18 d = nI (gA z 18 d).toNatClampNeg ∧ (gA z 18 d).toNatClampNeg ≤ 9 := fun d hd => by
    obtain ⟨q, hq, eq⟩ := h14 d hd
    refine ⟨nI_self eq (by omega), ?_⟩
    rw [eq, nI_clamp (by omega)]; exact hq
  obtain ⟨lw, hz, hy⟩ : ∃ lw, LawZ lw z ∧ LawY lw y := by
    rcases l4 with ⟨e1, e2⟩ | ⟨h, hh, e1, e2⟩
    · exact ⟨none, .inl ⟨e1, rfl⟩, .inl ⟨e2, rfl⟩⟩
    · obtain ⟨m, ev, hm, em, hc, hl⟩ := l5 h hh
      exact ⟨some ev, .inr ⟨h, ev, by omega, e1, by rw [e1, l1]; exact nI_lt hh (by omega), hc, rfl⟩, .inr ⟨h, ev, m, by omega, hm, e2, em, hl, rfl⟩⟩
  exact ⟨nd, ng, mo, wg, fun d => (gA z 18 d).toNatClampNeg, gA z 19, lw, ⟨h1, h3, ew, em, fun d hd => (hq d hd).1, fun _ _ => rfl, hz⟩, ⟨h2, h4, h9 ▸ ew, h10 ▸ em, fun d hd => (h13 d hd) ▸ (hq d hd).1, fun g hg => (h15 g hg).symm, hy⟩, ⟨h5, h6, hm, hw, fun d hd => (hq d hd).2, h7, h8⟩⟩
theorem joyN_le {nd ng mo wg : Nat} {q : Nat → Nat} (hl : Lim nd ng mo wg q) {l : Int32} {got : Nat} (hg : got < nd) : joyN q mo l got ≤ 18 := by
  have h := hl.2.2.2.2.1 got hg
  have h2 := hl.2.2.1
  unfold joyN; split <;> omega
theorem moodN_le {m j : Nat} (h : m ≤ 9) : moodN m j ≤ 9 := by
  unfold moodN
  split
  · omega
  · split <;> omega
theorem cl9_le {x : Int32} : cl9 x ≤ 9 := by
  unfold cl9
  split; · omega
  split; · omega
  rename_i h1 h2
  obtain ⟨j, hj, ej⟩ := nI_of2 (M := 9) (n := 9) (by decide) h1 (fa_of_nlt h2)
  rw [ej, nI_clamp (by omega)]; exact hj
theorem wishN_le {lw : Option ((Nat → Int32) → Int32)} {q : Nat → Nat} {p : Nat → Int32} {l : Int32} {h : Nat} {m n : Int32} {got : Nat} (hq : q got ≤ 9) (hh : h ≤ 9) : wishN lw q p l h m n got ≤ 9 := by
  unfold wishN
  cases lw with
  | none => show (q got + h) / 2 ≤ 9; omega
  | some ev => exact cl9_le
theorem bring_lt {nd : Nat} {q : Nat → Nat} {mo : Nat} {p : Nat → Int32} {lw : Option ((Nat → Int32) → Int32)} {l : Int32} {mood : Nat} {m n : Int32} {got c : Nat} (h : bringN nd q mo p lw l mood m n got = some c) : c < nd ∧ p c ≤ m := near_lt h
theorem q_cl9X {post : Int32 → St → Prop} {x : Int32} {z : St} (h : post (nI (cl9 x)) z) : S_Math_min_7cf53_X (fun r1 z1 => S_Math_max_7cf53_X post (0 : Int32) r1 z1) (9 : Int32) x z := by
  unfold S_Math_min_7cf53_X S_Math_max_7cf53_X
  unfold cl9 at h
  by_cases c1 : x < 0
  · rw [if_pos c1] at h
    have c2 : x < 9 := by rw [fa_lt, show (0 : Int32).toInt = 0 by decide] at c1; rw [fa_lt, show (9 : Int32).toInt = 9 by decide]; omega
    exact pp_y c2 (pp_n (fa_of_lt c1).2.2.1 h)
  · rw [if_neg c1] at h
    by_cases c2 : 9 < x
    · rw [if_pos c2] at h
      exact pp_n (fa_of_lt c2).2.2.1 (pp_y (by decide) h)
    · rw [if_neg c2] at h
      obtain ⟨j, hj, ej⟩ := nI_of2 (M := 9) (n := 9) (by decide) c1 (fa_of_nlt c2)
      rw [ej, nI_clamp (by omega)] at h
      rw [ej]
      have h9 : (9 : Int32) = nI 9 := rfl
      have h0 : (0 : Int32) = nI 0 := rfl
      refine ⟨fun _ => ?_, fun c3 => ?_⟩
      · rw [h0]
        rcases Nat.eq_zero_or_pos j with e | e
        · subst e; exact pp_n (nI_nlt (by omega) (by omega)) h
        · exact pp_y (nI_lt e (by omega)) h
      · have : j = 9 := by rw [h9, nI_ltI (by omega) (by omega)] at c3; omega
        subst this
        exact pp_y (by decide) h
theorem q_moodX {post : Int32 → St → Prop} {m j : Nat} {z : St} (hm : m ≤ 9) (hj : j ≤ 18) (h : post (nI (moodN m j)) z) : S_Table_moodBehind post (nI m) (nI j) z := by
  unfold S_Table_moodBehind S_Math_min_7cf53_X S_Math_max_7cf53_X
  unfold moodN at h
  simp (disch := omega) only [k4, k6, k9, nI_ltI, nI_leI, nI_1]
  refine ⟨fun c => ⟨fun c1 => ?_, fun c1 => ?_⟩, fun c => ?_⟩
  · rw [if_neg (by omega), if_neg (by omega)] at h; exact h
  · rw [if_neg (by omega), if_pos (by omega)] at h
    rcases Nat.eq_zero_or_pos m with e | e
    · subst e; exact pp_n (by decide) h
    · rw [k1, pk_sub (show 1 ≤ m by omega), k0]
      by_cases e1 : m = 1
      · subst e1; exact pp_n (by decide) h
      · exact pp_y (nI_lt (by omega) (by omega)) h
  · rw [if_pos (by omega)] at h
    refine ⟨fun c1 => ?_, fun c1 => ?_⟩
    · rw [show min 9 (m + 1) = m + 1 by omega] at h; exact h
    · rw [show min 9 (m + 1) = 9 by omega] at h; exact h
theorem q_cl9M {post : Int32 → St → Prop} {x : Int32} {z : St} (h : post (nI (cl9 x)) z) : S_Math_min_7cf53_M (fun r1 z1 => S_Math_max_7cf53_M post (0 : Int32) r1 z1) (9 : Int32) x z := by
  unfold S_Math_min_7cf53_M S_Math_max_7cf53_M
  unfold cl9 at h
  by_cases c1 : x < 0
  · rw [if_pos c1] at h
    have c2 : x < 9 := by rw [fa_lt, show (0 : Int32).toInt = 0 by decide] at c1; rw [fa_lt, show (9 : Int32).toInt = 9 by decide]; omega
    exact pp_y c2 (pp_n (fa_of_lt c1).2.2.1 h)
  · rw [if_neg c1] at h
    by_cases c2 : 9 < x
    · rw [if_pos c2] at h
      exact pp_n (fa_of_lt c2).2.2.1 (pp_y (by decide) h)
    · rw [if_neg c2] at h
      obtain ⟨j, hj, ej⟩ := nI_of2 (M := 9) (n := 9) (by decide) c1 (fa_of_nlt c2)
      rw [ej, nI_clamp (by omega)] at h
      rw [ej]
      have h9 : (9 : Int32) = nI 9 := rfl
      have h0 : (0 : Int32) = nI 0 := rfl
      refine ⟨fun _ => ?_, fun c3 => ?_⟩
      · rw [h0]
        rcases Nat.eq_zero_or_pos j with e | e
        · subst e; exact pp_n (nI_nlt (by omega) (by omega)) h
        · exact pp_y (nI_lt e (by omega)) h
      · have : j = 9 := by rw [h9, nI_ltI (by omega) (by omega)] at c3; omega
        subst this
        exact pp_y (by decide) h
theorem q_moodM {post : Int32 → St → Prop} {m j : Nat} {z : St} (hm : m ≤ 9) (hj : j ≤ 18) (h : post (nI (moodN m j)) z) : S_M_moodBy post (nI m) (nI j) z := by
  unfold S_M_moodBy S_Math_min_7cf53_M S_Math_max_7cf53_M
  unfold moodN at h
  simp (disch := omega) only [k4, k6, k9, nI_ltI, nI_leI, nI_1]
  refine ⟨fun c => ⟨fun c1 => ?_, fun c1 => ?_⟩, fun c => ?_⟩
  · rw [if_neg (by omega), if_neg (by omega)] at h; exact h
  · rw [if_neg (by omega), if_pos (by omega)] at h
    rcases Nat.eq_zero_or_pos m with e | e
    · subst e; exact pp_n (by decide) h
    · rw [k1, pk_sub (show 1 ≤ m by omega), k0]
      by_cases e1 : m = 1
      · subst e1; exact pp_n (by decide) h
      · exact pp_y (nI_lt (by omega) (by omega)) h
  · rw [if_pos (by omega)] at h
    refine ⟨fun c1 => ?_, fun c1 => ?_⟩
    · rw [show min 9 (m + 1) = m + 1 by omega] at h; exact h
    · rw [show min 9 (m + 1) = 9 by omega] at h; exact h
theorem q_joyX {post : Int32 → St → Prop} {nd ng mo wg : Nat} {q : Nat → Nat} {lk : Nat → Int32} {lw : Option ((Nat → Int32) → Int32)} {z : St} (hC : CZ nd ng mo wg q lk lw z) (hl : Lim nd ng mo wg q) {l : Int32} {got : Nat} (hg : got < nd) (h : post (nI (joyN q mo l got)) z) : S_House_joyBy post l (nI got) z := by
  have h6 := hl.1
  unfold S_House_joyBy
  simp (disch := omega) only [vp_in_nI, true_and, nI_clamp]
  rw [hC.2.2.2.2.1 got hg, hC.2.2.2.1, nI_add]
  unfold joyN at h
  refine ⟨fun c => ?_, fun c => ?_⟩
  · rw [if_pos c] at h; exact h
  · rw [if_neg c] at h; exact h
theorem q_joyM {post : Int32 → St → Prop} {nd ng mo wg : Nat} {q : Nat → Nat} {lk : Nat → Int32} {lw : Option ((Nat → Int32) → Int32)} {y : St} (hC : CY nd ng mo wg q lk lw y) (hl : Lim nd ng mo wg q) {l : Int32} {got : Nat} (hg : got < nd) (h : post (nI (joyN q mo l got)) y) : S_M_joyOf post l (nI got) y := by
  have h6 := hl.1
  unfold S_M_joyOf
  refine q_qual (by omega) ?_
  unfold B_M_joyOf_20
  rw [hC.2.2.2.2.1 got hg, hC.2.2.2.1, nI_add]
  unfold joyN at h
  refine ⟨fun c => ?_, fun c => ?_⟩
  · rw [if_pos c] at h; exact h
  · rw [if_neg c] at h; rw [show (0 : Int32) = nI 0 from rfl, nI_add]; exact h
