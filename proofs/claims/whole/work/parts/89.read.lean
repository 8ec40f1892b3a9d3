/-! texts read: bytes, letters, blanks -/
theorem by_and : ∀ b, b < 256 → (nI b).toInt8.toInt32 &&& 255 = nI b := by decide +kernel
theorem by_32 : ∀ b, b < 256 → ((nI b).toInt8.toInt32 = 32 ↔ b = 32) := by decide +kernel
theorem by_48 : ∀ b, b < 256 → ((nI b).toInt8.toInt32 < 48 ↔ (b < 48 ∨ 128 ≤ b)) := by decide +kernel
theorem by_57 : ∀ b, b < 256 → ((57 : Int32) < (nI b).toInt8.toInt32 ↔ (57 < b ∧ b < 128)) := by decide +kernel
theorem by_val : ∀ b, b < 128 → (nI b).toInt8.toInt32 = nI b := by decide +kernel
theorem ch_b : ∀ b, b < 256 → (((nI b).toUInt32 % 65536).toInt32) = nI b := by decide +kernel
def spR (f : Nat → Int32) (x : Int32) : Nat → Nat → Option Nat
  | 0, _ => none
  | m + 1, i => if f i = x then some i else spR f x m (i + 1)
def lt (k i : Nat) : Int32 := (sbyt.getD k []).getD i 0
def spt (k : Nat) (x : Int32) : Option Nat := spR (lt k) x (slen.getD k 0) 0
theorem lt_ch : ∀ k, k < 8 → ∀ i, i < slen.getD k 0 → ((((lt k i) &&& (255 : Int32)).toUInt32 % 65536).toInt32) = lt k i := by decide +kernel
theorem lt_nar : ∀ k, k < 8 → ∀ i, i < slen.getD k 0 → ∃ n, n < 128 ∧ lt k i = nI n := by
  have h : ∀ k, k < 8 → ∀ i, i < slen.getD k 0 → (lt k i = nI (lt k i).toNatClampNeg ∧ (lt k i).toNatClampNeg < 128) := by decide +kernel
  exact fun k hk i hi => ⟨_, (h k hk i hi).2, (h k hk i hi).1⟩
theorem nar_char {n : Nat} (h : n < 128) : narrow .char (.int (nI n)) = .int (nI n) := by
  show Value.int _ = _
  congr 1
  exact fb_char (by omega)
theorem sl_sh : ∀ k, k < 8 → (Int32.ofNat (slen.getD k 0)) >>> ((0 : Int32) &&& 31) = nI (slen.getD k 0) := by decide +kernel
theorem sl_le : ∀ k, k < 8 → slen.getD k 0 ≤ 36 := by decide
theorem q_lenM {post : Int32 → St → Prop} {y : St} {k : Nat} (hk : k < 8) (h : post (nI (slen.getD k 0)) y) : S_String_length_8abf5_M post k y := by
  unfold S_String_length_8abf5_M S_String_coder_7d493_M
  refine ⟨hk, hk, hk, pp_n (by decide) ⟨hk, rfl, ?_⟩⟩
  show post ((Int32.ofNat (slen.getD k 0)) >>> ((0 : Int32) &&& 31)) y
  rw [sl_sh k hk]; exact h
theorem q_lenX {post : Int32 → St → Prop} {y : St} {k : Nat} (hk : k < 8) (h : post (nI (slen.getD k 0)) y) : S_String_length_8abf5_X post k y := by
  unfold S_String_length_8abf5_X S_String_coder_7d493_X
  refine ⟨hk, hk, hk, pp_n (by decide) ⟨hk, rfl, ?_⟩⟩
  show post ((Int32.ofNat (slen.getD k 0)) >>> ((0 : Int32) &&& 31)) y
  rw [sl_sh k hk]; exact h
theorem q_charM {post : Int32 → St → Prop} {y : St} {k i : Nat} (hk : k < 8) (hi : i < slen.getD k 0) (h : post (lt k i) y) : S_String_charAt_5068e_M post k (nI i) y := by
  have h36 := sl_le k hk
  obtain ⟨n, hn, en⟩ := lt_nar k hk i hi
  have e1 : ((((((sbyt.getD k []).getD (nI i).toNatClampNeg 0) &&& (255 : Int32))).toUInt32 % 65536).toInt32) = nI n := by
    rw [nI_clamp (by omega)]; exact (lt_ch k hk i hi).trans en
  have body : ∀ post2 : St → Prop, post2 y → S_String_checkIndex_df160_M post2 (nI i) (Int32.ofNat (slen.getD k 0)) y := fun post2 hp => by
    unfold S_String_checkIndex_df160_M S_Preconditions_checkIndex_8e157_M_n S_Preconditions_checkIndex_8e157_M
    refine ⟨pp_n (nI_pos (by omega)) (pp_y (show nI i < nI (slen.getD k 0) from nI_lt hi (by omega)) hp), fun _ => pp_n (nI_pos (by omega)) (pp_y (show nI i < nI (slen.getD k 0) from nI_lt hi (by omega)) hp)⟩
  unfold S_String_charAt_5068e_M S_String_isLatin1_aae02_M S_StringLatin1_charAt_3b067_M
  refine ⟨hk, pp_n (by decide) ⟨hk, pp_y rfl (pp_n (by decide) ⟨hk, hk, body _ ⟨hk, vp_in_nI hi (by omega), ?_⟩⟩)⟩⟩
  rw [e1]
  refine ⟨nar_char hn, nar_char hn, ?_⟩
  rw [← en]; exact h
theorem spot_lp {post : Int32 → St → Prop} {y : St} {k : Nat} {x : Int32} (hk : k < 8) : ∀ m i, i + m = slen.getD k 0 → post (enc (spR (lt k) x m i)) y → ∀ j, m + 1 ≤ j → L_M_spotOf_2 post j k x (nI i) y := by
  have h36 := sl_le k hk
  intro m
  induction m with
  | zero =>
    intro i hi hp j hj
    obtain ⟨j, rfl⟩ : ∃ t, j = t + 1 := ⟨j - 1, by omega⟩
    show B_M_spotOf_2 post _ _ _ _ y
    unfold B_M_spotOf_2
    exact ⟨hk, q_lenM hk (pp_y (nI_le (by omega) (by omega)) hp)⟩
  | succ m ih =>
    intro i hi hp j hj
    obtain ⟨j, rfl⟩ : ∃ t, j = t + 1 := ⟨j - 1, by omega⟩
    show B_M_spotOf_2 post _ _ _ _ y
    unfold B_M_spotOf_2
    refine ⟨hk, q_lenM hk (pp_n (nI_ge (by omega) (by omega)) ⟨hk, q_charM hk (by omega) ⟨fun c => ?_, fun c => ev ?_⟩⟩)⟩
    · rw [spR, if_pos c] at hp; exact hp
    · rw [spR, if_neg c] at hp
      rw [nI_1]; exact ih (i + 1) (by omega) hp j (by omega)
theorem q_spotOf {post : Int32 → St → Prop} {y : St} {k : Nat} {x : Int32} (hk : k < 8) (h : post (enc (spt k x)) y) : S_M_spotOf post k x y :=
  ⟨_, spot_lp hk (slen.getD k 0) 0 (by omega) h _ (Nat.le_refl _)⟩
theorem among_lp {post : Int32 → St → Prop} {y : St} {k : Nat} {x : Int32} (hk : k < 8) : ∀ m i, i + m = slen.getD k 0 → post (if (spR (lt k) x m i).isSome = true then 1 else 0) y → ∀ j, m + 1 ≤ j → L_M_isAmong_2 post j k x (nI i) y := by
  have h36 := sl_le k hk
  intro m
  induction m with
  | zero =>
    intro i hi hp j hj
    obtain ⟨j, rfl⟩ : ∃ t, j = t + 1 := ⟨j - 1, by omega⟩
    show B_M_isAmong_2 post _ _ _ _ y
    unfold B_M_isAmong_2
    exact ⟨hk, q_lenM hk (pp_y (nI_le (by omega) (by omega)) hp)⟩
  | succ m ih =>
    intro i hi hp j hj
    obtain ⟨j, rfl⟩ : ∃ t, j = t + 1 := ⟨j - 1, by omega⟩
    show B_M_isAmong_2 post _ _ _ _ y
    unfold B_M_isAmong_2
    refine ⟨hk, q_lenM hk (pp_n (nI_ge (by omega) (by omega)) ⟨hk, q_charM hk (by omega) ⟨fun c => ?_, fun c => ev ?_⟩⟩)⟩
    · rw [spR, if_pos c] at hp; exact hp
    · rw [spR, if_neg c] at hp
      rw [nI_1]; exact ih (i + 1) (by omega) hp j (by omega)
theorem q_isAmong {post : Int32 → St → Prop} {y : St} {k : Nat} {x : Int32} (hk : k < 8) (h : post (if (spt k x).isSome = true then 1 else 0) y) : S_M_isAmong post k x y :=
  ⟨_, among_lp hk (slen.getD k 0) 0 (by omega) h _ (Nat.le_refl _)⟩
theorem idx_lp {post : Int32 → St → Prop} {z : St} {k b : Nat} (hk : k < 8) (hb : b < 256) : ∀ m i, i + m = slen.getD k 0 → post (enc (spR (lt k) (nI b) m i)) z → ∀ j, m + 1 ≤ j → L_StringLatin1_indexOfChar_4cfef_X_7 post j k (nI (slen.getD k 0)) (nI b).toInt8.toInt32 (nI i) z := by
  have h36 := sl_le k hk
  intro m
  induction m with
  | zero =>
    intro i hi hp j hj
    obtain ⟨j, rfl⟩ : ∃ t, j = t + 1 := ⟨j - 1, by omega⟩
    show B_StringLatin1_indexOfChar_4cfef_X_7 post _ _ _ _ _ z
    unfold B_StringLatin1_indexOfChar_4cfef_X_7
    exact pp_y (nI_le (by omega) (by omega)) hp
  | succ m ih =>
    intro i hi hp j hj
    obtain ⟨j, rfl⟩ : ∃ t, j = t + 1 := ⟨j - 1, by omega⟩
    obtain ⟨n, hn, en⟩ := lt_nar k hk i (by omega)
    have e : (lt k i = (nI b).toInt8.toInt32) ↔ lt k i = nI b := by
      rw [en]
      by_cases c : b < 128
      · rw [by_val b c]
      · have h1 : ¬ nI n = nI b := by rw [nI_eq (by omega) (by omega)]; omega
        have h2 : ¬ nI n = (nI b).toInt8.toInt32 := fun q => by
          have := (by_48 b hb).mpr (.inr (by omega))
          rw [← q] at this
          have h3 : (nI b).toInt8.toInt32 &&& 255 = nI n := by rw [← q]; rw [show (255 : Int32) = nI (2 ^ 8 - 1) from rfl, fa_mask, Nat.mod_eq_of_lt (by omega)]
          rw [by_and b hb] at h3
          exact h1 h3.symm
        exact ⟨fun q => absurd q h2, fun q => absurd q h1⟩
    show B_StringLatin1_indexOfChar_4cfef_X_7 post _ _ _ _ _ z
    unfold B_StringLatin1_indexOfChar_4cfef_X_7
    rw [nI_clamp (by omega)]
    refine pp_n (nI_ge (by omega) (by omega)) ⟨hk, vp_in_nI (by omega) (by omega), fun c => ?_, fun c => ev ?_⟩
    · rw [spR, if_pos (e.mp c)] at hp; exact hp
    · rw [spR, if_neg (fun q => c (e.mpr q))] at hp
      rw [nI_1]; exact ih (i + 1) (by omega) hp j (by omega)
theorem q_indexOf {post : Int32 → St → Prop} {z : St} {k b : Nat} (hk : k < 8) (h0 : 0 < slen.getD k 0) (hb : b < 256) (h : post (enc (spt k (nI b))) z) : S_String_indexOf_0f7a4_X post k (((nI b).toUInt32 % 65536).toInt32) z := by
  have h36 := sl_le k hk
  rw [ch_b b hb]
  unfold S_String_indexOf_0f7a4_X S_String_indexOf_7cf53_X S_String_isLatin1_aae02_X
  refine ⟨hk, hk, pp_n (by decide) ⟨hk, pp_y rfl (pp_n (by decide) ⟨hk, hk, q_lenX hk ?_⟩)⟩⟩
  unfold S_StringLatin1_indexOf_4cfef_X S_StringLatin1_canEncode_9a6ad_X
  refine pp_n (nI_pos (by omega)) (pp_n (show ¬ nI 255 < nI b from nI_nlt (by omega) (by omega)) (r11 ?_))
  unfold S_Math_max_7cf53_X
  refine pp_n (by decide) ⟨hk, q_minX (a := slen.getD k 0) (b := slen.getD k 0) (by omega) (by omega) ?_⟩
  rw [Nat.min_self]
  refine pp_y (show nI 0 < nI (slen.getD k 0) from nI_lt h0 (by omega)) ?_
  unfold S_StringLatin1_indexOfChar_4cfef_X
  exact ev ⟨_, idx_lp hk hb (slen.getD k 0) 0 (by omega) h _ (Nat.le_refl _)⟩
/-! the reference's text -/
def RX (T : Nat → Nat) (n B r : Nat) (y : St) : Prop :=
  gT y 1 = r ∧ ((r = 101 ∧ B + n ≤ 240) ∨ (r = 102 ∧ B + n ≤ 960)) ∧ gI y 103 = nI B ∧ gI y 104 = nI n ∧ ∀ i, i < n → T i < 256 ∧ gA y r (B + i) = (nI (T i)).toInt8.toInt32
theorem sI_id {σ : St} {k : Nat} {v : Int32} (h : gI σ k = v) : sI σ k v = σ := by
  refine Prod.ext (funext fun j => ?_) rfl
  show (if j = k then v else σ.1 j) = σ.1 j
  split
  · rename_i e; rw [e]; exact h.symm
  · rfl
theorem RX.at {T : Nat → Nat} {n B r : Nat} {y : St} (h : RX T n B r y) {p : Nat} (hp : p < n) : txIn y (nI B + nI p) ∧ gA y (gT y 1) (nI B + nI p).toNatClampNeg = (nI (T p)).toInt8.toInt32 ∧ T p < 256 := by
  obtain ⟨h1, h2, h3, h4, h5⟩ := h
  rw [nI_add, h1]
  have hB : B + p < 960 := by omega
  rw [nI_clamp (by omega)]
  refine ⟨?_, (h5 p hp).2, (h5 p hp).1⟩
  unfold txIn
  rw [h1]
  rcases h2 with ⟨e, h2⟩ | ⟨e, h2⟩
  · exact .inl ⟨e, (vp_in_nI (by omega) (by omega))⟩
  · exact .inr ⟨e, (vp_in_nI (by omega) (by omega))⟩
theorem RX.n_le {T : Nat → Nat} {n B r : Nat} {y : St} (h : RX T n B r y) : n ≤ 960 := by have := h.2.1; omega
theorem RX.sI {T : Nat → Nat} {n B r : Nat} {y : St} (h : RX T n B r y) {k : Nat} {v : Int32} (h1 : k ≠ 103) (h2 : k ≠ 104) : RX T n B r (sI y k v) := by
  obtain ⟨e1, e2, e3, e4, e5⟩ := h
  refine ⟨e1, e2, ?_, ?_, e5⟩
  · rw [gI_sI, if_neg (fun q => h1 q.symm)]; exact e3
  · rw [gI_sI, if_neg (fun q => h2 q.symm)]; exact e4
theorem RX.sF {T : Nat → Nat} {n B r : Nat} {y : St} (h : RX T n B r y) {k : Nat} {f : Nat → Int32} (h1 : k ≠ 101) (h2 : k ≠ 102) : RX T n B r (sF y k f) := by
  obtain ⟨e1, e2, e3, e4, e5⟩ := h
  refine ⟨e1, e2, e3, e4, fun i hi => ?_⟩
  rw [gA_sF, if_neg (by omega)]; exact e5 i hi
theorem RX.sA {T : Nat → Nat} {n B r : Nat} {y : St} (h : RX T n B r y) {k i : Nat} {v : Int32} (h1 : k ≠ 101) (h2 : k ≠ 102) : RX T n B r (sA y k i v) := RX.sF h h1 h2
/-- only blanks from p to p', where a sign stands or the text ends -/
def BL (T : Nat → Nat) (n p p' : Nat) : Prop := p ≤ p' ∧ p' ≤ n ∧ (∀ j, p ≤ j → j < p' → T j = 32) ∧ (p' < n → T p' ≠ 32)
theorem q_look {post : Int32 → St → Prop} {T : Nat → Nat} {n B r : Nat} {y : St} (hR : RX T n B r y) {p : Nat} (hp : gI y 105 = nI p) (hn : p ≤ n) (h : ∀ p', BL T n p p' → post (if p' < n then nI (T p') else -1) (sI y 105 (nI p'))) : S_M_look post y := by
  have h960 := hR.n_le
  have loop : ∀ m i, i + m = n → p ≤ i → (∀ j, p ≤ j → j < i → T j = 32) → L_M_look_0 post (m + 1) (sI y 105 (nI i)) := by
    intro m
    induction m with
    | zero =>
      intro i hi hpi hb
      have R1 := hR.sI (k := 105) (v := nI i) (by decide) (by decide)
      show B_M_look_0 post _ _
      unfold B_M_look_0 B_M_look_43
      rw [R1.2.2.1, R1.2.2.2.1, show gI (sI y 105 (nI i)) 105 = nI i from rfl]
      refine pp_y (nI_le (by omega) (by omega)) (pp_y (nI_le (by omega) (by omega)) ?_)
      have := h i ⟨hpi, by omega, hb, fun q => by omega⟩
      rw [if_neg (by omega)] at this
      exact this
    | succ m ih =>
      intro i hi hpi hb
      have R1 := hR.sI (k := 105) (v := nI i) (by decide) (by decide)
      obtain ⟨a1, a2, a3⟩ := R1.at (show i < n by omega)
      show B_M_look_0 post _ _
      unfold B_M_look_0 B_M_look_43
      rw [R1.2.2.1, R1.2.2.2.1, show gI (sI y 105 (nI i)) 105 = nI i from rfl, a2, by_32 _ a3, by_and _ a3, nI_1]
      refine pp_n (nI_ge (by omega) (by omega)) ⟨a1, fun c => ev ?_, fun c => pp_n (nI_ge (by omega) (by omega)) ⟨a1, ?_⟩⟩
      · rw [sI_sI]
        refine ih (i + 1) (by omega) (by omega) (fun j h1 h2 => ?_)
        by_cases e : j = i
        · rw [e]; exact c
        · exact hb j h1 (by omega)
      · have := h i ⟨hpi, by omega, hb, fun _ => c⟩
        rw [if_pos (by omega)] at this
        exact this
  refine ⟨n - p + 1, ?_⟩
  have := loop (n - p) p (by omega) (Nat.le_refl _) (fun j h1 h2 => by omega)
  rw [sI_id hp] at this
  exact this
def dg (b : Nat) : Bool := decide (48 ≤ b) && decide (b ≤ 57)
theorem dg_iff {b : Nat} : dg b = true ↔ 48 ≤ b ∧ b ≤ 57 := by unfold dg; rw [Bool.and_eq_true_iff, decide_eq_true_iff, decide_eq_true_iff]
theorem q_isDigit {post : Int32 → St → Prop} {T : Nat → Nat} {n B r : Nat} {y : St} (hR : RX T n B r y) {p : Nat} (hp : gI y 105 = nI p) (hn : p ≤ n) (h1 : p < n → dg (T p) = true → post 1 y) (h0 : (p < n → ¬ dg (T p) = true) → post 0 y) : S_M_isDigit post y := by
  have h960 := hR.n_le
  unfold S_M_isDigit
  rw [hR.2.2.1, hR.2.2.2.1, hp]
  rw [dg_iff] at h1 h0
  by_cases c : p < n
  · obtain ⟨a1, a2, a3⟩ := hR.at c
    rw [a2, by_48 _ a3, by_57 _ a3]
    refine pp_n (nI_ge c (by omega)) ⟨a1, fun c1 => h0 (fun _ => by omega), fun c1 => ⟨a1, fun c2 => h0 (fun _ => by omega), fun c2 => h1 c (by omega)⟩⟩
  · exact pp_y (nI_le (by omega) (by omega)) (h0 (fun q => absurd q c))
theorem q_here {post : Int32 → St → Prop} {T : Nat → Nat} {n B r : Nat} {y : St} (hR : RX T n B r y) {p : Nat} (hp : gI y 105 = nI p) (hn : p < n) (h : post (nI (T p)) y) : S_M_here post y := by
  have h960 := hR.n_le
  obtain ⟨a1, a2, a3⟩ := hR.at hn
  unfold S_M_here
  rw [hR.2.2.1, hR.2.2.2.1, hp, a2, by_and _ a3]
  exact pp_n (nI_ge hn (by omega)) ⟨a1, h⟩
theorem q_fails_1 {post : Int32 → St → Prop} {y : St} {p : Nat} (hp : gI y 105 = nI p) (hf : gI y 106 = -1) (h : post 0 (sI y 106 (nI p))) : S_M_fails post y := by
  unfold S_M_fails
  rw [hp]
  exact pp_y hf (ev h)
theorem q_fails_2 {post : Int32 → St → Prop} {y : St} (hf : ¬ gI y 106 = -1) (h : post 0 y) : S_M_fails post y := by
  unfold S_M_fails
  exact pp_n hf h
/-! the class's signs -/
def sg (T : Nat → Nat) (n i : Nat) : Int32 := if i < n then nI (T i) else -1
theorem q_signAt {post : Int32 → St → Prop} {T : Nat → Nat} {n : Nat} {z : St} (hn : gI z 2 = nI n) (h240 : n ≤ 240) (hT : ∀ i, i < n → T i < 256 ∧ gA z 12 i = nI (T i)) {i : Nat} (hi : i ≤ n) (h : post (sg T n i) z) : S_Tape_signAt post (nI i) z := by
  unfold S_Tape_signAt
  unfold sg at h
  rw [hn]
  refine pp_n (nI_pos (by omega)) ?_
  by_cases c : i < n
  · rw [if_pos c] at h
    rw [k240, nI_clamp (by omega), (hT i c).2]
    exact pp_n (nI_ge c (by omega)) (pp_n (nI_ge (by omega) (by omega)) ⟨(vp_in_nI (by omega) (by omega)), h⟩)
  · rw [if_neg c] at h
    exact pp_y (nI_le (by omega) (by omega)) h
theorem q_digX {post : Int32 → St → Prop} {z : St} {b : Nat} (hb : b < 2 ^ 31) (h : post (if dg b = true then 1 else 0) z) : S_Reader_isDigit post (nI b) z := by
  unfold S_Reader_isDigit
  rw [k48, k57, nI_ltI hb (by omega), nI_ltI (by omega) hb]
  refine ⟨fun c => ?_, fun c => ⟨fun c1 => ?_, fun c1 => ?_⟩⟩
  · rw [if_neg (by rw [dg_iff]; omega)] at h; exact h
  · rw [if_neg (by rw [dg_iff]; omega)] at h; exact h
  · rw [if_pos (by rw [dg_iff]; omega)] at h; exact h
/-! a reader that takes sign by sign -/
def runR {σ : Type} (T : Nat → Nat) (n : Nat) (step : Nat → σ → Option σ) (cl : σ → Option σ) : Nat → Nat → σ → Option Nat × σ
  | 0, _, s => match cl s with
    | none => (some n, s)
    | some s' => (none, s')
  | m + 1, i, s => if T i = 32 then runR T n step cl m (i + 1) s else match step i s with
    | none => (some i, s)
    | some s' => runR T n step cl m (i + 1) s'
def RN {σ : Type} (T : Nat → Nat) (n : Nat) (step : Nat → σ → Option σ) (cl : σ → Option σ) (i : Nat) (s : σ) : Option Nat × σ := runR T n step cl (n - i) i s
theorem RN_end {σ : Type} {T : Nat → Nat} {n : Nat} {step : Nat → σ → Option σ} {cl : σ → Option σ} {s : σ} : RN T n step cl n s = match cl s with
    | none => (some n, s)
    | some s' => (none, s') := by unfold RN; rw [Nat.sub_self]; rfl
theorem RN_blank {σ : Type} {T : Nat → Nat} {n : Nat} {step : Nat → σ → Option σ} {cl : σ → Option σ} {i : Nat} {s : σ} (h : i < n) (hb : T i = 32) : RN T n step cl i s = RN T n step cl (i + 1) s := by
  unfold RN
  rw [show n - i = (n - (i + 1)) + 1 by omega, runR, if_pos hb]
theorem RN_yes {σ : Type} {T : Nat → Nat} {n : Nat} {step : Nat → σ → Option σ} {cl : σ → Option σ} {i : Nat} {s s' : σ} (h : i < n) (hb : T i ≠ 32) (hs : step i s = some s') : RN T n step cl i s = RN T n step cl (i + 1) s' := by
  unfold RN
  rw [show n - i = (n - (i + 1)) + 1 by omega, runR, if_neg hb, hs]
theorem RN_no {σ : Type} {T : Nat → Nat} {n : Nat} {step : Nat → σ → Option σ} {cl : σ → Option σ} {i : Nat} {s : σ} (h : i < n) (hb : T i ≠ 32) (hs : step i s = none) : RN T n step cl i s = (some i, s) := by
  unfold RN
  rw [show n - i = (n - (i + 1)) + 1 by omega, runR, if_neg hb, hs]
theorem RN_skip {σ : Type} {T : Nat → Nat} {n : Nat} {step : Nat → σ → Option σ} {cl : σ → Option σ} {s : σ} : ∀ m p p', p' = p + m → BL T n p p' → RN T n step cl p s = RN T n step cl p' s
  | 0, p, p', e, _ => by rw [e]; rfl
  | m + 1, p, p', e, h => by
    rw [RN_blank (by have := h.2.1; omega) (h.2.2.1 p (Nat.le_refl _) (by omega))]
    exact RN_skip m (p + 1) p' (by omega) ⟨by omega, h.2.1, fun j h1 h2 => h.2.2.1 j (by omega) h2, h.2.2.2⟩
theorem RN_bl {σ : Type} {T : Nat → Nat} {n : Nat} {step : Nat → σ → Option σ} {cl : σ → Option σ} {s : σ} {p p' : Nat} (h : BL T n p p') : RN T n step cl p s = RN T n step cl p' s := RN_skip (p' - p) p p' (by have := h.1; omega) h
def faI : Option Nat → Int32
  | none => -1
  | some f => nI f
