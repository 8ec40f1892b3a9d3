/-! rests of a game -/
def shN (q : Nat → Nat) (mo : Nat) (lk : Nat → Int32) (p : Nat → Int32) (g got br : Nat) : Int32 := nI (joyN q mo (lk g) got) - p br / 3
def stB (nd : Nat) (q : Nat → Nat) (mo : Nat) (lk : Nat → Int32) (p : Nat → Int32) (g got br : Nat) : Bool := allF (fun k => decide (shN q mo lk p g got k ≤ shN q mo lk p g got br)) nd 0
theorem stays_X {nd ng mo wg : Nat} {q : Nat → Nat} {lk : Nat → Int32} {lw : Option ((Nat → Int32) → Int32)} (hl : Lim nd ng mo wg q) {z : St} (hz : CZ nd ng mo wg q lk lw z) {p : Nat → Int32} (ep : ∀ d, gA z 23 (22 + d) = p d) {g got br : Nat} (hg : g < ng) (hgot : got < nd) (hbr : br < nd) {post : Int32 → St → Prop} : ∀ m i, i + m = nd → (post (if allF (fun k => decide (shN q mo lk p g got k ≤ shN q mo lk p g got br)) m i = true then 1 else 0) z) → ∀ k, m + 1 ≤ k → L_Table_stays_8_3 post k (nI g) (nI got) (nI br) (nI i) z := by
  have h6 := hl.1
  intro m
  induction m with
  | zero =>
    intro i hi hp k hk
    obtain ⟨k, rfl⟩ : ∃ j, k = j + 1 := ⟨k - 1, by omega⟩
    show B_Table_stays_8_3 post _ _ _ _ _ z
    unfold B_Table_stays_8_3
    rw [show gI z 26 = nI nd from hz.1]
    exact pp_y (nI_le (by omega) (by omega)) hp
  | succ m ih =>
    intro i hi hp k hk
    obtain ⟨k, rfl⟩ : ∃ j, k = j + 1 := ⟨k - 1, by omega⟩
    show B_Table_stays_8_3 post _ _ _ _ _ z
    unfold B_Table_stays_8_3
    rw [show gI z 26 = nI nd from hz.1, nI_1]
    refine pp_n (nI_ge (by omega) (by omega)) (q_share hz hl hg hgot (by omega) (q_share hz hl hg hgot hbr ?_))
    rw [ep, ep]
    rw [allF] at hp
    refine ⟨fun c => ev ?_, fun c => ?_⟩
    · refine ih (i + 1) (by omega) ?_ k (by omega)
      rw [show decide (shN q mo lk p g got i ≤ shN q mo lk p g got br) = true from decide_eq_true c, Bool.true_and] at hp
      exact hp
    · rw [show decide (shN q mo lk p g got i ≤ shN q mo lk p g got br) = false from decide_eq_false c, Bool.false_and, if_neg (by decide)] at hp
      exact hp
theorem q_stays {post : Int32 → St → Prop} {nd ng mo wg : Nat} {q : Nat → Nat} {lk : Nat → Int32} {lw : Option ((Nat → Int32) → Int32)} {z : St} (hz : CZ nd ng mo wg q lk lw z) (hl : Lim nd ng mo wg q) {p : Nat → Int32} (ep : ∀ d, gA z 23 (22 + d) = p d) {g got br : Nat} (hg : g < ng) (hgot : got < nd) (hbr : br < nd) (hp : post (if stB nd q mo lk p g got br = true then 1 else 0) z) : S_Table_stays_8 post (nI g) (nI got) (nI br) z :=
  ⟨nd + 1, stays_X hl hz ep hg hgot hbr nd 0 (by omega) hp _ (Nat.le_refl _)⟩
def rIn (R : Nat → Bool) (i : Int32) (a : Nat) : Nat → Nat → Nat → Nat × Option Int32
  | 0, _, many => (many, none)
  | m + 1, b, many => if R b = true then (if nI many = i then (many, some (nI (10 * a + b))) else rIn R i a m (b + 1) (many + 1)) else rIn R i a m (b + 1) many
def rOut (R : Nat → Nat → Bool) (i : Int32) (nd : Nat) : Nat → Nat → Nat → Int32
  | 0, _, many => if i = -1 then nI many else -1
  | m + 1, a, many => match (rIn (R a) i a nd 0 many).2 with
    | some r => r
    | none => rOut R i nd m (a + 1) (rIn (R a) i a nd 0 many).1
def restB (nd : Nat) (q : Nat → Nat) (mo : Nat) (lk : Nat → Int32) (p : Nat → Int32) (one oth a b : Nat) : Bool := stB nd q mo lk p one b a && stB nd q mo lk p oth a b
theorem rest_in {nd ng mo wg : Nat} {q : Nat → Nat} {lk : Nat → Int32} {lw : Option ((Nat → Int32) → Int32)} (hl : Lim nd ng mo wg q) {z : St} (hz : CZ nd ng mo wg q lk lw z) {p : Nat → Int32} (ep : ∀ d, gA z 23 (22 + d) = p d) {one oth a : Nat} {i : Int32} (h1 : one < ng) (h2 : oth < ng) (ha : a < nd) {post : Int32 → St → Prop} {ih35 : Int32 → Int32 → Int32 → Int32 → Int32 → St → Prop} : ∀ m b many, b + m = nd → (∀ r, (rIn (restB nd q mo lk p one oth a) i a m b many).2 = some r → post r z) → ((rIn (restB nd q mo lk p one oth a) i a m b many).2 = none → ih35 (nI one) (nI oth) i (nI (rIn (restB nd q mo lk p one oth a) i a m b many).1) (nI (a + 1)) z) → ∀ k, m + 1 ≤ k → L_B_rests_50 post ih35 k (nI one) (nI oth) i (nI many) (nI a) (nI b) z := by
  have h6 := hl.1
  intro m
  induction m with
  | zero =>
    intro b many hb hs hn k hk
    obtain ⟨k, rfl⟩ : ∃ j, k = j + 1 := ⟨k - 1, by omega⟩
    show B_B_rests_50 post ih35 _ _ _ _ _ _ _ z
    unfold B_B_rests_50
    rw [show gI z 26 = nI nd from hz.1, nI_1 a]
    exact pp_y (nI_le (by omega) (by omega)) (ev (hn rfl))
  | succ m ih =>
    intro b many hb hs hn k hk
    obtain ⟨k, rfl⟩ : ∃ j, k = j + 1 := ⟨k - 1, by omega⟩
    show B_B_rests_50 post ih35 _ _ _ _ _ _ _ z
    unfold B_B_rests_50 B_B_rests_110
    rw [show gI z 26 = nI nd from hz.1, nI_1 b]
    have skip : ¬ restB nd q mo lk p one oth a b = true → L_B_rests_50 post ih35 k (nI one) (nI oth) i (nI many) (nI a) (nI (b + 1)) z := fun hc => by
      rw [rIn, if_neg hc] at hs hn
      exact ih (b + 1) many (by omega) hs hn k (by omega)
    refine pp_n (nI_ge (by omega) (by omega)) (q_stays hz hl ep h1 (by omega) ha ?_)
    by_cases c1 : stB nd q mo lk p one b a = true
    · rw [if_pos c1]
      refine r11 (q_stays hz hl ep h2 ha (by omega) ?_)
      by_cases c2 : stB nd q mo lk p oth a b = true
      · rw [if_pos c2]
        have hc : restB nd q mo lk p one oth a b = true := by unfold restB; rw [c1, c2]; rfl
        rw [rIn, if_pos hc] at hs hn
        refine r11 ⟨fun c => ?_, fun c => ev (ev ?_)⟩
        · rw [if_pos c] at hs
          rw [k10, pk_mul, nI_add]; exact hs _ rfl
        · rw [if_neg c] at hs hn
          rw [nI_1]
          exact ih (b + 1) (many + 1) (by omega) hs hn k (by omega)
      · rw [if_neg c2]
        exact r01 (ev (skip (by unfold restB; rw [c1, Bool.true_and]; exact c2)))
    · rw [if_neg c1]
      refine r01 (ev (skip (fun q => c1 ?_)))
      unfold restB at q
      exact (Bool.and_eq_true_iff.mp q).1
theorem rest_X {nd ng mo wg : Nat} {q : Nat → Nat} {lk : Nat → Int32} {lw : Option ((Nat → Int32) → Int32)} (hl : Lim nd ng mo wg q) {z : St} (hz : CZ nd ng mo wg q lk lw z) {p : Nat → Int32} (ep : ∀ d, gA z 23 (22 + d) = p d) {one oth : Nat} {i : Int32} (h1 : one < ng) (h2 : oth < ng) {post : Int32 → St → Prop} : ∀ m a many, a + m = nd → post (rOut (restB nd q mo lk p one oth) i nd m a many) z → ∀ k, m + 1 ≤ k → L_B_rests_35 post k (nI one) (nI oth) i (nI many) (nI a) z := by
  have h6 := hl.1
  intro m
  induction m with
  | zero =>
    intro a many ha hp k hk
    obtain ⟨k, rfl⟩ : ∃ j, k = j + 1 := ⟨k - 1, by omega⟩
    show B_B_rests_35 post _ _ _ _ _ _ z
    unfold B_B_rests_35
    rw [show gI z 26 = nI nd from hz.1]
    refine pp_y (nI_le (by omega) (by omega)) ⟨fun c => ?_, fun c => ?_⟩
    · rw [rOut, if_pos c] at hp; exact hp
    · rw [rOut, if_neg c] at hp; exact hp
  | succ m ih =>
    intro a many ha hp k hk
    obtain ⟨k, rfl⟩ : ∃ j, k = j + 1 := ⟨k - 1, by omega⟩
    show B_B_rests_35 post _ _ _ _ _ _ z
    unfold B_B_rests_35
    rw [show gI z 26 = nI nd from hz.1]
    refine pp_n (nI_ge (by omega) (by omega)) ⟨nd + 1, rest_in hl hz ep h1 h2 (show a < nd by omega) nd 0 many (by omega) (fun r hr => ?_) (fun hr => ?_) _ (Nat.le_refl _)⟩
    · rw [rOut, hr] at hp; exact hp
    · rw [rOut, hr] at hp
      exact ih (a + 1) _ (by omega) hp k (by omega)
theorem allF_and {A B : Nat → Bool} : ∀ m i, allF (fun k => A k && B k) m i = (allF A m i && allF B m i)
  | 0, _ => rfl
  | m + 1, i => by
    show (A i && B i && allF (fun k => A k && B k) m (i + 1)) = ((A i && allF A m (i + 1)) && (B i && allF B m (i + 1)))
    rw [allF_and m (i + 1)]
    cases A i <;> cases B i <;> cases allF A m (i + 1) <;> cases allF B m (i + 1) <;> rfl
theorem restM_is {nd ng mo wg : Nat} {q : Nat → Nat} {lk : Nat → Int32} {lw : Option ((Nat → Int32) → Int32)} (hl : Lim nd ng mo wg q) {y : St} (hy : CY nd ng mo wg q lk lw y) {p : Nat → Int32} (ep : ∀ d, d < nd → gA y 113 (18 + d) = p d) {one oth a b : Nat} {i x4 : Int32} (h1 : one < ng) (h2 : oth < ng) (ha : a < nd) (hb : b < nd) {post : Int32 → St → Prop} {ih27 : Int32 → Int32 → Int32 → Int32 → Int32 → St → Prop} {ih39 : Int32 → Int32 → Int32 → Int32 → Int32 → Int32 → St → Prop} : ∀ m j (w : Bool), j + m = nd → ((w && allF (fun k => decide (shN q mo lk p one b k ≤ shN q mo lk p one b a) && decide (shN q mo lk p oth a k ≤ shN q mo lk p oth a b)) m j) = true → ((x4 = i → post (nI (10 * a + b)) y) ∧ (¬ x4 = i → ih39 (nI one) (nI oth) i (x4 + 1) (nI a) (nI (b + 1)) y))) → (¬ (w && allF (fun k => decide (shN q mo lk p one b k ≤ shN q mo lk p one b a) && decide (shN q mo lk p oth a k ≤ shN q mo lk p oth a b)) m j) = true → ih39 (nI one) (nI oth) i x4 (nI a) (nI (b + 1)) y) → ∀ k, m + 1 ≤ k → L_M_rests_54 post ih27 ih39 k (nI one) (nI oth) i x4 (nI a) (nI b) (if w = true then 1 else 0) (nI j) y := by
  have h6 := hl.1
  intro m
  induction m with
  | zero =>
    intro j w hj hy1 hn1 k hk
    obtain ⟨k, rfl⟩ : ∃ j, k = j + 1 := ⟨k - 1, by omega⟩
    show B_M_rests_54 post ih27 ih39 _ _ _ _ _ _ _ _ _ y
    unfold B_M_rests_54 B_M_rests_149
    rw [show gI y 111 = nI nd from hy.1, nI_1 b, k10, pk_mul, nI_add]
    refine pp_y (nI_le (by omega) (by omega)) ?_
    cases w with
    | false => exact pp_y rfl (ev (hn1 (by rw [Bool.false_and]; decide)))
    | true =>
      have := hy1 rfl
      exact pp_n (by decide) ⟨this.1, fun c => ev (ev (this.2 c))⟩
  | succ m ih =>
    intro j w hj hy1 hn1 k hk
    obtain ⟨k, rfl⟩ : ∃ j, k = j + 1 := ⟨k - 1, by omega⟩
    show B_M_rests_54 post ih27 ih39 _ _ _ _ _ _ _ _ _ y
    unfold B_M_rests_54 B_M_rests_114 B_M_rests_115
    rw [show gI y 111 = nI nd from hy.1, nI_1 j]
    refine pp_n (nI_ge (by omega) (by omega)) ?_
    have no : (w && allF (fun k => decide (shN q mo lk p one b k ≤ shN q mo lk p one b a) && decide (shN q mo lk p oth a k ≤ shN q mo lk p oth a b)) (m + 1) j) = false → L_M_rests_54 post ih27 ih39 k (nI one) (nI oth) i x4 (nI a) (nI b) 0 (nI (j + 1)) y := fun e => by
      rw [e] at hn1
      exact ih (j + 1) false (by omega) (fun q => absurd q (by simp)) (fun _ => hn1 (by decide)) k (by omega)
    cases w with
    | false => exact pp_y rfl (ev (no rfl))
    | true =>
      refine pp_n (by decide) (q_gameOf hy hl h1 hb (by omega) (q_gameOf hy hl h1 hb ha ?_))
      rw [ep j (by omega), ep a ha]
      refine ⟨fun c => ev (no ?_), fun c => q_gameOf hy hl h2 ha (by omega) (q_gameOf hy hl h2 ha hb ?_)⟩
      · rw [allF, show decide (shN q mo lk p one b j ≤ shN q mo lk p one b a) = false from decide_eq_false (fun q => fa_of_lt_le q c)]; rfl
      · rw [ep j (by omega), ep b hb]
        refine ⟨fun c2 => ev (no ?_), fun c2 => ev ?_⟩
        · rw [allF, show decide (shN q mo lk p oth a j ≤ shN q mo lk p oth a b) = false from decide_eq_false (fun q => fa_of_lt_le q c2), Bool.and_false]; rfl
        · have e : (true && allF (fun k => decide (shN q mo lk p one b k ≤ shN q mo lk p one b a) && decide (shN q mo lk p oth a k ≤ shN q mo lk p oth a b)) (m + 1) j) = (true && allF (fun k => decide (shN q mo lk p one b k ≤ shN q mo lk p one b a) && decide (shN q mo lk p oth a k ≤ shN q mo lk p oth a b)) m (j + 1)) := by
            rw [allF, show decide (shN q mo lk p one b j ≤ shN q mo lk p one b a) = true from decide_eq_true (fa_of_nlt c), show decide (shN q mo lk p oth a j ≤ shN q mo lk p oth a b) = true from decide_eq_true (fa_of_nlt c2)]; rfl
          rw [e] at hy1 hn1
          exact ih (j + 1) true (by omega) hy1 hn1 k (by omega)
theorem restM_in {nd ng mo wg : Nat} {q : Nat → Nat} {lk : Nat → Int32} {lw : Option ((Nat → Int32) → Int32)} (hl : Lim nd ng mo wg q) {y : St} (hy : CY nd ng mo wg q lk lw y) {p : Nat → Int32} (ep : ∀ d, d < nd → gA y 113 (18 + d) = p d) {one oth a : Nat} {i : Int32} (h1 : one < ng) (h2 : oth < ng) (ha : a < nd) {post : Int32 → St → Prop} {ih27 : Int32 → Int32 → Int32 → Int32 → Int32 → St → Prop} : ∀ m b many, b + m = nd → (∀ r, (rIn (restB nd q mo lk p one oth a) i a m b many).2 = some r → post r y) → ((rIn (restB nd q mo lk p one oth a) i a m b many).2 = none → ih27 (nI one) (nI oth) i (nI (rIn (restB nd q mo lk p one oth a) i a m b many).1) (nI (a + 1)) y) → ∀ k, m + 1 ≤ k → L_M_rests_39 post ih27 k (nI one) (nI oth) i (nI many) (nI a) (nI b) y := by
  have h6 := hl.1
  intro m
  induction m with
  | zero =>
    intro b many hb hs hn k hk
    obtain ⟨k, rfl⟩ : ∃ j, k = j + 1 := ⟨k - 1, by omega⟩
    show B_M_rests_39 post ih27 _ _ _ _ _ _ _ y
    unfold B_M_rests_39
    rw [show gI y 111 = nI nd from hy.1, nI_1 a]
    exact pp_y (nI_le (by omega) (by omega)) (ev (hn rfl))
  | succ m ih =>
    intro b many hb hs hn k hk
    obtain ⟨k, rfl⟩ : ∃ j, k = j + 1 := ⟨k - 1, by omega⟩
    show B_M_rests_39 post ih27 _ _ _ _ _ _ _ y
    unfold B_M_rests_39
    rw [show gI y 111 = nI nd from hy.1]
    have eR : (true && allF (fun k => decide (shN q mo lk p one b k ≤ shN q mo lk p one b a) && decide (shN q mo lk p oth a k ≤ shN q mo lk p oth a b)) nd 0) = restB nd q mo lk p one oth a b := by
      rw [Bool.true_and, allF_and]; rfl
    refine pp_n (nI_ge (by omega) (by omega)) ⟨nd + 1, restM_is hl hy ep (i := i) h1 h2 ha (show b < nd by omega) nd 0 true (by omega) (fun hc => ⟨fun c => ?_, fun c => ?_⟩) (fun hc => ?_) _ (Nat.le_refl _)⟩
    · rw [eR] at hc
      rw [rIn, if_pos hc, if_pos c] at hs
      exact hs _ rfl
    · rw [eR] at hc
      rw [rIn, if_pos hc, if_neg c] at hs hn
      rw [nI_1]
      exact ih (b + 1) (many + 1) (by omega) hs hn k (by omega)
    · rw [eR] at hc
      rw [rIn, if_neg hc] at hs hn
      exact ih (b + 1) many (by omega) hs hn k (by omega)
theorem rest_M {nd ng mo wg : Nat} {q : Nat → Nat} {lk : Nat → Int32} {lw : Option ((Nat → Int32) → Int32)} (hl : Lim nd ng mo wg q) {y : St} (hy : CY nd ng mo wg q lk lw y) {p : Nat → Int32} (ep : ∀ d, d < nd → gA y 113 (18 + d) = p d) {one oth : Nat} {i : Int32} (h1 : one < ng) (h2 : oth < ng) {post : Int32 → St → Prop} : ∀ m a many, a + m = nd → post (rOut (restB nd q mo lk p one oth) i nd m a many) y → ∀ k, m + 1 ≤ k → L_M_rests_27 post k (nI one) (nI oth) i (nI many) (nI a) y := by
  have h6 := hl.1
  intro m
  induction m with
  | zero =>
    intro a many ha hp k hk
    obtain ⟨k, rfl⟩ : ∃ j, k = j + 1 := ⟨k - 1, by omega⟩
    show B_M_rests_27 post _ _ _ _ _ _ y
    unfold B_M_rests_27
    rw [show gI y 111 = nI nd from hy.1]
    refine pp_y (nI_le (by omega) (by omega)) ⟨fun c => ?_, fun c => ?_⟩
    · rw [rOut, if_pos c] at hp; exact hp
    · rw [rOut, if_neg c] at hp; exact hp
  | succ m ih =>
    intro a many ha hp k hk
    obtain ⟨k, rfl⟩ : ∃ j, k = j + 1 := ⟨k - 1, by omega⟩
    show B_M_rests_27 post _ _ _ _ _ _ y
    unfold B_M_rests_27
    rw [show gI y 111 = nI nd from hy.1]
    refine pp_n (nI_ge (by omega) (by omega)) ⟨nd + 1, restM_in hl hy ep h1 h2 (show a < nd by omega) nd 0 many (by omega) (fun r hr => ?_) (fun hr => ?_) _ (Nat.le_refl _)⟩
    · rw [rOut, hr] at hp; exact hp
    · rw [rOut, hr] at hp
      exact ih (a + 1) _ (by omega) hp k (by omega)
theorem rIn_neg {R : Nat → Bool} {i : Int32} {a : Nat} (hi : i < 0) : ∀ m b many, many + m < 2 ^ 31 → (rIn R i a m b many).2 = none ∧ (rIn R i a m b many).1 ≤ many + m
  | 0, _, many, _ => ⟨rfl, Nat.le_refl _⟩
  | m + 1, b, many, h => by
    have nn : ¬ nI many = i := fun e => nI_pos (show many < 2 ^ 31 by omega) (e ▸ hi)
    have i1 := rIn_neg (R := R) (a := a) hi m (b + 1) (many + 1) (by omega)
    have i2 := rIn_neg (R := R) (a := a) hi m (b + 1) many (by omega)
    by_cases c : R b = true
    · rw [rIn, if_pos c, if_neg nn]; exact ⟨i1.1, by omega⟩
    · rw [rIn, if_neg c]; exact ⟨i2.1, by omega⟩
theorem rOut_neg {R : Nat → Nat → Bool} {i : Int32} {nd : Nat} (hi : i < 0) (hn : ¬ i = -1) : ∀ m a many, many + m * nd < 2 ^ 31 → rOut R i nd m a many = -1
  | 0, _, _, _ => if_neg hn
  | m + 1, a, many, h => by
    rw [Nat.succ_mul] at h
    have e := rIn_neg (R := R a) (a := a) hi nd 0 many (by omega)
    rw [rOut, e.1]
    exact rOut_neg hi hn m (a + 1) _ (by omega)
theorem o_rests {V V' : Nat} (hV : V ≤ V') : St_rests (Inv V) (Inv V') := by
  intro z y a1 a2 a3 a4 a5 h
  obtain ⟨nd, ng, mo, wg, q, lk, lw, hz, hy0, hl⟩ := h.ctx
  have hT := h.ta
  have h6 := hl.1
  have g6 := hl.2.1
  have hI : Inv V' z (sI y 100 0) := h.fr hV Fr.rf yt
  have hy := hy0.fr (yt : Fr MS MA y (sI y 100 0)) (by decide) (by decide)
  unfold S_B_rests
  rcases ix_cases a1 (n := ng) (by omega) with c | ⟨one, h1, rfl⟩
  · unfold S_M_rests S_M_isGame
    exact q_House_hasGuest_n hz.2.1 c (r01 (ev (q_M_isGuest_n hy.2.1 c (r01 (r01 ⟨rfl, hI⟩)))))
  · refine q_House_hasGuest_y hz.2.1 g6 h1 (r11 ?_)
    rcases ix_cases a2 (n := ng) (by omega) with c | ⟨oth, h2, rfl⟩
    · unfold S_M_rests S_M_isGame
      exact q_House_hasGuest_n hz.2.1 c (r01 (ev (q_M_isGuest_y hy.2.1 g6 h1 (r11 (q_M_isGuest_n hy.2.1 c (r01 (r01 ⟨rfl, hI⟩)))))))
    · refine q_House_hasGuest_y hz.2.1 g6 h2 (r11 ⟨fun c => ?_, fun c => ⟨nd + 1, ?_⟩⟩)
      · unfold S_M_rests S_M_isGame
        exact ev (q_M_isGuest_y hy.2.1 g6 h1 (r11 (q_M_isGuest_y hy.2.1 g6 h2 (r11 (pp_y c (r01 ⟨rfl, hI⟩))))))
      · refine rest_X hl hz (p := fun d => gA z 23 (22 + d)) (fun d => rfl) h1 h2 nd 0 0 (by omega) ?_ _ (Nat.le_refl _)
        unfold S_M_rests S_M_isGame
        refine ev (q_M_isGuest_y hy.2.1 g6 h1 (r11 (q_M_isGuest_y hy.2.1 g6 h2 (r11 (pp_n c (r11 ⟨fun c3 => ⟨nd + 1, ?_⟩, fun c3 => ⟨?_, hI⟩⟩))))))
        · exact rest_M hl hy (p := fun d => gA z 23 (22 + d)) (fun d hd => hT.d (by omega)) h1 h2 nd 0 0 (by omega) ⟨rfl, hI⟩ _ (Nat.le_refl _)
        · refine rOut_neg ?_ ?_ nd 0 0 ?_
          · have := fa_of_nle c3
            exact fa_trans this (by decide)
          · intro e; rw [e] at c3; exact c3 (by decide)
          · have : nd * nd ≤ 6 * 6 := Nat.mul_le_mul h6 h6
            omega
