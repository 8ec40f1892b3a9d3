/-! what to serve -/
def tal (fit : Nat → Bool) (kk : Nat → Nat) : Nat → Nat → Nat
  | 0, _ => 0
  | n + 1, k => tal fit kk n k + (if fit n = true ∧ kk n = k then 1 else 0)
def mst (fit : Nat → Bool) (kk : Nat → Nat) : Nat → Nat
  | 0 => 0
  | n + 1 => if fit n = true then max (mst fit kk n) (tal fit kk (n + 1) (kk n)) else mst fit kk n
theorem tal_le {fit : Nat → Bool} {kk : Nat → Nat} : ∀ n k, tal fit kk n k ≤ n
  | 0, _ => Nat.le_refl _
  | n + 1, k => by
    have := tal_le (fit := fit) (kk := kk) n k
    show tal fit kk n k + (if fit n = true ∧ kk n = k then 1 else 0) ≤ n + 1
    split <;> omega
theorem mst_le {fit : Nat → Bool} {kk : Nat → Nat} : ∀ n, mst fit kk n ≤ n
  | 0 => Nat.le_refl _
  | n + 1 => by
    have h1 := mst_le (fit := fit) (kk := kk) n
    have h2 := tal_le (fit := fit) (kk := kk) (n + 1) (kk n)
    show (if fit n = true then max (mst fit kk n) (tal fit kk (n + 1) (kk n)) else mst fit kk n) ≤ n + 1
    split <;> omega
theorem tal_same {fit : Nat → Bool} {kk : Nat → Nat} {c : Nat} : ∀ j, fb_ct fit (c + j) = fb_ct fit c → (∀ k, tal fit kk (c + j) k = tal fit kk c k) ∧ mst fit kk (c + j) = mst fit kk c
  | 0, _ => ⟨fun _ => rfl, rfl⟩
  | j + 1, h => by
    have h1 := fb_ct_mono fit (show c ≤ c + j by omega)
    have h2 := fb_ct_succ fit (c + j)
    have h3 : fb_ct fit (c + j + 1) = fb_ct fit c := h
    have nf : ¬ fit (c + j) = true := fun q => by rw [if_pos q] at h2; omega
    rw [if_neg nf] at h2
    have ih := tal_same (fit := fit) (kk := kk) (c := c) j (by omega)
    refine ⟨fun k => ?_, ?_⟩
    · show tal fit kk (c + j) k + (if fit (c + j) = true ∧ kk (c + j) = k then 1 else 0) = _
      rw [if_neg (fun q => nf q.1), Nat.add_zero]; exact ih.1 k
    · show (if fit (c + j) = true then _ else mst fit kk (c + j)) = _
      rw [if_neg nf]; exact ih.2
def kkN (nd mo : Nat) (q : Nat → Nat) (p : Nat → Int32) (lw : Option ((Nat → Int32) → Int32)) (m : Int32) (d code : Nat) : Nat :=
  match bringN nd q mo p lw (nI (code / 10)) (code % 10) m 0 d with
  | none => 0
  | some b => b + 1
theorem kk_eq {nd mo : Nat} {q : Nat → Nat} {p : Nat → Int32} {lw : Option ((Nat → Int32) → Int32)} {m : Int32} {d code : Nat} : enc (bringN nd q mo p lw (nI (code / 10)) (code % 10) m 0 d) + 1 = nI (kkN nd mo q p lw m d code) := by
  unfold kkN
  cases bringN nd q mo p lw (nI (code / 10)) (code % 10) m 0 d with
  | none => decide
  | some b => exact nI_1 b
theorem kk_le {nd mo : Nat} {q : Nat → Nat} {p : Nat → Int32} {lw : Option ((Nat → Int32) → Int32)} {m : Int32} {d code : Nat} : kkN nd mo q p lw m d code ≤ nd := by
  unfold kkN
  cases h : bringN nd q mo p lw (nI (code / 10)) (code % 10) m 0 d with
  | none => exact Nat.zero_le _
  | some b => exact (bring_lt h).1
theorem q_maxX {post : Int32 → St → Prop} {z : St} {a b : Nat} (ha : a < 2 ^ 31) (hb : b < 2 ^ 31) (h : post (nI (max a b)) z) : S_Math_max_7cf53_X post (nI a) (nI b) z := by
  unfold S_Math_max_7cf53_X
  rw [nI_ltI ha hb]
  refine ⟨fun c => ?_, fun c => ?_⟩
  · rw [show max a b = b by omega] at h; exact h
  · rw [show max a b = a by omega] at h; exact h
theorem q_maxM {post : Int32 → St → Prop} {z : St} {a b : Nat} (ha : a < 2 ^ 31) (hb : b < 2 ^ 31) (h : post (nI (max a b)) z) : S_Math_max_7cf53_M post (nI a) (nI b) z := by
  unfold S_Math_max_7cf53_M
  rw [nI_ltI ha hb]
  refine ⟨fun c => ?_, fun c => ?_⟩
  · rw [show max a b = b by omega] at h; exact h
  · rw [show max a b = a by omega] at h; exact h
theorem q_fill31 {post : St → Prop} {z : St} (h : post (sF z 31 (fa_fill (fun _ => 0) (gA z 31) 7))) : S_Arrays_fill_53178_X_r31 post (0 : Int32) z := by
  unfold S_Arrays_fill_53178_X_r31
  have h0 : z = sF z 31 (fa_fill (fun _ => 0) (gA z 31) 0) := by rw [fa_fill_0, sF_id]
  rw [h0]
  refine lp_up (fun n i => L_Arrays_fill_53178_X_r31_5 post n 0 (nI i) 7 (sF z 31 (fa_fill (fun _ => 0) (gA z 31) i))) 7 ?_ ?_
  · intro n i hi ih
    show B_Arrays_fill_53178_X_r31_5 post _ _ _ _ _
    unfold B_Arrays_fill_53178_X_r31_5
    rw [k7, nI_leI (by omega) (by omega), nI_clamp (by omega), nI_1]
    refine pp_n (by omega) ⟨(vp_in_nI (by omega) (by omega)), ev (ev ?_)⟩
    rw [sA_sF, fa_fill_succ (fun _ => 0) (gA z 31) i]
    exact ih
  · show B_Arrays_fill_53178_X_r31_5 post _ _ _ _ _
    unfold B_Arrays_fill_53178_X_r31_5
    exact pp_y (by decide) h
theorem lgp_X {nd ng mo wg : Nat} {q : Nat → Nat} {lk : Nat → Int32} {lw : Option ((Nat → Int32) → Int32)} (hl : Lim nd ng mo wg q) {p : Nat → Int32} {m0 : Int32} {d : Nat} (hdn : d < nd) {fit : Nat → Bool} : ∀ m i, i + m = fb_ct fit (10 * nd) → ∀ (c : Nat) (z : St) (post : Int32 → St → Prop), c ≤ 10 * nd → fb_ct fit c = i → CZ nd ng mo wg q lk lw z → (∀ d, gA z 23 (22 + d) = p d) → GZ fit (10 * nd) z → (∀ k, k < 7 → gA z 31 k = nI (tal fit (kkN nd mo q p lw m0 d) c k)) → (∀ z', Fr [] [21, 22, 31] z z' → post (nI (mst fit (kkN nd mo q p lw m0 d) (10 * nd))) z') → ∀ k, m + 1 ≤ k → L_Sightings_largestPart_14 post k (nI (fb_ct fit (10 * nd))) m0 (nI d) (nI (mst fit (kkN nd mo q p lw m0 d) c)) (nI i) z := by
  have h6 := hl.1
  have hle := fb_ct_le fit (10 * nd)
  intro m
  induction m with
  | zero =>
    intro i hi c z post hc ec hz ep hG ht hp k hk
    obtain ⟨k, rfl⟩ : ∃ j, k = j + 1 := ⟨k - 1, by omega⟩
    show B_Sightings_largestPart_14 post _ _ _ _ _ _ z
    unfold B_Sightings_largestPart_14
    have e := (tal_same (fit := fit) (kk := kkN nd mo q p lw m0 d) (c := c) (10 * nd - c) (by rw [show c + (10 * nd - c) = 10 * nd by omega]; omega)).2
    rw [show c + (10 * nd - c) = 10 * nd by omega] at e
    rw [← e]
    exact pp_y (nI_le (by omega) (by omega)) (hp z Fr.rf)
  | succ m ih =>
    intro i hi c z post hc ec hz ep hG ht hp k hk
    obtain ⟨k, rfl⟩ : ∃ j, k = j + 1 := ⟨k - 1, by omega⟩
    obtain ⟨x, hx, hfx, ex⟩ := fb_ct_kth (show i < fb_ct fit (10 * nd) by omega)
    have hcx : c ≤ x := by
      rcases Nat.lt_or_ge x c with q | q
      · have h1 := fb_ct_mono fit (show x + 1 ≤ c by omega)
        have h2 := fb_ct_succ fit x
        rw [if_pos hfx] at h2
        omega
      · exact q
    have same := tal_same (fit := fit) (kk := kkN nd mo q p lw m0 d) (c := c) (x - c) (by rw [show c + (x - c) = x by omega]; omega)
    rw [show c + (x - c) = x by omega] at same
    have hkk : kkN nd mo q p lw m0 d x ≤ nd := kk_le
    have hsx := fb_ct_succ fit x
    rw [if_pos hfx] at hsx
    have t1 := tal_le (fit := fit) (kk := kkN nd mo q p lw m0 d) x (kkN nd mo q p lw m0 d x)
    have t2 := mst_le (fit := fit) (kk := kkN nd mo q p lw m0 d) x
    have tsu : ∀ k, tal fit (kkN nd mo q p lw m0 d) (x + 1) k = tal fit (kkN nd mo q p lw m0 d) x k + (if kkN nd mo q p lw m0 d x = k then 1 else 0) := fun k => by
      show tal fit (kkN nd mo q p lw m0 d) x k + (if fit x = true ∧ kkN nd mo q p lw m0 d x = k then 1 else 0) = _
      by_cases e : kkN nd mo q p lw m0 d x = k
      · rw [if_pos ⟨hfx, e⟩, if_pos e]
      · rw [if_neg (fun q => e q.2), if_neg e]
    have ear : gA z 29 i = nI x := by rw [← ex]; exact hG x hx hfx
    show B_Sightings_largestPart_14 post _ _ _ _ _ _ z
    unfold B_Sightings_largestPart_14
    rw [k60, nI_leI (by omega) (by omega), nI_leI (by omega) (by omega), nI_clamp (by omega), ear, k10, pk_rem (by omega) (by omega) (by omega), pk_div (by omega) (by omega) (by omega)]
    refine pp_n (by omega) (pp_n (by omega) ⟨(vp_in_nI (by omega) (by omega)), (vp_in_nI (by omega) (by omega)), q_brings8 hz hl hdn (by omega) (fun z' hf => ?_)⟩)
    have e31 : gA z' 31 = gA z 31 := hf.2.1 31 (by decide)
    rw [show (fun d => gA z 23 (22 + d)) = p from funext ep, kk_eq, nI_clamp (by omega)]
    refine ⟨(vp_in_nI (by omega) (by omega)), (vp_in_nI (by omega) (by omega)), ev ⟨(vp_in_nI (by omega) (by omega)), ?_⟩⟩
    rw [gA_sA, if_pos rfl, pk_us, e31, ht _ (by omega), ← same.1, nI_1 (tal fit (kkN nd mo q p lw m0 d) x (kkN nd mo q p lw m0 d x)), ← same.2]
    refine q_maxX (by omega) (by omega) (ev ?_)
    rw [nI_1]
    have em : max (mst fit (kkN nd mo q p lw m0 d) x) (tal fit (kkN nd mo q p lw m0 d) x (kkN nd mo q p lw m0 d x) + 1) = mst fit (kkN nd mo q p lw m0 d) (x + 1) := by
      show _ = (if fit x = true then max (mst fit (kkN nd mo q p lw m0 d) x) (tal fit (kkN nd mo q p lw m0 d) (x + 1) (kkN nd mo q p lw m0 d x)) else _)
      rw [if_pos hfx, tsu, if_pos rfl]
    rw [em]
    have hf2 : Fr [] [21, 22, 31] z (sA z' 31 (kkN nd mo q p lw m0 d x) (nI (tal fit (kkN nd mo q p lw m0 d) x (kkN nd mo q p lw m0 d x) + 1))) := (hf.wk (by decide) (by decide)).sA (by decide)
    refine ih (i + 1) (by omega) (x + 1) _ post (by omega) (by omega) (hz.fr hf2 (by decide) (by decide)) (fun d => by rw [hf2.2.1 23 (by decide)]; exact ep d) (fun code h1 h2 => by rw [hf2.2.1 29 (by decide)]; exact hG code h1 h2) (fun k hk => ?_) (fun z2 hf3 => hp z2 (hf2.tr hf3)) k (by omega)
    rw [gA_sA, if_pos rfl, e31, tsu]
    by_cases e : k = kkN nd mo q p lw m0 d x
    · rw [e, pk_us, if_pos rfl]
    · rw [pk_un e, if_neg (fun q => e q.symm), ht k hk, same.1, Nat.add_zero]
def telC (M : Nat → Nat) : Nat → Nat → Int32 → Int32 → Int32
  | 0, _, c, _ => c
  | m + 1, d, c, l => if c = -1 ∨ nI (M d) < l then telC M m (d + 1) (nI d) (nI (M d)) else telC M m (d + 1) c l
theorem tel_X {nd ng mo wg : Nat} {q : Nat → Nat} {lk : Nat → Int32} {lw : Option ((Nat → Int32) → Int32)} (hl : Lim nd ng mo wg q) {p : Nat → Int32} {m0 : Int32} {fit : Nat → Bool} (hpos : 0 < fb_ct fit (10 * nd)) : ∀ m d, d + m = nd → ∀ (c l : Int32) (z : St) (post : Int32 → St → Prop), CZ nd ng mo wg q lk lw z → (∀ d, gA z 23 (22 + d) = p d) → GZ fit (10 * nd) z → (∀ z', Fr [] [21, 22, 31] z z' → post (telC (fun d => mst fit (kkN nd mo q p lw m0 d) (10 * nd)) m d c l) z') → ∀ k, m + 1 ≤ k → L_Sightings_telling_8 post k (nI (fb_ct fit (10 * nd))) m0 c l (nI d) z := by
  have h6 := hl.1
  have hle := fb_ct_le fit (10 * nd)
  intro m
  induction m with
  | zero =>
    intro d hd c l z post hz ep hG hp k hk
    obtain ⟨k, rfl⟩ : ∃ j, k = j + 1 := ⟨k - 1, by omega⟩
    show B_Sightings_telling_8 post _ _ _ _ _ _ z
    unfold B_Sightings_telling_8
    rw [show gI z 26 = nI nd from hz.1]
    exact pp_y (nI_le (by omega) (by omega)) (hp z Fr.rf)
  | succ m ih =>
    intro d hd c l z post hz ep hG hp k hk
    obtain ⟨k, rfl⟩ : ∃ j, k = j + 1 := ⟨k - 1, by omega⟩
    show B_Sightings_telling_8 post _ _ _ _ _ _ z
    unfold B_Sightings_telling_8 S_Sightings_largestPart B_Sightings_telling_46 B_Sightings_telling_53
    rw [show gI z 26 = nI nd from hz.1, nI_le0 (by omega), nI_1]
    have f0 : Fr [] [21, 22, 31] z (sF z 31 (fa_fill (fun _ => 0) (gA z 31) 7)) := Fr.rf.sF (by decide)
    refine pp_n (nI_ge (by omega) (by omega)) (pp_n (by omega) (q_fill31 ⟨fb_ct fit (10 * nd) + 1, lgp_X hl (lw := lw) (p := p) (m0 := m0) (show d < nd by omega) (fit := fit) (fb_ct fit (10 * nd)) 0 (by omega) 0 _ _ (by omega) rfl (hz.fr f0 (by decide) (by decide)) (fun d => ep d) (fun code h1 h2 => hG code h1 h2) (fun k hk => ?_) (fun z' hf => ?_) _ (Nat.le_refl _)⟩))
    · rw [gA_sF, if_pos rfl, fa_fill_in hk]; rfl
    · have hf2 : Fr [] [21, 22, 31] z z' := f0.tr hf
      have next : ∀ c' l', (telC (fun d => mst fit (kkN nd mo q p lw m0 d) (10 * nd)) (m + 1) d c l = telC (fun d => mst fit (kkN nd mo q p lw m0 d) (10 * nd)) m (d + 1) c' l') → L_Sightings_telling_8 post k (nI (fb_ct fit (10 * nd))) m0 c' l' (nI (d + 1)) z' := fun c' l' he => by
        refine ih (d + 1) (by omega) c' l' z' post (hz.fr hf2 (by decide) (by decide)) (fun d => by rw [hf2.2.1 23 (by decide)]; exact ep d) (fun code h1 h2 => by rw [hf2.2.1 29 (by decide)]; exact hG code h1 h2) (fun z2 hf3 => ?_) k (by omega)
        rw [← he]; exact hp z2 (hf2.tr hf3)
      refine ⟨fun c1 => ev (next _ _ ?_), fun c1 => ⟨fun c2 => ev (next _ _ ?_), fun c2 => ev (next _ _ ?_)⟩⟩
      · rw [telC, if_pos (.inl c1)]
      · rw [telC, if_neg (fun q => q.elim c1 (fa_of_lt_le c2))]
      · rw [telC, if_pos (.inr (fa_of_nle c2))]
theorem sv_in {nd ng mo wg : Nat} {q : Nat → Nat} {lk : Nat → Int32} {lw : Option ((Nat → Int32) → Int32)} (hl : Lim nd ng mo wg q) {sn : Nat} (h10 : sn ≤ 10) {g m0 x3 x4 : Int32} {p rw4 : Nat → Int32} (hd : ∀ i, i < sn → ∃ d, d < nd ∧ rw4 (4 * i + 1) = nI d) (hx : MN nd sn p rw4) (m3 : m0 ≠ Int32.minValue) {fit : Nat → Bool} (efit : fit = fun code => allF (okS nd mo q p lw rw4 g code) sn 0) {d : Nat} (hdn : d < nd) {post : Int32 → St → Prop} {ih36 : Int32 → Int32 → Int32 → Int32 → Int32 → St → Prop} : ∀ m code, code + m = 10 * nd → ∀ (y : St), CY nd ng mo wg q lk lw y → gI y 128 = nI sn → (∀ d, d < nd → gA y 113 (18 + d) = p d) → (∀ i, i < 4 * sn → gA y 117 i = rw4 i) → (∀ k, k < 7 → gA y 118 k = nI (tal fit (kkN nd mo q p lw m0 d) code k)) → (∀ y', Fr RD [104, 118] y y' → ((x3 = -1 → B_M_serve_172 post ih36 g m0 (nI d) (nI (mst fit (kkN nd mo q p lw m0 d) (10 * nd))) y') ∧ (¬ x3 = -1 → ((nI (mst fit (kkN nd mo q p lw m0 d) (10 * nd)) < x4 → B_M_serve_172 post ih36 g m0 (nI d) (nI (mst fit (kkN nd mo q p lw m0 d) (10 * nd))) y') ∧ (¬ nI (mst fit (kkN nd mo q p lw m0 d) (10 * nd)) < x4 → B_M_serve_179 post ih36 g m0 x3 x4 (nI d) y'))))) → ∀ k, m + 1 ≤ k → L_M_serve_75 post ih36 k g m0 x3 x4 (nI d) (nI (mst fit (kkN nd mo q p lw m0 d) code)) (nI code) y := by
  have h6 := hl.1
  intro m
  induction m with
  | zero =>
    intro code hm y hy es ep er ht hp k hk
    obtain ⟨k, rfl⟩ : ∃ j, k = j + 1 := ⟨k - 1, by omega⟩
    show B_M_serve_75 post ih36 _ _ _ _ _ _ _ _ y
    unfold B_M_serve_75
    rw [show gI y 111 = nI nd from hy.1, k10, pk_mul, nI_leI (by omega) (by omega), show code = 10 * nd by omega]
    exact pp_y (by omega) (hp y Fr.rf)
  | succ m ih =>
    intro code hm y hy es ep er ht hp k hk
    obtain ⟨k, rfl⟩ : ∃ j, k = j + 1 := ⟨k - 1, by omega⟩
    have hkk : kkN nd mo q p lw m0 d code ≤ nd := kk_le
    have t1 := tal_le (fit := fit) (kk := kkN nd mo q p lw m0 d) code (kkN nd mo q p lw m0 d code)
    have t2 := mst_le (fit := fit) (kk := kkN nd mo q p lw m0 d) code
    show B_M_serve_75 post ih36 _ _ _ _ _ _ _ _ y
    unfold B_M_serve_75 B_M_serve_151
    rw [show gI y 111 = nI nd from hy.1, k10, pk_mul, nI_leI (by omega) (by omega), nI_1 code]
    refine pp_n (by omega) (q_fitsOne hy hl h10 hd hx (by omega) es ep er (fun y' hf => ?_))
    have fe : allF (okS nd mo q p lw rw4 g code) sn 0 = fit code := by rw [efit]
    rw [fe]
    have e118 : gA y' 118 = gA y 118 := hf.2.1 118 (by decide)
    by_cases c : fit code = true
    · have tsu : ∀ k, tal fit (kkN nd mo q p lw m0 d) (code + 1) k = tal fit (kkN nd mo q p lw m0 d) code k + (if kkN nd mo q p lw m0 d code = k then 1 else 0) := fun k => by
        show tal fit (kkN nd mo q p lw m0 d) code k + (if fit code = true ∧ kkN nd mo q p lw m0 d code = k then 1 else 0) = _
        by_cases e : kkN nd mo q p lw m0 d code = k
        · rw [if_pos ⟨c, e⟩, if_pos e]
        · rw [if_neg (fun q => e q.2), if_neg e]
      have em : max (mst fit (kkN nd mo q p lw m0 d) code) (tal fit (kkN nd mo q p lw m0 d) code (kkN nd mo q p lw m0 d code) + 1) = mst fit (kkN nd mo q p lw m0 d) (code + 1) := by
        show _ = (if fit code = true then max (mst fit (kkN nd mo q p lw m0 d) code) (tal fit (kkN nd mo q p lw m0 d) (code + 1) (kkN nd mo q p lw m0 d code)) else _)
        rw [if_pos c, tsu, if_pos rfl]
      rw [if_pos c, pk_rem (by omega) (by omega) (by omega), pk_div (by omega) (by omega) (by omega)]
      refine r11 (q_makesOf113 (hy.fr hf (by decide) (by decide)) hl hdn (by omega) m3 (by decide) (by rw [hf.2.1 113 (by decide), ep d hdn]; exact hx.2 d hdn) (fun y2 hf2 => ?_))
      rw [bring_cg (p' := p) hdn (fun d hd => by rw [hf.2.1 113 (by decide)]; exact ep d hd), kk_eq]
      have e118' : gA y2 118 = gA y 118 := (hf2.2.1 118 (by decide)).trans e118
      refine ev ⟨(vp_in_nI (by omega) (by omega)), (vp_in_nI (by omega) (by omega)), ?_⟩
      rw [nI_clamp (by omega)]
      refine ev ⟨(vp_in_nI (by omega) (by omega)), ?_⟩
      rw [gA_sA, if_pos rfl, pk_us, e118', ht _ (by omega), nI_1]
      refine q_maxM (by omega) (by omega) (ev ?_)
      rw [em]
      have hf3 : Fr RD [104, 118] y (sA y2 118 (kkN nd mo q p lw m0 d code) (nI (tal fit (kkN nd mo q p lw m0 d) code (kkN nd mo q p lw m0 d code) + 1))) := ((hf.tr hf2).wk (by decide) (by decide)).sA (by decide)
      refine ih (code + 1) (by omega) _ (hy.fr hf3 (by decide) (by decide)) ((hf3.1 128 (by decide)).trans es) (fun d hd => by rw [hf3.2.1 113 (by decide)]; exact ep d hd) (by rw [hf3.2.1 117 (by decide)]; exact er) (fun k hk => ?_) (fun y4 hf4 => hp y4 (hf3.tr hf4)) k (by omega)
      rw [gA_sA, if_pos rfl, e118', tsu]
      by_cases e : k = kkN nd mo q p lw m0 d code
      · rw [e, pk_us, if_pos rfl]
      · rw [pk_un e, if_neg (fun q => e q.symm), ht k hk, Nat.add_zero]
    · rw [if_neg c]
      refine r01 (ev ?_)
      have hf3 : Fr RD [104, 118] y y' := hf.wk (by decide) (by decide)
      have em : mst fit (kkN nd mo q p lw m0 d) code = mst fit (kkN nd mo q p lw m0 d) (code + 1) := by
        show _ = (if fit code = true then _ else mst fit (kkN nd mo q p lw m0 d) code)
        rw [if_neg c]
      rw [em]
      refine ih (code + 1) (by omega) _ (hy.fr hf3 (by decide) (by decide)) ((hf3.1 128 (by decide)).trans es) (fun d hd => by rw [hf3.2.1 113 (by decide)]; exact ep d hd) (by rw [hf3.2.1 117 (by decide)]; exact er) (fun k hk => ?_) (fun y4 hf4 => hp y4 (hf3.tr hf4)) k (by omega)
      rw [e118, ht k hk]
      congr 1
      show _ = tal fit (kkN nd mo q p lw m0 d) code k + (if fit code = true ∧ kkN nd mo q p lw m0 d code = k then 1 else 0)
      rw [if_neg (fun q => c q.1), Nat.add_zero]
theorem q_fill118 {post : Int32 → St → Prop} {ih36 : Int32 → Int32 → Int32 → Int32 → Int32 → St → Prop} {y : St} {x1 x2 x3 x4 x5 : Int32} (h : ∃ n, L_M_serve_75 post ih36 n x1 x2 x3 x4 x5 (0 : Int32) (0 : Int32) (sF y 118 (fa_fill (fun _ => 0) (gA y 118) 7))) : ∃ n, L_M_serve_48 post ih36 n x1 x2 x3 x4 x5 (0 : Int32) y := by
  have h0 : y = sF y 118 (fa_fill (fun _ => 0) (gA y 118) 0) := by rw [fa_fill_0, sF_id]
  rw [h0]
  refine lp_up (fun n i => L_M_serve_48 post ih36 n x1 x2 x3 x4 x5 (nI i) (sF y 118 (fa_fill (fun _ => 0) (gA y 118) i))) 7 ?_ ?_
  · intro n i hi ih
    show B_M_serve_48 post ih36 _ _ _ _ _ _ _ _
    unfold B_M_serve_48
    rw [k6, nI_ltI (by omega) (by omega), nI_clamp (by omega), nI_1]
    refine pp_n (by omega) ⟨(vp_in_nI (by omega) (by omega)), ev (ev ?_)⟩
    rw [sA_sF, fa_fill_succ (fun _ => 0) (gA y 118) i]
    exact ih
  · show B_M_serve_48 post ih36 _ _ _ _ _ _ _ _
    unfold B_M_serve_48
    exact pp_y (by decide) h
theorem sv_M {nd ng mo wg : Nat} {q : Nat → Nat} {lk : Nat → Int32} {lw : Option ((Nat → Int32) → Int32)} (hl : Lim nd ng mo wg q) {sn : Nat} (h10 : sn ≤ 10) {g m0 : Int32} {p rw4 : Nat → Int32} (hd : ∀ i, i < sn → ∃ d, d < nd ∧ rw4 (4 * i + 1) = nI d) (hx : MN nd sn p rw4) (m3 : m0 ≠ Int32.minValue) {fit : Nat → Bool} (efit : fit = fun code => allF (okS nd mo q p lw rw4 g code) sn 0) : ∀ m d, d + m = nd → ∀ (c l : Int32) (y : St) (post : Int32 → St → Prop), CY nd ng mo wg q lk lw y → gI y 128 = nI sn → (∀ d, d < nd → gA y 113 (18 + d) = p d) → (∀ i, i < 4 * sn → gA y 117 i = rw4 i) → (∀ y', Fr RD [104, 118] y y' → post (telC (fun d => mst fit (kkN nd mo q p lw m0 d) (10 * nd)) m d c l) y') → ∀ k, m + 1 ≤ k → L_M_serve_36 post k g m0 c l (nI d) y := by
  have h6 := hl.1
  intro m
  induction m with
  | zero =>
    intro d hdm c l y post hy es ep er hp k hk
    obtain ⟨k, rfl⟩ : ∃ j, k = j + 1 := ⟨k - 1, by omega⟩
    show B_M_serve_36 post _ _ _ _ _ _ y
    unfold B_M_serve_36
    rw [show gI y 111 = nI nd from hy.1]
    exact pp_y (nI_le (by omega) (by omega)) (hp y Fr.rf)
  | succ m ih =>
    intro d hdm c l y post hy es ep er hp k hk
    obtain ⟨k, rfl⟩ : ∃ j, k = j + 1 := ⟨k - 1, by omega⟩
    show B_M_serve_36 post _ _ _ _ _ _ y
    unfold B_M_serve_36
    rw [show gI y 111 = nI nd from hy.1]
    have f0 : Fr RD [104, 118] y (sF y 118 (fa_fill (fun _ => 0) (gA y 118) 7)) := Fr.rf.sF (by decide)
    refine pp_n (nI_ge (by omega) (by omega)) (q_fill118 ⟨10 * nd + 1, sv_in hl h10 (lw := lw) (m0 := m0) hd hx m3 efit (show d < nd by omega) (10 * nd) 0 (by omega) _ (hy.fr f0 (by decide) (by decide)) es ep er (fun k hk => ?_) (fun y' hf => ?_) _ (Nat.le_refl _)⟩)
    · rw [gA_sF, if_pos rfl, fa_fill_in hk]; rfl
    · have hf2 : Fr RD [104, 118] y y' := f0.tr hf
      have next : ∀ c' l', (telC (fun d => mst fit (kkN nd mo q p lw m0 d) (10 * nd)) (m + 1) d c l = telC (fun d => mst fit (kkN nd mo q p lw m0 d) (10 * nd)) m (d + 1) c' l') → L_M_serve_36 post k g m0 c' l' (nI (d + 1)) y' := fun c' l' he => by
        refine ih (d + 1) (by omega) c' l' y' post (hy.fr hf2 (by decide) (by decide)) ((hf2.1 128 (by decide)).trans es) (fun d hd => by rw [hf2.2.1 113 (by decide)]; exact ep d hd) (by rw [hf2.2.1 117 (by decide)]; exact er) (fun y2 hf3 => ?_) k (by omega)
        rw [← he]; exact hp y2 (hf2.tr hf3)
      unfold B_M_serve_172 B_M_serve_179
      rw [nI_1]
      refine ⟨fun c1 => ev (next _ _ ?_), fun c1 => ⟨fun c2 => ev (next _ _ ?_), fun c2 => ev (next _ _ ?_)⟩⟩
      · rw [telC, if_pos (.inl c1)]
      · rw [telC, if_pos (.inr c2)]
      · rw [telC, if_neg (fun q => q.elim c1 c2)]
theorem o_serve {V V' : Nat} (hV : V ≤ V') : St_serve (Inv V) (Inv V') := by
  intro z y a1 a2 a3 a4 a5 h
  obtain ⟨nd, ng, mo, wg, q, lk, lw, hz, hy0, hl⟩ := h.ctx
  have hT := h.ta
  have h6 := hl.1
  have g6 := hl.2.1
  have hI : Inv V' z (sI y 100 0) := h.fr hV Fr.rf yt
  have hy := hy0.fr (yt : Fr MS MA y (sI y 100 0)) (by decide) (by decide)
  obtain ⟨sn, s1, s2, s3, s4, s5, s6⟩ := hI.seenN hz.1 h6
  obtain ⟨nd', tb⟩ := h.tb
  have y0 : sI (sI y 100 0) 100 0 = sI y 100 0 := sI_sI y 100 0 0
  unfold S_B_serve
  rcases ix_cases a1 (n := ng) (by omega) with c | ⟨g, hg, rfl⟩
  · unfold S_M_serve S_M_fits
    refine q_House_hasGuest_n hz.2.1 c (r01 (ev (q_isIn L0 L99 (fun _ _ => r11 (ev ?_)) (fun _ => r01 ⟨rfl, hI⟩))))
    rw [y0]
    exact q_M_isGuest_n hy.2.1 c (r01 (pp_n (by decide) ⟨rfl, hI⟩))
  · refine q_House_hasGuest_y hz.2.1 g6 hg (r11 ?_)
    have out : (a2 < 0 ∨ (99 : Int32) < a2) → S_M_serve (fun r1 y1 => (-1 : Int32) = r1 ∧ Inv V' z y1) (nI g) a2 y := fun c => by
      unfold S_M_serve
      exact ev (q_isIn L0 L99 (fun p1 p2 => absurd c (fun q => q.elim (fa_of_lt_le p1) (fa_of_lt_le p2))) (fun _ => r01 ⟨rfl, hI⟩))
    refine ⟨fun c => out (.inl c), fun c => ⟨fun c1 => ⟨nd + 1, ?_⟩, fun c1 => out (.inr (fa_of_nle c1))⟩⟩
    generalize efit : fitO nd mo q lw sn z (nI g) = fit
    have hle := fb_ct_le fit (10 * nd)
    refine gat_X hl s3 s4 (fit := fit) efit.symm nd 0 (by omega) z _ hz s1 (fun d => rfl) rfl (fun c hc => absurd hc (by omega)) (fun z' hf hG => ?_) (nd + 1) (Nat.le_refl _)
    have fz : Fr XS XA z z' := hf.wk (by decide) (by decide)
    have mside : ∀ (r : Int32) (z2 : St), Inv V' z2 (sI y 100 0) → r = (if 0 < fb_ct fit (10 * nd) then telC (fun d => mst fit (kkN nd mo q (fun d => gA z 23 (22 + d)) lw a2 d) (10 * nd)) nd 0 (-1) 0 else -1) → S_M_serve (fun r1 y1 => r = r1 ∧ Inv V' z2 y1) (nI g) a2 y := fun r z2 hI2 hr => by
      unfold S_M_serve S_M_fits
      refine ev (q_isIn L0 L99 (fun _ _ => r11 (ev ?_)) (fun q => absurd q (fun q => q.elim c (fa_of_lt_le c1))))
      rw [y0]
      refine q_M_isGuest_y hy.2.1 g6 hg (r11 (pp_y (by decide) ⟨10 * nd + 1, ?_⟩))
      refine fit_M hl s3 s4 ⟨s6, fun d hd => tb.p_min (by omega)⟩ (fit := fit) efit.symm (10 * nd) 0 (by omega) (sI y 100 0) _ hy s2 (fun d hd => hT.d (by omega)) (fun i hi => (s5 i hi).symm) (fun y' hf2 => ?_) _ (Nat.le_refl _)
      have fy : Fr MS MA (sI y 100 0) y' := hf2.wk (by decide) (by decide)
      rw [fits_all _ _ (by omega), show 0 + 10 * nd = 10 * nd by omega]
      refine ⟨fun c2 => ⟨nd + 1, ?_⟩, fun c2 => ⟨?_, hI2.fr (Nat.le_refl _) Fr.rf fy⟩⟩
      · rw [show (0 : Int32) = nI 0 from rfl, nI_ltI (by omega) (by omega)] at c2
        refine sv_M hl s3 (m0 := a2) s4 ⟨s6, fun d hd => tb.p_min (by omega)⟩ (fun q => c (by rw [q]; decide)) (fit := fit) efit.symm nd 0 (by omega) (-1) 0 y' _ (hy.fr hf2 (by decide) (by decide)) ((hf2.1 128 (by decide)).trans s2) (fun d hd => by rw [hf2.2.1 113 (by decide)]; exact hT.d (by omega)) (by rw [hf2.2.1 117 (by decide)]; exact fun i hi => (s5 i hi).symm) (fun y2 hf3 => ⟨?_, ?_⟩) _ (Nat.le_refl _)
        · rw [hr, if_pos c2]
        · exact hI2.fr (Nat.le_refl _) Fr.rf (fy.tr (hf3.wk (by decide) (by decide)))
      · rw [show (0 : Int32) = nI 0 from rfl, nI_ltI (by omega) (by omega)] at c2
        rw [hr, if_neg c2]
    by_cases hpos : 0 < fb_ct fit (10 * nd)
    · refine ⟨nd + 1, tel_X hl (lw := lw) (p := fun d => gA z 23 (22 + d)) (m0 := a2) hpos nd 0 (by omega) (-1) 0 z' _ (hz.fr hf (by decide) (by decide)) (fun d => by rw [hf.2.1 23 (by decide)]) hG (fun z2 hf2 => ?_) _ (Nat.le_refl _)⟩
      exact mside _ z2 (hI.fr (Nat.le_refl _) (fz.tr (hf2.wk (by decide) (by decide))) Fr.rf) (by rw [if_pos hpos])
    · refine ⟨1, ?_⟩
      show B_Sightings_telling_8 _ _ _ _ _ _ _ z'
      have hn2 := hl.2.2.2.2.2.1 (show 0 < ng by omega)
      unfold B_Sightings_telling_8
      rw [show gI z' 26 = nI nd from (hf.1 26 (by decide)).trans hz.1, nI_le0 (by omega)]
      refine pp_n (by omega) (pp_y (show nI (fb_ct fit (10 * nd)) ≤ 0 by rw [nI_le0 (by omega)]; omega) (mside _ z' (hI.fr (Nat.le_refl _) fz Fr.rf) (by rw [if_neg hpos])))
