/-! fits, serve -/
theorem q_isSo {post : Int32 → St → Prop} {nd ng mo wg : Nat} {q : Nat → Nat} {lk : Nat → Int32} {lw : Option ((Nat → Int32) → Int32)} {z : St} (hz : CZ nd ng mo wg q lk lw z) (hl : Lim nd ng mo wg q) {sn : Nat} (h10 : sn ≤ 10) {g : Int32} {p rw4 : Nat → Int32} (hd : ∀ i, i < sn → ∃ d, d < nd ∧ rw4 (4 * i + 1) = nI d) {like mood : Nat} (hk : like < 6) (hm : mood < 10) (es : gI z 41 = nI sn) (ep : ∀ d, gA z 23 (22 + d) = p d) (er : gA z 30 = rw4) (hp : ∀ z', Fr [] [21, 22] z z' → post (if allF (okS nd mo q p lw rw4 g (10 * like + mood)) sn 0 = true then 1 else 0) z') : S_Sightings_isSo post g (nI like) (nI mood) z := by
  have h := so_X hl h10 (g := g) hd (code := 10 * like + mood) (by omega) sn 0 (by omega) z post hz es ep er hp (sn + 1) (Nat.le_refl _)
  rw [show (10 * like + mood) / 10 = like by omega, show (10 * like + mood) % 10 = mood by omega] at h
  exact ⟨sn + 1, h⟩
def GZ (fit : Nat → Bool) (n : Nat) (z : St) : Prop := ∀ code, code < n → fit code = true → gA z 29 (fb_ct fit code) = nI code
theorem GZ.add {fit : Nat → Bool} {n : Nat} {z z' : St} (h : GZ fit n z) (hf : gA z' 29 = upd (gA z 29) (fb_ct fit n) (nI n)) (hfit : fit n = true) : GZ fit (n + 1) z' := fun code hc hfc => by
  rw [hf]
  by_cases e : code = n
  · subst e; rw [pk_us]
  · rw [pk_un (fun q => e (fb_ct_kth_one hfc hfit q))]
    exact h code (by omega) hfc
theorem GZ.skip {fit : Nat → Bool} {n : Nat} {z : St} (h : GZ fit n z) (hfit : ¬ fit n = true) : GZ fit (n + 1) z := fun code hc hfc => by
  by_cases e : code = n
  · subst e; exact absurd hfc hfit
  · exact h code (by omega) hfc
theorem gat_in {nd ng mo wg : Nat} {q : Nat → Nat} {lk : Nat → Int32} {lw : Option ((Nat → Int32) → Int32)} (hl : Lim nd ng mo wg q) {sn : Nat} (h10 : sn ≤ 10) {g : Int32} {p rw4 : Nat → Int32} (hd : ∀ i, i < sn → ∃ d, d < nd ∧ rw4 (4 * i + 1) = nI d) {fit : Nat → Bool} (efit : fit = fun code => allF (okS nd mo q p lw rw4 g code) sn 0) {like : Nat} (hk : like < nd) {post : Int32 → St → Prop} {ih4 : Int32 → Int32 → Int32 → St → Prop} : ∀ m mood, mood + m = 10 → ∀ (z : St), CZ nd ng mo wg q lk lw z → gI z 41 = nI sn → (∀ d, gA z 23 (22 + d) = p d) → gA z 30 = rw4 → GZ fit (10 * like + mood) z → (∀ z', Fr [] [21, 22, 29] z z' → GZ fit (10 * (like + 1)) z' → ih4 g (nI (fb_ct fit (10 * (like + 1)))) (nI (like + 1)) z') → ∀ k, m + 1 ≤ k → L_Sightings_gather_18 post ih4 k g (nI (fb_ct fit (10 * like + mood))) (nI like) (nI mood) z := by
  have h6 := hl.1
  intro m
  induction m with
  | zero =>
    intro mood hm z hz es ep er hG hp k hk'
    obtain ⟨k, rfl⟩ : ∃ j, k = j + 1 := ⟨k - 1, by omega⟩
    show B_Sightings_gather_18 post ih4 _ _ _ _ _ z
    unfold B_Sightings_gather_18
    rw [k10, nI_leI (by omega) (by omega), nI_1 like, show 10 * like + mood = 10 * (like + 1) by omega]
    exact pp_y (by omega) (ev (hp z Fr.rf (by rw [show 10 * (like + 1) = 10 * like + mood by omega]; exact hG)))
  | succ m ih =>
    intro mood hm z hz es ep er hG hp k hk'
    obtain ⟨k, rfl⟩ : ∃ j, k = j + 1 := ⟨k - 1, by omega⟩
    have hct := fb_ct_le fit (10 * like + mood)
    have hsu := fb_ct_succ fit (10 * like + mood)
    show B_Sightings_gather_18 post ih4 _ _ _ _ _ z
    unfold B_Sightings_gather_18 B_Sightings_gather_52
    rw [k10, nI_leI (by omega) (by omega), nI_1 mood]
    refine pp_n (by omega) (q_isSo hz hl h10 hd (by omega) (by omega) es ep er (fun z' hf => ?_))
    have fe : allF (okS nd mo q p lw rw4 g (10 * like + mood)) sn 0 = fit (10 * like + mood) := by rw [efit]
    rw [fe]
    have e29 : gA z' 29 = gA z 29 := hf.2.1 29 (by decide)
    by_cases c : fit (10 * like + mood) = true
    · rw [if_pos c]
      rw [if_pos c] at hsu
      refine r11 ⟨(vp_in_nI (by omega) (by omega)), ev (ev (ev ?_))⟩
      rw [nI_clamp (by omega), pk_mul, nI_add, nI_1]
      have hf2 : Fr [] [21, 22, 29] z (sA z' 29 (fb_ct fit (10 * like + mood)) (nI (10 * like + mood))) := (hf.wk (by decide) (by decide)).sA (by decide)
      rw [← hsu]
      refine ih (mood + 1) (by omega) _ (hz.fr hf2 (by decide) (by decide)) ((hf2.1 41 (by decide)).trans es) (fun d => by rw [hf2.2.1 23 (by decide)]; exact ep d) ((hf2.2.1 30 (by decide)).trans er) ?_ (fun z2 hf3 hG3 => hp z2 (hf2.tr hf3) hG3) k (by omega)
      exact hG.add (by rw [gA_sA, if_pos rfl, e29]) c
    · rw [if_neg c]
      rw [if_neg c] at hsu
      refine r01 (ev ?_)
      have hf2 : Fr [] [21, 22, 29] z z' := hf.wk (by decide) (by decide)
      rw [← Nat.add_zero (fb_ct fit (10 * like + mood)), ← hsu]
      refine ih (mood + 1) (by omega) _ (hz.fr hf2 (by decide) (by decide)) ((hf2.1 41 (by decide)).trans es) (fun d => by rw [hf2.2.1 23 (by decide)]; exact ep d) ((hf2.2.1 30 (by decide)).trans er) ?_ (fun z2 hf3 hG3 => hp z2 (hf2.tr hf3) hG3) k (by omega)
      exact GZ.skip (fun code h1 h2 => by rw [e29]; exact hG code h1 h2) c
theorem gat_X {nd ng mo wg : Nat} {q : Nat → Nat} {lk : Nat → Int32} {lw : Option ((Nat → Int32) → Int32)} (hl : Lim nd ng mo wg q) {sn : Nat} (h10 : sn ≤ 10) {g : Int32} {p rw4 : Nat → Int32} (hd : ∀ i, i < sn → ∃ d, d < nd ∧ rw4 (4 * i + 1) = nI d) {fit : Nat → Bool} (efit : fit = fun code => allF (okS nd mo q p lw rw4 g code) sn 0) : ∀ m like, like + m = nd → ∀ (z : St) (post : Int32 → St → Prop), CZ nd ng mo wg q lk lw z → gI z 41 = nI sn → (∀ d, gA z 23 (22 + d) = p d) → gA z 30 = rw4 → GZ fit (10 * like) z → (∀ z', Fr [] [21, 22, 29] z z' → GZ fit (10 * nd) z' → post (nI (fb_ct fit (10 * nd))) z') → ∀ k, m + 1 ≤ k → L_Sightings_gather_4 post k g (nI (fb_ct fit (10 * like))) (nI like) z := by
  have h6 := hl.1
  intro m
  induction m with
  | zero =>
    intro like hm z post hz es ep er hG hp k hk'
    obtain ⟨k, rfl⟩ : ∃ j, k = j + 1 := ⟨k - 1, by omega⟩
    show B_Sightings_gather_4 post _ _ _ _ z
    unfold B_Sightings_gather_4
    rw [show gI z 26 = nI nd from hz.1]
    refine pp_y (nI_le (by omega) (by omega)) ?_
    rw [show like = nd by omega]
    exact hp z Fr.rf (by rw [show nd = like by omega]; exact hG)
  | succ m ih =>
    intro like hm z post hz es ep er hG hp k hk'
    obtain ⟨k, rfl⟩ : ∃ j, k = j + 1 := ⟨k - 1, by omega⟩
    show B_Sightings_gather_4 post _ _ _ _ z
    unfold B_Sightings_gather_4
    rw [show gI z 26 = nI nd from hz.1]
    refine pp_n (nI_ge (by omega) (by omega)) ⟨11, gat_in hl h10 hd efit (by omega) 10 0 (by omega) z hz es ep er hG (fun z' hf hG2 => ?_) 11 (Nat.le_refl _)⟩
    exact ih (like + 1) (by omega) z' post (hz.fr hf (by decide) (by decide)) ((hf.1 41 (by decide)).trans es) (fun d => by rw [hf.2.1 23 (by decide)]; exact ep d) ((hf.2.1 30 (by decide)).trans er) hG2 (fun z2 hf2 hG3 => hp z2 (hf.tr hf2) hG3) k (by omega)
def fitsC (fit : Nat → Bool) (a : Int32) : Nat → Nat → Int32
  | 0, code => if a = -1 then nI (fb_ct fit code) else -1
  | m + 1, code => if fit code = true then (if nI (fb_ct fit code) = a then nI code else fitsC fit a m (code + 1)) else fitsC fit a m (code + 1)
theorem fits_all {fit : Nat → Bool} : ∀ m code, code + m < 2 ^ 31 → fitsC fit (-1) m code = nI (fb_ct fit (code + m))
  | 0, code, _ => if_pos rfl
  | m + 1, code, h => by
    have hc := fb_ct_le fit code
    have ih := fits_all (fit := fit) m (code + 1) (by omega)
    show (if fit code = true then (if nI (fb_ct fit code) = -1 then nI code else fitsC fit (-1) m (code + 1)) else fitsC fit (-1) m (code + 1)) = _
    rw [if_neg (show ¬ nI (fb_ct fit code) = -1 from fun q => (nI_m1 (by omega)).mp q), ih, show code + 1 + m = code + (m + 1) by omega]
    split <;> rfl
theorem fits_one {fit : Nat → Bool} {c : Nat} (hf : fit c = true) : ∀ m code, code + m < 2 ^ 31 → code ≤ c → c < code + m → fitsC fit (nI (fb_ct fit c)) m code = nI c
  | 0, code, _, h1, h2 => by omega
  | m + 1, code, h, h1, h2 => by
    have hc := fb_ct_le fit code
    have hc2 := fb_ct_le fit c
    show (if fit code = true then (if nI (fb_ct fit code) = nI (fb_ct fit c) then nI code else fitsC fit _ m (code + 1)) else fitsC fit _ m (code + 1)) = _
    by_cases e : code = c
    · subst e; rw [if_pos hf, if_pos rfl]
    · rw [fits_one hf m (code + 1) (by omega) (by omega) (by omega)]
      by_cases c1 : fit code = true
      · rw [if_pos c1, if_neg]
        rw [nI_eq (by omega) (by omega)]
        exact fun q => e (fb_ct_kth_one c1 hf q)
      · rw [if_neg c1]
theorem fits_none {fit : Nat → Bool} {a : Int32} (ha : ¬ a = -1) : ∀ m code, (∀ c, c < code + m → fit c = true → ¬ nI (fb_ct fit c) = a) → fitsC fit a m code = -1
  | 0, code, _ => if_neg ha
  | m + 1, code, h => by
    show (if fit code = true then (if nI (fb_ct fit code) = a then nI code else fitsC fit _ m (code + 1)) else fitsC fit _ m (code + 1)) = _
    rw [fits_none ha m (code + 1) (fun c hc => h c (by omega))]
    by_cases c1 : fit code = true
    · rw [if_pos c1, if_neg (h code (by omega) c1)]
    · rw [if_neg c1]
theorem q_fitsOne {post : Int32 → St → Prop} {nd ng mo wg : Nat} {q : Nat → Nat} {lk : Nat → Int32} {lw : Option ((Nat → Int32) → Int32)} {y : St} (hy : CY nd ng mo wg q lk lw y) (hl : Lim nd ng mo wg q) {sn : Nat} (h10 : sn ≤ 10) {g : Int32} {p rw4 : Nat → Int32} (hd : ∀ i, i < sn → ∃ d, d < nd ∧ rw4 (4 * i + 1) = nI d) (hx : MN nd sn p rw4) {code : Nat} (hc : code < 60) (es : gI y 128 = nI sn) (ep : ∀ d, d < nd → gA y 113 (18 + d) = p d) (er : ∀ i, i < 4 * sn → gA y 117 i = rw4 i) (hp : ∀ y', Fr RD [104] y y' → post (if allF (okS nd mo q p lw rw4 g code) sn 0 = true then 1 else 0) y') : S_M_fitsOne post g (nI code) y :=
  ⟨sn + 1, so_M hl h10 hd hx hc sn 0 (by omega) y post hy es ep er hp (sn + 1) (Nat.le_refl _)⟩
theorem fit_M {nd ng mo wg : Nat} {q : Nat → Nat} {lk : Nat → Int32} {lw : Option ((Nat → Int32) → Int32)} (hl : Lim nd ng mo wg q) {sn : Nat} (h10 : sn ≤ 10) {g a : Int32} {p rw4 : Nat → Int32} (hd : ∀ i, i < sn → ∃ d, d < nd ∧ rw4 (4 * i + 1) = nI d) (hx : MN nd sn p rw4) {fit : Nat → Bool} (efit : fit = fun code => allF (okS nd mo q p lw rw4 g code) sn 0) : ∀ m code, code + m = 10 * nd → ∀ (y : St) (post : Int32 → St → Prop), CY nd ng mo wg q lk lw y → gI y 128 = nI sn → (∀ d, d < nd → gA y 113 (18 + d) = p d) → (∀ i, i < 4 * sn → gA y 117 i = rw4 i) → (∀ y', Fr RD [104] y y' → post (fitsC fit a m code) y') → ∀ k, m + 1 ≤ k → L_M_fits_25 post k g a (nI (fb_ct fit code)) (nI code) y := by
  have h6 := hl.1
  intro m
  induction m with
  | zero =>
    intro code hm y post hy es ep er hp k hk
    obtain ⟨k, rfl⟩ : ∃ j, k = j + 1 := ⟨k - 1, by omega⟩
    have hp := hp y Fr.rf
    show B_M_fits_25 post _ _ _ _ _ y
    unfold B_M_fits_25
    rw [show gI y 111 = nI nd from hy.1, k10, pk_mul, nI_leI (by omega) (by omega)]
    refine pp_y (by omega) ⟨fun c => ?_, fun c => ?_⟩
    · rw [fitsC, if_pos c] at hp; exact hp
    · rw [fitsC, if_neg c] at hp; exact hp
  | succ m ih =>
    intro code hm y post hy es ep er hp k hk
    obtain ⟨k, rfl⟩ : ∃ j, k = j + 1 := ⟨k - 1, by omega⟩
    have hsu := fb_ct_succ fit code
    show B_M_fits_25 post _ _ _ _ _ y
    unfold B_M_fits_25 B_M_fits_61
    rw [show gI y 111 = nI nd from hy.1, k10, pk_mul, nI_leI (by omega) (by omega), nI_1 code]
    refine pp_n (by omega) (q_fitsOne hy hl h10 hd hx (by omega) es ep er (fun y' hf => ?_))
    have fe : allF (okS nd mo q p lw rw4 g code) sn 0 = fit code := by rw [efit]
    rw [fe]
    have next : ∀ n : Nat, n = fb_ct fit (code + 1) → (fitsC fit a (m + 1) code = fitsC fit a m (code + 1)) → L_M_fits_25 post k g a (nI n) (nI (code + 1)) y' := fun n hn he => by
      rw [hn]
      refine ih (code + 1) (by omega) y' post (hy.fr hf (by decide) (by decide)) ((hf.1 128 (by decide)).trans es) (fun d hd => by rw [hf.2.1 113 (by decide)]; exact ep d hd) (by rw [hf.2.1 117 (by decide)]; exact er) (fun y2 hf2 => ?_) k (by omega)
      rw [← he]; exact hp y2 (hf.tr hf2)
    by_cases c : fit code = true
    · rw [if_pos c]
      rw [if_pos c] at hsu
      refine r11 ⟨fun c2 => ?_, fun c2 => ev (ev ?_)⟩
      · have := hp y' hf
        rw [fitsC, if_pos c, if_pos c2] at this; exact this
      · rw [nI_1]
        exact next _ hsu.symm (by rw [fitsC, if_pos c, if_neg c2])
    · rw [if_neg c]
      rw [if_neg c] at hsu
      exact r01 (ev (next _ hsu.symm (by rw [fitsC, if_neg c])))
/-- what fits, for a guest, as both tables say it -/
def fitO (nd mo : Nat) (q : Nat → Nat) (lw : Option ((Nat → Int32) → Int32)) (sn : Nat) (z : St) (g : Int32) : Nat → Bool := fun code => allF (okS nd mo q (fun d => gA z 23 (22 + d)) lw (gA z 30) g code) sn 0
theorem o_fits {V V' : Nat} (hV : V ≤ V') : St_fits (Inv V) (Inv V') := by
  intro z y a1 a2 a3 a4 a5 h
  obtain ⟨nd, ng, mo, wg, q, lk, lw, hz, hy0, hl⟩ := h.ctx
  have hT := h.ta
  have h6 := hl.1
  have g6 := hl.2.1
  have hI : Inv V' z (sI y 100 0) := h.fr hV Fr.rf yt
  have hy := hy0.fr (yt : Fr MS MA y (sI y 100 0)) (by decide) (by decide)
  obtain ⟨sn, s1, s2, s3, s4, s5, s6⟩ := hI.seenN hz.1 h6
  obtain ⟨nd', tb⟩ := h.tb
  unfold S_B_fits
  rcases ix_cases a1 (n := ng) (by omega) with c | ⟨g, hg, rfl⟩
  · unfold S_M_fits
    exact q_House_hasGuest_n hz.2.1 c (r01 (ev (q_M_isGuest_n hy.2.1 c (r01 ⟨rfl, hI⟩))))
  · refine q_House_hasGuest_y hz.2.1 g6 hg (r11 ⟨nd + 1, ?_⟩)
    generalize efit : fitO nd mo q lw sn z (nI g) = fit
    have hle := fb_ct_le fit (10 * nd)
    refine gat_X hl s3 s4 (fit := fit) efit.symm nd 0 (by omega) z _ hz s1 (fun d => rfl) rfl (fun c hc => absurd hc (by omega)) (fun z' hf hG => ?_) (nd + 1) (Nat.le_refl _)
    have fz : Fr XS XA z z' := hf.wk (by decide) (by decide)
    have hIz : Inv V' z' (sI y 100 0) := hI.fr (Nat.le_refl _) fz Fr.rf
    have fin : ∀ r : Int32, (¬ (-1 : Int32) ≤ a2 → r = -1) → ((-1 : Int32) ≤ a2 → r = fitsC fit a2 (10 * nd) 0) → S_M_fits (fun r1 y1 => r = r1 ∧ Inv V' z' y1) (nI g) a2 y := fun r h1 h2 => by
      unfold S_M_fits
      refine ev (q_M_isGuest_y hy.2.1 g6 hg (r11 ⟨fun c => ⟨10 * nd + 1, ?_⟩, fun c => ⟨h1 c, hIz⟩⟩))
      refine fit_M hl s3 s4 ⟨s6, fun d hd => tb.p_min (by omega)⟩ (fit := fit) efit.symm (10 * nd) 0 (by omega) (sI y 100 0) _ hy s2 (fun d hd => hT.d (by omega)) (fun i hi => (s5 i hi).symm) (fun y' hf2 => ⟨h2 c, ?_⟩) _ (Nat.le_refl _)
      exact hIz.fr (Nat.le_refl _) Fr.rf (hf2.wk (by decide) (by decide))
    refine ⟨fun c => fin _ (fun q => absurd (by rw [c]; decide) q) (fun _ => ?_), fun c => ⟨fun c1 => ?_, fun c1 => ?_⟩⟩
    · rw [c, fits_all _ _ (by omega)]; congr 2; omega
    · refine fin _ (fun _ => rfl) (fun c2 => ?_)
      exfalso
      refine c ((fa_eq _ _).mpr ?_)
      rw [fa_lt, ti0] at c1
      rw [fa_le, ti_m1] at c2
      rw [ti_m1]; omega
    · have cm : (-1 : Int32) ≤ a2 := by rw [fa_lt, ti0] at c1; rw [fa_le, ti_m1]; omega
      refine ⟨fun c2 => fin _ (fun q => absurd cm q) (fun _ => ?_), fun c2 => ?_⟩
      · refine (fits_none c _ _ (fun k hk hfk e => ?_)).symm
        have h1 := fb_ct_mono fit (show k + 1 ≤ 10 * nd by omega)
        have h2 := fb_ct_succ fit k
        rw [if_pos hfk] at h2
        rw [← e, nI_leI (by omega) (by omega)] at c2
        omega
      · obtain ⟨j, hj, ej⟩ := nI_of2 (x := a2) (M := nI (fb_ct fit (10 * nd))) (n := fb_ct fit (10 * nd)) (nI_toInt (by omega)) c1 (by rw [fa_le]; rw [fa_le] at c2; omega)
        subst ej
        rw [nI_leI (by omega) (by omega)] at c2
        obtain ⟨k, hk, hfk, ek⟩ := fb_ct_kth (show j < fb_ct fit (10 * nd) by omega)
        rw [nI_clamp (by omega)]
        refine ⟨(vp_in_nI (by omega) (by omega)), fin _ (fun q => absurd cm q) (fun _ => ?_)⟩
        rw [← ek, fits_one hfk _ _ (by omega) (by omega) (by omega)]
        exact hG k hk hfk
