/-! what was seen -/
theorem Inv.seenN {V : Nat} {z y : St} (h : Inv V z y) {nd : Nat} (e : gI z 26 = nI nd) (h6 : nd ≤ 6) : ∃ sn, SeenI nd sn (gI z 41) (gA z 30) (gI y 128) (gA y 117) := by
  obtain ⟨nd', ng, tl, ln, wn, sn, a, n, v, hH, hT, hL, hW, hS, hTa, _⟩ := h
  have : nd' = nd := (nI_eq (by have := hH.2.2.2.2.1; omega) (by omega)).mp (hH.1.symm.trans e)
  subst this
  exact ⟨sn, hS⟩
def row4 (n : Nat) (a b c d : Int32) (f : Nat → Int32) : Nat → Int32 := upd (upd (upd (upd f (4 * n) a) (4 * n + 1) b) (4 * n + 2) c) (4 * n + 3) d
theorem q_addS {post : St → Prop} {z : St} {n : Nat} {a b c d : Int32} (hn : gI z 41 = nI n) (h10 : n < 10) (hp : post (sI (sF z 30 (row4 n a b c d (gA z 30))) 41 (nI (n + 1)))) : S_Sightings_add post a b c d z := by
  unfold S_Sightings_add
  rw [hn, k10, k4, nI_leI (by omega) (by omega), pk_mul, show n * 4 = 4 * n by omega]
  refine pp_n (by omega) (ev ?_)
  rw [k1, k2, k3, nI_add, nI_add, nI_add, nI_clamp (by omega), nI_clamp (by omega), nI_clamp (by omega), nI_clamp (by omega)]
  refine ⟨(vp_in_nI (by omega) (by omega)), ev ⟨(vp_in_nI (by omega) (by omega)), ev ⟨(vp_in_nI (by omega) (by omega)), ev ⟨(vp_in_nI (by omega) (by omega)), ev (ev ?_)⟩⟩⟩⟩
  show post (sI (sA (sA (sA (sF z 30 (upd (gA z 30) (4 * n) a)) 30 _ b) 30 _ c) 30 _ d) 41 (gI z 41 + nI 1))
  rw [hn, nI_add, sA_sF, sA_sF, sA_sF]
  exact hp
theorem q_addM {post : Int32 → St → Prop} {y : St} {n : Nat} {a b c d : Int32} (hn : gI y 128 = nI n) (h10 : n < 10) (hp : post (nI (n + 1)) (sI (sF y 117 (row4 n a b c d (gA y 117))) 128 (nI (n + 1)))) : B_M_seen_48 post a b c d y := by
  unfold B_M_seen_48
  have e : ∀ (f : Nat → Int32), gI (sF y 117 f) 128 = nI n := fun f => hn
  rw [hn, k10, nI_eq (by omega) (by omega), k4, pk_mul, nI_clamp (by omega)]
  refine pp_n (by omega) ⟨(vp_in_nI (by omega) (by omega)), ev ?_⟩
  show vp_in (nI 4 * gI (sF y 117 (upd (gA y 117) (4 * n) a)) 128 + 1) 40 ∧ ∀ z2, z2 = sA (sF y 117 (upd (gA y 117) (4 * n) a)) 117 (nI 4 * gI (sF y 117 (upd (gA y 117) (4 * n) a)) 128 + 1).toNatClampNeg b → _
  rw [e, pk_mul, k1, nI_add, nI_clamp (by omega), sA_sF]
  refine ⟨(vp_in_nI (by omega) (by omega)), ev ?_⟩
  rw [e, pk_mul, k2, nI_add, nI_clamp (by omega), sA_sF]
  refine ⟨(vp_in_nI (by omega) (by omega)), ev ?_⟩
  rw [e, pk_mul, k3, nI_add, nI_clamp (by omega), sA_sF]
  refine ⟨(vp_in_nI (by omega) (by omega)), ev (ev ?_)⟩
  rw [e, nI_add]
  exact hp
theorem SeenI.add {nd sn : Nat} {zn yn : Int32} {zr yr : Nat → Int32} (h : SeenI nd sn zn zr yn yr) (h10 : sn < 10) {a c d : Int32} {b : Nat} (hb : b < nd) (hc : c ≠ Int32.minValue) : SeenI nd (sn + 1) (nI (sn + 1)) (row4 sn a (nI b) c d zr) (nI (sn + 1)) (row4 sn a (nI b) c d yr) := by
  obtain ⟨h1, h2, h3, h4, h5, h6⟩ := h
  refine ⟨rfl, rfl, by omega, fun i hi => ?_, fun i hi => ?_, fun i hi => ?_⟩
  · unfold row4
    by_cases e : i = sn
    · subst e
      rw [pk_un (by omega), pk_un (by omega), pk_us]; exact ⟨b, hb, rfl⟩
    · rw [pk_un (by omega), pk_un (by omega), pk_un (by omega), pk_un (by omega)]
      exact h4 i (by omega)
  · unfold row4 upd
    by_cases e3 : i = 4 * sn + 3
    · rw [if_pos e3, if_pos e3]
    rw [if_neg e3, if_neg e3]
    by_cases e2 : i = 4 * sn + 2
    · rw [if_pos e2, if_pos e2]
    rw [if_neg e2, if_neg e2]
    by_cases e1 : i = 4 * sn + 1
    · rw [if_pos e1, if_pos e1]
    rw [if_neg e1, if_neg e1]
    by_cases e0 : i = 4 * sn
    · rw [if_pos e0, if_pos e0]
    rw [if_neg e0, if_neg e0]
    exact h5 i (by omega)
  · unfold row4
    by_cases e : i = sn
    · subst e
      rw [pk_un (by omega), pk_us]; exact hc
    · rw [pk_un (by omega), pk_un (by omega), pk_un (by omega), pk_un (by omega)]
      exact h6 i (by omega)
theorem o_seen {V V' : Nat} (hV : V ≤ V') : St_seen (Inv V) (Inv V') := by
  intro z y a1 a2 a3 a4 a5 h
  obtain ⟨nd, ng, mo, wg, q, lk, lw, hz, hy0, hl⟩ := h.ctx
  have hT := h.ta
  have h6 := hl.1
  have g6 := hl.2.1
  have hI : Inv V' z (sI y 100 0) := h.fr hV Fr.rf yt
  have hy := hy0.fr (yt : Fr MS MA y (sI y 100 0)) (by decide) (by decide)
  obtain ⟨sn, hS⟩ := hI.seenN hz.1 h6
  obtain ⟨s1, s2, s3, s4, s5⟩ := hS
  have s2 : gI (sI y 100 0) 128 = nI sn := s2
  unfold S_B_seen B_B_seen_44 B_B_seen_40
  rcases ix_cases a1 (n := ng) (by omega) with c | ⟨g, hg, rfl⟩
  · refine q_House_hasGuest_n hz.2.1 c (r01 ?_)
    unfold B_B_seen_45 S_M_seen
    exact r01 (ev (q_M_isGuest_n hy.2.1 c (r01 ⟨rfl, hI⟩)))
  · refine q_House_hasGuest_y hz.2.1 g6 hg (r11 ?_)
    rcases ix_cases a2 (n := nd) (by omega) with c | ⟨b, hb, rfl⟩
    · refine q_House_hasDrink_n hz.1 c (r01 ?_)
      unfold B_B_seen_45 S_M_seen
      exact r01 (ev (q_M_isGuest_y hy.2.1 g6 hg (r11 (q_M_isDrink_n hy.1 c (r01 ⟨rfl, hI⟩)))))
    · refine q_House_hasDrink_y hz.1 h6 hb (r11 ?_)
      -- the rest of the class, whatever was brought
      have okX : ∀ (post : Int32 → St → Prop), ((a3 < 0 ∨ (99 : Int32) < a3 ∨ sn = 10) → post (-1) z) → (¬ a3 < 0 → ¬ (99 : Int32) < a3 → sn < 10 → post (nI (sn + 1)) (sI (sF z 30 (row4 sn (nI g) (nI b) a3 a4 (gA z 30))) 41 (nI (sn + 1)))) → B_B_seen_45 post (nI g) (nI b) a3 a4 1 z := fun post hn hp => by
        unfold B_B_seen_45
        refine r11 ⟨fun c => hn (.inl c), fun c => ⟨fun c1 => hn (.inr (.inl c1)), fun c1 => ?_⟩⟩
        rw [s1, k10, nI_ltI (by omega) (by omega)]
        exact ⟨fun c2 => q_addS s1 c2 (hp c c1 c2), fun c2 => hn (.inr (.inr (by omega)))⟩
      have okM : ∀ (r : Int32) (z' : St), (a3 < 0 ∨ (99 : Int32) < a3 → r = -1 ∧ Inv V' z' (sI y 100 0)) → (¬ a3 < 0 → ¬ (99 : Int32) < a3 → ((a4 = -1 → B_M_seen_48 (fun r1 y1 => r = r1 ∧ Inv V' z' y1) (nI g) (nI b) a3 a4 (sI y 100 0)) ∧ (¬ a4 = -1 → S_M_isDrink (fun r8 z5 => (r8 = 0 → (r = -1 ∧ Inv V' z' z5)) ∧ (¬ r8 = 0 → B_M_seen_48 (fun r1 y1 => r = r1 ∧ Inv V' z' y1) (nI g) (nI b) a3 a4 z5)) a4 (sI y 100 0)))) → S_M_seen (fun r1 y1 => r = r1 ∧ Inv V' z' y1) (nI g) (nI b) a3 a4 y := fun r z' hn hp => by
        unfold S_M_seen
        refine ev (q_M_isGuest_y hy.2.1 g6 hg (r11 (q_M_isDrink_y hy.1 h6 hb (r11 (q_isIn L0 L99 (fun p1 p2 => r11 (hp (fa_of_lt_le p1) (fa_of_lt_le p2))) (fun p => r01 (hn p)))))))
      have ten : ∀ (r : Int32) (z' : St), r = -1 → Inv V' z' (sI y 100 0) → sn = 10 → B_M_seen_48 (fun r1 y1 => r = r1 ∧ Inv V' z' y1) (nI g) (nI b) a3 a4 (sI y 100 0) := fun r z' hr hi e => by
        unfold B_M_seen_48
        rw [s2, e]
        exact pp_y rfl ⟨hr, hi⟩
      have add : sn < 10 → ¬ a3 < 0 → B_M_seen_48 (fun r1 y1 => nI (sn + 1) = r1 ∧ Inv V' (sI (sF z 30 (row4 sn (nI g) (nI b) a3 a4 (gA z 30))) 41 (nI (sn + 1))) y1) (nI g) (nI b) a3 a4 (sI y 100 0) := fun c ca3 => by
        refine q_addM s2 c ⟨rfl, ?_⟩
        refine h.u_seen hV ((Fr.rf.sF (by decide)).sI (by decide)) (((Fr.rf.sI (by decide)).sF (by decide)).sI (by decide)) (fun nd' ng' sn' hH hS => ?_)
        have e1 : nd' = nd := (nI_eq (by have := hH.2.2.2.2.1; omega) (by omega)).mp (hH.1.symm.trans hz.1)
        have e2 : sn' = sn := (nI_eq (by have := hS.2.2.1; omega) (by omega)).mp (hS.1.symm.trans s1)
        subst e1 e2
        exact ⟨sn' + 1, hS.add c hb (fun q => ca3 (by rw [q]; decide))⟩
      by_cases ca : a4 = -1
      · refine pp_y ca (okX _ (fun c => ?_) (fun c c1 c2 => ?_))
        · refine okM _ z (fun _ => ⟨rfl, hI⟩) (fun c1 c2 => pp_y ca (ten _ z rfl hI ?_))
          rcases c with c | c | c
          · exact absurd c c1
          · exact absurd c c2
          · exact c
        · exact okM _ _ (fun q => q.elim (fun q => absurd q c) (fun q => absurd q c1)) (fun _ _ => pp_y ca (add c2 c))
      · refine pp_n ca ?_
        rcases ix_cases a4 (n := nd) (by omega) with c | ⟨d, hd, rfl⟩
        · refine q_House_hasDrink_n hz.1 c (r01 ?_)
          unfold B_B_seen_45
          exact r01 (okM _ z (fun _ => ⟨rfl, hI⟩) (fun _ _ => pp_n ca (q_M_isDrink_n hy.1 c (r01 ⟨rfl, hI⟩))))
        · refine q_House_hasDrink_y hz.1 h6 hd (r11 (okX _ (fun c => ?_) (fun c c1 c2 => ?_)))
          · refine okM _ z (fun _ => ⟨rfl, hI⟩) (fun c1 c2 => pp_n ca (q_M_isDrink_y hy.1 h6 hd (r11 (ten _ z rfl hI ?_))))
            rcases c with c | c | c
            · exact absurd c c1
            · exact absurd c c2
            · exact c
          · exact okM _ _ (fun q => q.elim (fun q => absurd q c) (fun q => absurd q c1)) (fun _ _ => pp_n ca (q_M_isDrink_y hy.1 h6 hd (r11 (add c2 c))))
/-! what fits -/
def allF (ok : Nat → Bool) : Nat → Nat → Bool
  | 0, _ => true
  | m + 1, i => ok i && allF ok m (i + 1)
/-- a sighting i agrees with likes and mood (code) -/
def okS (nd mo : Nat) (q : Nat → Nat) (p : Nat → Int32) (lw : Option ((Nat → Int32) → Int32)) (rw4 : Nat → Int32) (g : Int32) (code i : Nat) : Bool :=
  if rw4 (4 * i) = g then decide (enc (bringN nd q mo p lw (nI (code / 10)) (code % 10) (rw4 (4 * i + 2)) 0 (tN (rw4 (4 * i + 1)))) = rw4 (4 * i + 3)) else true
theorem so_X {nd ng mo wg : Nat} {q : Nat → Nat} {lk : Nat → Int32} {lw : Option ((Nat → Int32) → Int32)} (hl : Lim nd ng mo wg q) {sn : Nat} (h10 : sn ≤ 10) {g : Int32} {p rw4 : Nat → Int32} (hd : ∀ i, i < sn → ∃ d, d < nd ∧ rw4 (4 * i + 1) = nI d) {code : Nat} (hcode : code < 60) : ∀ m i, i + m = sn → ∀ (z : St) (post : Int32 → St → Prop), CZ nd ng mo wg q lk lw z → gI z 41 = nI sn → (∀ d, gA z 23 (22 + d) = p d) → gA z 30 = rw4 → (∀ z', Fr [] [21, 22] z z' → post (if allF (okS nd mo q p lw rw4 g code) m i = true then 1 else 0) z') → ∀ k, m + 1 ≤ k → L_Sightings_isSo_3 post k g (nI (code / 10)) (nI (code % 10)) (nI i) z := by
  have h6 := hl.1
  intro m
  induction m with
  | zero =>
    intro i hi z post hz es ep er hp k hk
    obtain ⟨k, rfl⟩ : ∃ j, k = j + 1 := ⟨k - 1, by omega⟩
    show B_Sightings_isSo_3 post _ _ _ _ _ z
    unfold B_Sightings_isSo_3
    rw [es]
    exact pp_y (nI_le (by omega) (by omega)) (hp z Fr.rf)
  | succ m ih =>
    intro i hi z post hz es ep er hp k hk
    obtain ⟨k, rfl⟩ : ∃ j, k = j + 1 := ⟨k - 1, by omega⟩
    obtain ⟨d, hdn, ed⟩ := hd i (by omega)
    have ok_i : okS nd mo q p lw rw4 g code i = if rw4 (4 * i) = g then decide (enc (bringN nd q mo p lw (nI (code / 10)) (code % 10) (rw4 (4 * i + 2)) 0 d) = rw4 (4 * i + 3)) else true := by
      unfold okS; rw [ed, tN_nI (by omega)]
    show B_Sightings_isSo_3 post _ _ _ _ _ z
    unfold B_Sightings_isSo_3 B_Sightings_isSo_71
    rw [es, k4, pk_mul, show i * 4 = 4 * i by omega, nI_1]
    refine pp_n (nI_ge (by omega) (by omega)) (ev ?_)
    rw [k1, k2, k3, nI_add, nI_add, nI_add, nI_clamp (by omega), nI_clamp (by omega), nI_clamp (by omega), nI_clamp (by omega), er]
    refine ⟨(vp_in_nI (by omega) (by omega)), fun c => ⟨(vp_in_nI (by omega) (by omega)), (vp_in_nI (by omega) (by omega)), ?_⟩, fun c => ev ?_⟩
    · rw [ed]
      refine q_brings8 hz hl hdn (by omega) (fun z' hf => ⟨(vp_in_nI (by omega) (by omega)), ?_⟩)
      rw [show (fun d => gA z 23 (22 + d)) = p from funext ep, show gA z' 30 = rw4 from (hf.2.1 30 (by decide)).trans er]
      refine ⟨fun c2 => ev ?_, fun c2 => ?_⟩
      · refine ih (i + 1) (by omega) z' post (hz.fr hf (by decide) (by decide)) ((hf.1 41 (by decide)).trans es) (fun d => by rw [hf.2.1 23 (by decide)]; exact ep d) ((hf.2.1 30 (by decide)).trans er) (fun z2 hf2 => ?_) k (by omega)
        have := hp z2 (hf.tr hf2)
        rw [allF, ok_i, if_pos c, decide_eq_true c2, Bool.true_and] at this
        exact this
      · have := hp z' hf
        rw [allF, ok_i, if_pos c, decide_eq_false c2, Bool.false_and, if_neg (by decide)] at this
        exact this
    · refine ih (i + 1) (by omega) z post hz es ep er (fun z2 hf2 => ?_) k (by omega)
      have := hp z2 hf2
      rw [allF, ok_i, if_neg c, Bool.true_and] at this
      exact this
def MN (nd sn : Nat) (p rw4 : Nat → Int32) : Prop := (∀ i, i < sn → rw4 (4 * i + 2) ≠ Int32.minValue) ∧ ∀ d, d < nd → p d ≠ Int32.minValue
theorem so_M {nd ng mo wg : Nat} {q : Nat → Nat} {lk : Nat → Int32} {lw : Option ((Nat → Int32) → Int32)} (hl : Lim nd ng mo wg q) {sn : Nat} (h10 : sn ≤ 10) {g : Int32} {p rw4 : Nat → Int32} (hd : ∀ i, i < sn → ∃ d, d < nd ∧ rw4 (4 * i + 1) = nI d) (hx : MN nd sn p rw4) {code : Nat} (hcode : code < 60) : ∀ m i, i + m = sn → ∀ (y : St) (post : Int32 → St → Prop), CY nd ng mo wg q lk lw y → gI y 128 = nI sn → (∀ d, d < nd → gA y 113 (18 + d) = p d) → (∀ i, i < 4 * sn → gA y 117 i = rw4 i) → (∀ y', Fr RD [104] y y' → post (if allF (okS nd mo q p lw rw4 g code) m i = true then 1 else 0) y') → ∀ k, m + 1 ≤ k → L_M_fitsOne_2 post k g (nI code) (nI i) y := by
  have h6 := hl.1
  intro m
  induction m with
  | zero =>
    intro i hi y post hy es ep er hp k hk
    obtain ⟨k, rfl⟩ : ∃ j, k = j + 1 := ⟨k - 1, by omega⟩
    show B_M_fitsOne_2 post _ _ _ _ y
    unfold B_M_fitsOne_2
    rw [es]
    exact pp_y (nI_le (by omega) (by omega)) (hp y Fr.rf)
  | succ m ih =>
    intro i hi y post hy es ep er hp k hk
    obtain ⟨k, rfl⟩ : ∃ j, k = j + 1 := ⟨k - 1, by omega⟩
    obtain ⟨d, hdn, ed⟩ := hd i (by omega)
    have ok_i : okS nd mo q p lw rw4 g code i = if rw4 (4 * i) = g then decide (enc (bringN nd q mo p lw (nI (code / 10)) (code % 10) (rw4 (4 * i + 2)) 0 d) = rw4 (4 * i + 3)) else true := by
      unfold okS; rw [ed, tN_nI (by omega)]
    show B_M_fitsOne_2 post _ _ _ _ y
    unfold B_M_fitsOne_2 B_M_fitsOne_74
    rw [es, k4, pk_mul, k10, pk_rem (by omega) (by omega) (by omega), pk_div (by omega) (by omega) (by omega), nI_1 i, k1, k2, k3, nI_add, nI_add, nI_add, nI_clamp (by omega), nI_clamp (by omega), nI_clamp (by omega), nI_clamp (by omega), er _ (by omega), er _ (by omega), er _ (by omega)]
    refine pp_n (nI_ge (by omega) (by omega)) ⟨(vp_in_nI (by omega) (by omega)), fun c => ⟨(vp_in_nI (by omega) (by omega)), (vp_in_nI (by omega) (by omega)), ?_⟩, fun c => ev ?_⟩
    · rw [ed]
      refine q_makesOf113 hy hl hdn (by omega) (hx.1 i (by omega)) (by decide) (by rw [ep d hdn]; exact hx.2 d hdn) (fun y' hf => ⟨(vp_in_nI (by omega) (by omega)), ?_⟩)
      rw [bring_cg (p' := p) hdn ep, show gA y' 117 = gA y 117 from hf.2.1 117 (by decide), er _ (by omega)]
      refine ⟨fun c2 => ev ?_, fun c2 => ?_⟩
      · refine ih (i + 1) (by omega) y' post (hy.fr hf (by decide) (by decide)) ((hf.1 128 (by decide)).trans es) (fun d hd => by rw [hf.2.1 113 (by decide)]; exact ep d hd) (by rw [hf.2.1 117 (by decide)]; exact er) (fun y2 hf2 => ?_) k (by omega)
        have := hp y2 (hf.tr hf2)
        rw [allF, ok_i, if_pos c, decide_eq_true c2, Bool.true_and] at this
        exact this
      · have := hp y' hf
        rw [allF, ok_i, if_pos c, decide_eq_false c2, Bool.false_and, if_neg (by decide)] at this
        exact this
    · refine ih (i + 1) (by omega) y post hy es ep er (fun y2 hf2 => ?_) k (by omega)
      have := hp y2 hf2
      rw [allF, ok_i, if_neg c, Bool.true_and] at this
      exact this
