/-! sums read by the reference -/
def FX : List Nat := [105, 106, 107]
def noE (T : Nat → Nat) (n p : Nat) (di : Int32) : Prop := p < n → dg (T p) = true → jn T p = true → (di < 1 ∨ 4 ≤ di)
theorem noE_bl {T : Nat → Nat} {n p p' : Nat} {di : Int32} (hb : BL T n p p') (h : noE T n p di) : noE T n p' di := fun h1 h2 h3 => by
  rcases Nat.lt_or_ge p p' with c | c
  · have := hb.2.2.1 (p' - 1) (by omega) (by omega)
    have e := jn_n this
    rw [show p' - 1 + 1 = p' by omega] at e
    rw [e] at h3; exact absurd h3 (by decide)
  · have : p' = p := by have := hb.1; omega
    subst this
    exact h h1 h2 h3
theorem BL_id {T : Nat → Nat} {n p p' : Nat} (hb : BL T n p p') (h : p < n → T p ≠ 32) : p' = p := by
  rcases Nat.lt_or_ge p p' with q | q
  · have := hb.2.1
    exact absurd (hb.2.2.1 p (Nat.le_refl _) q) (h (by omega))
  · have := hb.1; omega
def awK (T : Nat → Nat) (n p : Nat) (aw : Int32) : Prop := aw = 3 ∨ (aw = 2 ∧ ∀ p', BL T n p p' → p' < n → T p' ≠ 33 ∧ T p' ≠ 40)
def YY (T : Nat → Nat) (n B r p dep : Nat) (y : St) : Prop := RX T n B r y ∧ gI y 105 = nI p ∧ p ≤ n ∧ gI y 106 = -1 ∧ gI y 107 = nI dep ∧ n ≤ 240
def FL (T : Nat → Nat) (n p : Nat) (s : SL) (y y' : St) : Prop := ∃ f, f ≤ n ∧ (rnL T n p s).1 = some f ∧ gI y' 106 = nI f ∧ Fr FX [] y y'
def OkA (T : Nat → Nat) (n B r p dep : Nat) (s : SL) (st cm : Int32) (W : List Nat) (CR : List Int32) (y : St) (v : Int32) (y' : St) : Prop :=
  ∃ p2 di E, p ≤ p2 ∧ rnL T n p s = rnL T n p2 (mkW 4 st cm di W (E ++ CR)) ∧ EV (lets (gA y 104)) E (13 - 2 * dep) v ∧ YY T n B r p2 dep y' ∧ (E ++ CR).length + W.length ≤ p2 ∧ noE T n p2 di ∧ Fr FX [] y y'
def OkS (T : Nat → Nat) (n B r p dep rm k : Nat) (s : SL) (st cm : Int32) (W : List Nat) (CR : List Int32) (y : St) (v : Int32) (y' : St) : Prop :=
  ∃ p2 di P CR' E, p ≤ p2 ∧ rnL T n p s = rnL T n p2 (mkW 4 st cm di (P ++ W) CR') ∧ (∀ x, x ∈ P → rm ≤ rkN x) ∧ flush P CR' = E ++ CR ∧ EV (lets (gA y 104)) E k v ∧ YY T n B r p2 dep y' ∧ CR'.length + (P ++ W).length ≤ p2 ∧ noE T n p2 di ∧ Fr FX [] y y' ∧ (p2 < n → T p2 ≠ 32 ∧ T p2 ≠ 42 ∧ T p2 ≠ 47 ∧ (rm = 5 → T p2 ≠ 43 ∧ T p2 ≠ 45))
def SumP (T : Nat → Nat) (n B r dep : Nat) (rq : (Int32 → St → Prop) → St → Prop) : Prop :=
  ∀ (aw st cm di : Int32) (W : List Nat) (CR : List Int32) (p : Nat) (y : St) (post : Int32 → St → Prop), YY T n B r p dep y → cO W = dep → awK T n p aw → W.length ≤ 6 * dep + 3 → CR.length + W.length ≤ p → tpR W < 5 →
    (∀ v y', OkS T n B r p dep 5 (15 - 2 * dep) (mkW aw st cm di W CR) st cm W CR y v y' → post v y') → (∀ v y', FL T n p (mkW aw st cm di W CR) y y' → post v y') → rq post y
theorem st_3 {T : Nat → Nat} {i : Nat} {aw st cm di : Int32} {W : List Nat} {CR : List Int32} (h : aw = 3 ∨ aw = 2) : stepL T i (mkW aw st cm di W CR) = stL (T i) aw st cm di (nI (cO W)) W CR := by
  show stp T i aw st cm di (nI (cO W)) W CR = _
  unfold stp
  rcases h with rfl | rfl
  · rw [if_neg (by decide), if_neg (by decide), if_pos (.inr rfl)]
  · rw [if_neg (by decide), if_neg (by decide), if_pos (.inl rfl)]
theorem st_4 {T : Nat → Nat} {i : Nat} {aw st cm di : Int32} {W : List Nat} {CR : List Int32} (h : aw = 4 ∨ aw = 5) : stepL T i (mkW aw st cm di W CR) = if dg (T i) = true then (if jn T i = true then dgL (T i) aw st cm di (nI (cO W)) W CR else none) else bhL (T i) aw st cm (nI (cO W)) W CR := by
  show stp T i aw st cm di (nI (cO W)) W CR = _
  unfold stp
  rcases h with rfl | rfl
  · rw [if_neg (by decide), if_neg (by decide), if_neg (by decide)]
  · rw [if_neg (by decide), if_neg (by decide), if_neg (by decide)]
theorem st_dg {T : Nat → Nat} {n i : Nat} {aw st cm di : Int32} {W : List Nat} {CR : List Int32} (h : aw = 4 ∨ aw = 5) (hi : i < n) (hd : dg (T i) = true) (hE : noE T n i di) : stepL T i (mkW aw st cm di W CR) = none := by
  rw [st_4 h, if_pos hd]
  by_cases c : jn T i = true
  · rw [if_pos c]
    unfold dgL
    rcases hE hi hd c with q | q
    · rw [if_pos q]
    · by_cases q2 : di < 1
      · rw [if_pos q2]
      · rw [if_neg q2, if_pos q]
  · rw [if_neg c]
theorem dig_at {T : Nat → Nat} {n B r : Nat} {y : St} (hR : RX T n B r y) {p : Nat} (hp : gI y 105 = nI p) (c : p < n) (hd : dg (T p) = true) : txIn y (gI y 103 + gI y 105) ∧ gA y (gT y 1) (gI y 103 + gI y 105).toNatClampNeg = nI (T p) := by
  obtain ⟨a1, a2, a3⟩ := hR.at c
  have := dg_iff.mp hd
  rw [hR.2.2.1, hp, a2, by_val _ (by omega)]
  exact ⟨a1, rfl⟩
theorem d_le {k : Nat} (h : k ≤ 4) {x : Nat} (hx : x < 10 ^ k) : x < 10000 := Nat.lt_of_lt_of_le hx (by
  have : k = 0 ∨ k = 1 ∨ k = 2 ∨ k = 3 ∨ k = 4 := by omega
  rcases this with rfl | rfl | rfl | rfl | rfl <;> decide)
theorem q_digs {T : Nat → Nat} {n B r dep : Nat} {rq : (Int32 → St → Prop) → St → Prop} {post : Int32 → St → Prop} {st cm : Int32} {W : List Nat} {CR : List Int32} {y0 : St} {p0 : Nat} {s0 : SL} (hdep : dep ≤ 6) (h1 : ∀ v y', OkA T n B r p0 dep s0 st cm W CR y0 v y' → post v y') (h0 : ∀ v y', FL T n p0 s0 y0 y' → post v y') : ∀ m k x p (y : St), n - p ≤ m → p0 ≤ p → 1 ≤ k → k ≤ 4 → x < 10 ^ k → YY T n B r p dep y → Fr FX [] y0 y → rnL T n p0 s0 = rnL T n p (mkW 4 st cm (nI k) W (nI x :: CR)) → jn T p = true → CR.length + 1 + W.length ≤ p → ∀ j, m + 1 ≤ j → L_M_atom_90 rq post j (nI x) (nI k) y := by
  intro m
  induction m with
  | zero =>
    intro k x p y hm hp0 hk1 hk4 hx hy hF hRN hj hl j hj1
    obtain ⟨j, rfl⟩ : ∃ t, j = t + 1 := ⟨j - 1, by omega⟩
    show B_M_atom_90 rq post _ _ _ y
    unfold B_M_atom_90
    have hx4 := d_le hk4 hx
    exact q_isDigit hy.1 hy.2.1 hy.2.2.1 (fun c => absurd c (by omega)) (fun cd => r01 (h1 _ _ ⟨p, nI k, [nI x], hp0, hRN, EV.num (by omega) (by omega), hy, by show CR.length + 1 + W.length ≤ p; exact hl, fun q => absurd q (by omega), hF⟩))
  | succ m ih =>
    intro k x p y hm hp0 hk1 hk4 hx hy hF hRN hj hl j hj1
    obtain ⟨j, rfl⟩ : ∃ t, j = t + 1 := ⟨j - 1, by omega⟩
    have hx4 := d_le hk4 hx
    have h240 := hy.2.2.2.2.2
    show B_M_atom_90 rq post _ _ _ y
    unfold B_M_atom_90
    refine q_isDigit hy.1 hy.2.1 hy.2.2.1 (fun c hd => r11 (pp_y hy.2.2.2.1 ?_)) (fun cd => r01 (h1 _ _ ⟨p, nI k, [nI x], hp0, hRN, EV.num (by omega) (by omega), hy, by show CR.length + 1 + W.length ≤ p; exact hl, fun q1 q2 => absurd q2 (cd q1), hF⟩))
    have hdd := dg_iff.mp hd
    have hst : stepL T p (mkW 4 st cm (nI k) W (nI x :: CR)) = dgL (T p) 4 st cm (nI k) (nI (cO W)) W (nI x :: CR) := by
      rw [st_4 (.inl rfl), if_pos hd, if_pos hj]
    unfold dgL at hst
    have i1 : nI k < (1 : Int32) ↔ k < 1 := nI_ltI (b := 1) (by omega) (by omega)
    have i4 : (4 : Int32) ≤ nI k ↔ 4 ≤ k := nI_leI (a := 4) (by omega) (by omega)
    rw [if_neg (fun q => by have := i1.mp q; omega)] at hst
    rw [show (nI k = (4 : Int32)) = (k = 4) from propext (nI_eq (b := 4) (by omega) (by omega))]
    refine ⟨fun c4 => ?_, fun c4 => ?_⟩
    · rw [if_pos (i4.mpr (by omega))] at hst
      have e := hRN.trans (RN_no (cl := clL) c (dg_32 hd) hst)
      exact q_fails_1 hy.2.1 hy.2.2.2.1 (h0 _ _ ⟨p, by omega, by rw [e], rfl, hF.sI (by decide)⟩)
    · rw [if_neg (fun q => by have := i4.mp q; omega)] at hst
      obtain ⟨a1, a2⟩ := dig_at hy.1 hy.2.1 c hd
      rw [a2, hy.2.1, nI_1, nI_1]
      refine ⟨by rw [← hy.2.1]; exact a1, ev (ev (ev ?_))⟩
      have en : (nI x * 10 + nI (T p) - 48 : Int32) = nI (10 * x + (T p - 48)) := by
        rw [k10, k48, pk_mul, nI_add, pk_sub (by omega)]; congr 1; omega
      have en2 : ((10 : Int32) * nI x + nI (T p) - 48) = nI (10 * x + (T p - 48)) := by
        rw [k10, k48, pk_mul, nI_add, pk_sub (by omega)]; congr 1; omega
      rw [en2]
      have hst : stepL T p (mkW 4 st cm (nI k) W (nI x :: CR)) = some (mkW 4 st cm (nI (k + 1)) W (nI (10 * x + (T p - 48)) :: CR)) := by
        rw [hst]
        show some (mkL 4 st cm (nI k + 1) (nI (cO W)) W ((nI x * 10 + nI (T p) - 48) :: CR)) = _
        rw [en, nI_1]; rfl
      refine ih (k + 1) (10 * x + (T p - 48)) (p + 1) (sI y 105 (nI (p + 1))) (by omega) (by omega) (by omega) (by omega) (by rw [Nat.pow_succ]; omega) ⟨hy.1.sI (by decide) (by decide), rfl, by omega, hy.2.2.2.1, hy.2.2.2.2.1, h240⟩ (hF.sI (by decide)) (hRN.trans (RN_yes c (dg_32 hd) hst)) (jn_y (dg_32 hd)) (by omega) j (by omega)
theorem spt_1m : spt 1 (-1) = none := by decide
theorem lets_at {f : Nat → Int32} {b l : Nat} (hl : l < 6) (h : [113, 104, 108, 109, 110, 112].getD l 0 = b) : f b = lets f l := by
  unfold lets cut6
  rw [if_pos hl]
  show f b = f ([113, 104, 108, 109, 110, 112].getD l 0)
  rw [h]
/-- what the machine rejects inside a bracket -/
theorem st_in {T : Nat → Nat} {n p : Nat} {st cm di : Int32} {W' : List Nat} {CR : List Int32} (c : p < n) (hE : noE T n p di) (he : enL W' = 91) (h : T p ≠ 42 ∧ T p ≠ 47 ∧ T p ≠ 43 ∧ T p ≠ 45 ∧ T p ≠ 93) : stepL T p (mkW 4 st cm di W' CR) = none := by
  by_cases hd : dg (T p) = true
  · exact st_dg (.inl rfl) c hd hE
  · rw [st_4 (.inl rfl), if_neg hd]
    have j : ∀ b, joL b st cm (nI (cO W')) W' CR = none := fun b => by
      unfold joL
      by_cases q : cm = 0
      · rw [if_pos q]
      · rw [if_neg q, if_pos he]
    have q : ∀ b, cpL b 4 st cm (nI (cO W')) W' CR = none := fun b => by
      unfold cpL; rw [if_pos rfl, if_pos he]
    unfold bhL
    rw [j, j, q, q, q, he, if_neg (show ¬ (91 : Int32) = 40 by decide), if_neg (show ¬ (91 : Int32) = -1 by decide), if_neg (show ¬ (91 : Int32) = -1 by decide), if_neg h.1, if_neg h.2.1, if_neg h.2.2.1, if_neg h.2.2.2.1, if_neg h.2.2.2.2]
    simp
theorem q_atom {T : Nat → Nat} {n B r dep : Nat} {rq : (Int32 → St → Prop) → St → Prop} (hdep : dep ≤ 6) (hq : dep < 6 → SumP T n B r (dep + 1) rq) {aw st cm di : Int32} {W : List Nat} {CR : List Int32} {p : Nat} {y : St} {post : Int32 → St → Prop} (hy : YY T n B r p dep y) (hc : cO W = dep) (haw : awK T n p aw) (hW : W.length ≤ 6 * dep + 5) (hl : CR.length + W.length ≤ p)
    (h1 : ∀ v y', OkA T n B r p dep (mkW aw st cm di W CR) st cm W CR y v y' → post v y') (h0 : ∀ v y', FL T n p (mkW aw st cm di W CR) y y' → post v y') : S_M_atom rq post y := by
  obtain ⟨hR, e105, hpn, e106, e107, h240⟩ := hy
  unfold S_M_atom
  refine q_look hR e105 hpn (fun p1 hb => q_isAmong (by decide) ?_)
  have hb1 := hb.1
  have hb2 := hb.2.1
  have hRN : rnL T n p (mkW aw st cm di W CR) = rnL T n p1 (mkW aw st cm di W CR) := RN_bl hb
  have R1 := hR.sI (k := 105) (v := nI p1) (by decide) (by decide)
  have F1 : Fr FX [] y (sI y 105 (nI p1)) := Fr.rf.sI (by decide)
  have a32 : aw = 3 ∨ aw = 2 := haw.imp id (fun q => q.1)
  have na : ¬ aw = 4 := fun q => by rcases a32 with e | e <;> rw [e] at q <;> exact absurd q (by decide)
  -- the failure at p1
  have bad : (rnL T n p (mkW aw st cm di W CR)).1 = some p1 → (p1 < n → ¬ dg (T p1) = true) → S_M_fails (fun _ z4 => B_M_atom_86 rq post z4) (sI y 105 (nI p1)) := fun e nd => by
    refine q_fails_1 (p := p1) rfl e106 ?_
    unfold B_M_atom_86
    refine ⟨1, ?_⟩
    show B_M_atom_90 rq post _ _ _ _
    unfold B_M_atom_90
    exact q_isDigit (p := p1) (R1.sI (by decide) (by decide)) rfl hb2 (fun c hd => absurd hd (nd c)) (fun _ => r01 (h0 _ _ ⟨p1, hb2, e, rfl, F1.sI (by decide)⟩))
  by_cases c : p1 < n
  · rw [if_pos c]
    have hT := (R1.at c).2.2
    have h32 := hb.2.2.2 c
    have hst := st_3 (T := T) (i := p1) (st := st) (cm := cm) (di := di) (W := W) (CR := CR) a32
    unfold stL at hst
    have ewr : ∀ w, wrL w CR = w :: CR := fun w => if_neg (by omega)
    cases hs : spt 1 (nI (T p1)) with
    | some l =>
      rw [hs] at hst
      obtain ⟨l6, lb, ld⟩ := L_let _ hT l hs
      have l127 : T p1 < 128 := by
        rw [← lb]
        exact (by decide : ∀ l, l < 6 → [113, 104, 108, 109, 110, 112].getD l 0 < 128) l l6
      have hst : stepL T p1 (mkW aw st cm di W CR) = some (mkW 4 st cm 0 W ([-1 - nI l] ++ CR)) := by
        rw [hst]
        show some (mkL 4 st cm 0 (nI (cO W)) W (wrL (-1 - nI l) CR)) = _
        rw [ewr]; rfl
      refine r11 (ev ?_)
      rw [show gI (sI y 105 (nI p1)) 105 = nI p1 from rfl, nI_1, sI_sI, nI_clamp (by omega)]
      refine ⟨(vp_in_nI (by omega) (by omega)), h1 _ _ ⟨p1 + 1, 0, [-1 - nI l], by omega, hRN.trans (RN_yes c h32 hst), ?_, ⟨hR.sI (by decide) (by decide), rfl, by omega, e106, e107, h240⟩, by show CR.length + 1 + W.length ≤ p1 + 1; omega, fun _ _ _ => .inl (by decide), Fr.rf.sI (by decide)⟩⟩
      show EV (lets (gA y 104)) [-1 - nI l] (13 - 2 * dep) (gA y 104 (T p1))
      rw [lets_at (f := gA y 104) l6 lb]
      exact EV.letter l6 (by omega)
    | none =>
      rw [hs] at hst
      have hst : stepL T p1 (mkW aw st cm di W CR) = if dg (T p1) = true then some (mkL 4 st cm 1 (nI (cO W)) W (wrL (nI (T p1 - 48)) CR)) else opL (T p1) aw st cm di (nI (cO W)) W CR := hst
      refine r01 ⟨fun c91 => ?_, fun c91 => ?_⟩
      · have c91 : T p1 = 91 := (nI_eq (b := 91) (by omega) (by omega)).mp c91
        rw [if_neg (by rw [c91]; decide)] at hst
        unfold opL at hst
        rw [if_neg (fun q => by omega), if_pos c91] at hst
        have i6 : nI (cO W) < (6 : Int32) ↔ cO W < 6 := nI_ltI (b := 6) (by omega) (by omega)
        unfold S_M_goesIn
        rw [show gI (sI y 105 (nI p1)) 107 = nI dep from e107, show (nI dep = (6 : Int32)) = (dep = 6) from propext (nI_eq (b := 6) (by omega) (by omega))]
        refine ⟨fun c6 => ?_, fun c6 => ev (ev (r11 ?_))⟩
        · rw [if_neg (fun q => by have := i6.mp q; omega)] at hst
          have e := hRN.trans (RN_no (cl := clL) c h32 hst)
          exact q_fails_1 (p := p1) rfl e106 ⟨.inl rfl, r01 (h0 _ _ ⟨p1, hb2, by rw [e], rfl, F1.sI (by decide)⟩)⟩
        · rw [if_pos (i6.mpr (by omega))] at hst
          rw [nI_1, show gI (sI (sI y 105 (nI p1)) 107 (nI (dep + 1))) 105 = nI p1 from rfl, nI_1]
          have hst : stepL T p1 (mkW aw st cm di W CR) = some (mkW 3 st cm di (91 :: W) CR) := by
            rw [hst, nI_1, show awL (T p1) W = T p1 :: W from if_neg (by omega), c91]; rfl
          have hRN2 := hRN.trans (RN_yes (cl := clL) c h32 hst)
          have F2 : Fr FX [] y (sI (sI (sI y 105 (nI p1)) 107 (nI (dep + 1))) 105 (nI (p1 + 1))) := (F1.sI (by decide)).sI (by decide)
          refine hq (by omega) 3 st cm di (91 :: W) CR (p1 + 1) (sI (sI (sI y 105 (nI p1)) 107 (nI (dep + 1))) 105 (nI (p1 + 1))) _ ⟨(R1.sI (by decide) (by decide)).sI (by decide) (by decide), rfl, by omega, e106, rfl, h240⟩ (by show cO W + 1 = dep + 1; omega) (.inl rfl) (by show W.length + 1 ≤ _; omega) (by show CR.length + (W.length + 1) ≤ _; omega) (show (0 : Nat) < 5 by decide) (fun v y' hok => ?_) (fun v y' hfl => ?_)
          · obtain ⟨p2, di2, P, CR2, E, gle, g1, g2, g3, g4, ⟨gR, g105, gpn, g106, g107, _⟩, g6, g7, g8, g9⟩ := hok
            have hpl : (P ++ 91 :: W).length = P.length + (W.length + 1) := List.length_append
            rw [hpl] at g6
            unfold S_M_takes
            refine pp_y g106 (q_look gR g105 gpn (fun p3 hb3 => ?_))
            have e3 := BL_id hb3 (fun q => (g9 q).1)
            subst e3
            rw [sI_id g105]
            have en91 : enL (P ++ 91 :: W) = 91 := (enL_app P (fun x hx => by have := g2 x hx; omega)).trans rfl
            have rej : (rnL T n p (mkW aw st cm di W CR)).1 = some p3 → B_M_takes_16 (fun r11 z7 => (r11 = 0 → post 0 z7) ∧ (¬ r11 = 0 → ∀ z8 : St, z8 = sI z7 107 (gI z7 107 - 1) → post v z8)) y' := fun e => by
              unfold B_M_takes_16
              exact q_fails_1 g105 g106 ⟨.inl rfl, r01 (h0 _ _ ⟨p3, gpn, e, rfl, (F2.tr g8).sI (by decide)⟩)⟩
            by_cases c3 : p3 < n
            · rw [if_pos c3]
              have hT3 := (gR.at c3).2.2
              rw [show (nI (T p3) = (93 : Int32)) = (T p3 = 93) from propext (nI_eq (b := 93) (by omega) (by omega))]
              refine ⟨fun c93 => ev (r11 (ev ?_)), fun c93 => rej ?_⟩
              · have hs3 : stepL T p3 (mkW 4 st cm di2 (P ++ 91 :: W) CR2) = some (mkW 4 st cm 0 W (E ++ CR)) := by
                  rw [st_4 (.inl rfl), if_neg (by rw [c93]; decide), c93]
                  show (if enL (P ++ 91 :: W) = 91 then some (cbL 4 st cm (nI (cO (P ++ 91 :: W))) (P ++ 91 :: W) CR2) else none) = _
                  rw [if_pos en91]
                  unfold cbL
                  rw [poL_fl (by omega) (show (0 : Nat) < 1 by decide) P CR2 (fun x hx => by have := g2 x hx; omega) (by omega), g3]
                  show some (mkL 4 st cm 0 (nI (cO W + 1) - 1) W (E ++ CR)) = _
                  rw [nI_pred]; rfl
                rw [g105, nI_1, show gI (sI y' 105 (nI (p3 + 1))) 107 = nI (dep + 1) from g107, nI_pred]
                have hlen : (E ++ CR).length = CR2.length + P.length := by rw [← g3, flush_len]
                exact h1 _ _ ⟨p3 + 1, 0, E, by omega, (hRN2.trans g1).trans (RN_yes c3 (g9 c3).1 hs3), g4.mono (by omega), ⟨(gR.sI (by decide) (by decide)).sI (by decide) (by decide), rfl, by omega, g106, rfl, h240⟩, by omega, fun _ _ _ => .inl (by decide), ((F2.tr g8).sI (by decide)).sI (by decide)⟩
              · have g9' := g9 c3
                have hs3 := st_in (st := st) (cm := cm) (CR := CR2) c3 g7 en91 ⟨g9'.2.1, g9'.2.2.1, (g9'.2.2.2 rfl).1, (g9'.2.2.2 rfl).2, c93⟩
                rw [hRN2.trans g1]
                show (RN T n (stepL T) clL p3 _).1 = _
                rw [RN_no c3 g9'.1 hs3]
            · rw [if_neg c3]
              refine pp_n (by decide) (rej ?_)
              have en : p3 = n := by omega
              subst en
              rw [hRN2.trans g1]
              show (RN T p3 (stepL T) clL p3 _).1 = _
              rw [RN_end]
              have : clL (mkW 4 st cm di2 (P ++ 91 :: W) CR2) = none := by
                show clo 4 st cm di2 _ (P ++ 91 :: W) CR2 = none
                unfold clo
                rw [if_pos rfl, en91, if_neg (show ¬ (91 : Int32) = -1 by decide)]
                simp
              rw [this]
          · obtain ⟨f, g1, g2, g3, g4⟩ := hfl
            have n106 : ¬ gI y' 106 = -1 := by rw [g3]; exact fun q => (nI_m1 (by omega)).mp q
            unfold S_M_takes B_M_takes_16
            exact pp_n n106 (q_fails_2 n106 ⟨.inl rfl, r01 (h0 _ _ ⟨f, g1, by rw [hRN2]; exact g2, g3, F2.tr g4⟩)⟩)
      · have c91 : T p1 ≠ 91 := fun q => c91 ((nI_eq (b := 91) (by omega) (by omega)).mpr q)
        refine q_isDigit R1 (p := p1) rfl hb2 (fun _ hd => r11 ?_) (fun cd => r01 ?_)
        · rw [if_pos hd, ewr] at hst
          have hst : stepL T p1 (mkW aw st cm di W CR) = some (mkW 4 st cm (nI 1) W (nI (T p1 - 48) :: CR)) := hst
          have hdd := dg_iff.mp hd
          unfold B_M_atom_86
          refine ⟨n - (p1 + 1) + 2, ?_⟩
          show B_M_atom_90 rq post _ _ _ _
          unfold B_M_atom_90
          refine q_isDigit R1 (p := p1) rfl hb2 (fun _ _ => r11 (pp_y e106 (pp_n (by decide) ?_))) (fun cd => absurd hd (cd c))
          obtain ⟨a1, a2⟩ := dig_at R1 (p := p1) rfl c hd
          rw [a2, show gI (sI y 105 (nI p1)) 105 = nI p1 from rfl, nI_1, sI_sI]
          refine ⟨a1, ev (ev (ev ?_))⟩
          rw [show ((10 : Int32) * 0 + nI (T p1) - 48) = nI (T p1 - 48) from by rw [show (10 : Int32) * 0 + nI (T p1) = nI (T p1) from by rw [show (10 : Int32) * 0 = 0 by decide]; exact Int32.zero_add _, k48, pk_sub (by omega)], show ((0 : Int32) + 1) = nI 1 by decide]
          exact q_digs (y0 := y) (s0 := mkW aw st cm di W CR) hdep h1 h0 (n - (p1 + 1)) 1 (T p1 - 48) (p1 + 1) (sI y 105 (nI (p1 + 1))) (Nat.le_refl _) (by omega) (by omega) (by omega) (by omega) ⟨hR.sI (by decide) (by decide), rfl, by omega, e106, e107, h240⟩ (Fr.rf.sI (by decide)) (hRN.trans (RN_yes c h32 hst)) (jn_y h32) (by omega) _ (Nat.le_refl _)
        · rw [if_neg (cd c)] at hst
          unfold opL at hst
          rw [if_neg (fun q => by
            rcases haw with e | e
            · rw [e] at q; exact absurd q.1 (by decide)
            · have := e.2 p1 hb c; omega), if_neg c91] at hst
          exact bad (by rw [hRN]; show (RN T n (stepL T) clL p1 _).1 = _; rw [RN_no c h32 hst]) cd
  · rw [if_neg c, spt_1m]
    refine r01 (pp_n (by decide) (q_isDigit R1 (p := p1) rfl hb2 (fun q => absurd q c) (fun _ => r01 (bad ?_ (fun q => absurd q c)))))
    have en : p1 = n := by omega
    subst en
    rw [hRN]
    show (RN T p1 (stepL T) clL p1 _).1 = _
    rw [RN_end]
    have : clL (mkW aw st cm di W CR) = none := by
      show clo aw st cm di _ W CR = none
      unfold clo
      rw [if_neg na]
    rw [this]
