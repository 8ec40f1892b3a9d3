/-! acts as relations of states, of each side; the two tied -/
theorem pay_TR {w c : Nat → Int32} (h : TR w c) {wg : Nat} : ∀ k, k ≤ 6 → TR (payR (fun k => 3 * k) wg k w) (payR (fun k => 4 + k) wg k c)
  | 0, _ => h
  | k + 1, hk => by
    have t := pay_TR h (wg := wg) k (by omega)
    show TR (upd _ (3 * k) (nI (min 99 ((payR (fun k => 3 * k) wg k w (3 * k)).toNatClampNeg + wg)))) (upd _ (4 + k) (nI (min 99 ((payR (fun k => 4 + k) wg k c (4 + k)).toNatClampNeg + wg))))
    rw [(t.g (show k < 6 by omega)).1]
    exact t.up (by omega) (pi_m (by omega)) _
theorem pay_ok {V nd wg ng : Nat} {w c : Nat → Int32} (h : TR w c) (tb : TB V nd c) (g6 : ng ≤ 6) : ∀ k, k ≤ ng → ∀ g, g < ng → ∃ m, m ≤ 99 ∧ payR (fun k => 3 * k) wg k w (3 * g) = nI m := fun k hk g hg => by
  rw [((pay_TR h (wg := wg) k (by omega)).g (show g < 6 by omega)).1]
  exact (pay_TB tb k (by omega)).2.2.2.2.1 g (by omega)
theorem Inv.taN {V : Nat} {z y : St} (h : Inv V z y) {nd : Nat} (e : gI z 26 = nI nd) (h6 : nd ≤ 6) : ∃ v, TaI V nd v (gA y 113) (gA z 23) (gA z 26) := by
  obtain ⟨nd', ng, tl, ln, wn, sn, a, n, v, hH, hT, hL, hW, hS, hTa, _⟩ := h
  have : nd' = nd := (nI_eq (by have := hH.2.2.2.2.1; omega) (by omega)).mp (hH.1.symm.trans e)
  subst this
  exact ⟨v 0, hTa⟩
theorem fr_rem0 {a : Nat} {y : St} : Fr MS (113 :: MA) (remY a (sI y 100 0)) (remY a y) := by
  refine ⟨fun k hk => ?_, fun k hk => rfl, rfl, rfl⟩
  have : k ≠ 100 := fun e => hk (by rw [e]; decide)
  unfold remY
  rw [gI_sI, gI_sI, gI_sF, gI_sF, gI_sI, if_neg this]
theorem Inv.actC2 {V V' : Nat} {z y z' y' : St} (h : Inv V z y) (hV : V ≤ V') {a n : Nat} (ha : gI z 25 = nI a) (hn : gI z 24 = nI n) (hn4 : n < 40) (ha4 : a ≤ 40) (hz : Fr XS (23 :: XA) (keepX a n z) z') (hy : Fr MS (113 :: MA) (remY a y) y')
    (hc : ∀ nd v, gI z 26 = nI nd → nd ≤ 6 → TaI V nd v (gA y 113) (gA z 23) (gA z 26) → TaI V' nd v (gA y' 113) (gA z' 23) (gA z 26)) : Inv V' z' y' := h.actC hV ha hn hn4 ha4 hz (fr_rem0.tr hy) hc
theorem CY.rem {nd ng mo wg : Nat} {q : Nat → Nat} {lk : Nat → Int32} {lw : Option ((Nat → Int32) → Int32)} {y : St} {a : Nat} (h : CY nd ng mo wg q lk lw y) : CY nd ng mo wg q lk lw (remY a y) := h.fr ((Fr.rf.sF (by decide)).sI (by decide) : Fr [119] [115] y (remY a y)) (by decide) (by decide)
theorem CZ.keep {nd ng mo wg : Nat} {q : Nat → Nat} {lk : Nat → Int32} {lw : Option ((Nat → Int32) → Int32)} {z : St} {a n : Nat} (h : CZ nd ng mo wg q lk lw z) : CZ nd ng mo wg q lk lw (keepX a n z) := h.fr fr_keep (by decide) (by decide)
theorem bring_tr {w c : Nat → Int32} (hT : TR w c) {nd mo : Nat} {q : Nat → Nat} {lw : Option ((Nat → Int32) → Int32)} {l : Int32} {mood got g : Nat} (hg : g < 6) (hgot : got < nd) (h6 : nd ≤ 6) : bringN nd q mo (fun d => w (18 + d)) lw l mood (w (3 * g)) (w 27) got = bringN nd q mo (fun d => c (22 + d)) lw l mood (c (4 + g)) (c 3) got := by
  rw [(hT.g hg).1, hT.b.2.2.2]
  exact bring_cg hgot (fun d hd => hT.d (by omega))
def tN (x : Int32) : Nat := x.toNatClampNeg
theorem tN_nI {n : Nat} (h : n < 2 ^ 31) : tN (nI n) = n := nI_clamp h
/-- a visit as the class's act -/
def VX (nd mo : Nat) (q : Nat → Nat) (lk : Nat → Int32) (lw : Option ((Nat → Int32) → Int32)) (g : Nat) (z z' : St) : Prop :=
  ∃ br : Option Nat, br = bringN nd q mo (fun d => gA z 23 (22 + d)) lw (lk g) (tN (gA z 23 (10 + g))) (gA z 23 (4 + g)) (gA z 23 3) (tN (gA z 23 0)) ∧
  Fr XS (23 :: 26 :: XA) (keepX (tN (gI z 25)) (tN (gI z 24)) z) z' ∧ gA z' 23 = visC q mo (lk g) br (tN (gA z 23 (10 + g))) (tN (gA z 23 0)) g (gA z 23) ∧
  gA z' 26 = lineL (tN (gA z 23 3) + 1) (nI g) (nI (tN (gA z 23 0))) (enc br) (nI (joyN q mo (lk g) (tN (gA z 23 0)))) (gA z 26)
/-- a visit behind the reference's keeping -/
def VM (nd mo : Nat) (q : Nat → Nat) (lk : Nat → Int32) (lw : Option ((Nat → Int32) → Int32)) (g : Nat) (y y' : St) : Prop :=
  ∃ br : Option Nat, br = bringN nd q mo (fun d => gA y 113 (18 + d)) lw (lk g) (tN (gA y 113 (3 * g + 1))) (gA y 113 (3 * g)) (gA y 113 27) (tN (gA y 113 24)) ∧
  Fr MS (113 :: MA) (remY (tN (gI y 119)) y) y' ∧ gA y' 113 = bookW (tN (gA y 113 28)) g (tN (gA y 113 24)) (enc br) (nI (joyN q mo (lk g) (tN (gA y 113 24)))) (visW q mo (lk g) br (tN (gA y 113 (3 * g + 1))) (tN (gA y 113 24)) g (gA y 113))
theorem VM.ex {nd mo : Nat} {q : Nat → Nat} {lk : Nat → Int32} {lw : Option ((Nat → Int32) → Int32)} {g : Nat} {y : St} : ∃ y', VM nd mo q lk lw g y y' :=
  ⟨sF (remY (tN (gI y 119)) y) 113 (bookW (tN (gA y 113 28)) g (tN (gA y 113 24)) (enc (bringN nd q mo (fun d => gA y 113 (18 + d)) lw (lk g) (tN (gA y 113 (3 * g + 1))) (gA y 113 (3 * g)) (gA y 113 27) (tN (gA y 113 24)))) (nI (joyN q mo (lk g) (tN (gA y 113 24)))) (visW q mo (lk g) (bringN nd q mo (fun d => gA y 113 (18 + d)) lw (lk g) (tN (gA y 113 (3 * g + 1))) (gA y 113 (3 * g)) (gA y 113 27) (tN (gA y 113 24))) (tN (gA y 113 (3 * g + 1))) (tN (gA y 113 24)) g (gA y 113))), _, rfl, Fr.rf.sF (by decide), rfl⟩
/-- the numbers that the tables hold -/
theorem Inv.nums {V : Nat} {z y : St} (h : Inv V z y) (hVb : V < 2 ^ 29) {nd ng mo wg : Nat} {q : Nat → Nat} {lk : Nat → Int32} {lw : Option ((Nat → Int32) → Int32)} (hz : CZ nd ng mo wg q lk lw z) (hl : Lim nd ng mo wg q) : ∃ v a n, TaI V nd v (gA y 113) (gA z 23) (gA z 26) ∧ v ≤ V ∧ tN (gA z 23 3) = v ∧ gI z 25 = nI a ∧ tN (gI z 25) = a ∧ gI y 119 = nI a ∧ tN (gI y 119) = a ∧ a ≤ 40 ∧ gI z 24 = nI n ∧ tN (gI z 24) = n ∧ n < 40 := by
  obtain ⟨v, ta⟩ := h.taN hz.1 hl.1
  obtain ⟨a, n, p1, p2, p3, p4, p5⟩ := h.past
  refine ⟨v, a, n, ta, ta.2.2.2.1, ?_, p1, ?_, p2, ?_, p3, p4, ?_, p5⟩
  · rw [ta.2.2.1]; exact tN_nI (by have := ta.2.2.2.1; omega)
  · rw [p1]; exact tN_nI (by omega)
  · rw [p2]; exact tN_nI (by omega)
  · rw [p4]; exact tN_nI (by omega)
theorem TaI.got {V nd v : Nat} {w c L : Nat → Int32} (h : TaI V nd v w c L) (h6 : nd ≤ 6) (h2 : 2 ≤ nd) : c 0 = nI (tN (c 0)) ∧ tN (c 0) < nd := by
  obtain ⟨b, hb, e⟩ := h.2.1.1
  rw [e, tN_nI (by omega)]
  exact ⟨rfl, by omega⟩
theorem TaI.mood {V nd v : Nat} {w c L : Nat → Int32} (h : TaI V nd v w c L) {g : Nat} (hg : g < 6) : c (10 + g) = nI (tN (c (10 + g))) ∧ tN (c (10 + g)) ≤ 9 := by
  obtain ⟨b, hb, e⟩ := h.2.1.2.2.2.2.2.1 g hg
  rw [e, tN_nI (by omega)]
  exact ⟨rfl, hb⟩
theorem q_VX {post : Int32 → St → Prop} {V : Nat} {z y : St} (h : Inv V z y) (hVb : V < 2 ^ 29) {nd ng mo wg : Nat} {q : Nat → Nat} {lk : Nat → Int32} {lw : Option ((Nat → Int32) → Int32)} (hz : CZ nd ng mo wg q lk lw z) (hl : Lim nd ng mo wg q) {g : Nat} (hg : g < ng) (hp : ∀ z', VX nd mo q lk lw g z z' → post 1 z') : S_B_act post (0 : Int32) (nI g) z := by
  obtain ⟨v, a, n, ta, hv, e3, p1, p1', p2, p2', p3, p4, p4', p5⟩ := h.nums hVb hz hl
  have h6 := hl.1
  have g6 := hl.2.1
  obtain ⟨eg, hgot⟩ := ta.got h6 (hl.2.2.2.2.2.1 (by omega))
  obtain ⟨em, hm⟩ := ta.mood (show g < 6 by omega)
  refine q_actG hz hl hg hgot eg hm em p1 p3 p4 p5 ta.2.2.1 (by omega) (fun br z' hbr hf e23 e26 => hp z' ⟨br, hbr, ?_, e23, ?_⟩)
  · rw [p1', p4']; exact hf
  · rw [e3]; exact e26
theorem q_VX_n {post : Int32 → St → Prop} {nd ng mo wg : Nat} {q : Nat → Nat} {lk : Nat → Int32} {lw : Option ((Nat → Int32) → Int32)} {z : St} (hz : CZ nd ng mo wg q lk lw z) {x : Int32} (c : x < 0 ∨ (¬ x < 0 ∧ nI ng ≤ x)) (hp : post 0 z) : S_B_act post (0 : Int32) x z := by
  unfold S_B_act S_Table_canBe_8
  exact pp_y rfl (q_House_hasGuest_n hz.2.1 c ⟨.inl rfl, r01 hp⟩)
theorem q_VM {post : Int32 → St → Prop} {V : Nat} {z y : St} (h : Inv V z y) (hVb : V < 2 ^ 29) {nd ng mo wg : Nat} {q : Nat → Nat} {lk : Nat → Int32} {lw : Option ((Nat → Int32) → Int32)} (hz : CZ nd ng mo wg q lk lw z) (hy : CY nd ng mo wg q lk lw y) (hl : Lim nd ng mo wg q) {g a : Nat} (hg : g < ng) (ha : gI y 119 = nI a) (ha4 : a ≤ 40) (hp : ∀ r y', VM nd mo q lk lw g y y' → post r y') : S_M_visits_r113 post (nI g) (remY a y) := by
  obtain ⟨v, a', n, ta, hv, e3, p1, p1', p2, p2', p3, p4, p4', p5⟩ := h.nums hVb hz hl
  have h6 := hl.1
  have g6 := hl.2.1
  have ea : a' = a := (nI_eq (by omega) (by omega)).mp (p2.symm.trans ha)
  subst ea
  obtain ⟨eg, hgot⟩ := ta.got h6 (hl.2.2.2.2.2.1 (by omega))
  obtain ⟨em, hm⟩ := ta.mood (show g < 6 by omega)
  have t0 := ta.1.b.1
  have tm := (ta.1.g (show g < 6 by omega)).2.1
  have tb := ta.2.2.2.2.1
  have e28 : tN (gA y 113 28) = min 60 v := by rw [tb]; exact tN_nI (by omega)
  rw [← t0] at eg hgot
  rw [← tm] at em hm
  refine q_visM113 hy.rem hl hg hgot eg hm em tb (by omega) (show gA y 113 (3 * g) ≠ Int32.minValue by rw [(ta.1.g (show g < 6 by omega)).1]; exact ta.2.1.m_min (by omega)) (show gA y 113 27 ≠ Int32.minValue by rw [ta.1.b.2.2.2]; exact ta.2.1.n_min (by omega)) (show gA y 113 (18 + tN (gA y 113 24)) ≠ Int32.minValue by rw [ta.1.d (by omega)]; exact ta.2.1.p_min (by omega)) (fun br y' hbr hf e113 => hp _ y' ⟨br, hbr, ?_, ?_⟩)
  · rw [p2']; exact hf.wk (by decide) (by decide)
  · rw [e28]; exact e113
theorem j_V {V : Nat} {z y z' y' : St} (h : Inv V z y) (hVb : V < 2 ^ 29) {nd ng mo wg : Nat} {q : Nat → Nat} {lk : Nat → Int32} {lw : Option ((Nat → Int32) → Int32)} (hz : CZ nd ng mo wg q lk lw z) (hy : CY nd ng mo wg q lk lw y) (hl : Lim nd ng mo wg q) {g : Nat} (hg : g < ng) (hX : VX nd mo q lk lw g z z') (hM : VM nd mo q lk lw g y y') : Inv (V + 1) z' y' ∧ CZ nd ng mo wg q lk lw z' ∧ CY nd ng mo wg q lk lw y' ∧ gZ z' = gZ z ∧ gI z' 0 = gI z 0 ∧ gL y' = gL y ∧ gA z' 23 3 = gA z 23 3 + 1 := by
  obtain ⟨v, a, n, ta, hv, e3, p1, p1', p2, p2', p3, p4, p4', p5⟩ := h.nums hVb hz hl
  have h6 := hl.1
  have g6 := hl.2.1
  obtain ⟨eg, hgot⟩ := ta.got h6 (hl.2.2.2.2.2.1 (by omega))
  obtain ⟨em, hm⟩ := ta.mood (show g < 6 by omega)
  obtain ⟨br, hbr, hf, e23, e26⟩ := hX
  obtain ⟨br2, hbr2, hf2, e113⟩ := hM
  have t0 := ta.1.b.1
  have tm := (ta.1.g (show g < 6 by omega)).2.1
  have e28 : tN (gA y 113 28) = min 60 v := by rw [ta.2.2.2.2.1]; exact tN_nI (by omega)
  have eb : br2 = br := by rw [hbr2, hbr, t0, tm]; exact bring_tr ta.1 (by omega) hgot h6
  subst eb
  rw [p1', p4'] at hf
  rw [p2'] at hf2
  rw [e3] at e26
  rw [t0, tm, e28] at e113
  refine ⟨h.actV (Nat.le_refl _) hVb hz hl hg hgot hm p1 p3 p4 p5 ta.2.2.1 (by omega) (fun b e => bring_lt (hbr.symm.trans e)) hf hf2 e23 e26 e113, ?_, ?_, hf.2.2.1, hf.1 0 (by decide), hf2.2.2.2, ?_⟩
  · exact hz.keep.fr hf (by decide) (by decide)
  · exact hy.rem.fr hf2 (by decide) (by decide)
  · rw [e23, visC_3]
/-! a month -/
def MX (ng wg : Nat) (z z' : St) : Prop := z' = sF (keepX (tN (gI z 25)) (tN (gI z 24)) z) 23 (monC ng wg (gA z 23))
def MM (ng wg : Nat) (y y' : St) : Prop := y' = sF (remY (tN (gI y 119)) y) 113 (monW ng wg (gA y 113))
theorem q_MX {post : Int32 → St → Prop} {V : Nat} {z y : St} (h : Inv V z y) (hVb : V < 2 ^ 29) {nd ng mo wg : Nat} {q : Nat → Nat} {lk : Nat → Int32} {lw : Option ((Nat → Int32) → Int32)} (hz : CZ nd ng mo wg q lk lw z) (hl : Lim nd ng mo wg q) (h0 : 0 < ng) {m : Nat} {x : Int32} (em : gA z 23 1 = nI m) (hm : m < 999) (hp : ∀ z', MX ng wg z z' → post 1 z') : S_B_act post (1 : Int32) x z := by
  obtain ⟨v, a, n, ta, hv, e3, p1, p1', p2, p2', p3, p4, p4', p5⟩ := h.nums hVb hz hl
  unfold S_B_act S_Table_canBe_8
  refine pp_n (by decide) (pp_y rfl (q_isTold_y hz.2.1 hl.2.1 h0 (r11 ?_)))
  rw [em, k999, nI_leI (by omega) (by omega)]
  refine pp_n (by omega) (r11 (q_keep p1 p3 p4 p5 (pp_n (by decide) ?_)))
  unfold S_Table_carry_8
  refine pp_n (by decide) (pp_y rfl (q_month8 hz.keep hl (V := V) (nd' := nd) ta.2.1 em hm (hp _ ?_)))
  unfold MX
  rw [p1', p4']
  rfl
theorem q_MX_n {post : Int32 → St → Prop} {nd ng mo wg : Nat} {q : Nat → Nat} {lk : Nat → Int32} {lw : Option ((Nat → Int32) → Int32)} {z : St} (hz : CZ nd ng mo wg q lk lw z) (hl : Lim nd ng mo wg q) {x : Int32} (em : ng = 0 ∨ gA z 23 1 = nI 999) (hp : post 0 z) : S_B_act post (1 : Int32) x z := by
  unfold S_B_act S_Table_canBe_8
  refine pp_n (by decide) (pp_y rfl ?_)
  rcases Nat.eq_zero_or_pos ng with e | e
  · exact q_isTold_n hz.2.1 e (r01 (r01 hp))
  · refine q_isTold_y hz.2.1 hl.2.1 e (r11 (pp_y ?_ (r01 hp)))
    rcases em with em | em
    · omega
    · rw [em]; decide
theorem q_MM {post : St → Prop} {V : Nat} {z y : St} (h : Inv V z y) (hVb : V < 2 ^ 29) {nd ng mo wg : Nat} {q : Nat → Nat} {lk : Nat → Int32} {lw : Option ((Nat → Int32) → Int32)} (hz : CZ nd ng mo wg q lk lw z) (hy : CY nd ng mo wg q lk lw y) (hl : Lim nd ng mo wg q) {a : Nat} (ha : gI y 119 = nI a) (ha4 : a ≤ 40) (hp : ∀ y', MM ng wg y y' → post y') : S_M_goMonth_r113 post (remY a y) := by
  obtain ⟨v, a', n, ta, hv, e3, p1, p1', p2, p2', p3, p4, p4', p5⟩ := h.nums hVb hz hl
  refine q_monthM113 hy.rem hl (pay_ok ta.1 ta.2.1 hl.2.1) (hp _ ?_)
  unfold MM
  rw [ha, tN_nI (by omega)]
  rfl
theorem j_M {V : Nat} {z y z' y' : St} (h : Inv V z y) (hVb : V < 2 ^ 29) {nd ng mo wg : Nat} {q : Nat → Nat} {lk : Nat → Int32} {lw : Option ((Nat → Int32) → Int32)} (hz : CZ nd ng mo wg q lk lw z) (hy : CY nd ng mo wg q lk lw y) (hl : Lim nd ng mo wg q) {m : Nat} (em : gA z 23 1 = nI m) (hm : m < 999) (hX : MX ng wg z z') (hM : MM ng wg y y') : Inv V z' y' ∧ CZ nd ng mo wg q lk lw z' ∧ CY nd ng mo wg q lk lw y' ∧ gZ z' = gZ z ∧ gI z' 0 = gI z 0 ∧ gL y' = gL y ∧ gA z' 23 3 = gA z 23 3 := by
  obtain ⟨v, a, n, ta, hv, e3, p1, p1', p2, p2', p3, p4, p4', p5⟩ := h.nums hVb hz hl
  unfold MX at hX
  unfold MM at hM
  rw [p1', p4'] at hX
  rw [p2'] at hM
  subst hX hM
  have g6 := hl.2.1
  have fz : Fr XS (23 :: XA) (keepX a n z) (sF (keepX a n z) 23 (monC ng wg (gA z 23))) := Fr.rf.sF (by decide)
  have fy : Fr MS (113 :: MA) (remY a y) (sF (remY a y) 113 (monW ng wg (gA y 113))) := Fr.rf.sF (by decide)
  have c3 : monC ng wg (gA z 23) 3 = gA z 23 3 := by
    unfold monC
    rw [payR_out ng (fun j hj => by omega), pk_un (by decide), pk_un (by decide)]
  refine ⟨h.actC2 (Nat.le_refl _) p1 p4 p5 p3 fz fy (fun nd' v' _ _ t => ?_), hz.keep.fr fz (by decide) (by decide), hy.rem.fr fy (by decide) (by decide), rfl, rfl, rfl, ?_⟩
  · rw [gA_sF, if_pos rfl, gA_sF, if_pos rfl]
    refine ⟨mon_TR t.1 g6, mon_TB t.2.1 g6 em hm, ?_, t.2.2.2.1, t.2.2.2.2.cg (fun k hk _ => ?_) (fun _ _ _ _ => rfl)⟩
    · rw [c3]; exact t.2.2.1
    · unfold monW
      rw [pk_un (by omega), pk_un (by omega), payR_out ng (fun j hj => by omega)]
  · rw [gA_sF, if_pos rfl]; exact c3
/-! an act that keeps alone -/
def NX (z z' : St) : Prop := z' = keepX (tN (gI z 25)) (tN (gI z 24)) z
def NM (y y' : St) : Prop := y' = remY (tN (gI y 119)) y
theorem j_N {V : Nat} {z y z' y' : St} (h : Inv V z y) (hVb : V < 2 ^ 29) {nd ng mo wg : Nat} {q : Nat → Nat} {lk : Nat → Int32} {lw : Option ((Nat → Int32) → Int32)} (hz : CZ nd ng mo wg q lk lw z) (hy : CY nd ng mo wg q lk lw y) (hl : Lim nd ng mo wg q) (hX : NX z z') (hM : NM y y') : Inv V z' y' ∧ CZ nd ng mo wg q lk lw z' ∧ CY nd ng mo wg q lk lw y' ∧ gZ z' = gZ z ∧ gI z' 0 = gI z 0 ∧ gL y' = gL y ∧ gA z' 23 3 = gA z 23 3 := by
  obtain ⟨v, a, n, ta, hv, e3, p1, p1', p2, p2', p3, p4, p4', p5⟩ := h.nums hVb hz hl
  unfold NX at hX
  unfold NM at hM
  rw [p1', p4'] at hX
  rw [p2'] at hM
  subst hX hM
  exact ⟨h.actC2 (Nat.le_refl _) p1 p4 p5 p3 Fr.rf Fr.rf (fun nd' v' _ _ t => t), hz.keep, hy.rem, rfl, rfl, rfl, rfl⟩
/-! the host -/
def HX (d : Nat) (z z' : St) : Prop := z' = sF (keepX (tN (gI z 25)) (tN (gI z 24)) z) 23 (upd (upd (gA z 23) 0 (nI d)) 2 1)
def HM (d : Nat) (y y' : St) : Prop := y' = sF (remY (tN (gI y 119)) y) 113 (upd (upd (gA y 113) 24 (nI d)) 26 1)
theorem q_HX {post : Int32 → St → Prop} {V : Nat} {z y : St} (h : Inv V z y) (hVb : V < 2 ^ 29) {nd ng mo wg : Nat} {q : Nat → Nat} {lk : Nat → Int32} {lw : Option ((Nat → Int32) → Int32)} (hz : CZ nd ng mo wg q lk lw z) (hl : Lim nd ng mo wg q) {d : Nat} (hd : d < nd) (e0 : ¬ nI d = gA z 23 0) (e2 : gA z 23 2 = 0) (hp : ∀ z', HX d z z' → post 1 z') : S_B_act post (2 : Int32) (nI d) z := by
  obtain ⟨v, a, n, ta, hv, e3, p1, p1', p2, p2', p3, p4, p4', p5⟩ := h.nums hVb hz hl
  unfold S_B_act S_Table_canBe_8
  refine pp_n (by decide) (pp_n (by decide) (q_House_hasDrink_y hz.1 hl.1 hd (r11 (pp_n e0 (pp_y e2 (r11 (q_keep p1 p3 p4 p5 (pp_n (by decide) ?_))))))))
  unfold S_Table_carry_8
  refine pp_n (by decide) (pp_n (by decide) (ev (ev (hp _ ?_))))
  unfold HX
  rw [p1', p4', show sA (keepX a n z) 23 0 (nI d) = sF (keepX a n z) 23 (upd (gA z 23) 0 (nI d)) from rfl, sA_sF]
theorem q_HX_n {post : Int32 → St → Prop} {nd ng mo wg : Nat} {q : Nat → Nat} {lk : Nat → Int32} {lw : Option ((Nat → Int32) → Int32)} {z : St} (hz : CZ nd ng mo wg q lk lw z) (hl : Lim nd ng mo wg q) {x : Int32} (hn : (x < 0 ∨ (¬ x < 0 ∧ nI nd ≤ x)) ∨ ∃ d, d < nd ∧ x = nI d ∧ (nI d = gA z 23 0 ∨ ¬ gA z 23 2 = 0)) (hp : post 0 z) : S_B_act post (2 : Int32) x z := by
  unfold S_B_act S_Table_canBe_8
  refine pp_n (by decide) (pp_n (by decide) ?_)
  rcases hn with hn | ⟨d, hd, rfl, hn⟩
  · exact q_House_hasDrink_n hz.1 hn (r01 (r01 hp))
  · refine q_House_hasDrink_y hz.1 hl.1 hd (r11 ⟨fun _ => r01 hp, fun c => pp_n ?_ (r01 hp)⟩)
    exact hn.resolve_left c
theorem j_H {V : Nat} {z y z' y' : St} (h : Inv V z y) (hVb : V < 2 ^ 29) {nd ng mo wg : Nat} {q : Nat → Nat} {lk : Nat → Int32} {lw : Option ((Nat → Int32) → Int32)} (hz : CZ nd ng mo wg q lk lw z) (hy : CY nd ng mo wg q lk lw y) (hl : Lim nd ng mo wg q) {d : Nat} (hd : d < nd) (hX : HX d z z') (hM : HM d y y') : Inv V z' y' ∧ CZ nd ng mo wg q lk lw z' ∧ CY nd ng mo wg q lk lw y' ∧ gZ z' = gZ z ∧ gI z' 0 = gI z 0 ∧ gL y' = gL y ∧ gA z' 23 3 = gA z 23 3 := by
  obtain ⟨v, a, n, ta, hv, e3, p1, p1', p2, p2', p3, p4, p4', p5⟩ := h.nums hVb hz hl
  unfold HX at hX
  unfold HM at hM
  rw [p1', p4'] at hX
  rw [p2'] at hM
  subst hX hM
  have h6 := hl.1
  have fz : Fr XS (23 :: XA) (keepX a n z) (sF (keepX a n z) 23 (upd (upd (gA z 23) 0 (nI d)) 2 1)) := Fr.rf.sF (by decide)
  have fy : Fr MS (113 :: MA) (remY a y) (sF (remY a y) 113 (upd (upd (gA y 113) 24 (nI d)) 26 1)) := Fr.rf.sF (by decide)
  refine ⟨h.actC2 (Nat.le_refl _) p1 p4 p5 p3 fz fy (fun nd' v' end' hnd t => ?_), hz.keep.fr fz (by decide) (by decide), hy.rem.fr fy (by decide) (by decide), rfl, rfl, rfl, rfl⟩
  have : nd' = nd := (nI_eq (by omega) (by omega)).mp (end'.symm.trans hz.1)
  subst this
  rw [gA_sF, if_pos rfl, gA_sF, if_pos rfl]
  refine ⟨(t.1.up (by omega) (show 0 = pi 24 by decide) _).up (by omega) (show 2 = pi 26 by decide) _, (t.2.1.bottle (by omega)).put (.inr rfl), ?_, t.2.2.2.1, t.2.2.2.2.cg (fun k hk _ => ?_) (fun _ _ _ _ => rfl)⟩
  · rw [pk_un (by decide), pk_un (by decide)]; exact t.2.2.1
  · rw [pk_un (by omega), pk_un (by omega)]
theorem o_visit {V V' : Nat} (hV1 : V + 1 ≤ V') (hVb : V < 2 ^ 29) : St_visit (Inv V) (Inv V') := by
  intro z y a1 a2 a3 a4 a5 h
  have hV : V ≤ V' := by omega
  obtain ⟨nd, ng, mo, wg, q, lk, lw, hz, hy0, hl⟩ := h.ctx
  have hT := h.ta
  have h6 := hl.1
  have g6 := hl.2.1
  have hI : Inv V' z (sI y 100 0) := h.fr hV Fr.rf yt
  have hy := hy0.fr (yt : Fr MS MA y (sI y 100 0)) (by decide) (by decide)
  have hI0 : Inv V z (sI y 100 0) := h.fr (Nat.le_refl _) Fr.rf yt
  obtain ⟨a, n, p1, p2, p3, p4, p5⟩ := h.past
  unfold S_B_visit S_M_visit
  rcases ix_cases a1 (n := ng) (by omega) with c | ⟨g, hg, rfl⟩
  · unfold S_B_act S_Table_canBe_8
    exact pp_y rfl (q_House_hasGuest_n hz.2.1 c ⟨.inl rfl, r01 (r01 (ev (q_M_isGuest_n hy.2.1 c (r01 ⟨rfl, hI⟩))))⟩)
  · refine q_VX h hVb hz hl hg (fun z' hX => r11 ?_)
    unfold S_Table_bottle_8
    refine ev (q_M_isGuest_y hy.2.1 g6 hg (r11 (q_rem (y := sI y 100 0) p2 p3 (q_VM hI0 hVb hz hy hl hg p2 p3 (fun r y' hM => ?_)))))
    have j := j_V hI0 hVb hz hy hl hg hX hM
    exact ⟨j.1.ta.b.1.symm, j.1.mono hV1⟩
theorem o_month {V V' : Nat} (hV : V ≤ V') (hVb : V < 2 ^ 29) : St_month (Inv V) (Inv V') := by
  intro z y a1 a2 a3 a4 a5 h
  obtain ⟨nd, ng, mo, wg, q, lk, lw, hz, hy0, hl⟩ := h.ctx
  have hT := h.ta
  have h6 := hl.1
  have g6 := hl.2.1
  have hI : Inv V' z (sI y 100 0) := h.fr hV Fr.rf yt
  have hy := hy0.fr (yt : Fr MS MA y (sI y 100 0)) (by decide) (by decide)
  have hI0 : Inv V z (sI y 100 0) := h.fr (Nat.le_refl _) Fr.rf yt
  obtain ⟨a, n, p1, p2, p3, p4, p5⟩ := h.past
  obtain ⟨v, ta⟩ := h.taN hz.1 h6
  obtain ⟨m, hm, em⟩ := ta.2.1.2.1
  have em' : gA (sI y 100 0) 113 25 = nI m := ta.1.b.2.1.trans em
  unfold S_B_month S_M_month
  rcases Nat.eq_zero_or_pos ng with e | e
  · exact q_MX_n hz hl (.inl e) (r01 (ev (pp_y (by rw [hy.2.1, e]; rfl) ⟨rfl, hI⟩)))
  · have hn : ¬ gI (sI y 100 0) 112 = 0 := by rw [hy.2.1]; exact nI_ne0 e (by omega)
    by_cases c : m = 999
    · subst c
      exact q_MX_n hz hl (.inr em) (r01 (ev (pp_n hn (pp_y em' ⟨rfl, hI⟩))))
    · refine q_MX h hVb hz hl e em (by omega) (fun z' hX => r11 ?_)
      unfold S_Table_monthNow_8
      refine ev (pp_n hn (pp_n (by rw [em', k999, nI_eq (by omega) (by omega)]; exact c) (q_rem (y := sI y 100 0) p2 p3 (q_MM hI0 hVb hz hy hl p2 p3 (fun y' hM => ?_)))))
      have j := j_M hI0 hVb hz hy hl em (by omega) hX hM
      exact ⟨j.1.ta.b.2.1.symm, j.1.mono hV⟩
theorem o_host {V V' : Nat} (hV : V ≤ V') (hVb : V < 2 ^ 29) : St_host (Inv V) (Inv V') := by
  intro z y a1 a2 a3 a4 a5 h
  obtain ⟨nd, ng, mo, wg, q, lk, lw, hz, hy0, hl⟩ := h.ctx
  have hT := h.ta
  have h6 := hl.1
  have g6 := hl.2.1
  have hI : Inv V' z (sI y 100 0) := h.fr hV Fr.rf yt
  have hy := hy0.fr (yt : Fr MS MA y (sI y 100 0)) (by decide) (by decide)
  have hI0 : Inv V z (sI y 100 0) := h.fr (Nat.le_refl _) Fr.rf yt
  obtain ⟨a, n, p1, p2, p3, p4, p5⟩ := h.past
  have t0 : gA (sI y 100 0) 113 24 = gA z 23 0 := hT.b.1
  have t2 : gA (sI y 100 0) 113 26 = gA z 23 2 := hT.b.2.2.1
  unfold S_B_host S_M_host S_M_canHost_r113
  rcases ix_cases a1 (n := nd) (by omega) with c | ⟨d, hd, rfl⟩
  · exact q_HX_n hz hl (.inl c) ⟨.inl rfl, ev (q_M_isDrink_n hy.1 c (r01 (r01 ⟨rfl, hI⟩)))⟩
  · by_cases c0 : nI d = gA z 23 0
    · refine q_HX_n hz hl (.inr ⟨d, hd, rfl, .inl c0⟩) ⟨.inl rfl, ev (q_M_isDrink_y hy.1 h6 hd (r11 (pp_y ?_ (r01 ⟨rfl, hI⟩))))⟩
      rw [t0]; exact c0.symm
    · have c0' : ¬ gA (sI y 100 0) 113 24 = nI d := by rw [t0]; exact fun e => c0 e.symm
      by_cases c2 : gA z 23 2 = 0
      · refine q_HX h hVb hz hl hd c0 c2 (fun z' hX => ⟨.inr rfl, ev (q_M_isDrink_y hy.1 h6 hd (r11 (pp_n c0' (pp_y (by rw [t2]; exact c2) (r11 (q_rem (y := sI y 100 0) p2 p3 ?_))))))⟩)
        unfold S_M_hosts_r113
        refine ev (ev ⟨rfl, (j_H hI0 hVb hz hy hl hd hX ?_).1.mono hV⟩)
        unfold HM
        rw [show tN (gI (sI y 100 0) 119) = a by rw [show gI (sI y 100 0) 119 = nI a from p2]; exact tN_nI (by omega), show sA (remY a (sI y 100 0)) 113 24 (nI d) = sF (remY a (sI y 100 0)) 113 (upd (gA (sI y 100 0) 113) 24 (nI d)) from rfl, sA_sF]
      · refine q_HX_n hz hl (.inr ⟨d, hd, rfl, .inr c2⟩) ⟨.inl rfl, ev (q_M_isDrink_y hy.1 h6 hd (r11 (pp_n c0' (pp_n (by rw [t2]; exact c2) (r01 ⟨rfl, hI⟩)))))⟩
