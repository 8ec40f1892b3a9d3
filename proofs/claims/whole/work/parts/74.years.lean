/-! years, and winters that are done -/
theorem draw_u (x : Int64) : ∃ k : Nat, k < 2 ^ 31 ∧ ((x).toUInt64 >>> (((33 : Int32)).toInt64.toUInt64 &&& Int64.toUInt64 63)).toInt64 = lN k := by
  have hs : ((33 : Int32)).toInt64.toUInt64 &&& Int64.toUInt64 63 = (33 : UInt64) := by decide
  rw [hs]
  refine ⟨(x.toUInt64 >>> 33).toNat, ?_, ?_⟩
  · rw [UInt64.toNat_shiftRight]
    have h1 := UInt64.toNat_lt x.toUInt64
    show x.toUInt64.toNat >>> 33 < 2 ^ 31
    rw [Nat.shiftRight_eq_div_pow]
    omega
  · apply Int64.toBitVec_inj.1
    show (x.toUInt64 >>> 33).toBitVec = BitVec.ofNat 64 (x.toUInt64 >>> 33).toBitVec.toNat
    rw [BitVec.ofNat_toNat, BitVec.setWidth_eq]
def drw (x : Int64) (j : Int32) : Int32 := ((((x).toUInt64 >>> (((33 : Int32)).toInt64.toUInt64 &&& Int64.toUInt64 63)).toInt64 - ((x).toUInt64 >>> (((33 : Int32)).toInt64.toUInt64 &&& Int64.toUInt64 63)).toInt64 / (j).toInt64 * (j).toInt64)).toInt32
theorem drw_lt (x : Int64) {n : Nat} (h0 : 0 < n) (h : n < 2 ^ 31) : ∃ g, g < n ∧ drw x (nI n) = nI g := by
  obtain ⟨k, hk, e⟩ := draw_u x
  refine ⟨k % n, Nat.mod_lt _ h0, ?_⟩
  unfold drw
  rw [e, nI_l h, pk_lRem (by omega) h0 (by omega), lN_i]
theorem nI_64 {n : Nat} (h0 : 0 < n) (h : n < 2 ^ 31) : ¬ (nI n).toInt64 = 0 := by
  rw [nI_l h, show (0 : Int64) = lN 0 from rfl, lN_eq h (by omega)]; omega
def nxt (x : Int64) : Int64 := (x * (6364136223846793005 : Int64)) + (1442695040888963407 : Int64)
theorem q_drawn {post : Int32 → St → Prop} {x : Int64} {n : Nat} {z : St} (h0 : 0 < n) (h : n < 2 ^ 31) (hp : post (drw x (nI n)) z) : S_B_drawn post x (nI n) z := by
  unfold S_B_drawn
  exact pp_y (by rw [k1, nI_leI (by omega) h]; omega) ⟨nI_64 h0 h, hp⟩
theorem q_draw {post : Int32 → St → Prop} {n : Nat} {y : St} (h0 : 0 < n) (h : n < 2 ^ 31) (hp : post (drw (nxt (gL y 0)) (nI n)) (sL y 0 (nxt (gL y 0)))) : S_M_draw post (nI n) y := by
  unfold S_M_draw
  exact ev ⟨nI_64 h0 h, hp⟩
theorem fa_of_lt_le {a b : Int32} (h : a ≤ b) : ¬ b < a := fun q => by rw [fa_le] at h; rw [fa_lt] at q; omega
theorem years_loop {nd ng mo wg : Nat} {q : Nat → Nat} {lk : Nat → Int32} {lw : Option ((Nat → Int32) → Int32)} (hl : Lim nd ng mo wg q) (h0 : 0 < ng) {N V0 V' b0 : Nat} (hN : N ≤ 60) (hV : V0 + N ≤ V') (hVb : V' < 2 ^ 29) (hb0 : b0 ≤ V0) : ∀ m i, i + m = N → ∀ (z : St) (Y : St → Prop) (x : Int64) (came : Nat) (post : Int32 → St → Prop), CZ nd ng mo wg q lk lw z → (∃ y, Y y) → (∀ y, Y y → Inv (V0 + i) z y ∧ CY nd ng mo wg q lk lw y ∧ gL y 0 = x) → gA z 23 3 = nI (b0 + came) → came ≤ i → (∀ r z1, (∀ y, Y y → ∀ k, m + 1 ≤ k → L_M_years_37 (fun r1 y1 => r = r1 ∧ Inv V' z1 y1) k (nI N) (nI came) (nI i) y) → post r z1) → ∀ k, m + 1 ≤ k → L_B_years_38 post k (nI N) (nI b0) x (nI i) z := by
  have g6 := hl.2.1
  intro m
  induction m with
  | zero =>
    intro i hi z Y x came post hz hne hY e3 hc hp k hk
    obtain ⟨k, rfl⟩ : ∃ j, k = j + 1 := ⟨k - 1, by omega⟩
    show B_B_years_38 post _ _ _ _ _ z
    unfold B_B_years_38 S_Table_visits_8
    refine pp_y (nI_le (by omega) (by omega)) ?_
    show post (gA z 23 3 - nI b0) z
    rw [e3, pk_sub (by omega), show b0 + came - b0 = came by omega]
    refine hp _ _ (fun y hy k hk => ?_)
    obtain ⟨k, rfl⟩ : ∃ j, k = j + 1 := ⟨k - 1, by omega⟩
    show B_M_years_37 _ _ _ _ _ y
    unfold B_M_years_37
    exact pp_y (nI_le (by omega) (by omega)) ⟨rfl, (hY y hy).1.mono (by omega)⟩
  | succ m ih =>
    intro i hi z Y x came post hz hne hY e3 hc hp k hk
    obtain ⟨k, rfl⟩ : ∃ j, k = j + 1 := ⟨k - 1, by omega⟩
    obtain ⟨y0, hy0⟩ := hne
    obtain ⟨I0, C0, x0⟩ := hY y0 hy0
    have nle : ¬ nI N ≤ nI i := nI_ge (by omega) (by omega)
    have hVi : V0 + i < 2 ^ 29 := by omega
    have e1 : nI i + 1 = nI (i + 1) := nI_1 i
    have e118 : ∀ y, Y y → gI y 118 = gI z 1 := fun y hy => by
      obtain ⟨nd, ng, tl, ln, wn, sn, a, n, v, hH, hT, hL, hW, hS, hTa, hP, hI, hs⟩ := (hY y hy).1; exact hs.symm
    have fin : ∀ (z' : St) (Y' : St → Prop) (x' : Int64) (came' : Nat), CZ nd ng mo wg q lk lw z' → (∃ y, Y' y) → (∀ y, Y' y → Inv (V0 + (i + 1)) z' y ∧ CY nd ng mo wg q lk lw y ∧ gL y 0 = x') → gA z' 23 3 = nI (b0 + came') → came' ≤ i + 1 → (∀ r z1, (∀ y, Y' y → ∀ k, m + 1 ≤ k → L_M_years_37 (fun r1 y1 => r = r1 ∧ Inv V' z1 y1) k (nI N) (nI came') (nI (i + 1)) y) → ∀ y, Y y → ∀ k, m + 1 ≤ k → B_M_years_37 (fun r1 y1 => r = r1 ∧ Inv V' z1 y1) (L_M_years_37 (fun r1 y1 => r = r1 ∧ Inv V' z1 y1) k) (nI N) (nI came) (nI i) y) → L_B_years_38 post k (nI N) (nI b0) x' (nI (i + 1)) z' := fun z' Y' x' came' a1 a2 a3 a4 a5 a6 => by
      refine ih (i + 1) (by omega) z' Y' x' came' post a1 a2 a3 a4 a5 (fun r z1 hq => hp r z1 (fun y hy k hk => ?_)) k (by omega)
      obtain ⟨k, rfl⟩ : ∃ j, k = j + 1 := ⟨k - 1, by omega⟩
      exact a6 r z1 hq y hy k (by omega)
    obtain ⟨v, a, n, ta, hv, e3', p1, p1', p2, p2', p3, p4, p4', p5⟩ := I0.nums hVi hz hl
    obtain ⟨mm, hmm, emm⟩ := ta.2.1.2.1
    obtain ⟨g, hg, eg⟩ := drw_lt (nxt (nxt x)) h0 (show ng < 2 ^ 31 by omega)
    have tm : ∀ y, Y y → gA y 113 25 = nI mm := fun y hy => (hY y hy).1.ta.b.2.1.trans emm
    show B_B_years_38 post _ _ _ _ _ z
    unfold B_B_years_38 S_B_stirred
    refine pp_n nle (q_drawn (n := 10) (by omega) (by omega) ?_)
    show (gI z 1 ≤ drw (nxt x) (nI 10) → _) ∧ (¬ gI z 1 ≤ drw (nxt x) (nI 10) → _)
    by_cases cs : gI z 1 ≤ drw (nxt x) (nI 10)
    · refine pp_y cs ?_
      show S_B_drawn _ (nxt (nxt x)) (gI z 27) z
      rw [show gI z 27 = nI ng from hz.2.1]
      refine q_drawn h0 (by omega) ?_
      show S_B_act _ (0 : Int32) (drw (nxt (nxt x)) (nI ng)) z
      rw [eg]
      refine q_VX I0 hVi hz hl hg (fun z' hX => ?_)
      unfold B_B_years_97
      refine ev ?_
      rw [e1]
      refine fin z' (fun y' => ∃ y, Y y ∧ VM nd mo q lk lw g (sL (sL y 0 (nxt x)) 0 (nxt (nxt x))) y') (nxt (nxt x)) (came + 1) ?_ ?_ ?_ ?_ (by omega) ?_
      · obtain ⟨y', hy'⟩ := VM.ex (nd := nd) (mo := mo) (q := q) (lk := lk) (lw := lw) (g := g) (y := y0)
        exact (j_V I0 hVi hz C0 hl hg hX hy').2.1
      · obtain ⟨y', hy'⟩ := VM.ex (nd := nd) (mo := mo) (q := q) (lk := lk) (lw := lw) (g := g) (y := sL (sL y0 0 (nxt x)) 0 (nxt (nxt x)))
        exact ⟨y', y0, hy0, hy'⟩
      · intro y' ⟨y, hy, hM⟩
        obtain ⟨I, C, ex⟩ := hY y hy
        have j := j_V (y := sL (sL y 0 (nxt x)) 0 (nxt (nxt x))) I hVi hz C hl hg hX hM
        exact ⟨j.1, j.2.2.1, by rw [j.2.2.2.2.2.1]; rfl⟩
      · obtain ⟨y', hy'⟩ := VM.ex (nd := nd) (mo := mo) (q := q) (lk := lk) (lw := lw) (g := g) (y := y0)
        rw [(j_V I0 hVi hz C0 hl hg hX hy').2.2.2.2.2.2, e3, nI_1]; rfl
      · intro r z1 hq y hy k hk
        obtain ⟨I, C, ex⟩ := hY y hy
        obtain ⟨v2, a2, n2, ta2, hv2, e32, p12, p12', p22, p22', p32, p42, p42', p52⟩ := I.nums hVi hz hl
        unfold B_M_years_37 B_M_years_105
        refine pp_n nle (q_rem p22 p32 (q_draw (n := 10) (by omega) (by omega) ?_))
        rw [show gL (remY a2 y) 0 = x from ex]
        refine pp_y (by show gI y 118 ≤ _; rw [e118 y hy]; exact cs) ?_
        rw [show gI (sL (remY a2 y) 0 (nxt x)) 112 = nI ng from C.2.1]
        refine q_draw h0 (by omega) ?_
        show S_M_visits_r113 _ (drw (nxt (nxt x)) (nI ng)) (remY a2 (sL (sL y 0 (nxt x)) 0 (nxt (nxt x))))
        rw [eg]
        refine q_VM (y := sL (sL y 0 (nxt x)) 0 (nxt (nxt x))) I hVi hz C hl hg p22 p32 (fun r2 y' hM => ev (ev ?_))
        rw [e1, nI_1]
        exact hq y' ⟨y, hy, hM⟩ k hk
    · refine pp_n cs ?_
      unfold S_B_snowedIn B_B_years_97
      have snowM : ∀ (r : Int32) (z1 : St) (k : Nat) (y : St) (P : St → Prop), Y y → (∀ a2, gI y 119 = nI a2 → a2 ≤ 40 → (((999 : Int32) ≤ nI mm → B_M_years_105 (fun r1 y1 => r = r1 ∧ Inv V' z1 y1) (L_M_years_37 (fun r1 y1 => r = r1 ∧ Inv V' z1 y1) k) (nI N) (nI came) (nI i) (remY a2 (sL y 0 (nxt x)))) ∧ (¬ (999 : Int32) ≤ nI mm → S_M_goMonth_r113 (fun z5 => B_M_years_105 (fun r1 y1 => r = r1 ∧ Inv V' z1 y1) (L_M_years_37 (fun r1 y1 => r = r1 ∧ Inv V' z1 y1) k) (nI N) (nI came) (nI i) z5) (remY a2 (sL y 0 (nxt x)))))) → B_M_years_37 (fun r1 y1 => r = r1 ∧ Inv V' z1 y1) (L_M_years_37 (fun r1 y1 => r = r1 ∧ Inv V' z1 y1) k) (nI N) (nI came) (nI i) y := fun r z1 k y P hy hQ => by
        obtain ⟨I, C, ex⟩ := hY y hy
        obtain ⟨v2, a2, n2, ta2, hv2, e32, p12, p12', p22, p22', p32, p42, p42', p52⟩ := I.nums hVi hz hl
        have hQ := hQ a2 p22 p32
        unfold B_M_years_37
        refine pp_n nle (q_rem p22 p32 (q_draw (n := 10) (by omega) (by omega) ?_))
        rw [show gL (remY a2 y) 0 = x from ex]
        refine pp_n (by show ¬ gI y 118 ≤ _; rw [e118 y hy]; exact cs) ?_
        rw [show gA (sL (remY a2 y) 0 (nxt x)) 113 25 = nI mm from tm y hy]
        exact hQ
      by_cases c9 : mm = 999
      · subst c9
        refine q_MX_n hz hl (.inr emm) (r01 (q_keep p1 p3 p4 p5 (ev ?_)))
        rw [e1]
        have hX : NX z (keepX a n z) := by unfold NX; rw [p1', p4']
        refine fin _ (fun y' => ∃ y, Y y ∧ NM (sL y 0 (nxt x)) y') (nxt x) came hz.keep ⟨_, y0, hy0, rfl⟩ ?_ (show gA z 23 3 = _ from e3) (by omega) ?_
        · intro y' ⟨y, hy, hM⟩
          obtain ⟨I, C, ex⟩ := hY y hy
          have j := j_N (y := sL y 0 (nxt x)) I hVi hz C hl hX hM
          exact ⟨j.1.mono (by omega), j.2.2.1, by rw [j.2.2.2.2.2.1]; rfl⟩
        · intro r z1 hq y hy k hk
          refine snowM r z1 k y (fun _ => True) hy (fun a2 p22 p32 => pp_y (by decide) ?_)
          unfold B_M_years_105
          refine ev ?_
          rw [e1]
          refine hq _ ⟨y, hy, ?_⟩ k hk
          unfold NM
          rw [show gI (sL y 0 (nxt x)) 119 = nI a2 from p22, tN_nI (by omega)]
      · refine q_MX I0 hVi hz hl h0 emm (by omega) (fun z' hX => r11 (ev ?_))
        rw [e1]
        refine fin _ (fun y' => ∃ y, Y y ∧ MM ng wg (sL y 0 (nxt x)) y') (nxt x) came ?_ ⟨_, y0, hy0, rfl⟩ ?_ ?_ (by omega) ?_
        · exact (j_M I0 hVi hz C0 hl emm (by omega) hX rfl).2.1
        · intro y' ⟨y, hy, hM⟩
          obtain ⟨I, C, ex⟩ := hY y hy
          have j := j_M (y := sL y 0 (nxt x)) I hVi hz C hl emm (by omega) hX hM
          exact ⟨j.1.mono (by omega), j.2.2.1, by rw [j.2.2.2.2.2.1]; rfl⟩
        · rw [(j_M I0 hVi hz C0 hl emm (by omega) hX rfl).2.2.2.2.2.2]; exact e3
        · intro r z1 hq y hy k hk
          obtain ⟨I, C, ex⟩ := hY y hy
          refine snowM r z1 k y (fun _ => True) hy (fun a2 p22 p32 => pp_n (by rw [k999, nI_leI (by omega) (by omega)]; omega) ?_)
          refine q_MM (y := sL y 0 (nxt x)) I hVi hz C hl p22 p32 (fun y' hM => ?_)
          unfold B_M_years_105
          refine ev ?_
          rw [e1]
          exact hq y' ⟨y, hy, hM⟩ k hk
theorem o_years {V V' : Nat} (hV1 : V + 60 ≤ V') (hVb : V' < 2 ^ 29) : St_years (Inv V) (Inv V') := by
  intro z y a1 a2 a3 a4 a5 h
  have hV : V ≤ V' := by omega
  obtain ⟨nd, ng, mo, wg, q, lk, lw, hz, hy0, hl⟩ := h.ctx
  have hT := h.ta
  have h6 := hl.1
  have g6 := hl.2.1
  have hI : Inv V' z (sI y 100 0) := h.fr hV Fr.rf yt
  have hy := hy0.fr (yt : Fr MS MA y (sI y 100 0)) (by decide) (by decide)
  have hI0 : Inv V z (sI y 100 0) := h.fr (Nat.le_refl _) Fr.rf yt
  obtain ⟨v, ta⟩ := h.taN hz.1 h6
  unfold S_B_years S_M_years
  generalize (a2.toInt64 <<< ((32 : Int32).toInt64 &&& 63)) ||| (a3.toInt64 &&& (4294967295 : Int64)) = sd
  rcases Nat.eq_zero_or_pos ng with e | e
  · exact q_isTold_n hz.2.1 e (r01 (ev (pp_y (by rw [hy.2.1, e]; rfl) ⟨rfl, hI⟩)))
  · have hn : ¬ gI (sI y 100 0) 112 = 0 := by rw [hy.2.1]; exact nI_ne0 e (by omega)
    refine q_isTold_y hz.2.1 g6 e (r11 ?_)
    refine ⟨fun c => ev (pp_n hn (q_isIn L1 L60 (fun q _ => absurd c (fun c => by rw [fa_lt] at c; rw [fa_le] at q; omega)) (fun _ => r01 ⟨rfl, hI⟩))), fun c => ⟨fun c1 => ?_, fun c1 => ?_⟩⟩
    · obtain ⟨N, hN, rfl⟩ := nI_of2 (n := 60) (by decide) (fun q => c (fa_trans q (by decide))) c1
      unfold S_Table_visits_8
      rw [ta.2.2.1]
      refine ⟨N + 1, years_loop hl e hN (show V + N ≤ V' by omega) hVb ta.2.2.2.1 N 0 (by omega) z (fun y' => y' = sL (sI y 100 0) 0 sd) sd 0 _ hz ⟨_, rfl⟩ (fun y' hy' => ?_) ta.2.2.1 (Nat.le_refl _) (fun r z1 hq => ?_) (N + 1) (Nat.le_refl _)⟩
      · subst hy'; exact ⟨hI0, hy, rfl⟩
      · exact ev (pp_n hn (q_isIn L1 L60 (fun _ _ => r11 (ev ⟨N + 1, hq _ rfl (N + 1) (Nat.le_refl _)⟩)) (fun q => q.elim (fun q => absurd q c) (fun q => absurd q (fa_of_lt_le c1)))))
    · exact ev (pp_n hn (q_isIn L1 L60 (fun _ q => absurd q c1) (fun _ => r01 ⟨rfl, hI⟩)))

theorem ix_n {i n : Nat} (h : ¬ i < n) (hi : i < 2 ^ 31) (hn : n < 2 ^ 31) : nI i < 0 ∨ (¬ nI i < 0 ∧ nI n ≤ nI i) := .inr ⟨nI_pos hi, nI_le (by omega) (by omega)⟩
theorem WinI.at {wn N w : Nat} {a e : Int32} {zz : Nat → Nat} {zc : Nat → Nat → Int32} {yw yl : Nat → Int32} (h : WinI wn a zz zc e yw yl) (hw : w < wn) (hN : zz (8 + w) = N) : N ≤ 16 ∧ yl w = nI N ∧ ∀ i, i < N → ∃ a d, a < 3 ∧ d < 10 ∧ zc (32 + w) i = nI (10 * a + d) ∧ yw (2 * (16 * w + i)) = nI a ∧ yw (2 * (16 * w + i) + 1) = (if a = 1 then -1 else nI d) := by
  obtain ⟨n, hn, e1, e2, e3⟩ := h.2.2.2 w hw
  have : n = N := e1.symm.trans hN
  subst this
  exact ⟨hn, e2, e3⟩
theorem Inv.winN {V : Nat} {z y : St} (h : Inv V z y) {wn : Nat} (e : gI z 0 = nI wn) (h4 : wn ≤ 4) : WinI wn (gI z 0) (gZ z) (gA z) (gI y 115) (gA y 111) (gA y 112) := by
  obtain ⟨wn', hw⟩ := h.win
  have : wn' = wn := (nI_eq (by have := hw.2.2.1; omega) (by omega)).mp (hw.1.symm.trans e)
  subst this
  exact hw
theorem perform_loop {nd ng mo wg : Nat} {q : Nat → Nat} {lk : Nat → Int32} {lw : Option ((Nat → Int32) → Int32)} (hl : Lim nd ng mo wg q) (h0 : 0 < ng) {N V0 V' w wn : Nat} (hN : N ≤ 16) (hwn : wn ≤ 4) (hw : w < wn) (hV : V0 + N ≤ V') (hVb : V' < 2 ^ 29) : ∀ m i, i + m = N → ∀ (z : St) (Y : St → Prop) (post : Int32 → St → Prop), CZ nd ng mo wg q lk lw z → gI z 0 = nI wn → gZ z (8 + w) = N → (∃ y, Y y) → (∀ y, Y y → Inv (V0 + i) z y ∧ CY nd ng mo wg q lk lw y) → (∀ r z1, (∀ y, Y y → ∀ k, m + 1 ≤ k → L_M_perform_24 (fun r1 y1 => r = r1 ∧ Inv V' z1 y1) k (nI w) (nI i) y) → post r z1) → ∀ k, m + 1 ≤ k → L_B_perform_29 post k (gZ z w) (nI w) (nI i) z := by
  have g6 := hl.2.1
  have h6 := hl.1
  intro m
  induction m with
  | zero =>
    intro i hi z Y post hz ew eN hne hY hp k hk
    obtain ⟨k, rfl⟩ : ∃ j, k = j + 1 := ⟨k - 1, by omega⟩
    show B_B_perform_29 post _ _ _ _ z
    unfold B_B_perform_29
    rw [nI_clamp (by omega), show 0 + w = w by omega, eN]
    refine ⟨(vp_in_nI (by omega) (by omega)), rfl, pp_y (nI_le (by omega) (by omega)) ⟨(vp_in_nI (by omega) (by omega)), rfl, hp _ _ (fun y hy k hk => ?_)⟩⟩
    obtain ⟨k, rfl⟩ : ∃ j, k = j + 1 := ⟨k - 1, by omega⟩
    have wi := ((hY y hy).1.winN ew hwn).at hw eN
    show B_M_perform_24 _ _ _ _ y
    unfold B_M_perform_24
    rw [nI_clamp (by omega), wi.2.1]
    refine ⟨(vp_in_nI (by omega) (by omega)), pp_y (nI_le (by omega) (by omega)) ⟨?_, (hY y hy).1.mono (by omega)⟩⟩
    show nI N = nI i
    rw [show N = i by omega]
  | succ m ih =>
    intro i hi z Y post hz ew eN hne hY hp k hk
    obtain ⟨k, rfl⟩ : ∃ j, k = j + 1 := ⟨k - 1, by omega⟩
    obtain ⟨y0, hy0⟩ := hne
    obtain ⟨I0, C0⟩ := hY y0 hy0
    have hVi : V0 + i < 2 ^ 29 := by omega
    have e1 : nI i + 1 = nI (i + 1) := nI_1 i
    obtain ⟨a, d, ha, hd, ec, eya, eyd⟩ := ((I0.winN ew hwn).at hw eN).2.2 i (by omega)
    have hall : ∀ y, Y y → gA y 112 w = nI N ∧ gA y 111 (2 * (16 * w + i)) = nI a ∧ gA y 111 (2 * (16 * w + i) + 1) = (if a = 1 then -1 else nI d) := fun y hy => by
      have wi := ((hY y hy).1.winN ew hwn).at hw eN
      obtain ⟨a', d', ha', hd', ec', eya', eyd'⟩ := wi.2.2 i (by omega)
      have e := (nI_eq (by omega) (by omega)).mp (ec.symm.trans ec')
      have ea : a' = a := by omega
      have ed : d' = d := by omega
      subst ea ed
      exact ⟨wi.2.1, eya', eyd'⟩
    have nle : ¬ nI N ≤ nI i := nI_ge (by omega) (by omega)
    have refM : ∀ (r : Int32) (z1 : St) (k : Nat) (y : St), Y y → (S_M_canStep_r113 (fun r2 z2 => (r2 = 0 → (r = nI i ∧ Inv V' z1 z2)) ∧ (¬ r2 = 0 → S_M_remember (fun z3 => S_M_steps_r113 (fun r4 z4 => ∀ v5 : Int32, v5 = nI i + (1 : Int32) → L_M_perform_24 (fun r1 y1 => r = r1 ∧ Inv V' z1 y1) k (nI w) v5 z4) (nI (2 * (16 * w + i))) z3) z2)) (nI (2 * (16 * w + i))) y) → L_M_perform_24 (fun r1 y1 => r = r1 ∧ Inv V' z1 y1) (k + 1) (nI w) (nI i) y := fun r z1 k y hy hQ => by
      show B_M_perform_24 _ _ _ _ y
      unfold B_M_perform_24
      rw [nI_clamp (by omega), (hall y hy).1, k2, k16, pk_mul, nI_add, pk_mul]
      exact ⟨(vp_in_nI (by omega) (by omega)), pp_n nle hQ⟩
    have out : ∀ post2 : Int32 → St → Prop, (∀ y, Y y → ∀ P : Int32 → St → Prop, P 0 y → S_M_canStep_r113 P (nI (2 * (16 * w + i))) y) → (∀ z', z' = z → post2 0 z') → post (nI i) z := fun post2 hcan _ => by
      refine hp _ _ (fun y hy k hk => ?_)
      obtain ⟨k, rfl⟩ : ∃ j, k = j + 1 := ⟨k - 1, by omega⟩
      exact refM _ _ _ _ hy (hcan y hy _ (r01 ⟨rfl, (hY y hy).1.mono (by omega)⟩))
    have fin : ∀ (z' : St) (R : St → St → Prop), (∃ y', R y0 y') → (∀ y y', Y y → R y y' → Inv (V0 + (i + 1)) z' y' ∧ CY nd ng mo wg q lk lw y') → CZ nd ng mo wg q lk lw z' → gZ z' = gZ z → gI z' 0 = gI z 0 → (∀ y, Y y → ∀ P : Int32 → St → Prop, P 1 y → S_M_canStep_r113 P (nI (2 * (16 * w + i))) y) → (∀ y, Y y → ∀ P : Int32 → St → Prop, (∀ r y', R y y' → P r y') → S_M_remember (fun z3 => S_M_steps_r113 P (nI (2 * (16 * w + i))) z3) y) → L_B_perform_29 post k (gZ z w) (nI w) (nI (i + 1)) z' := fun z' R a1 a2 a3 a4 a5 a6 a7 => by
      rw [← a4]
      refine ih (i + 1) (by omega) z' (fun y' => ∃ y, Y y ∧ R y y') post a3 (a5.trans ew) (by rw [a4]; exact eN) ?_ (fun y' ⟨y, hy, hR⟩ => a2 y y' hy hR) (fun r z1 hq => hp r z1 (fun y hy k hk => ?_)) k (by omega)
      · obtain ⟨y', h'⟩ := a1; exact ⟨y', y0, hy0, h'⟩
      · obtain ⟨k, rfl⟩ : ∃ j, k = j + 1 := ⟨k - 1, by omega⟩
        refine refM _ _ _ _ hy (a6 y hy _ (r11 (a7 y hy _ (fun r2 y' hR => ev ?_))))
        rw [e1]
        exact hq y' ⟨y, hy, hR⟩ k (by omega)
    show B_B_perform_29 post _ _ _ _ z
    unfold B_B_perform_29
    rw [nI_clamp (by omega), show 0 + w = w by omega, eN, nI_clamp (by omega), ec, (nI10 ha hd).2, (nI10 ha hd).1]
    refine ⟨(vp_in_nI (by omega) (by omega)), rfl, pp_n nle ⟨(vp_in_nI (by omega) (by omega)), rfl, (vp_in_nI (by omega) (by omega)), (vp_in_nI (by omega) (by omega)), rfl, (vp_in_nI (by omega) (by omega)), ?_⟩⟩
    obtain ⟨v, a2, n, ta, hv, e3', p1, p1', p2, p2', p3, p4, p4', p5⟩ := I0.nums hVi hz hl
    have q119 : ∀ y, Y y → gI y 119 = nI a2 := fun y hy => by
      obtain ⟨v', a', n', ta', hv', e3'', q1, q1', q2, q2', q3, q4, q4', q5⟩ := (hY y hy).1.nums hVi hz hl
      have : a' = a2 := (nI_eq (by omega) (by omega)).mp (q1.symm.trans p1)
      subst this; exact q2
    have ha3 : a = 0 ∨ a = 1 ∨ a = 2 := by omega
    rcases ha3 with rfl | rfl | rfl
    · -- a guest
      by_cases hg : d < ng
      · refine q_VX I0 hVi hz hl hg (fun z' hX => r11 (ev ?_))
        rw [e1]
        have jj := fun y y' hy hM => j_V (hY y hy).1 hVi hz (hY y hy).2 hl hg hX (y' := y') hM
        obtain ⟨y1, hy1⟩ := VM.ex (nd := nd) (mo := mo) (q := q) (lk := lk) (lw := lw) (g := d) (y := y0)
        have j0 := jj y0 y1 hy0 hy1
        refine fin z' (VM nd mo q lk lw d) ⟨y1, hy1⟩ (fun y y' hy hM => ⟨(jj y y' hy hM).1, (jj y y' hy hM).2.2.1⟩) j0.2.1 j0.2.2.2.1 j0.2.2.2.2.1 (fun y hy P hP => ?_) (fun y hy P hP => ?_)
        · have hw' := hall y hy
          unfold S_M_canStep_r113
          rw [nI_1, nI_clamp (by omega), nI_clamp (by omega), hw'.2.1, hw'.2.2]
          exact ⟨(vp_in_nI (by omega) (by omega)), pp_y rfl ⟨(vp_in_nI (by omega) (by omega)), q_M_isGuest_y (hY y hy).2.2.1 g6 hg ⟨.inr rfl, hP⟩⟩⟩
        · have hw' := hall y hy
          refine q_rem (q119 y hy) p3 ?_
          unfold S_M_steps_r113
          rw [nI_1, nI_clamp (by omega), nI_clamp (by omega), show gA (remY a2 y) 111 (2 * (16 * w + i)) = nI 0 from hw'.2.1, show gA (remY a2 y) 111 (2 * (16 * w + i) + 1) = nI d from hw'.2.2]
          exact ⟨(vp_in_nI (by omega) (by omega)), pp_y rfl ⟨(vp_in_nI (by omega) (by omega)), q_VM (hY y hy).1 hVi hz (hY y hy).2 hl hg (q119 y hy) p3 hP⟩⟩
      · refine q_VX_n hz (ix_n hg (by omega) (by omega)) (r01 (out (fun _ _ => True) (fun y hy P hP => ?_) (fun _ _ => trivial)))
        have hw' := hall y hy
        unfold S_M_canStep_r113
        rw [nI_1, nI_clamp (by omega), nI_clamp (by omega), hw'.2.1, hw'.2.2]
        exact ⟨(vp_in_nI (by omega) (by omega)), pp_y rfl ⟨(vp_in_nI (by omega) (by omega)), q_M_isGuest_n (hY y hy).2.2.1 (ix_n hg (by omega) (by omega)) ⟨.inl rfl, hP⟩⟩⟩
    · -- a month
      obtain ⟨mm, hmm, emm⟩ := ta.2.1.2.1
      have tm : ∀ y, Y y → gA y 113 25 = nI mm := fun y hy => (hY y hy).1.ta.b.2.1.trans emm
      by_cases c9 : mm = 999
      · subst c9
        refine q_MX_n hz hl (.inr emm) (r01 (out (fun _ _ => True) (fun y hy P hP => ?_) (fun _ _ => trivial)))
        have hw' := hall y hy
        unfold S_M_canStep_r113
        rw [nI_clamp (by omega), hw'.2.1, tm y hy]
        exact ⟨(vp_in_nI (by omega) (by omega)), pp_n (by decide) (pp_y rfl (pp_y (by decide) hP))⟩
      · refine q_MX I0 hVi hz hl h0 emm (by omega) (fun z' hX => r11 (ev ?_))
        rw [e1]
        have jj := fun y y' hy hM => j_M (hY y hy).1 hVi hz (hY y hy).2 hl emm (by omega) hX (y' := y') hM
        have j0 := jj y0 _ hy0 rfl
        refine fin z' (MM ng wg) ⟨_, rfl⟩ (fun y y' hy hM => ⟨(jj y y' hy hM).1.mono (by omega), (jj y y' hy hM).2.2.1⟩) j0.2.1 j0.2.2.2.1 j0.2.2.2.2.1 (fun y hy P hP => ?_) (fun y hy P hP => ?_)
        · have hw' := hall y hy
          unfold S_M_canStep_r113
          rw [nI_clamp (by omega), hw'.2.1, tm y hy, k999, nI_leI (by omega) (by omega)]
          exact ⟨(vp_in_nI (by omega) (by omega)), pp_n (by decide) (pp_y rfl (pp_n (by omega) hP))⟩
        · have hw' := hall y hy
          refine q_rem (q119 y hy) p3 ?_
          unfold S_M_steps_r113
          rw [nI_clamp (by omega), show gA (remY a2 y) 111 (2 * (16 * w + i)) = nI 1 from hw'.2.1]
          exact ⟨(vp_in_nI (by omega) (by omega)), pp_n (by decide) ⟨(vp_in_nI (by omega) (by omega)), pp_y rfl (q_MM (hY y hy).1 hVi hz (hY y hy).2 hl (q119 y hy) p3 (fun y' hM => hP _ y' hM))⟩⟩
    · -- the host
      have t0 : ∀ y, Y y → gA y 113 24 = gA z 23 0 := fun y hy => (hY y hy).1.ta.b.1
      have t2 : ∀ y, Y y → gA y 113 26 = gA z 23 2 := fun y hy => (hY y hy).1.ta.b.2.2.1
      by_cases hdn : d < nd
      · by_cases c0 : nI d = gA z 23 0
        · refine q_HX_n hz hl (.inr ⟨d, hdn, rfl, .inl c0⟩) (r01 (out (fun _ _ => True) (fun y hy P hP => ?_) (fun _ _ => trivial)))
          have hw' := hall y hy
          unfold S_M_canStep_r113 S_M_canHost_r113
          rw [nI_1, nI_clamp (by omega), nI_clamp (by omega), hw'.2.1, hw'.2.2]
          exact ⟨(vp_in_nI (by omega) (by omega)), pp_n (by decide) (pp_n (by decide) ⟨(vp_in_nI (by omega) (by omega)), q_M_isDrink_y (hY y hy).2.1 h6 hdn (r11 (pp_y (by rw [t0 y hy]; exact c0.symm) ⟨.inl rfl, hP⟩))⟩)⟩
        · by_cases c2 : gA z 23 2 = 0
          · refine q_HX I0 hVi hz hl hdn c0 c2 (fun z' hX => r11 (ev ?_))
            rw [e1]
            have jj := fun y y' hy hM => j_H (hY y hy).1 hVi hz (hY y hy).2 hl hdn hX (y' := y') hM
            have j0 := jj y0 _ hy0 rfl
            refine fin z' (HM d) ⟨_, rfl⟩ (fun y y' hy hM => ⟨(jj y y' hy hM).1.mono (by omega), (jj y y' hy hM).2.2.1⟩) j0.2.1 j0.2.2.2.1 j0.2.2.2.2.1 (fun y hy P hP => ?_) (fun y hy P hP => ?_)
            · have hw' := hall y hy
              unfold S_M_canStep_r113 S_M_canHost_r113
              rw [nI_1, nI_clamp (by omega), nI_clamp (by omega), hw'.2.1, hw'.2.2]
              exact ⟨(vp_in_nI (by omega) (by omega)), pp_n (by decide) (pp_n (by decide) ⟨(vp_in_nI (by omega) (by omega)), q_M_isDrink_y (hY y hy).2.1 h6 hdn (r11 (pp_n (by rw [t0 y hy]; exact fun e => c0 e.symm) (pp_y (by rw [t2 y hy]; exact c2) ⟨.inr rfl, hP⟩)))⟩)⟩
            · have hw' := hall y hy
              refine q_rem (q119 y hy) p3 ?_
              unfold S_M_steps_r113 S_M_hosts_r113
              rw [nI_1, nI_clamp (by omega), nI_clamp (by omega), show gA (remY a2 y) 111 (2 * (16 * w + i)) = nI 2 from hw'.2.1, show gA (remY a2 y) 111 (2 * (16 * w + i) + 1) = nI d from hw'.2.2]
              refine ⟨(vp_in_nI (by omega) (by omega)), pp_n (by decide) ⟨(vp_in_nI (by omega) (by omega)), pp_n (by decide) ⟨(vp_in_nI (by omega) (by omega)), ev (ev (hP _ _ ?_))⟩⟩⟩
              unfold HM
              rw [q119 y hy, tN_nI (by omega), show sA (remY a2 y) 113 24 (nI d) = sF (remY a2 y) 113 (upd (gA y 113) 24 (nI d)) from rfl, sA_sF]
          · refine q_HX_n hz hl (.inr ⟨d, hdn, rfl, .inr c2⟩) (r01 (out (fun _ _ => True) (fun y hy P hP => ?_) (fun _ _ => trivial)))
            have hw' := hall y hy
            unfold S_M_canStep_r113 S_M_canHost_r113
            rw [nI_1, nI_clamp (by omega), nI_clamp (by omega), hw'.2.1, hw'.2.2]
            exact ⟨(vp_in_nI (by omega) (by omega)), pp_n (by decide) (pp_n (by decide) ⟨(vp_in_nI (by omega) (by omega)), q_M_isDrink_y (hY y hy).2.1 h6 hdn (r11 (pp_n (by rw [t0 y hy]; exact fun e => c0 e.symm) (pp_n (by rw [t2 y hy]; exact c2) ⟨.inl rfl, hP⟩)))⟩)⟩
      · refine q_HX_n hz hl (.inl (ix_n hdn (by omega) (by omega))) (r01 (out (fun _ _ => True) (fun y hy P hP => ?_) (fun _ _ => trivial)))
        have hw' := hall y hy
        unfold S_M_canStep_r113 S_M_canHost_r113
        rw [nI_1, nI_clamp (by omega), nI_clamp (by omega), hw'.2.1, hw'.2.2]
        exact ⟨(vp_in_nI (by omega) (by omega)), pp_n (by decide) (pp_n (by decide) ⟨(vp_in_nI (by omega) (by omega)), q_M_isDrink_n (hY y hy).2.1 (ix_n hdn (by omega) (by omega)) (r01 ⟨.inl rfl, hP⟩)⟩)⟩
theorem o_perform {V V' : Nat} (hV1 : V + 60 ≤ V') (hVb : V' < 2 ^ 29) : St_perform (Inv V) (Inv V') := by
  intro z y a1 a2 a3 a4 a5 h
  have hV : V ≤ V' := by omega
  obtain ⟨nd, ng, mo, wg, q, lk, lw, hz, hy0, hl⟩ := h.ctx
  have hT := h.ta
  have h6 := hl.1
  have g6 := hl.2.1
  have hI : Inv V' z (sI y 100 0) := h.fr hV Fr.rf yt
  have hy := hy0.fr (yt : Fr MS MA y (sI y 100 0)) (by decide) (by decide)
  have hI0 : Inv V z (sI y 100 0) := h.fr (Nat.le_refl _) Fr.rf yt
  obtain ⟨wn, hw⟩ := hI0.win
  have w4 := hw.2.2.1
  unfold S_B_perform S_M_perform
  rcases Nat.eq_zero_or_pos ng with e | e
  · refine q_isTold_n hz.2.1 e (r01 (ev ?_))
    rcases ix_cases a1 (n := wn) (by omega) with c | ⟨g, hg, rfl⟩
    · exact q_M_isWinter_n hw.2.1 c (r01 ⟨rfl, hI⟩)
    · exact q_M_isWinter_y hw.2.1 w4 hg (r11 (pp_y (by rw [hy.2.1, e]; rfl) ⟨rfl, hI⟩))
  · have hn : ¬ gI (sI y 100 0) 112 = 0 := by rw [hy.2.1]; exact nI_ne0 e (by omega)
    refine q_isTold_y hz.2.1 g6 e (r11 ?_)
    rcases ix_cases a1 (n := wn) (by omega) with c | ⟨g, hg, rfl⟩
    · exact q_B_hasWinter_n hw.1 c (r01 (ev (q_M_isWinter_n hw.2.1 c (r01 ⟨rfl, hI⟩))))
    · refine q_B_hasWinter_y hw.1 w4 hg (r11 ⟨(vp_in_nI (by omega) (by omega)), ev ?_⟩)
      rw [nI_clamp (by omega), show 0 + g = g by omega]
      obtain ⟨hN, _⟩ := hw.at hg rfl
      refine ⟨gZ z (8 + g) + 1, perform_loop hl e hN w4 hg (show V + gZ z (8 + g) ≤ V' by omega) hVb (gZ z (8 + g)) 0 (by omega) z (fun y' => y' = sI y 100 0) _ hz hw.1 rfl ⟨_, rfl⟩ (fun y' hy' => ?_) (fun r z1 hq => ?_) (gZ z (8 + g) + 1) (Nat.le_refl _)⟩
      · subst hy'; exact ⟨hI0, hy⟩
      · exact ev (q_M_isWinter_y hw.2.1 w4 hg (r11 (pp_n hn ⟨_, hq _ rfl _ (Nat.le_refl _)⟩)))
