/-! a winter that goes round -/
def rndC (nd ng mo wg : Nat) (q : Nat → Nat) (lk : Nat → Int32) (lw : Option ((Nat → Int32) → Int32)) (s : Nat → Nat) (N : Nat) (b : Int32) : Nat → Nat → (Nat → Int32) → Int32
  | 0, _, _ => -1
  | m + 1, t, c => if (goC nd ng mo wg q lk lw s N 0 c).1 < N then -1 else if (goC nd ng mo wg q lk lw s N 0 c).2.1 0 = b then nI t else rndC nd ng mo wg q lk lw s N b m (t + 1) (goC nd ng mo wg q lk lw s N 0 c).2.1
theorem rnd_X {nd ng mo wg : Nat} {q : Nat → Nat} {lk : Nat → Int32} {lw : Option ((Nat → Int32) → Int32)} (hl : Lim nd ng mo wg q) (h0 : 0 < ng) {N w : Nat} (hN : N ≤ 16) (hw : w < 4) {s : Nat → Nat} (hs : ∀ i, i < N → s i < 30) : ∀ m t, t + m = 31 → ∀ (z : St) (V : Nat) (post : Int32 → St → Prop), CZ nd ng mo wg q lk lw z → TB V nd (gA z 24) → gZ z (8 + w) = N → (∀ i, i < N → gA z (32 + w) i = nI (s i)) → (∀ z', Fr [] [21, 22, 24] z z' → post (rndC nd ng mo wg q lk lw s N (gA z 23 0) m t (gA z 24)) z') → ∀ k, m + 1 ≤ k → L_B_round_33 post k (nI w) (nI t) z := by
  intro m
  induction m with
  | zero =>
    intro t ht z V post hz tb eN es hp k hk
    obtain ⟨k, rfl⟩ : ∃ j, k = j + 1 := ⟨k - 1, by omega⟩
    show B_B_round_33 post _ _ _ z
    unfold B_B_round_33
    rw [k30, nI_ltI (by omega) (by omega)]
    exact pp_y (by omega) (hp z Fr.rf)
  | succ m ih =>
    intro t ht z V post hz tb eN es hp k hk
    obtain ⟨k, rfl⟩ : ∃ j, k = j + 1 := ⟨k - 1, by omega⟩
    show B_B_round_33 post _ _ _ z
    unfold B_B_round_33 S_Table_goThrough_9_dyn17
    rw [k30, nI_ltI (by omega) (by omega), nI_clamp (by omega), show 0 + w = w by omega]
    refine pp_n (by omega) ⟨(vp_in_nI (by omega) (by omega)), ev ⟨N + 1, go_X hl h0 hN hw hs N 0 (by omega) z V _ hz tb eN es (fun z' hf e => ⟨(vp_in_nI (by omega) (by omega)), ev ⟨(vp_in_nI (by omega) (by omega)), rfl, ?_⟩⟩) _ (Nat.le_refl _)⟩⟩
    have hle := goC_le (nd := nd) (ng := ng) (mo := mo) (wg := wg) (q := q) (lk := lk) (lw := lw) (s := s) N 0 (gA z 24)
    rw [hf.2.2.1, eN]
    show (nI N ≤ nI _ → _) ∧ (¬ nI N ≤ nI _ → _)
    rw [nI_leI (by omega) (by omega)]
    unfold S_Table_bottle_9 S_Table_bottle_8
    refine ⟨fun c => ?_, fun c => ?_⟩
    · have c1 : ¬ (goC nd ng mo wg q lk lw s N 0 (gA z 24)).1 < N := by omega
      show (gA z' 24 0 = gA z' 23 0 → post (nI t) z') ∧ (¬ gA z' 24 0 = gA z' 23 0 → ∀ v9 : Int32, v9 = nI t + 1 → L_B_round_33 post k (nI w) v9 z')
      have e23 : gA z' 23 = gA z 23 := hf.2.1 23 (by decide)
      rw [e, e23]
      refine ⟨fun c2 => ?_, fun c2 => ev ?_⟩
      · have := hp z' hf
        rw [rndC, if_neg c1, if_pos c2] at this
        exact this
      · rw [nI_1]
        refine ih (t + 1) (by omega) z' (V + N) post (hz.fr hf (by decide) (by decide)) (by rw [e]; exact goC_TB hl hs N 0 _ V (by omega) tb) (by rw [hf.2.2.1]; exact eN) (fun i hi => ?_) (fun z2 hf2 => ?_) k (by omega)
        · rw [hf.2.1 (32 + w) (by intro q; simp at q; omega)]; exact es i hi
        · have := hp z2 (hf.tr hf2)
          rw [rndC, if_neg c1, if_neg c2] at this
          rw [e, e23]; exact this
    · have := hp z' hf
      rw [rndC, if_pos (by omega)] at this
      exact this
theorem rnd_M {nd ng mo wg : Nat} {q : Nat → Nat} {lk : Nat → Int32} {lw : Option ((Nat → Int32) → Int32)} (hl : Lim nd ng mo wg q) {N w : Nat} (hN : N ≤ 16) (hw : w < 4) {s : Nat → Nat} (hs : ∀ i, i < N → s i < 30) : ∀ m t, t + m = 31 → ∀ (y : St) (c : Nat → Int32) (V : Nat) (post : Int32 → St → Prop), CY nd ng mo wg q lk lw y → TR (gA y 114) c → TB V nd c → V + 16 * m + 16 < 2 ^ 31 → gA y 112 w = nI N → (∀ i, i < N → gA y 111 (2 * (16 * w + i)) = nI (s i / 10) ∧ gA y 111 (2 * (16 * w + i) + 1) = (if s i / 10 = 1 then -1 else nI (s i % 10))) → (∀ y', Fr (120 :: RD) [104, 114] y y' → post (rndC nd ng mo wg q lk lw s N (gA y 113 24) m t c) y') → ∀ k, m + 1 ≤ k → L_M_round_35 post k (nI w) (nI t) y := by
  intro m
  induction m with
  | zero =>
    intro t ht y c V post hy tr tb hVb eN es hp k hk
    obtain ⟨k, rfl⟩ : ∃ j, k = j + 1 := ⟨k - 1, by omega⟩
    show B_M_round_35 post _ _ _ y
    unfold B_M_round_35
    rw [k30, nI_ltI (by omega) (by omega)]
    exact pp_y (by omega) (hp y Fr.rf)
  | succ m ih =>
    intro t ht y c V post hy tr tb hVb eN es hp k hk
    obtain ⟨k, rfl⟩ : ∃ j, k = j + 1 := ⟨k - 1, by omega⟩
    have hle := goC_le (nd := nd) (ng := ng) (mo := mo) (wg := wg) (q := q) (lk := lk) (lw := lw) (s := s) N 0 c
    have hf0 : Fr (120 :: RD) [104, 114] y (sI (sA y 114 28 0) 120 0) := (Fr.rf.sA (by decide)).sI (by decide)
    show B_M_round_35 post _ _ _ y
    unfold B_M_round_35 S_M_runs
    rw [k30, nI_ltI (by omega) (by omega), nI_clamp (by omega)]
    refine pp_n (by omega) (ev (ev ⟨N + 1, go_M hl hN hw hs N 0 (by omega) _ c V 0 0 _ (hy.fr hf0 (by decide) (by decide)) ?_ tb rfl (by omega) rfl eN es (fun y' bl' hf t2 e2 hb2 e3 => ⟨(vp_in_nI (by omega) (by omega)), ?_⟩) _ (Nat.le_refl _)⟩))
    · exact tr.cg (fun k hk => by rw [show gA (sI (sA y 114 28 0) 120 0) 114 = upd (gA y 114) 28 0 from rfl, pk_un (by omega)]) (fun _ _ => rfl)
    · have hf1 : Fr (120 :: RD) [104, 114] y y' := hf0.tr hf
      have e112 : gA y' 112 = gA y 112 := hf1.2.1 112 (by decide)
      have e113 : gA y' 113 = gA y 113 := hf1.2.1 113 (by decide)
      rw [e112, eN, nI_leI (by omega) (by omega), e113, t2.b.1]
      refine ⟨fun c1 => ⟨fun c2 => ?_, fun c2 => ev ?_⟩, fun c1 => ?_⟩
      · have := hp y' hf1
        rw [rndC, if_neg (by omega), if_pos c2] at this
        exact this
      · rw [nI_1]
        refine ih (t + 1) (by omega) y' _ (V + N) post (hy.fr hf1 (by decide) (by decide)) t2 (goC_TB hl hs N 0 _ V (by omega) tb) (by omega) (by rw [e112]; exact eN) (by rw [hf1.2.1 111 (by decide)]; exact es) (fun y2 hf2 => ?_) k (by omega)
        have := hp y2 (hf1.tr hf2)
        rw [rndC, if_neg (by omega), if_neg c2] at this
        rw [e113]; exact this
      · have := hp y' hf1
        rw [rndC, if_pos (by omega)] at this
        exact this
theorem o_round {V V' : Nat} (hV : V ≤ V') (hVb : V < 2 ^ 29) : St_round (Inv V) (Inv V') := by
  intro z y a1 a2 a3 a4 a5 h
  obtain ⟨nd, ng, mo, wg, q, lk, lw, hz, hy0, hl⟩ := h.ctx
  have hT := h.ta
  have h6 := hl.1
  have g6 := hl.2.1
  have hI : Inv V' z (sI y 100 0) := h.fr hV Fr.rf yt
  have hy := hy0.fr (yt : Fr MS MA y (sI y 100 0)) (by decide) (by decide)
  have hI0 : Inv V z (sI y 100 0) := h.fr (Nat.le_refl _) Fr.rf yt
  obtain ⟨wn, hw⟩ := hI0.win
  have w4 := hw.2.2.1
  obtain ⟨v, ta⟩ := hI0.taN hz.1 h6
  unfold S_B_round S_M_round
  rcases Nat.eq_zero_or_pos ng with e | e
  · refine q_isTold_n hz.2.1 e (r01 (ev ?_))
    rcases ix_cases a1 (n := wn) (by omega) with c | ⟨g, hg, rfl⟩
    · exact q_M_isWinter_n hw.2.1 c (r01 ⟨rfl, hI⟩)
    · exact q_M_isWinter_y hw.2.1 w4 hg (r11 (pp_y (by rw [hy.2.1, e]; rfl) ⟨rfl, hI⟩))
  · have hn : ¬ gI (sI y 100 0) 112 = 0 := by rw [hy.2.1]; exact nI_ne0 e (by omega)
    refine q_isTold_y hz.2.1 g6 e (r11 ?_)
    rcases ix_cases a1 (n := wn) (by omega) with c | ⟨g, hg, rfl⟩
    · exact q_B_hasWinter_n hw.1 c (r01 (ev (q_M_isWinter_n hw.2.1 c (r01 ⟨rfl, hI⟩))))
    · obtain ⟨s1, s2, s3, s4, s5⟩ := hI0.steps hw.1 w4 hg
      have tb : TB V nd (va_cpy (gA z 23) (gA z 24) 0 0 28) := ta.2.1.cg (fun k hk => cpy_in hk)
      have fz : Fr XS XA z (sF z 24 (va_cpy (gA z 23) (gA z 24) 0 0 28)) := Fr.rf.sF (by decide)
      have fy : Fr MS MA (sI y 100 0) (sF (sI y 100 0) 114 (upd (fa_fill (gA (sI y 100 0) 113) (gA (sI y 100 0) 114) 28) 28 0)) := Fr.rf.sF (by decide)
      have tr : TR (upd (fa_fill (gA (sI y 100 0) 113) (gA (sI y 100 0) 114) 28) 28 0) (va_cpy (gA z 23) (gA z 24) 0 0 28) := ta.1.cg (fun k hk => by rw [pk_un (by omega), fa_fill_in hk]) (fun k hk => cpy_in hk)
      refine q_B_hasWinter_y hw.1 w4 hg (r11 (q_copyX ⟨31, rnd_X hl e s1 (by omega) (s := fun i => tN (gA z (32 + g) i)) s3 30 1 (by omega) _ V _ (hz.fr fz (by decide) (by decide)) ?_ rfl ?_ (fun z' hf => ?_) _ (Nat.le_refl _)⟩))
      · rw [gA_sF, if_pos rfl]; exact tb
      · intro i hi; rw [gA_sF, if_neg (by omega)]; exact s4 i hi
      · rw [gA_sF, if_neg (by decide), gA_sF, if_pos rfl]
        have fz2 : Fr XS XA z z' := fz.tr (hf.wk (by decide) (by decide))
        refine ev (q_M_isWinter_y hw.2.1 w4 hg (r11 (pp_n hn (q_copyM ⟨31, rnd_M hl s1 (by omega) (s := fun i => tN (gA z (32 + g) i)) s3 30 1 (by omega) _ (va_cpy (gA z 23) (gA z 24) 0 0 28) V _ (hy.fr fy (by decide) (by decide)) tr tb (by omega) s2 s5 (fun y' hf2 => ⟨?_, ?_⟩) _ (Nat.le_refl _)⟩))))
        · show rndC _ _ _ _ _ _ _ _ _ (gA z 23 0) _ _ _ = rndC _ _ _ _ _ _ _ _ _ (gA y 113 24) _ _ _
          rw [hT.b.1]
        · exact hI.fr (Nat.le_refl _) fz2 (fy.tr (hf2.wk (by decide) (by decide)))
