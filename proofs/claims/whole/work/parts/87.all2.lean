/-! nobles, all, brought -/
def nobP (nd mo : Nat) (q : Nat → Nat) (lk : Nat → Int32) (lw : Option ((Nat → Int32) → Int32)) (c : Nat → Int32) (g : Nat) : Bool :=
  match brC nd mo q lk lw g c with
  | none => false
  | some b => decide (q (tN (c 0)) < q b)
theorem nob_X {nd ng mo wg : Nat} {q : Nat → Nat} {lk : Nat → Int32} {lw : Option ((Nat → Int32) → Int32)} (hl : Lim nd ng mo wg q) (h0 : 0 < ng) {V : Nat} {c : Nat → Int32} (tb : TB V nd c) : ∀ m i, i + m = ng → ∀ (z : St) (post : Int32 → St → Prop), CZ nd ng mo wg q lk lw z → gA z 23 = c → (∀ z', Fr [] [21, 22] z z' → post (bitR (fun g => nobP nd mo q lk lw c g = true) ng) z') → ∀ k, m + 1 ≤ k → L_Table_nobles_8_4 post k (bitR (fun g => nobP nd mo q lk lw c g = true) i) (nI i) z := by
  have h6 := hl.1
  have g6 := hl.2.1
  obtain ⟨eg, hgot⟩ := tb.got h6 (hl.2.2.2.2.2.1 h0)
  intro m
  induction m with
  | zero =>
    intro i hi z post hz ec hp k hk
    obtain ⟨k, rfl⟩ : ∃ j, k = j + 1 := ⟨k - 1, by omega⟩
    show B_Table_nobles_8_4 post _ _ _ z
    unfold B_Table_nobles_8_4
    rw [show gI z 27 = nI ng from hz.2.1]
    refine pp_y (nI_le (by omega) (by omega)) ?_
    rw [show i = ng by omega]; exact hp z Fr.rf
  | succ m ih =>
    intro i hi z post hz ec hp k hk
    obtain ⟨k, rfl⟩ : ∃ j, k = j + 1 := ⟨k - 1, by omega⟩
    obtain ⟨em, hm⟩ := tb.mo (show i < 6 by omega)
    have eb : bitR (fun g => nobP nd mo q lk lw c g = true) (i + 1) = if nobP nd mo q lk lw c i = true then bitR (fun g => nobP nd mo q lk lw c g = true) i ||| ((1 : Int32) <<< (nI i &&& 31)) else bitR (fun g => nobP nd mo q lk lw c g = true) i := rfl
    show B_Table_nobles_8_4 post _ _ _ z
    unfold B_Table_nobles_8_4 B_Table_nobles_8_64 S_Table_wouldBring_8
    rw [show gI z 27 = nI ng from hz.2.1, nI_1, nI_clamp (by omega), k10, k4, nI_add, nI_add, nI_clamp (by omega), nI_clamp (by omega), ec, hz.2.2.2.2.2.1 i (by omega), em, show c 0 = nI (tN (c 0)) from eg]
    refine pp_n (nI_ge (by omega) (by omega)) ⟨(vp_in_nI (by omega) (by omega)), (vp_in_nI (by omega) (by omega)), (vp_in_nI (by omega) (by omega)), q_brings8 hz hl hgot hm (fun z' hf => ?_)⟩
    have hz' : CZ nd ng mo wg q lk lw z' := hz.fr hf (by decide) (by decide)
    have ec' : gA z' 23 = c := (hf.2.1 23 (by decide)).trans ec
    have next : ∀ x : Int32, x = bitR (fun g => nobP nd mo q lk lw c g = true) (i + 1) → L_Table_nobles_8_4 post k x (nI (i + 1)) z' := fun x hx => by
      rw [hx]
      exact ih (i + 1) (by omega) z' post hz' ec' (fun z2 hf2 => hp z2 (hf.tr hf2)) k (by omega)
    rw [ec, show bringN nd q mo (fun d => c (22 + d)) lw (lk i) (tN (c (10 + i))) (c (4 + i)) (c 3) (tN (c 0)) = brC nd mo q lk lw i c from rfl]
    cases hb : brC nd mo q lk lw i c with
    | none =>
      refine pp_y rfl (ev (next _ ?_))
      rw [eb, if_neg]; unfold nobP; rw [hb]; exact Bool.false_ne_true
    | some b =>
      have hbl := (br_lt hb).1
      have nob : nobP nd mo q lk lw c i = decide (q (tN (c 0)) < q b) := by unfold nobP; rw [hb]
      have q9 := hl.2.2.2.2.1 b hbl
      have q9' := hl.2.2.2.2.1 _ hgot
      show (nI b = -1 → _) ∧ (¬ nI b = -1 → vp_in (nI b) 6 ∧ vp_in (gA z' 23 0) 6 ∧ (gA z' 18 (nI b).toNatClampNeg ≤ gA z' 18 (gA z' 23 0).toNatClampNeg → _) ∧ (¬ gA z' 18 (nI b).toNatClampNeg ≤ gA z' 18 (gA z' 23 0).toNatClampNeg → _))
      rw [ec', show c 0 = nI (tN (c 0)) from eg, nI_clamp (by omega), nI_clamp (by omega), hz'.2.2.2.2.1 b hbl, hz'.2.2.2.2.1 _ hgot, nI_leI (by omega) (by omega)]
      refine pp_n (fun e => (nI_m1 (by omega)).mp e) ⟨(vp_in_nI (by omega) (by omega)), (vp_in_nI (by omega) (by omega)), fun c2 => ev (next _ ?_), fun c2 => ev (ev (next _ ?_))⟩
      · rw [eb, nob, if_neg (by rw [decide_eq_true_iff]; omega)]
      · rw [eb, nob, if_pos (by rw [decide_eq_true_iff]; omega)]
theorem nob_M {nd ng mo wg : Nat} {q : Nat → Nat} {lk : Nat → Int32} {lw : Option ((Nat → Int32) → Int32)} (hl : Lim nd ng mo wg q) (h0 : 0 < ng) {V : Nat} {c : Nat → Int32} (tb : TB V nd c) (hV2 : V < 2 ^ 31) : ∀ m i, i + m = ng → ∀ (y : St) (post : Int32 → St → Prop), CY nd ng mo wg q lk lw y → TR (gA y 113) c → (∀ y', Fr RD [104] y y' → post (bitR (fun g => nobP nd mo q lk lw c g = true) ng) y') → ∀ k, m + 1 ≤ k → L_M_noble_4 post k (bitR (fun g => nobP nd mo q lk lw c g = true) i) (nI i) y := by
  have h6 := hl.1
  have g6 := hl.2.1
  obtain ⟨eg, hgot⟩ := tb.got h6 (hl.2.2.2.2.2.1 h0)
  intro m
  induction m with
  | zero =>
    intro i hi y post hy tr hp k hk
    obtain ⟨k, rfl⟩ : ∃ j, k = j + 1 := ⟨k - 1, by omega⟩
    show B_M_noble_4 post _ _ _ y
    unfold B_M_noble_4
    rw [show gI y 112 = nI ng from hy.2.1]
    refine pp_y (nI_le (by omega) (by omega)) ?_
    rw [show i = ng by omega]; exact hp y Fr.rf
  | succ m ih =>
    intro i hi y post hy tr hp k hk
    obtain ⟨k, rfl⟩ : ∃ j, k = j + 1 := ⟨k - 1, by omega⟩
    obtain ⟨em, hm⟩ := tb.mo (show i < 6 by omega)
    have tg := tr.g (show i < 6 by omega)
    have t0 : gA y 113 24 = nI (tN (c 0)) := tr.b.1.trans eg
    have eb : bitR (fun g => nobP nd mo q lk lw c g = true) (i + 1) = if nobP nd mo q lk lw c i = true then bitR (fun g => nobP nd mo q lk lw c g = true) i ||| ((1 : Int32) <<< (nI i &&& 31)) else bitR (fun g => nobP nd mo q lk lw c g = true) i := rfl
    show B_M_noble_4 post _ _ _ y
    unfold B_M_noble_4 B_M_noble_56 B_M_noble_57 S_M_makesNow
    rw [show gI y 112 = nI ng from hy.2.1, nI_1 i, k3, pk_mul, k1, nI_add, show nI (3 * i) + 0 = nI (3 * i) from nI_add _ 0, nI_clamp (by omega), nI_clamp (by omega), t0, hy.2.2.2.2.2.1 i (by omega), tg.2.1, em]
    refine pp_n (nI_ge (by omega) (by omega)) ⟨(vp_in_nI (by omega) (by omega)), (vp_in_nI (by omega) (by omega)), (vp_in_nI (by omega) (by omega)), q_makesOf113 hy hl hgot hm (by rw [tg.1]; exact tb.m_min (by omega)) (by rw [tr.b.2.2.2]; exact tb.n_min hV2) (by rw [tr.d (by omega)]; exact tb.p_min (by omega)) (fun y' hf => ?_)⟩
    have hy' : CY nd ng mo wg q lk lw y' := hy.fr hf (by decide) (by decide)
    have e113 : gA y' 113 = gA y 113 := hf.2.1 113 (by decide)
    have next : ∀ x : Int32, x = bitR (fun g => nobP nd mo q lk lw c g = true) (i + 1) → L_M_noble_4 post k x (nI (i + 1)) y' := fun x hx => by
      rw [hx]
      exact ih (i + 1) (by omega) y' post hy' (by rw [e113]; exact tr) (fun y2 hf2 => hp y2 (hf.tr hf2)) k (by omega)
    rw [bring_tr tr (by omega) hgot h6, show bringN nd q mo (fun d => c (22 + d)) lw (lk i) (tN (c (10 + i))) (c (4 + i)) (c 3) (tN (c 0)) = brC nd mo q lk lw i c from rfl]
    cases hb : brC nd mo q lk lw i c with
    | none =>
      refine pp_y rfl (ev (ev (next _ ?_)))
      rw [or0, eb, if_neg]; unfold nobP; rw [hb]; exact Bool.false_ne_true
    | some b =>
      have hbl := (br_lt hb).1
      have nob : nobP nd mo q lk lw c i = decide (q (tN (c 0)) < q b) := by unfold nobP; rw [hb]
      have q9 := hl.2.2.2.2.1 b hbl
      have q9' := hl.2.2.2.2.1 _ hgot
      rw [show enc (some b) = nI b from rfl]
      refine pp_n (fun e => (nI_m1 (by omega)).mp e) (q_quality hl hy' hbl ?_)
      rw [e113, t0]
      refine q_quality hl hy' hgot ?_
      rw [nI_leI (by omega) (by omega)]
      refine ⟨fun c2 => ev (ev (next _ ?_)), fun c2 => ev (ev (next _ ?_))⟩
      · rw [or0, eb, nob, if_neg (by rw [decide_eq_true_iff]; omega)]
      · rw [eb, nob, if_pos (by rw [decide_eq_true_iff]; omega)]; rfl
theorem TB.jo {V nd : Nat} {c : Nat → Int32} (h : TB V nd c) (hV : V < 2 ^ 25) {g : Nat} (hg : g < 6) : c (16 + g) = nI (tN (c (16 + g))) ∧ tN (c (16 + g)) < 2 ^ 30 := by
  obtain ⟨b, hb, e⟩ := h.2.2.2.2.2.2.1 g hg
  rw [e, tN_nI (by omega)]
  exact ⟨rfl, by omega⟩
theorem TB.mn {V nd : Nat} {c : Nat → Int32} (h : TB V nd c) {g : Nat} (hg : g < 6) : c (4 + g) = nI (tN (c (4 + g))) ∧ tN (c (4 + g)) ≤ 99 := by
  obtain ⟨b, hb, e⟩ := h.2.2.2.2.1 g hg
  rw [e, tN_nI (by omega)]
  exact ⟨rfl, hb⟩
theorem TB.pr {V nd : Nat} {c : Nat → Int32} (h : TB V nd c) {d : Nat} (hd : d < 6) : c (22 + d) = nI (tN (c (22 + d))) ∧ tN (c (22 + d)) ≤ 60 := by
  obtain ⟨b, hb, e⟩ := h.2.2.2.2.2.2.2 d hd
  rw [e, tN_nI (by omega)]
  exact ⟨rfl, hb⟩
theorem o_brought {V V' : Nat} (hV : V ≤ V') (hb : V < 2 ^ 25) : St_brought (Inv V) (Inv V') := by
  intro z y a1 a2 a3 a4 a5 h
  obtain ⟨nd, ng, mo, wg, q, lk, lw, hz, hy0, hl⟩ := h.ctx
  have hT := h.ta
  have h6 := hl.1
  have g6 := hl.2.1
  have hI : Inv V' z (sI y 100 0) := h.fr hV Fr.rf yt
  have hy := hy0.fr (yt : Fr MS MA y (sI y 100 0)) (by decide) (by decide)
  obtain ⟨v, ta⟩ := h.taN hz.1 h6
  have hv := ta.2.2.2.1
  have bk := ta.2.2.2.2
  unfold S_B_brought S_M_brought
  rcases ix_cases a1 (n := nd) (by omega) with c | ⟨d, hd, rfl⟩
  · exact q_House_hasDrink_n hz.1 c (r01 (ev (q_M_isDrink_n hy.1 c (r01 ⟨rfl, hI⟩))))
  · refine q_House_hasDrink_y hz.1 h6 hd (r11 ?_)
    unfold S_Table_visits_8
    rw [ta.2.2.1]
    refine q_times (by omega) (ev (q_M_isDrink_y hy.1 h6 hd (r11 (q_pagesOf (y := sI y 100 0) bk.1 (by omega) ⟨?_, hI⟩))))
    exact (pages_eq bk).symm
theorem o_all {V V' : Nat} (hV : V ≤ V') (hb : V < 2 ^ 25) : St_all (Inv V) (Inv V') := by
  intro z y a1 a2 a3 a4 a5 h
  obtain ⟨nd, ng, mo, wg, q, lk, lw, hz, hy0, hl⟩ := h.ctx
  have hT := h.ta
  have h6 := hl.1
  have g6 := hl.2.1
  have hI : Inv V' z (sI y 100 0) := h.fr hV Fr.rf yt
  have hy := hy0.fr (yt : Fr MS MA y (sI y 100 0)) (by decide) (by decide)
  obtain ⟨v, ta⟩ := h.taN hz.1 h6
  have hv := ta.2.2.2.1
  have bk := ta.2.2.2.2
  have tb := ta.2.1
  unfold S_B_all S_M_all
  rcases Nat.eq_zero_or_pos ng with e | e
  · exact q_isTold_n hz.2.1 e (r01 (ev (pp_y (by rw [hy.2.1, e]; rfl) ⟨rfl, hI⟩)))
  · have hn : ¬ gI (sI y 100 0) 112 = 0 := by rw [hy.2.1]; exact nI_ne0 e (by omega)
    have n2 := hl.2.2.2.2.2.1 e
    refine q_isTold_y hz.2.1 g6 e (r11 ?_)
    by_cases c0 : a1 = 0
    · refine pp_y c0 (q_sourest (f := fun g => tN (gA z 23 (10 + g))) hz.2.1 e g6 (fun g hg => (tb.mo (by omega)).1) (fun g hg => by have := (tb.mo (show g < 6 by omega)).2; omega) (ev (pp_n hn (pp_y c0 ?_))))
      exact q_greatest (what := 1) (f := fun g => tN (gA z 23 (10 + g))) hy.2.1 e g6 (by omega) (fun g hg => (hT.g (show g < 6 by omega)).2.1.trans (tb.mo (by omega)).1) (fun g hg => by have := (tb.mo (show g < 6 by omega)).2; omega) ⟨rfl, hI⟩
    refine pp_n c0 ?_
    by_cases c1 : a1 = 1
    · refine pp_y c1 ?_
      unfold S_Table_richest_8
      refine q_most (first := 4) (f := fun g => tN (gA z 23 (4 + g))) hz.2.1 e g6 (by omega) (fun g hg => (tb.mn (by omega)).1) (fun g hg => by have := (tb.mn (show g < 6 by omega)).2; omega) (ev (pp_n hn (pp_n c0 (pp_y c1 ?_))))
      exact q_greatest (what := 0) (f := fun g => tN (gA z 23 (4 + g))) hy.2.1 e g6 (by omega) (fun g hg => (hT.g (show g < 6 by omega)).1.trans (tb.mn (by omega)).1) (fun g hg => by have := (tb.mn (show g < 6 by omega)).2; omega) ⟨rfl, hI⟩
    refine pp_n c1 ?_
    by_cases c2 : a1 = 2
    · refine pp_y c2 ?_
      unfold S_Table_merriest_8
      refine q_most (first := 16) (f := fun g => tN (gA z 23 (16 + g))) hz.2.1 e g6 (by omega) (fun g hg => (tb.jo hb (by omega)).1) (fun g hg => (tb.jo hb (by omega)).2) (ev (pp_n hn (pp_n c0 (pp_n c1 (pp_y c2 ?_)))))
      exact q_greatest (what := 2) (f := fun g => tN (gA z 23 (16 + g))) hy.2.1 e g6 (by omega) (fun g hg => (hT.g (show g < 6 by omega)).2.2.trans (tb.jo hb (by omega)).1) (fun g hg => (tb.jo hb (by omega)).2) ⟨rfl, hI⟩
    refine pp_n c2 ?_
    by_cases c3 : a1 = 3
    · exact pp_y c3 (q_liked hl hz n2 (ev (pp_n hn (pp_n c0 (pp_n c1 (pp_n c2 (pp_y c3 (q_loved hl hy n2 ⟨rfl, hI⟩))))))))
    refine pp_n c3 ?_
    by_cases c4 : a1 = 4
    · refine pp_y c4 ?_
      unfold S_Table_visits_8
      rw [ta.2.2.1]
      have bd : ∀ i, i < min 60 v → tN (gA z 26 (4 * ((v - i) % 100) + 1)) < nd ∧ gA z 26 (4 * ((v - i) % 100) + 1) = nI (tN (gA z 26 (4 * ((v - i) % 100) + 1))) := fun i hi => by
        obtain ⟨d, hd, ed⟩ := bk.2.2 i hi
        rw [ed, tN_nI (by omega)]; exact ⟨hd, rfl⟩
      refine q_middle hl hz (by omega) bd (ev (pp_n hn (pp_n c0 (pp_n c1 (pp_n c2 (pp_n c3 (pp_y c4 ?_)))))))
      refine q_middleM hl hy (y := sI y 100 0) (n := min 60 v) (d := fun i => tN (gA z 26 (4 * ((v - (min 60 v - 1 - i)) % 100) + 1))) bk.1 (by omega) (fun i hi => ?_) ⟨?_, hI⟩
      · have b2 := bk.2.1 (min 60 v - 1 - i) 1 (by omega) (by omega)
        rw [show min 60 v - 1 - (min 60 v - 1 - i) = i by omega] at b2
        have b3 := bd (min 60 v - 1 - i) (by omega)
        exact ⟨b3.1, b2.trans b3.2⟩
      · rw [← sumI_rev (fun i => nI (q (tN (gA z 26 (4 * ((v - i) % 100) + 1))))) (min 60 v)]
    refine pp_n c4 ?_
    by_cases c5 : a1 = 5
    · refine pp_y c5 ?_
      unfold S_Table_visits_8
      rw [ta.2.2.1]
      refine q_times (by omega) (ev (pp_n hn (pp_n c0 (pp_n c1 (pp_n c2 (pp_n c3 (pp_n c4 (pp_y c5 ?_))))))))
      exact q_pagesOf (y := sI y 100 0) bk.1 (by omega) ⟨(pages_eq bk).symm, hI⟩
    refine pp_n c5 ?_
    by_cases c6 : a1 = 6
    · refine pp_y c6 (q_least (f := fun d => tN (gA z 23 (22 + d))) hz.1 n2 h6 (fun d hd => tb.pr (by omega)) (ev (pp_n hn (pp_n c0 (pp_n c1 (pp_n c2 (pp_n c3 (pp_n c4 (pp_n c5 (pp_y c6 ?_))))))))))
      refine q_poorest (f := fun d => tN (gA z 23 (22 + d))) hy.1 n2 h6 (fun d hd => ?_) ⟨rfl, hI⟩
      exact ⟨(hT.d (show d < 6 by omega)).trans (tb.pr (by omega)).1, (tb.pr (by omega)).2⟩
    refine pp_n c6 ?_
    by_cases c7 : a1 = 7
    · refine pp_y c7 ⟨ng + 1, nob_X hl e tb ng 0 (by omega) z _ hz rfl (fun z' hf => ?_) _ (Nat.le_refl _)⟩
      refine ev (pp_n hn (pp_n c0 (pp_n c1 (pp_n c2 (pp_n c3 (pp_n c4 (pp_n c5 (pp_n c6 (pp_y c7 ⟨ng + 1, nob_M hl e tb (by omega) ng 0 (by omega) (sI y 100 0) _ hy hT (fun y' hf2 => ⟨rfl, ?_⟩) _ (Nat.le_refl _)⟩)))))))))
      exact hI.fr (Nat.le_refl _) (hf.wk (by decide) (by decide)) (hf2.wk (by decide) (by decide))
    refine pp_n c7 ?_
    exact ev (pp_n hn (pp_n c0 (pp_n c1 (pp_n c2 (pp_n c3 (pp_n c4 (pp_n c5 (pp_n c6 (pp_n c7 ⟨rfl, hI⟩)))))))))
