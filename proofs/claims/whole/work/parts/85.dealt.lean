/-! bottles dealt out -/
def dls (nd mo : Nat) (q : Nat → Nat) (lk : Nat → Int32) : Nat → Nat → Nat → Nat → Nat → List Lf
  | 0, _, row, joy, _ => [(row, joy, 0, 0)]
  | l + 1, g, row, joy, u => (List.range nd).flatMap (fun d => if u.testBit d = true then [] else dls nd mo q lk l (g + 1) (10 * row + d) (joy + joyN q mo (lk g) d) (u ||| 2 ^ d))
def stW (a : Int32 × Int32) (lf : Lf) : Int32 × Int32 := if nI lf.2.1 ≤ a.2 then a else (nI lf.1, nI lf.2.1)
def accW (z : St) : Int32 × Int32 := (gI z 36, gI z 37)
def accD (y : St) : Int32 × Int32 := (gI y 124, gI y 123)
theorem dl_X {nd ng mo wg : Nat} {q : Nat → Nat} {lk : Nat → Int32} {lw : Option ((Nat → Int32) → Int32)} (hl : Lim nd ng mo wg q) : ∀ l d, l < d → ∀ (z : St) (g row joy u : Nat) (post : St → Prop), g + l = ng → CZ nd ng mo wg q lk lw z → u < 64 → (∀ z', Fr [36, 37] [] z z' → accW z' = (dls nd mo q lk l g row joy u).foldl stW (accW z) → post z') → D_Rows_goDeals d post (nI g) (nI row) (nI joy) (nI u) z := by
  have h6 := hl.1
  have g6 := hl.2.1
  intro l
  induction l with
  | zero =>
    intro d hd z g row joy u post hg hz hu hp
    obtain ⟨d, rfl⟩ : ∃ j, d = j + 1 := ⟨d - 1, by omega⟩
    show S_Rows_goDeals _ post _ _ _ _ z
    unfold S_Rows_goDeals S_Rows_weigh
    rw [show gI z 27 = nI ng from hz.2.1, nI_ltI (by omega) (by omega)]
    refine pp_n (by omega) ⟨fun c => hp z Fr.rf ?_, fun c => ev (ev (hp _ ((Fr.rf.sI (by decide)).sI (by decide)) ?_))⟩
    · show _ = (if nI joy ≤ gI z 37 then accW z else (nI row, nI joy))
      rw [if_pos c]
    · show _ = (if nI joy ≤ gI z 37 then accW z else (nI row, nI joy))
      rw [if_neg c]; rfl
  | succ l ih =>
    intro d hd z g row joy u post hg hz hu hp
    obtain ⟨d, rfl⟩ : ∃ j, d = j + 1 := ⟨d - 1, by omega⟩
    show S_Rows_goDeals _ post _ _ _ _ z
    unfold S_Rows_goDeals
    rw [show gI z 27 = nI ng from hz.2.1, nI_ltI (by omega) (by omega)]
    refine pp_y (by omega) ?_
    have loop : ∀ m i, i + m = nd → ∀ z1, Fr [36, 37] [] z z1 → accW z1 = ((List.range i).flatMap (fun d => if u.testBit d = true then [] else dls nd mo q lk l (g + 1) (10 * row + d) (joy + joyN q mo (lk g) d) (u ||| 2 ^ d))).foldl stW (accW z) → ∀ k, m + 1 ≤ k → L_Rows_goDeals_21 (D_Rows_goDeals d) post k (nI g) (nI row) (nI joy) (nI u) (nI i) z1 := by
      intro m
      induction m with
      | zero =>
        intro i hi z1 hf ha k hk
        obtain ⟨k, rfl⟩ : ∃ j, k = j + 1 := ⟨k - 1, by omega⟩
        show B_Rows_goDeals_21 _ post _ _ _ _ _ _ z1
        unfold B_Rows_goDeals_21
        rw [show gI z1 26 = nI nd from (hf.1 26 (by decide)).trans hz.1]
        refine pp_y (nI_le (by omega) (by omega)) (hp z1 hf ?_)
        rw [ha, show i = nd by omega]; rfl
      | succ m ihm =>
        intro i hi z1 hf ha k hk
        obtain ⟨k, rfl⟩ : ∃ j, k = j + 1 := ⟨k - 1, by omega⟩
        have hz1 : CZ nd ng mo wg q lk lw z1 := hz.fr hf (by decide) (by decide)
        have hb0 := bit_0 u hu i (by omega)
        have hbu := bit_u u hu i (by omega)
        show B_Rows_goDeals_21 _ post _ _ _ _ _ _ z1
        unfold B_Rows_goDeals_21 B_Rows_goDeals_88
        rw [show gI z1 26 = nI nd from hz1.1, hb0, hbu.1, nI_1 i]
        refine pp_n (nI_ge (by omega) (by omega)) ⟨fun c => ⟨(vp_in_nI (by omega) (by omega)), ?_⟩, fun c => ev ?_⟩
        · rw [nI_clamp (by omega), hz1.2.2.2.2.2.1 g (by omega)]
          refine q_joyX hz1 hl (by omega) ?_
          rw [k10, pk_mul, nI_add, nI_add, nI_1]
          refine ih d (by omega) z1 (g + 1) _ _ _ _ (by omega) hz1 hbu.2 (fun z2 hf2 ha2 => ev ?_)
          refine ihm (i + 1) (by omega) z2 (hf.tr hf2) ?_ k (by omega)
          rw [List.range_succ, List.flatMap_append, List.foldl_append, ← ha, List.flatMap_singleton, if_neg (by rw [c]; decide)]
          exact ha2
        · have c' : u.testBit i = true := by simpa using c
          refine ihm (i + 1) (by omega) z1 hf ?_ k (by omega)
          rw [List.range_succ, List.flatMap_append, List.foldl_append, ← ha, List.flatMap_singleton, if_pos c']; rfl
    exact ⟨nd + 1, loop nd 0 (by omega) z Fr.rf rfl (nd + 1) (Nat.le_refl _)⟩
theorem dl_M {nd ng mo wg : Nat} {q : Nat → Nat} {lk : Nat → Int32} {lw : Option ((Nat → Int32) → Int32)} (hl : Lim nd ng mo wg q) : ∀ l d, l < d → ∀ (y : St) (g row joy u : Nat) (post : St → Prop), g + l = ng → CY nd ng mo wg q lk lw y → u < 64 → (∀ y', Fr [123, 124] [] y y' → accD y' = (dls nd mo q lk l g row joy u).foldl stW (accD y) → post y') → D_M_goDealt d post (nI g) (nI u) (nI joy) (nI row) y := by
  have h6 := hl.1
  have g6 := hl.2.1
  intro l
  induction l with
  | zero =>
    intro d hd y g row joy u post hg hy hu hp
    obtain ⟨d, rfl⟩ : ∃ j, d = j + 1 := ⟨d - 1, by omega⟩
    show S_M_goDealt _ post _ _ _ _ y
    unfold S_M_goDealt
    rw [show gI y 112 = nI ng from hy.2.1, nI_eq (by omega) (by omega)]
    refine pp_y (by omega) ⟨fun c => ev (ev (hp _ ((Fr.rf.sI (by decide)).sI (by decide)) ?_)), fun c => hp y Fr.rf ?_⟩
    · show _ = (if nI joy ≤ gI y 123 then accD y else (nI row, nI joy))
      rw [if_neg (fun q => fa_of_lt_le q c)]; rfl
    · show _ = (if nI joy ≤ gI y 123 then accD y else (nI row, nI joy))
      rw [if_pos (fa_of_nlt c)]
  | succ l ih =>
    intro d hd y g row joy u post hg hy hu hp
    obtain ⟨d, rfl⟩ : ∃ j, d = j + 1 := ⟨d - 1, by omega⟩
    show S_M_goDealt _ post _ _ _ _ y
    unfold S_M_goDealt
    rw [show gI y 112 = nI ng from hy.2.1, nI_eq (by omega) (by omega)]
    refine pp_n (by omega) ?_
    have loop : ∀ m i, i + m = nd → ∀ y1, Fr [123, 124] [] y y1 → accD y1 = ((List.range i).flatMap (fun d => if u.testBit d = true then [] else dls nd mo q lk l (g + 1) (10 * row + d) (joy + joyN q mo (lk g) d) (u ||| 2 ^ d))).foldl stW (accD y) → ∀ k, m + 1 ≤ k → L_M_goDealt_32 (D_M_goDealt d) post k (nI g) (nI u) (nI joy) (nI row) (nI i) y1 := by
      intro m
      induction m with
      | zero =>
        intro i hi y1 hf ha k hk
        obtain ⟨k, rfl⟩ : ∃ j, k = j + 1 := ⟨k - 1, by omega⟩
        show B_M_goDealt_32 _ post _ _ _ _ _ _ y1
        unfold B_M_goDealt_32
        rw [show gI y1 111 = nI nd from (hf.1 111 (by decide)).trans hy.1]
        refine pp_y (nI_le (by omega) (by omega)) (hp y1 hf ?_)
        rw [ha, show i = nd by omega]; rfl
      | succ m ihm =>
        intro i hi y1 hf ha k hk
        obtain ⟨k, rfl⟩ : ∃ j, k = j + 1 := ⟨k - 1, by omega⟩
        have hy1 : CY nd ng mo wg q lk lw y1 := hy.fr hf (by decide) (by decide)
        have hb1 := bit_1 u hu i (by omega)
        have hbu := bit_u u hu i (by omega)
        show B_M_goDealt_32 _ post _ _ _ _ _ _ y1
        unfold B_M_goDealt_32 B_M_goDealt_87 S_M_has
        rw [show gI y1 111 = nI nd from hy1.1, hb1, hbu.1, nI_1 i]
        refine pp_n (nI_ge (by omega) (by omega)) ⟨fun c => r11 (ev ?_), fun c => r01 ⟨?_, ?_⟩⟩
        · refine ihm (i + 1) (by omega) y1 hf ?_ k (by omega)
          rw [List.range_succ, List.flatMap_append, List.foldl_append, ← ha, List.flatMap_singleton, if_pos c]; rfl
        · rw [k3, pk_mul]; exact (vp_in_nI (by omega) (by omega))
        · rw [k3, pk_mul, nI_clamp (by omega), hy1.2.2.2.2.2.1 g (by omega)]
          refine q_joyM hy1 hl (by omega) ?_
          rw [k10, pk_mul, nI_add, nI_add, nI_1]
          refine ih d (by omega) y1 (g + 1) _ _ _ _ (by omega) hy1 hbu.2 (fun y2 hf2 ha2 => ev ?_)
          refine ihm (i + 1) (by omega) y2 (hf.tr hf2) ?_ k (by omega)
          rw [List.range_succ, List.flatMap_append, List.foldl_append, ← ha, List.flatMap_singleton, if_neg c]
          exact ha2
    exact ⟨nd + 1, loop nd 0 (by omega) y Fr.rf rfl (nd + 1) (Nat.le_refl _)⟩
theorem dls_none {nd mo : Nat} {q : Nat → Nat} {lk : Nat → Int32} : ∀ l g row joy u, fb_ct (fun k => !u.testBit k) nd < l → dls nd mo q lk l g row joy u = []
  | 0, _, _, _, _, h => absurd h (Nat.not_lt_zero _)
  | l + 1, g, row, joy, u, h => by
    unfold dls
    refine List.flatMap_eq_nil_iff.mpr (fun d hd => ?_)
    have hd := List.mem_range.mp hd
    by_cases hb : u.testBit d = true
    · rw [if_pos hb]
    · rw [if_neg hb]
      have hb : u.testBit d = false := by simpa using hb
      have := free_less hd hb
      exact dls_none l _ _ _ _ (by omega)
theorem dls_some {nd mo : Nat} {q : Nat → Nat} {lk : Nat → Int32} : ∀ l g row joy u, l ≤ fb_ct (fun k => !u.testBit k) nd → dls nd mo q lk l g row joy u ≠ []
  | 0, _, _, _, _, _ => by simp [dls]
  | l + 1, g, row, joy, u, h => by
    obtain ⟨d, hd, hb⟩ := fb_ct_pos.mp (show 0 < fb_ct (fun k => !u.testBit k) nd by omega)
    have hb : u.testBit d = false := by simpa using hb
    have := free_less hd hb
    have hn := dls_some (nd := nd) (mo := mo) (q := q) (lk := lk) l (g + 1) (10 * row + d) (joy + joyN q mo (lk g) d) (u ||| 2 ^ d) (by omega)
    intro e
    unfold dls at e
    have e2 := List.flatMap_eq_nil_iff.mp e d (List.mem_range.mpr hd)
    rw [if_neg (by rw [hb]; decide)] at e2
    exact hn e2
theorem dls_joy {nd ng mo wg : Nat} {q : Nat → Nat} {lk : Nat → Int32} (hl : Lim nd ng mo wg q) : ∀ l g row joy u, ∀ lf, lf ∈ dls nd mo q lk l g row joy u → lf.2.1 ≤ joy + 18 * l
  | 0, g, row, joy, u, lf, h => by
    unfold dls at h
    rw [List.mem_singleton] at h
    subst h; exact Nat.le_refl _
  | l + 1, g, row, joy, u, lf, h => by
    unfold dls at h
    obtain ⟨d, hd, hx⟩ := mem_flat h
    split at hx
    · cases hx
    · have := dls_joy hl l _ _ _ _ lf hx
      have h2 := joyN_le hl (l := lk g) hd
      omega
theorem stW_eq {ls : List Lf} (hne : ls ≠ []) (hj : ∀ lf, lf ∈ ls → lf.2.1 < 2 ^ 31) : ls.foldl stW (0, -1) = ls.foldl stW (-1, -1) := by
  cases ls with
  | nil => exact absurd rfl hne
  | cons lf ls =>
    have c := m1_lt (hj lf (List.mem_cons_self ..))
    show ls.foldl stW (if nI lf.2.1 ≤ -1 then (0, -1) else (nI lf.1, nI lf.2.1)) = ls.foldl stW (if nI lf.2.1 ≤ -1 then (-1, -1) else (nI lf.1, nI lf.2.1))
    rw [if_neg (fun q => fa_of_lt_le q c), if_neg (fun q => fa_of_lt_le q c)]
theorem o_dealt {V V' : Nat} (hV : V ≤ V') : St_dealt (Inv V) (Inv V') := by
  intro z y a1 a2 a3 a4 a5 h
  obtain ⟨nd, ng, mo, wg, q, lk, lw, hz, hy0, hl⟩ := h.ctx
  have hT := h.ta
  have h6 := hl.1
  have g6 := hl.2.1
  have hI : Inv V' z (sI y 100 0) := h.fr hV Fr.rf yt
  have hy := hy0.fr (yt : Fr MS MA y (sI y 100 0)) (by decide) (by decide)
  unfold S_B_dealt
  rcases Nat.eq_zero_or_pos ng with e | e
  · unfold S_M_dealt
    exact q_isTold_n hz.2.1 e (r01 (ev (pp_y (by rw [hy.2.1, e]; rfl) ⟨rfl, hI⟩)))
  · have hn : ¬ gI (sI y 100 0) 112 = 0 := by rw [hy.2.1]; exact nI_ne0 e (by omega)
    -- what the reference does
    have mside : ∀ (r : Int32) (z' : St), Inv V' z' (sI y 100 0) → ((a1 < 0 ∨ (1 : Int32) < a1) → r = -1) → (∀ j, j ≤ 1 → a1 = nI j → r = if j = 0 then ((dls nd mo q lk ng 0 0 0 0).foldl stW (-1, -1)).1 else ((dls nd mo q lk ng 0 0 0 0).foldl stW (-1, -1)).2) → S_M_dealt (fun r1 y1 => r = r1 ∧ Inv V' z' y1) a1 y := fun r z' hI2 h1 h2 => by
      unfold S_M_dealt
      rcases r_cases a1 0 1 (by omega) (by omega) with c | ⟨j, _, hj, rfl⟩
      · exact ev (pp_n hn (q_isInR_n (lo := 0) (m := 1) L0 L1 c (r01 ⟨h1 c, hI2⟩)))
      · have h2 := h2 j hj rfl
        refine ev (pp_n hn (q_isInR_y (lo := 0) (m := 1) L0 L1 (by omega) (by omega) hj (r11 (ev (ev ?_)))))
        have fy : Fr MS MA (sI y 100 0) (sI (sI (sI y 100 0) 123 (-1)) 124 (-1)) := (Fr.rf.sI (by decide)).sI (by decide)
        show D_M_goDealt 8 _ (nI 0) (nI 0) (nI 0) (nI 0) _
        refine dl_M hl ng 8 (by omega) _ 0 0 0 0 _ (by omega) (hy.fr fy (by decide) (by decide)) (by omega) (fun y' hf ha => ?_)
        have hII : Inv V' z' y' := hI2.fr (Nat.le_refl _) Fr.rf (fy.tr (hf.wk (by decide) (by decide)))
        have b124 : gI y' 124 = ((dls nd mo q lk ng 0 0 0 0).foldl stW (-1, -1)).1 := congrArg (fun a : Int32 × Int32 => a.1) ha
        have b123 : gI y' 123 = ((dls nd mo q lk ng 0 0 0 0).foldl stW (-1, -1)).2 := congrArg (fun a : Int32 × Int32 => a.2) ha
        rw [nI_eq0 (by omega)]
        refine ⟨fun c => ⟨?_, hII⟩, fun c => ⟨?_, hII⟩⟩
        · rw [h2, if_pos c, b124]
        · rw [h2, if_neg c, b123]
    refine q_isTold_y hz.2.1 g6 e (r11 ?_)
    rw [show gI z 27 = nI ng from hz.2.1, show gI z 26 = nI nd from hz.1, nI_ltI (by omega) (by omega)]
    refine ⟨fun c => mside _ z hI (fun _ => rfl) (fun j _ _ => ?_), fun c => ⟨fun c1 => mside _ z hI (fun _ => rfl) (fun j _ ej => ?_), fun c1 => ⟨fun c2 => ?_, fun c2 => mside _ z hI (fun _ => rfl) (fun j hj ej => ?_)⟩⟩⟩
    · rw [dls_none ng 0 0 0 0 (by rw [free_0]; omega)]
      show (-1 : Int32) = if j = 0 then -1 else -1
      split <;> rfl
    · rw [ej] at c1; exact absurd c1 (nI_pos (by omega))
    · unfold S_Rows_searchDeals S_Rows_forget
      refine ev (ev (ev (ev (ev ?_))))
      have fz : Fr XS XA z (sI (sI (sI (sI (sI z 36 0) 37 (-1)) 38 0) 39 0) 40 0) := ((((Fr.rf.sI (by decide)).sI (by decide)).sI (by decide)).sI (by decide)).sI (by decide)
      show D_Rows_goDeals 8 _ (nI 0) (nI 0) (nI 0) (nI 0) _
      refine dl_X hl ng 8 (by omega) _ 0 0 0 0 _ (by omega) (hz.fr fz (by decide) (by decide)) (by omega) (fun z' hf ha => ?_)
      have fz2 : Fr XS XA z z' := fz.tr (hf.wk (by decide) (by decide))
      have ee := stW_eq (dls_some (nd := nd) (mo := mo) (q := q) (lk := lk) ng 0 0 0 0 (by rw [free_0]; omega)) (fun lf hm => by have := dls_joy hl ng 0 0 0 0 lf hm; omega)
      have a36 : gI z' 36 = ((dls nd mo q lk ng 0 0 0 0).foldl stW (-1, -1)).1 := by rw [← ee]; exact congrArg (fun a : Int32 × Int32 => a.1) ha
      have a37 : gI z' 37 = ((dls nd mo q lk ng 0 0 0 0).foldl stW (-1, -1)).2 := by rw [← ee]; exact congrArg (fun a : Int32 × Int32 => a.2) ha
      have hIz : Inv V' z' (sI y 100 0) := hI.fr (Nat.le_refl _) fz2 Fr.rf
      refine ⟨fun c3 => mside _ z' hIz (fun q => ?_) (fun j hj ej => ?_), fun c3 => mside _ z' hIz (fun q => ?_) (fun j hj ej => ?_)⟩
      · exact absurd q (fun q => q.elim c1 (fa_of_lt_le c2))
      · rw [ej, nI_eq0 (by omega)] at c3
        rw [if_pos c3, a36]
      · exact absurd q (fun q => q.elim c1 (fa_of_lt_le c2))
      · rw [ej, nI_eq0 (by omega)] at c3
        rw [if_neg c3, a37]
    · rw [ej] at c2; exact absurd (show nI j ≤ nI 1 from nI_le hj (by omega)) c2
