/-! best, comes, soonest, ends, who, odds -/
theorem fold_app_len {α : Type} (f : Nat → List α) (B : Nat) : ∀ i, (∀ g, g < i → (f g).length ≤ B) → ((List.range i).flatMap f).length ≤ i * B
  | 0, _ => by simp
  | i + 1, h => by
    rw [List.range_succ, List.flatMap_append, List.length_append, List.flatMap_singleton]
    have h1 := fold_app_len f B i (fun g hg => h g (by omega))
    have h2 := h i (by omega)
    rw [Nat.succ_mul]; omega
theorem lvs_len {nd ng mo : Nat} {q : Nat → Nat} {lk : Nat → Int32} {lw : Option ((Nat → Int32) → Int32)} {un : Bool} (g6 : ng ≤ 6) : ∀ l row joy parts u (c : Nat → Int32), (lvs nd ng mo q lk lw un l row joy parts u c).length ≤ 6 ^ l
  | 0, _, _, _, _, _ => by simp [lvs]
  | l + 1, row, joy, parts, u, c => by
    unfold lvs
    refine Nat.le_trans (fold_app_len _ (6 ^ l) ng (fun g hg => ?_)) ?_
    · split
      · simp
      · exact lvs_len g6 l _ _ _ _ _
    · rw [Nat.pow_succ, Nat.mul_comm]; exact Nat.mul_le_mul_left _ g6
theorem mem_flat {α : Type} {f : Nat → List α} {x : α} : ∀ {i : Nat}, x ∈ (List.range i).flatMap f → ∃ g, g < i ∧ x ∈ f g := fun h => by
  obtain ⟨g, hg, hx⟩ := List.mem_flatMap.mp h
  exact ⟨g, List.mem_range.mp hg, hx⟩
theorem lvs_joy {nd ng mo wg : Nat} {q : Nat → Nat} {lk : Nat → Int32} {lw : Option ((Nat → Int32) → Int32)} (hl : Lim nd ng mo wg q) (h0 : 0 < ng) {un : Bool} : ∀ l row joy parts u (c : Nat → Int32) (V : Nat), TB V nd c → ∀ lf, lf ∈ lvs nd ng mo q lk lw un l row joy parts u c → lf.2.1 ≤ joy + 18 * l
  | 0, row, joy, parts, u, c, V, tb, lf, h => by
    unfold lvs at h
    rw [List.mem_singleton] at h
    subst h; exact Nat.le_refl _
  | l + 1, row, joy, parts, u, c, V, tb, lf, h => by
    unfold lvs at h
    obtain ⟨g, hg, hx⟩ := mem_flat h
    split at hx
    · cases hx
    · have := lvs_joy hl h0 l _ _ _ _ _ (V + 1) (tb.visN hl hg) lf hx
      have h2 := joyN_le hl (l := lk g) (tb.got hl.1 (hl.2.2.2.2.2.1 h0)).2
      omega
theorem free_less {u g ng : Nat} (hg : g < ng) (h : u.testBit g = false) : fb_ct (fun k => !(u ||| 2 ^ g).testBit k) ng + 1 = fb_ct (fun k => !u.testBit k) ng := by
  have e : (fun k => !(u ||| 2 ^ g).testBit k) = (fun k => if k = g then false else !u.testBit k) := by
    funext k
    rw [fb_bit_set]
    by_cases e : k = g
    · subst e; simp
    · simp [e]
  rw [e]
  have := fb_ct_upd (fun k => !u.testBit k) false (i := g) hg
  rw [h] at this
  exact this
theorem lvs_none {nd ng mo : Nat} {q : Nat → Nat} {lk : Nat → Int32} {lw : Option ((Nat → Int32) → Int32)} : ∀ l row joy parts u (c : Nat → Int32), fb_ct (fun k => !u.testBit k) ng < l → lvs nd ng mo q lk lw true l row joy parts u c = []
  | 0, _, _, _, _, _, h => absurd h (Nat.not_lt_zero _)
  | l + 1, row, joy, parts, u, c, h => by
    unfold lvs
    refine List.flatMap_eq_nil_iff.mpr (fun g hg => ?_)
    have hg := List.mem_range.mp hg
    by_cases hb : u.testBit g = true
    · rw [if_pos ⟨rfl, hb⟩]
    · rw [if_neg (fun q => hb q.2)]
      have hb : u.testBit g = false := by simpa using hb
      have := free_less hg hb
      exact lvs_none l _ _ _ _ _ (by omega)
theorem lvs_some {nd ng mo : Nat} {q : Nat → Nat} {lk : Nat → Int32} {lw : Option ((Nat → Int32) → Int32)} : ∀ l row joy parts u (c : Nat → Int32), l ≤ fb_ct (fun k => !u.testBit k) ng → lvs nd ng mo q lk lw true l row joy parts u c ≠ []
  | 0, _, _, _, _, _, _ => by simp [lvs]
  | l + 1, row, joy, parts, u, c, h => by
    obtain ⟨g, hg, hb⟩ := fb_ct_pos.mp (show 0 < fb_ct (fun k => !u.testBit k) ng by omega)
    have hb : u.testBit g = false := by simpa using hb
    have := free_less hg hb
    have hn := lvs_some (nd := nd) (ng := ng) (mo := mo) (q := q) (lk := lk) (lw := lw) l (10 * row + g) (joy + joyN q mo (lk g) (tN (c 0))) (parts / ng) (u ||| 2 ^ g) (visN nd mo q lk lw g c) (by omega)
    intro e
    unfold lvs at e
    have e2 := List.flatMap_eq_nil_iff.mp e g (List.mem_range.mpr hg)
    rw [if_neg (by rw [hb]; exact fun q => absurd q.2 (by decide))] at e2
    exact hn e2
theorem free_0 (ng : Nat) : fb_ct (fun k => !(0 : Nat).testBit k) ng = ng := fb_ct_all.mpr (fun k _ => by simp)
theorem lvs_any {nd ng mo : Nat} {q : Nat → Nat} {lk : Nat → Int32} {lw : Option ((Nat → Int32) → Int32)} (h0 : 0 < ng) : ∀ l row joy parts u (c : Nat → Int32), lvs nd ng mo q lk lw false l row joy parts u c ≠ []
  | 0, _, _, _, _, _ => by simp [lvs]
  | l + 1, row, joy, parts, u, c => by
    have hn := lvs_any (nd := nd) (ng := ng) (mo := mo) (q := q) (lk := lk) (lw := lw) h0 l (10 * row + 0) (joy + joyN q mo (lk 0) (tN (c 0))) (parts / ng) (u ||| 2 ^ 0) (visN nd mo q lk lw 0 c)
    intro e
    unfold lvs at e
    have e2 := List.flatMap_eq_nil_iff.mp e 0 (List.mem_range.mpr h0)
    rw [if_neg (fun q => absurd q.1 (by decide))] at e2
    exact hn e2
/-- the most joy, on both sides -/
theorem top_keep {aim oth idx x w : Int32} : ∀ (ls : List Lf) (a : AX) (b : AM), a.2.1 = b.1 → a.1 = b.2.1 → (ls.foldl (stX aim oth idx) a).2.1 = (ls.foldl (stM 0 x w) b).1 ∧ (ls.foldl (stX aim oth idx) a).1 = (ls.foldl (stM 0 x w) b).2.1
  | [], a, b, h1, h2 => ⟨h1, h2⟩
  | lf :: ls, a, b, h1, h2 => by
    show (ls.foldl (stX aim oth idx) (stX aim oth idx a lf)).2.1 = (ls.foldl (stM 0 x w) (stM 0 x w b lf)).1 ∧ _ = (ls.foldl (stM 0 x w) (stM 0 x w b lf)).2.1
    refine top_keep ls _ _ ?_ ?_
    · show (if nI lf.2.1 ≤ a.2.1 then a.2.1 else nI lf.2.1) = (if b.1 < nI lf.2.1 then ((nI lf.2.1, nI lf.1, b.2.2) : AM) else b).1
      rw [h1]
      by_cases c : b.1 < nI lf.2.1
      · rw [if_pos c, if_neg (fun q => fa_of_lt_le q c)]
      · rw [if_neg c, if_pos (fa_of_nlt c)]
    · show (if nI lf.2.1 ≤ a.2.1 then a.1 else nI lf.1) = (if b.1 < nI lf.2.1 then ((nI lf.2.1, nI lf.1, b.2.2) : AM) else b).2.1
      rw [h1]
      by_cases c : b.1 < nI lf.2.1
      · rw [if_pos c, if_neg (fun q => fa_of_lt_le q c)]
      · rw [if_neg c, if_pos (fa_of_nlt c)]; exact h2
theorem m1_lt {n : Nat} (h : n < 2 ^ 31) : (-1 : Int32) < nI n := by rw [fa_lt, ti_m1, nI_toInt h]; omega
theorem top_eq {aim oth idx x w : Int32} {ls : List Lf} (hne : ls ≠ []) (hj : ∀ lf, lf ∈ ls → lf.2.1 < 2 ^ 31) : (ls.foldl (stX aim oth idx) (0, -1, 0, 0, 0)).2.1 = (ls.foldl (stM 0 x w) (-1, -1, 0)).1 ∧ (ls.foldl (stX aim oth idx) (0, -1, 0, 0, 0)).1 = (ls.foldl (stM 0 x w) (-1, -1, 0)).2.1 := by
  cases ls with
  | nil => exact absurd rfl hne
  | cons lf ls =>
    have c := m1_lt (hj lf (List.mem_cons_self ..))
    refine top_keep ls _ _ ?_ ?_
    · show (if nI lf.2.1 ≤ -1 then -1 else nI lf.2.1) = (if -1 < nI lf.2.1 then ((nI lf.2.1, nI lf.1, 0) : AM) else (-1, -1, 0)).1
      rw [if_neg (fun q => fa_of_lt_le q c), if_pos c]
    · show (if nI lf.2.1 ≤ -1 then 0 else nI lf.1) = (if -1 < nI lf.2.1 then ((nI lf.2.1, nI lf.1, 0) : AM) else (-1, -1, 0)).2.1
      rw [if_neg (fun q => fa_of_lt_le q c), if_pos c]
/-- the hits, on both sides -/
def HR (idx : Int32) (n : Nat) (a : AX) (b : AM) : Prop := a.2.2.1 = nI n ∧ b.2.2 = nI n ∧ (∀ j, j < n → idx = nI j → a.2.2.2.1 = b.2.1) ∧ ((∀ j, j < n → ¬ idx = nI j) → b.2.1 = -1)
theorem hit_keep {aim oth idx what : Int32} (hw : ¬ what = 0) (ho : ∀ s : Int32, s = 0 ∨ s = 1 → (s = oth ↔ ¬ s = (if what = 1 then (1 : Int32) else 0))) : ∀ (ls : List Lf) (a : AX) (b : AM) (n : Nat), n + ls.length < 2 ^ 31 → HR idx n a b → ∃ n', n' ≤ n + ls.length ∧ HR idx n' (ls.foldl (stX aim oth idx) a) (ls.foldl (stM what aim idx) b)
  | [], a, b, n, _, h => ⟨n, Nat.le_refl _, h⟩
  | lf :: ls, a, b, n, hn, h => by
    have hn' : n + (ls.length + 1) < 2 ^ 31 := hn
    obtain ⟨h1, h2, h3, h4⟩ := h
    show ∃ n', n' ≤ n + (ls.length + 1) ∧ HR idx n' (ls.foldl (stX aim oth idx) (stX aim oth idx a lf)) (ls.foldl (stM what aim idx) (stM what aim idx b lf))
    have hs := ho (if lf.2.2.1 = aim then (1 : Int32) else 0) (by split; exact .inr rfl; exact .inl rfl)
    by_cases c : (if lf.2.2.1 = aim then (1 : Int32) else 0) = oth
    · obtain ⟨n', hn2, hh⟩ := hit_keep (aim := aim) hw ho ls (stX aim oth idx a lf) (stM what aim idx b lf) n (by omega) (by
        unfold stX stM
        rw [if_neg hw, if_neg (hs.mp c), if_pos c]
        exact ⟨h1, h2, h3, h4⟩)
      exact ⟨n', by omega, hh⟩
    · have c2 : (if lf.2.2.1 = aim then (1 : Int32) else 0) = (if what = 1 then (1 : Int32) else 0) := Decidable.byContradiction (fun q => c (hs.mpr q))
      obtain ⟨n', hn2, hh⟩ := hit_keep (aim := aim) hw ho ls (stX aim oth idx a lf) (stM what aim idx b lf) (n + 1) (by omega) (by
        unfold stX stM
        rw [if_neg hw, if_pos c2, if_neg c, h1, h2]
        refine ⟨nI_1 n, nI_1 n, fun j hj e => ?_, fun hall => ?_⟩
        · show (if nI n = idx then nI lf.1 else a.2.2.2.1) = (if nI n = idx then nI lf.1 else b.2.1)
          by_cases c3 : nI n = idx
          · rw [if_pos c3, if_pos c3]
          · rw [if_neg c3, if_neg c3]
            refine h3 j ?_ e
            have : j ≠ n := fun q => c3 (by rw [e, q])
            omega
        · show (if nI n = idx then nI lf.1 else b.2.1) = -1
          rw [if_neg (fun q => hall n (by omega) q.symm)]
          exact h4 (fun j hj => hall j (by omega)))
      exact ⟨n', by omega, hh⟩
theorem hit_eq {aim oth idx what : Int32} (hw : ¬ what = 0) (ho : ∀ s : Int32, s = 0 ∨ s = 1 → (s = oth ↔ ¬ s = (if what = 1 then (1 : Int32) else 0))) (ls : List Lf) (hn : ls.length < 2 ^ 31) : ∃ n, n < 2 ^ 31 ∧ HR idx n (ls.foldl (stX aim oth idx) (0, -1, 0, 0, 0)) (ls.foldl (stM what aim idx) (-1, -1, 0)) := by
  obtain ⟨n, h1, h2⟩ := hit_keep (aim := aim) (idx := idx) hw ho ls (0, -1, 0, 0, 0) (-1, -1, 0) 0 (by omega) ⟨rfl, rfl, fun j hj => absurd hj (by omega), fun _ => rfl⟩
  exact ⟨n, by omega, h2⟩
theorem part_eq {aim idx : Int32} : ∀ (ls : List Lf) (a : AX), (ls.foldl (stX aim 0 idx) a).2.2.2.2 = ls.foldl (smO aim) a.2.2.2.2
  | [], a => rfl
  | lf :: ls, a => by
    show (ls.foldl (stX aim 0 idx) (stX aim 0 idx a lf)).2.2.2.2 = ls.foldl (smO aim) (smO aim a.2.2.2.2 lf)
    rw [part_eq ls (stX aim 0 idx a lf)]
    congr 1
    show (if (if lf.2.2.1 = aim then (1 : Int32) else 0) = 0 then a.2.2 else (a.2.2.1 + 1, if a.2.2.1 = idx then nI lf.1 else a.2.2.2.1, a.2.2.2.2 + nI lf.2.2.2)).2.2 = a.2.2.2.2 + (if lf.2.2.1 = aim then nI lf.2.2.2 else 0)
    by_cases c : lf.2.2.1 = aim
    · rw [if_pos c, if_pos c, if_neg (show ¬ (1 : Int32) = 0 by decide)]
    · rw [if_neg c, if_neg c, if_pos rfl, Int32.add_zero]
def XQ : List Nat := [32, 36, 37, 38, 39, 40]
theorem q_search {post : St → Prop} {nd ng mo wg : Nat} {q : Nat → Nat} {lk : Nat → Int32} {lw : Option ((Nat → Int32) → Int32)} {z : St} {c : Nat → Int32} (hz : CZ nd ng mo wg q lk lw z) (hl : Lim nd ng mo wg q) (h0 : 0 < ng) {V l : Nat} {un : Bool} {ui : Int32} (tb : TB V nd c) (hc : va_cpy (gA z 23) (gA z 24) 0 0 28 = c) (hl6 : l ≤ 6) (hu : ui = (if un = true then 1 else 0)) (hp : ∀ z', Fr XQ [21, 22, 24] z z' → gA z' 24 = c → accX z' = (lvs nd ng mo q lk lw un l 0 0 1000000 0 c).foldl (stX (gI z 33) (gI z 34) (gI z 35)) (0, -1, 0, 0, 0) → post z') : S_Rows_search post (nI l) ui z := by
  unfold S_Rows_search S_Rows_forget
  refine ev (ev (ev (ev (ev ⟨by rw [hu]; cases un; exact .inl rfl; exact .inr rfl, ev (q_copyX ?_)⟩))))
  have f : Fr XQ [21, 22, 24] z (sF (sI (sI (sI (sI (sI (sI z 36 0) 37 (-1)) 38 0) 39 0) 40 0) 32 ui) 24 (va_cpy (gA z 23) (gA z 24) 0 0 28)) := ((((((Fr.rf.sI (by decide)).sI (by decide)).sI (by decide)).sI (by decide)).sI (by decide)).sI (by decide)).sF (by decide)
  show D_Rows_goVisits 8 _ (nI l) (nI 0) (nI 0) (nI 1000000) (nI 0) (sF (sI (sI (sI (sI (sI (sI z 36 0) 37 (-1)) 38 0) 39 0) 40 0) 32 ui) 24 (va_cpy (gA z 23) (gA z 24) 0 0 28))
  refine gv_X hl h0 (un := un) l 8 (by omega) (by omega) _ c V 0 0 1000000 0 _ (hz.fr f (by decide) (by decide)) (by rw [gA_sF, if_pos rfl]; exact hc) tb hu rfl rfl rfl (by omega) (by omega) (fun z' hf e ha => hp z' (f.tr (hf.wk (by decide) (by decide))) e ha)
def YQ : List Nat := 121 :: 122 :: 126 :: 127 :: RQ
theorem q_lays {post : St → Prop} {nd ng mo wg : Nat} {q : Nat → Nat} {lk : Nat → Int32} {lw : Option ((Nat → Int32) → Int32)} {y : St} {c : Nat → Int32} (hy : CY nd ng mo wg q lk lw y) (hl : Lim nd ng mo wg q) {V l : Nat} {un : Bool} {what aim wanted ai : Int32} (tr : TR (gA y 113) c) (tb : TB V nd c) (hl6 : l ≤ 6 ∧ V + 6 < 2 ^ 31) (hu : ai = (if un = true then 0 else 1)) (hp : ∀ y', Fr YQ [104, 114, 116] y y' → accM y' = (lvs nd ng mo q lk lw un l 0 0 1000000 0 c).foldl (stM what aim wanted) (-1, -1, 0) → post y') : S_M_lays post (nI l) what aim wanted ai y := by
  unfold S_M_lays
  refine q_copyM (ev (ev (ev (ev (ev (ev ⟨by rw [hu]; cases un; exact .inr rfl; exact .inl rfl, ev ?_⟩))))))
  have f : Fr YQ [104, 114, 116] y (sI (sI (sI (sI (sI (sI (sI (sF y 114 (upd (fa_fill (gA y 113) (gA y 114) 28) 28 0)) 121 what) 122 aim) 123 (-1)) 124 (-1)) 125 0) 126 wanted) 127 ai) := (((((((Fr.rf.sF (by decide)).sI (by decide)).sI (by decide)).sI (by decide)).sI (by decide)).sI (by decide)).sI (by decide)).sI (by decide)
  show D_M_goRows 8 _ (nI l) (nI 0) (nI 0) (nI 0) _
  refine gr_M hl (un := un) l 8 (by omega) hl6.1 _ c V 0 0 0 1000000 0 _ (hy.fr f (by decide) (by decide)) ?_ tb rfl (by omega) hu rfl rfl rfl (by omega) (fun y' hf _ _ ha => hp y' (f.tr (hf.wk (by decide) (by decide))) ha)
  show TR (upd (fa_fill (gA y 113) (gA y 114) 28) 28 0) c
  exact tr.cg (fun k hk => by rw [pk_un (by omega), fa_fill_in hk]) (fun _ _ => rfl)
theorem Inv.srch {V : Nat} {z y : St} (h : Inv V z y) {nd ng mo wg : Nat} {q : Nat → Nat} {lk : Nat → Int32} {lw : Option ((Nat → Int32) → Int32)} (hz : CZ nd ng mo wg q lk lw z) (hl : Lim nd ng mo wg q) : TB V nd (va_cpy (gA z 23) (gA z 24) 0 0 28) ∧ TR (gA y 113) (va_cpy (gA z 23) (gA z 24) 0 0 28) := by
  obtain ⟨v, ta⟩ := h.taN hz.1 hl.1
  exact ⟨ta.2.1.cg (fun k hk => cpy_in hk), ta.1.cg (fun _ _ => rfl) (fun k hk => cpy_in hk)⟩
theorem Inv.sq {V V' : Nat} {z y z' y' : St} (h : Inv V z y) (hV : V ≤ V') (hz : Fr (33 :: 34 :: 35 :: XQ) [21, 22, 24] z z') (hy : Fr YQ [104, 114, 116] y y') : Inv V' z' y' := h.fr hV (hz.wk (by decide) (by decide)) (hy.wk (by decide) (by decide))
theorem o_best {V V' : Nat} (hV : V ≤ V') (hVb : V' < 2 ^ 29) : St_best (Inv V) (Inv V') := by
  intro z y a1 a2 a3 a4 a5 h
  obtain ⟨nd, ng, mo, wg, q, lk, lw, hz, hy0, hl⟩ := h.ctx
  have hT := h.ta
  have h6 := hl.1
  have g6 := hl.2.1
  have hI : Inv V' z (sI y 100 0) := h.fr hV Fr.rf yt
  have hy := hy0.fr (yt : Fr MS MA y (sI y 100 0)) (by decide) (by decide)
  obtain ⟨tb, tr⟩ := hI.srch hz hl
  unfold S_B_best S_M_best
  rcases Nat.eq_zero_or_pos ng with e | e
  · exact q_isTold_n hz.2.1 e (r01 (ev (pp_y (by rw [hy.2.1, e]; rfl) ⟨rfl, hI⟩)))
  · have hn : ¬ gI (sI y 100 0) 112 = 0 := by rw [hy.2.1]; exact nI_ne0 e (by omega)
    refine q_isTold_y hz.2.1 g6 e (r11 ?_)
    rcases wh_cases a1 1 (by omega) with c | ⟨j, hj, rfl⟩
    · have out : ∀ r : Int32, r = -1 → ∀ z1, z1 = sI y 100 0 → ((gI z1 112 = 0 → (r = -1 ∧ Inv V' z z1)) ∧ (¬ gI z1 112 = 0 → S_M_isIn (fun r2 z2 => (r2 = 0 → (r = -1 ∧ Inv V' z z2)) ∧ (¬ r2 = 0 → S_M_lays (fun z3 => (a1 = 0 → (r = gI z3 124 ∧ Inv V' z z3)) ∧ (¬ a1 = 0 → (r = gI z3 123 ∧ Inv V' z z3))) (gI z2 112) 0 0 0 0 z2)) a1.toInt64 0 1 z1)) := fun r hr => ev (pp_n hn (q_isIn_n (m := 1) L1 (by omega) c (r01 ⟨hr, hI⟩)))
      refine ⟨fun _ => out _ rfl, fun c1 => pp_n (fun c2 => ?_) (out _ rfl)⟩
      rcases c with c | c
      · exact c1 c
      · exact fa_of_lt_le c2 c
    · refine pp_n (nI_pos (by omega)) (pp_y (show nI j ≤ nI 1 from nI_le hj (by omega)) ?_)
      rw [show gI z 27 = nI ng from hz.2.1]
      refine q_search hz hl e (un := true) tb rfl g6 rfl (fun z' hf _ ha => ?_)
      have fin : ∀ r : Int32, r = (if j = 0 then gI z' 36 else gI z' 37) → ∀ z1, z1 = sI y 100 0 → ((gI z1 112 = 0 → (r = -1 ∧ Inv V' z' z1)) ∧ (¬ gI z1 112 = 0 → S_M_isIn (fun r2 z2 => (r2 = 0 → (r = -1 ∧ Inv V' z' z2)) ∧ (¬ r2 = 0 → S_M_lays (fun z3 => (nI j = 0 → (r = gI z3 124 ∧ Inv V' z' z3)) ∧ (¬ nI j = 0 → (r = gI z3 123 ∧ Inv V' z' z3))) (gI z2 112) 0 0 0 0 z2)) (nI j).toInt64 0 1 z1)) := fun r hr => by
        refine ev (pp_n hn (q_isIn_y (m := 1) L1 (by omega) hj (r11 ?_)))
        rw [show gI (sI y 100 0) 112 = nI ng from hy.2.1]
        refine q_lays hy hl (un := true) tr tb ⟨g6, by omega⟩ rfl (fun y' hf2 hb => ?_)
        have hII : Inv V' z' y' := hI.sq (Nat.le_refl _) (hf.wk (by decide) (by decide)) hf2
        have te := top_eq (aim := gI z 33) (oth := gI z 34) (idx := gI z 35) (x := 0) (w := 0) (lvs_some (nd := nd) (ng := ng) (mo := mo) (q := q) (lk := lk) (lw := lw) ng 0 0 1000000 0 (va_cpy (gA z 23) (gA z 24) 0 0 28) (by rw [free_0]; exact Nat.le_refl _)) (fun lf hm => by have := lvs_joy hl e ng 0 0 1000000 0 _ V' tb lf hm; omega)
        rw [← ha, ← hb] at te
        rw [nI_eq0 (by omega)]
        refine ⟨fun c => ⟨?_, hII⟩, fun c => ⟨?_, hII⟩⟩
        · rw [hr, if_pos c]; exact te.2
        · rw [hr, if_neg c]; exact te.1
      rw [nI_eq0 (by omega)]
      rw [nI_eq0 (by omega)] at fin
      exact ⟨fun c => fin _ (by rw [if_pos c]), fun c => fin _ (by rw [if_neg c])⟩
