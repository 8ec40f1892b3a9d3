/-! rows of visits: the leaves of the search, in their order: row, joy, bottle, part -/
theorem bit_0 : ∀ n, n < 64 → ∀ g, g < 6 → ((((nI n) >>> (nI g &&& 31)) &&& (1 : Int32)) = 0 ↔ n.testBit g = false) := by decide +kernel
theorem bit_1 : ∀ n, n < 64 → ∀ g, g < 6 → ((((nI n) >>> (nI g &&& 31)) &&& (1 : Int32)) = 1 ↔ n.testBit g = true) := by decide +kernel
theorem bit_u : ∀ n, n < 64 → ∀ g, g < 6 → (nI n ||| ((1 : Int32) <<< (nI g &&& 31)) = nI (n ||| 2 ^ g) ∧ n ||| 2 ^ g < 64) := by decide +kernel
abbrev Lf : Type := Nat × Nat × Int32 × Nat
def lvs (nd ng mo : Nat) (q : Nat → Nat) (lk : Nat → Int32) (lw : Option ((Nat → Int32) → Int32)) (un : Bool) : Nat → Nat → Nat → Nat → Nat → (Nat → Int32) → List Lf
  | 0, row, joy, parts, _, c => [(row, joy, c 0, parts)]
  | l + 1, row, joy, parts, u, c => (List.range ng).flatMap (fun g => if un = true ∧ u.testBit g = true then [] else
      lvs nd ng mo q lk lw un l (10 * row + g) (joy + joyN q mo (lk g) (tN (c 0))) (parts / ng) (u ||| 2 ^ g) (visN nd mo q lk lw g c))
abbrev AX : Type := Int32 × Int32 × Int32 × Int32 × Int32
def accX (z : St) : AX := (gI z 36, gI z 37, gI z 38, gI z 39, gI z 40)
def stX (aim oth idx : Int32) (a : AX) (lf : Lf) : AX :=
  (if nI lf.2.1 ≤ a.2.1 then a.1 else nI lf.1, if nI lf.2.1 ≤ a.2.1 then a.2.1 else nI lf.2.1,
   if (if lf.2.2.1 = aim then (1 : Int32) else 0) = oth then a.2.2 else (a.2.2.1 + 1, if a.2.2.1 = idx then nI lf.1 else a.2.2.2.1, a.2.2.2.2 + nI lf.2.2.2))
theorem q_leafX {rq : (St → Prop) → Int32 → Int32 → Int32 → Int32 → Int32 → St → Prop} {post : St → Prop} {z : St} {row joy parts : Nat} (hp : ∀ z', Fr [36, 37, 38, 39, 40] [] z z' → accX z' = stX (gI z 33) (gI z 34) (gI z 35) (accX z) (row, joy, gA z 24 0, parts) → post z') : B_Rows_goVisits_16 rq post (nI row) (nI joy) (nI parts) z := by
  have strike : ∀ z1, Fr [36, 37, 38, 39, 40] [] z z1 → accX z1 = (if nI joy ≤ gI z 37 then gI z 36 else nI row, if nI joy ≤ gI z 37 then gI z 37 else nI joy, gI z 38, gI z 39, gI z 40) → S_Rows_strike post (nI row) (nI parts) z1 := fun z1 hf ha => by
    unfold accX at ha
    injection ha with a36 ha
    injection ha with a37 ha
    injection ha with a38 ha
    injection ha with a39 a40
    have e24 : gA z1 24 = gA z 24 := hf.2.1 24 (by decide)
    have e33 : gI z1 33 = gI z 33 := hf.1 33 (by decide)
    have e34 : gI z1 34 = gI z 34 := hf.1 34 (by decide)
    have e35 : gI z1 35 = gI z 35 := hf.1 35 (by decide)
    have body : ∀ s0 : Int32, s0 = (if gA z 24 0 = gI z 33 then 1 else 0) → B_Rows_strike_19 post (nI row) (nI parts) s0 z1 := fun s0 hs => by
      unfold B_Rows_strike_19 B_Rows_strike_45
      rw [e34, e35, a38]
      refine ⟨fun c => hp z1 hf ?_, fun c => ⟨fun c2 => ev (ev (ev (hp _ (((hf.sI (by decide)).sI (by decide)).sI (by decide)) ?_))), fun c2 => ev (ev (hp _ ((hf.sI (by decide)).sI (by decide)) ?_))⟩⟩
      · unfold accX stX
        rw [a36, a37, a38, a39, a40, ← hs, if_pos c]
      · unfold accX stX
        show (gI z1 36, gI z1 37, gI z1 38 + 1, nI row, gI z1 40 + nI parts) = _
        rw [a36, a37, a38, a40, ← hs, if_neg c]
        show _ = (_, _, gI z 38 + 1, (if gI z 38 = gI z 35 then nI row else gI z 39), gI z 40 + nI parts)
        rw [if_pos c2]
      · unfold accX stX
        show (gI z1 36, gI z1 37, gI z 38 + 1, gI z1 39, gI z1 40 + nI parts) = _
        rw [a36, a37, a39, a40, ← hs, if_neg c]
        show _ = (_, _, gI z 38 + 1, (if gI z 38 = gI z 35 then nI row else gI z 39), gI z 40 + nI parts)
        rw [if_neg c2]
    unfold S_Rows_strike S_Table_bottle_9
    show (gA z1 24 0 = gI z1 33 → _) ∧ (¬ gA z1 24 0 = gI z1 33 → _)
    rw [e24, e33]
    exact ⟨fun c => body 1 (by rw [if_pos c]), fun c => body 0 (by rw [if_neg c])⟩
  unfold B_Rows_goVisits_16 S_Rows_weigh
  refine ⟨fun c => strike z Fr.rf ?_, fun c => ev (ev (strike _ ((Fr.rf.sI (by decide)).sI (by decide)) ?_))⟩
  · unfold accX; rw [if_pos c, if_pos c]
  · unfold accX
    rw [if_neg c, if_neg c]; rfl
theorem q_glad9 {post : Int32 → St → Prop} {nd ng mo wg : Nat} {q : Nat → Nat} {lk : Nat → Int32} {lw : Option ((Nat → Int32) → Int32)} {z : St} (hz : CZ nd ng mo wg q lk lw z) (hl : Lim nd ng mo wg q) {V : Nat} (tb : TB V nd (gA z 24)) {g : Nat} (hg : g < ng) (hp : post (nI (joyN q mo (lk g) (tN (gA z 24 0)))) z) : S_Table_gladness_9 post (nI g) z := by
  have h6 := hl.1
  have g6 := hl.2.1
  obtain ⟨eg, hgot⟩ := tb.got h6 (hl.2.2.2.2.2.1 (by omega))
  unfold S_Table_gladness_9
  rw [nI_clamp (by omega), hz.2.2.2.2.2.1 g hg, eg]
  exact ⟨(vp_in_nI (by omega) (by omega)), q_joyX hz hl hgot hp⟩
/-- the cells come back -/
theorem un_vis {q : Nat → Nat} {mo : Nat} {l : Int32} {br : Option Nat} {mood got g : Nat} {c : Nat → Int32} (hg : g < 6) (hb : ∀ b, br = some b → b < 6) : upd (upd (upd (upd (upd (visC q mo l br mood got g c) 0 (c 0)) (4 + g) (c (4 + g))) (10 + g) (c (10 + g))) (16 + g) (visC q mo l br mood got g c (16 + g) - nI (joyN q mo l got))) 3 (visC q mo l br mood got g c 3 - 1) = c := by
  funext k
  have e16 : visC q mo l br mood got g c (16 + g) - nI (joyN q mo l got) = c (16 + g) := by
    rw [visC_j hg hg, if_pos rfl, Int32.add_sub_cancel]
  have e3 : visC q mo l br mood got g c 3 - 1 = c 3 := by rw [visC_3, Int32.add_sub_cancel]
  rw [e16, e3]
  by_cases k3 : k = 3
  · subst k3; rw [pk_us]
  rw [pk_un k3]
  by_cases k16 : k = 16 + g
  · subst k16; rw [pk_us]
  rw [pk_un k16]
  by_cases k10 : k = 10 + g
  · subst k10; rw [pk_us]
  rw [pk_un k10]
  by_cases k4 : k = 4 + g
  · subst k4; rw [pk_us]
  rw [pk_un k4]
  by_cases k0 : k = 0
  · subst k0; rw [pk_us]
  rw [pk_un k0]
  cases br with
  | none => show upd (upd (upd c (10 + g) _) (16 + g) _) 3 _ k = _; rw [pk_un k3, pk_un k16, pk_un k10]
  | some b => show upd (upd (upd (upd (upd c (10 + g) _) (16 + g) _) 3 _) (4 + g) _) 0 _ k = _; rw [pk_un k0, pk_un k4, pk_un k3, pk_un k16, pk_un k10]
theorem q_unrec9 {post : St → Prop} {nd ng mo wg : Nat} {q : Nat → Nat} {lk : Nat → Int32} {lw : Option ((Nat → Int32) → Int32)} {z : St} {c : Nat → Int32} (hz : CZ nd ng mo wg q lk lw z) (hl : Lim nd ng mo wg q) {V : Nat} (tb : TB V nd c) {g : Nat} (hg : g < ng) (e : gA z 24 = visN nd mo q lk lw g c) (hp : ∀ z', Fr [] [24] z z' → gA z' 24 = c → post z') : S_Table_unreceive_9 post (nI g) (c 0) (c (4 + g)) (c (10 + g)) z := by
  have h6 := hl.1
  have g6 := hl.2.1
  obtain ⟨eg, hgot⟩ := tb.got h6 (hl.2.2.2.2.2.1 (by omega))
  unfold S_Table_unreceive_9
  rw [k4, k10, k16, nI_add, nI_add, nI_add, nI_clamp (by omega), nI_clamp (by omega), nI_clamp (by omega)]
  refine ev ⟨(vp_in_nI (by omega) (by omega)), ev ⟨(vp_in_nI (by omega) (by omega)), ev ⟨(vp_in_nI (by omega) (by omega)), ?_⟩⟩⟩
  have f1 : Fr [] [24] z (sA (sA (sA z 24 0 (c 0)) 24 (4 + g) (c (4 + g))) 24 (10 + g) (c (10 + g))) := ((Fr.rf.sA (by decide)).sA (by decide)).sA (by decide)
  have a1 : gA (sA (sA (sA z 24 0 (c 0)) 24 (4 + g) (c (4 + g))) 24 (10 + g) (c (10 + g))) 24 = upd (upd (upd (visN nd mo q lk lw g c) 0 (c 0)) (4 + g) (c (4 + g))) (10 + g) (c (10 + g)) := by
    rw [gA_sA, if_pos rfl, gA_sA, if_pos rfl, gA_sA, if_pos rfl, e]
  have u0 : upd (upd (upd (visN nd mo q lk lw g c) 0 (c 0)) (4 + g) (c (4 + g))) (10 + g) (c (10 + g)) 0 = nI (tN (c 0)) := by
    rw [pk_un (by omega), pk_un (by omega), pk_us]; exact eg
  unfold S_Table_gladness_9
  rw [a1, nI_clamp (by omega), (hz.fr f1 (by decide) (by decide)).2.2.2.2.2.1 g hg, u0]
  refine ⟨(vp_in_nI (by omega) (by omega)), q_joyX (hz.fr f1 (by decide) (by decide)) hl hgot ⟨(vp_in_nI (by omega) (by omega)), ev (ev (hp _ ((f1.sA (by decide)).sA (by decide)) ?_))⟩⟩
  rw [gA_sA, if_pos rfl, gA_sA, if_pos rfl, a1]
  have h1 : upd (upd (upd (visN nd mo q lk lw g c) 0 (c 0)) (4 + g) (c (4 + g))) (10 + g) (c (10 + g)) (16 + g) = visN nd mo q lk lw g c (16 + g) := by
    rw [pk_un (by omega), pk_un (by omega), pk_un (by omega)]
  have h2 : upd (upd (upd (upd (visN nd mo q lk lw g c) 0 (c 0)) (4 + g) (c (4 + g))) (10 + g) (c (10 + g))) (16 + g) (visN nd mo q lk lw g c (16 + g) - nI (joyN q mo (lk g) (tN (c 0)))) 3 = visN nd mo q lk lw g c 3 := by
    rw [pk_un (by omega), pk_un (by omega), pk_un (by omega), pk_un (by omega)]
  rw [h1, h2]
  exact un_vis (br := brC nd mo q lk lw g c) (by omega) (fun b hb => by have := (br_lt hb).1; omega)
theorem gv_X {nd ng mo wg : Nat} {q : Nat → Nat} {lk : Nat → Int32} {lw : Option ((Nat → Int32) → Int32)} (hl : Lim nd ng mo wg q) (h0 : 0 < ng) {un : Bool} {aim oth idx : Int32} : ∀ l d, l < d → l < 2 ^ 20 → ∀ (z : St) (c : Nat → Int32) (V row joy parts u : Nat) (post : St → Prop), CZ nd ng mo wg q lk lw z → gA z 24 = c → TB V nd c → gI z 32 = (if un = true then 1 else 0) → gI z 33 = aim → gI z 34 = oth → gI z 35 = idx → u < 64 → parts < 2 ^ 31 → (∀ z', Fr [36, 37, 38, 39, 40] [21, 22, 24] z z' → gA z' 24 = c → accX z' = (lvs nd ng mo q lk lw un l row joy parts u c).foldl (stX aim oth idx) (accX z) → post z') → D_Rows_goVisits d post (nI l) (nI row) (nI joy) (nI parts) (nI u) z := by
  have h6 := hl.1
  have g6 := hl.2.1
  intro l
  induction l with
  | zero =>
    intro d hd _ z c V row joy parts u post hz ec tb e32 e33 e34 e35 hu hpa hp
    obtain ⟨d, rfl⟩ : ∃ j, d = j + 1 := ⟨d - 1, by omega⟩
    show S_Rows_goVisits _ post _ _ _ _ _ z
    unfold S_Rows_goVisits
    refine pp_y (by decide) (q_leafX (fun z' hf ha => hp z' (hf.wk (fun _ h => h) (by decide)) ((hf.2.1 24 (by decide)).trans ec) ?_))
    rw [ha, e33, e34, e35, ec]; rfl
  | succ l ih =>
    intro d hd hlb z c V row joy parts u post hz ec tb e32 e33 e34 e35 hu hpa hp
    obtain ⟨d, rfl⟩ : ∃ j, d = j + 1 := ⟨d - 1, by omega⟩
    show S_Rows_goVisits _ post _ _ _ _ _ z
    unfold S_Rows_goVisits S_Table_bottle_9
    rw [k1, nI_ltI (by omega) (by omega), show gI z 27 = nI ng from hz.2.1, nI_leI (by omega) (by omega)]
    refine pp_n (by omega) (pp_y (by omega) ?_)
    show ∃ n4, L_Rows_goVisits_42 _ post n4 _ _ _ _ _ (gA z 24 0) (0 : Int32) z
    rw [ec]
    have loop : ∀ m i, i + m = ng → ∀ z1, Fr [36, 37, 38, 39, 40] [21, 22, 24] z z1 → gA z1 24 = c → accX z1 = ((List.range i).flatMap (fun g => if un = true ∧ u.testBit g = true then [] else lvs nd ng mo q lk lw un l (10 * row + g) (joy + joyN q mo (lk g) (tN (c 0))) (parts / ng) (u ||| 2 ^ g) (visN nd mo q lk lw g c))).foldl (stX aim oth idx) (accX z) → ∀ k, m + 1 ≤ k → L_Rows_goVisits_42 (D_Rows_goVisits d) post k (nI (l + 1)) (nI row) (nI joy) (nI parts) (nI u) (c 0) (nI i) z1 := by
      intro m
      induction m with
      | zero =>
        intro i hi z1 hf e1 ha k hk
        obtain ⟨k, rfl⟩ : ∃ j, k = j + 1 := ⟨k - 1, by omega⟩
        show B_Rows_goVisits_42 _ post _ _ _ _ _ _ _ _ z1
        unfold B_Rows_goVisits_42
        rw [show gI z1 27 = nI ng from (hf.1 27 (by decide)).trans hz.2.1]
        refine pp_y (nI_le (by omega) (by omega)) (hp z1 hf e1 ?_)
        rw [ha, show i = ng by omega]; rfl
      | succ m ihm =>
        intro i hi z1 hf e1 ha k hk
        obtain ⟨k, rfl⟩ : ∃ j, k = j + 1 := ⟨k - 1, by omega⟩
        have hz1 : CZ nd ng mo wg q lk lw z1 := hz.fr hf (by decide) (by decide)
        have hb0 := bit_0 u hu i (by omega)
        have hbu := bit_u u hu i (by omega)
        have skip : (un = true ∧ u.testBit i = true) → B_Rows_goVisits_164 (D_Rows_goVisits d) post (L_Rows_goVisits_42 (D_Rows_goVisits d) post k) (nI (l + 1)) (nI row) (nI joy) (nI parts) (nI u) (c 0) (nI i) z1 := fun hc => by
          unfold B_Rows_goVisits_164
          refine ev ?_
          rw [nI_1]
          refine ihm (i + 1) (by omega) z1 hf e1 ?_ k (by omega)
          rw [List.range_succ, List.flatMap_append, List.foldl_append, ← ha, List.flatMap_singleton, if_pos hc]; rfl
        have go : ¬ (un = true ∧ u.testBit i = true) → B_Rows_goVisits_71 (D_Rows_goVisits d) post (L_Rows_goVisits_42 (D_Rows_goVisits d) post k) (nI (l + 1)) (nI row) (nI joy) (nI parts) (nI u) (c 0) (nI i) z1 := fun hc => by
          have tb1 : TB V nd (gA z1 24) := by rw [e1]; exact tb
          obtain ⟨eg, hgot⟩ := tb.got h6 (hl.2.2.2.2.2.1 h0)
          obtain ⟨em, hm⟩ := tb.mo (show i < 6 by omega)
          unfold B_Rows_goVisits_71 S_Table_moneyOf_9 S_Table_moodOf_9
          rw [k4, nI_add, nI_clamp (by omega)]
          refine ⟨(vp_in_nI (by omega) (by omega)), ?_⟩
          show vp_in ((10 : Int32) + nI i) 28 ∧ _
          rw [k10, nI_add, nI_clamp (by omega)]
          refine ⟨(vp_in_nI (by omega) (by omega)), q_glad9 hz1 hl tb1 (by omega) ?_⟩
          rw [e1]
          refine q_receive9 hz1 hl (show i < ng by omega) hgot (by rw [e1]; exact eg) hm (by rw [e1]; exact em) (fun z2 hf2 e2 => ?_)
          rw [e1] at e2
          have hz2 : CZ nd ng mo wg q lk lw z2 := hz1.fr hf2 (by decide) (by decide)
          have f12 : Fr [36, 37, 38, 39, 40] [21, 22, 24] z z2 := hf.tr (hf2.wk (by decide) (by decide))
          have a2 : accX z2 = accX z1 := by
            unfold accX
            rw [hf2.1 36 (by decide), hf2.1 37 (by decide), hf2.1 38 (by decide), hf2.1 39 (by decide), hf2.1 40 (by decide)]
          rw [show gI z2 27 = nI ng from hz2.2.1, hbu.1, pk_mul, nI_add, nI_add, pk_div hpa h0 (by omega), show (nI (l + 1) - 1 : Int32) = nI l from nI_pred l]
          refine ⟨nI_ne0 h0 (by omega), ih d (by omega) (by omega) z2 (visN nd mo q lk lw i c) (V + 1) _ _ _ _ _ hz2 e2 (tb.visN hl (by omega)) ((f12.1 32 (by decide)).trans e32) ((f12.1 33 (by decide)).trans e33) ((f12.1 34 (by decide)).trans e34) ((f12.1 35 (by decide)).trans e35) hbu.2 (Nat.lt_of_le_of_lt (Nat.div_le_self _ _) hpa) (fun z3 hf3 e3 a3 => ?_)⟩
          have f13 : Fr [36, 37, 38, 39, 40] [21, 22, 24] z z3 := f12.tr hf3
          refine q_unrec9 (hz.fr f13 (by decide) (by decide)) hl tb (by omega) e3 (fun z4 hf4 e4 => ?_)
          unfold B_Rows_goVisits_164
          refine ev ?_
          rw [nI_1]
          have f14 : Fr [36, 37, 38, 39, 40] [21, 22, 24] z z4 := f13.tr (hf4.wk (by decide) (by decide))
          have a4 : accX z4 = accX z3 := by
            unfold accX
            rw [hf4.1 36 (by decide), hf4.1 37 (by decide), hf4.1 38 (by decide), hf4.1 39 (by decide), hf4.1 40 (by decide)]
          refine ihm (i + 1) (by omega) z4 f14 e4 ?_ k (by omega)
          rw [List.range_succ, List.flatMap_append, List.foldl_append, ← ha, List.flatMap_singleton, if_neg hc, a4, a3, a2]
        show B_Rows_goVisits_42 _ post _ _ _ _ _ _ _ _ z1
        unfold B_Rows_goVisits_42
        rw [show gI z1 27 = nI ng from (hf.1 27 (by decide)).trans hz.2.1, show gI z1 32 = _ from (hf.1 32 (by decide)).trans e32, hb0]
        refine pp_n (nI_ge (by omega) (by omega)) ?_
        cases un with
        | false => exact pp_y rfl (go (fun q => absurd q.1 (by decide)))
        | true =>
          refine pp_n (by decide) ⟨fun c => go (fun q => by rw [c] at q; exact absurd q.2 (by decide)), fun c => skip ⟨rfl, by simpa using c⟩⟩
    exact ⟨ng + 1, loop ng 0 (by omega) z Fr.rf ec rfl (ng + 1) (Nat.le_refl _)⟩
