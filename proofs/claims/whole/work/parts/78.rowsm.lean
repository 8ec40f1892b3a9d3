/-! the reference's search -/
abbrev AM : Type := Int32 × Int32 × Int32
def accM (y : St) : AM := (gI y 123, gI y 124, gI y 125)
def stM (what aim wanted : Int32) (a : AM) (lf : Lf) : AM :=
  if what = 0 then (if a.1 < nI lf.2.1 then (nI lf.2.1, nI lf.1, a.2.2) else a)
  else if (if lf.2.2.1 = aim then (1 : Int32) else 0) = (if what = 1 then (1 : Int32) else 0) then (a.1, if a.2.2 = wanted then nI lf.1 else a.2.1, a.2.2 + 1) else a
theorem q_leafM {post : St → Prop} {y : St} {row joy parts : Nat} (hp : ∀ y', Fr [123, 124, 125] [] y y' → accM y' = stM (gI y 121) (gI y 122) (gI y 126) (accM y) (row, joy, gA y 114 24, parts) → post y') : S_M_endsRow post (nI joy) (nI row) y := by
  unfold S_M_endsRow
  refine ⟨fun c => ⟨fun c1 => ev (ev (hp _ ((Fr.rf.sI (by decide)).sI (by decide)) ?_)), fun c1 => hp y Fr.rf ?_⟩, fun c => ?_⟩
  · unfold stM; rw [if_pos c]
    show _ = if gI y 123 < nI joy then _ else _
    rw [if_pos c1]; rfl
  · unfold stM; rw [if_pos c]
    show _ = if gI y 123 < nI joy then _ else _
    rw [if_neg c1]
  · have body : ∀ s0 s1 : Int32, s1 = (if gA y 114 24 = gI y 122 then (1 : Int32) else 0) → s0 = (if gI y 121 = 1 then (1 : Int32) else 0) → B_M_endsRow_59 post (nI row) s0 s1 y := fun s0 s1 h1 h0 => by
      unfold B_M_endsRow_59 B_M_endsRow_79
      refine ⟨fun c1 => ⟨fun c2 => ev (ev (hp _ ((Fr.rf.sI (by decide)).sI (by decide)) ?_)), fun c2 => ev (hp _ (Fr.rf.sI (by decide)) ?_)⟩, fun c1 => hp y Fr.rf ?_⟩
      · unfold stM; rw [if_neg c, ← h1, ← h0, if_pos c1]
        show _ = (gI y 123, (if gI y 125 = gI y 126 then nI row else gI y 124), gI y 125 + 1)
        rw [if_pos c2]; rfl
      · unfold stM; rw [if_neg c, ← h1, ← h0, if_pos c1]
        show _ = (gI y 123, (if gI y 125 = gI y 126 then nI row else gI y 124), gI y 125 + 1)
        rw [if_neg c2]; rfl
      · unfold stM; rw [if_neg c, ← h1, ← h0, if_neg c1]
    have b46 : ∀ s1 : Int32, s1 = (if gA y 114 24 = gI y 122 then (1 : Int32) else 0) → B_M_endsRow_46 post (nI row) s1 y := fun s1 h1 => by
      unfold B_M_endsRow_46
      exact ⟨fun c1 => body 1 s1 h1 (by rw [if_pos c1]), fun c1 => body 0 s1 h1 (by rw [if_neg c1])⟩
    exact ⟨fun c1 => b46 1 (by rw [if_pos c1]), fun c1 => b46 0 (by rw [if_neg c1])⟩
theorem q_save {rq : (St → Prop) → Int32 → Int32 → Int32 → Int32 → St → Prop} {post : St → Prop} {y : St} {l : Nat} {x2 x3 x4 : Int32} (hl6 : l ≤ 6) (h : ∃ n, L_M_goRows_50 rq post n (nI l) x2 x3 x4 (0 : Int32) (sF y 116 (fb_put (gA y 116) (gA y 114) (29 * l) 29))) : ∃ n, L_M_goRows_15 rq post n (nI l) x2 x3 x4 (0 : Int32) y := by
  have h0 : y = sF y 116 (fb_put (gA y 116) (gA y 114) (29 * l) 0) := by rw [fb_put_0, sF_id]
  rw [h0]
  refine lp_up (fun n i => L_M_goRows_15 rq post n (nI l) x2 x3 x4 (nI i) (sF y 116 (fb_put (gA y 116) (gA y 114) (29 * l) i))) 29 ?_ ?_
  · intro n i hi ih
    show B_M_goRows_15 rq post _ _ _ _ _ _ _
    unfold B_M_goRows_15
    rw [k29, pk_mul, nI_add, nI_1, nI_clamp (by omega), nI_clamp (by omega), nI_leI (by omega) (by omega)]
    refine pp_n (by omega) ⟨(vp_in_nI (by omega) (by omega)), (vp_in_nI (by omega) (by omega)), ev (ev ?_)⟩
    rw [sA_sF, gA_sF, if_neg (by decide), fb_put_succ]
    exact ih
  · show B_M_goRows_15 rq post _ _ _ _ _ _ _
    unfold B_M_goRows_15
    exact pp_y (by decide) h
theorem q_restore {rq : (St → Prop) → Int32 → Int32 → Int32 → Int32 → St → Prop} {post : St → Prop} {ih50 : Int32 → Int32 → Int32 → Int32 → Int32 → St → Prop} {y : St} {l : Nat} {x2 x3 x4 x5 : Int32} (hl6 : l ≤ 6) (h : B_M_goRows_146 rq post ih50 (nI l) x2 x3 x4 x5 (sF y 114 (fa_fill (fun k => gA y 116 (29 * l + k)) (gA y 114) 29))) : ∃ n, L_M_goRows_114 rq post ih50 n (nI l) x2 x3 x4 x5 (0 : Int32) y := by
  have h0 : y = sF y 114 (fa_fill (fun k => gA y 116 (29 * l + k)) (gA y 114) 0) := by rw [fa_fill_0, sF_id]
  rw [h0]
  refine lp_up (fun n i => L_M_goRows_114 rq post ih50 n (nI l) x2 x3 x4 x5 (nI i) (sF y 114 (fa_fill (fun k => gA y 116 (29 * l + k)) (gA y 114) i))) 29 ?_ ?_
  · intro n i hi ih
    show B_M_goRows_114 rq post ih50 _ _ _ _ _ _ _ _
    unfold B_M_goRows_114
    rw [k29, pk_mul, nI_add, nI_1, nI_clamp (by omega), nI_clamp (by omega), nI_leI (by omega) (by omega)]
    refine pp_n (by omega) ⟨(vp_in_nI (by omega) (by omega)), (vp_in_nI (by omega) (by omega)), ev (ev ?_)⟩
    rw [sA_sF, gA_sF, if_neg (by decide)]
    have e := fa_fill_succ (fun k => gA y 116 (29 * l + k)) (gA y 114) i
    rw [e]
    exact ih
  · show B_M_goRows_114 rq post ih50 _ _ _ _ _ _ _ _
    unfold B_M_goRows_114
    exact pp_y (by decide) h
theorem TR.cg28 {w w' c : Nat → Int32} (h : TR w c) (hw : ∀ k, k < 29 → w' k = w k) : TR w' c := h.cg (fun k hk => hw k (by omega)) (fun _ _ => rfl)
def RQ : List Nat := 123 :: 124 :: 125 :: RD
theorem gr_M {nd ng mo wg : Nat} {q : Nat → Nat} {lk : Nat → Int32} {lw : Option ((Nat → Int32) → Int32)} (hl : Lim nd ng mo wg q) {un : Bool} {what aim wanted : Int32} : ∀ l d, l < d → l ≤ 6 → ∀ (y : St) (c : Nat → Int32) (V bl row joy parts u : Nat) (post : St → Prop), CY nd ng mo wg q lk lw y → TR (gA y 114) c → TB V nd c → gA y 114 28 = nI bl → bl + l ≤ 59 ∧ V + l < 2 ^ 31 → gI y 127 = (if un = true then 0 else 1) → gI y 121 = what → gI y 122 = aim → gI y 126 = wanted → u < 64 → (∀ y', Fr RQ [104, 114, 116] y y' → (∀ k, k < 29 → gA y' 114 k = gA y 114 k) → (∀ k, 29 * (l + 1) ≤ k → gA y' 116 k = gA y 116 k) → accM y' = (lvs nd ng mo q lk lw un l row joy parts u c).foldl (stM what aim wanted) (accM y) → post y') → D_M_goRows d post (nI l) (nI u) (nI joy) (nI row) y := by
  have h6 := hl.1
  have g6 := hl.2.1
  intro l
  induction l with
  | zero =>
    intro d hd _ y c V bl row joy parts u post hy tr tb hb hbl e127 e121 e122 e126 hu hp
    obtain ⟨d, rfl⟩ : ∃ j, d = j + 1 := ⟨d - 1, by omega⟩
    show S_M_goRows _ post _ _ _ _ y
    unfold S_M_goRows
    refine pp_y rfl (q_leafM (parts := parts) (fun y' hf ha => hp y' (hf.wk (by decide) (by decide)) (fun k _ => by rw [hf.2.1 114 (by decide)]) (fun k _ => by rw [hf.2.1 116 (by decide)]) ?_))
    rw [ha, e121, e122, e126, tr.b.1]; rfl
  | succ l ih =>
    intro d hd hl6 y c V bl row joy parts u post hy tr tb hb hbl e127 e121 e122 e126 hu hp
    obtain ⟨d, rfl⟩ : ∃ j, d = j + 1 := ⟨d - 1, by omega⟩
    show S_M_goRows _ post _ _ _ _ y
    unfold S_M_goRows
    refine pp_n (nI_ne0 (by omega) (by omega)) (q_save hl6 ?_)
    have fs : Fr RQ [104, 114, 116] y (sF y 116 (fb_put (gA y 116) (gA y 114) (29 * (l + 1)) 29)) := Fr.rf.sF (by decide)
    have loop : ∀ m i, i + m = ng → ∀ y1, Fr RQ [104, 114, 116] y y1 → (∀ k, k < 29 → gA y1 114 k = gA y 114 k) → (∀ k, k < 29 → gA y1 116 (29 * (l + 1) + k) = gA y 114 k) → (∀ k, 29 * (l + 2) ≤ k → gA y1 116 k = gA y 116 k) → accM y1 = ((List.range i).flatMap (fun g => if un = true ∧ u.testBit g = true then [] else lvs nd ng mo q lk lw un l (10 * row + g) (joy + joyN q mo (lk g) (tN (c 0))) (parts / ng) (u ||| 2 ^ g) (visN nd mo q lk lw g c))).foldl (stM what aim wanted) (accM y) → ∀ k, m + 1 ≤ k → L_M_goRows_50 (D_M_goRows d) post k (nI (l + 1)) (nI u) (nI joy) (nI row) (nI i) y1 := by
      intro m
      induction m with
      | zero =>
        intro i hi y1 hf h114 h116 hhi ha k hk
        obtain ⟨k, rfl⟩ : ∃ j, k = j + 1 := ⟨k - 1, by omega⟩
        show B_M_goRows_50 _ post _ _ _ _ _ _ y1
        unfold B_M_goRows_50
        rw [show gI y1 112 = nI ng from (hf.1 112 (by decide)).trans hy.2.1]
        refine pp_y (nI_le (by omega) (by omega)) (hp y1 hf h114 hhi ?_)
        rw [ha, show i = ng by omega]; rfl
      | succ m ihm =>
        intro i hi y1 hf h114 h116 hhi ha k hk
        obtain ⟨k, rfl⟩ : ∃ j, k = j + 1 := ⟨k - 1, by omega⟩
        have hy1 : CY nd ng mo wg q lk lw y1 := hy.fr hf (by decide) (by decide)
        have hb1 := bit_1 u hu i (by omega)
        have hbu := bit_u u hu i (by omega)
        have tr1 : TR (gA y1 114) c := tr.cg28 h114
        have skip : (un = true ∧ u.testBit i = true) → B_M_goRows_146 (D_M_goRows d) post (L_M_goRows_50 (D_M_goRows d) post k) (nI (l + 1)) (nI u) (nI joy) (nI row) (nI i) y1 := fun hc => by
          unfold B_M_goRows_146
          refine ev ?_
          rw [nI_1]
          refine ihm (i + 1) (by omega) y1 hf h114 h116 hhi ?_ k (by omega)
          rw [List.range_succ, List.flatMap_append, List.foldl_append, ← ha, List.flatMap_singleton, if_pos hc]; rfl
        have go : ¬ (un = true ∧ u.testBit i = true) → B_M_goRows_78 (D_M_goRows d) post (L_M_goRows_50 (D_M_goRows d) post k) (nI (l + 1)) (nI u) (nI joy) (nI row) (nI i) y1 := fun hc => by
          unfold B_M_goRows_78
          refine q_visN114 hy1 hl tr1 tb (show i < ng by omega) ((h114 28 (by omega)).trans hb) (by omega) (fun y2 hf2 t2 e2 => ?_)
          have f12 : Fr RQ [104, 114, 116] y y2 := hf.tr (hf2.wk (by decide) (by decide))
          have e116 : gA y2 116 = gA y1 116 := hf2.2.1 116 (by decide)
          have a2 : accM y2 = accM y1 := by
            unfold accM
            rw [hf2.1 123 (by decide), hf2.1 124 (by decide), hf2.1 125 (by decide)]
          rw [hbu.1, k10, pk_mul, nI_add, nI_add, show (nI (l + 1) - 1 : Int32) = nI l from nI_pred l]
          refine ih d (by omega) (by omega) y2 (visN nd mo q lk lw i c) (V + 1) (bl + 1) _ _ (parts / ng) _ _ (hy.fr f12 (by decide) (by decide)) t2 (tb.visN hl (by omega)) e2 (by omega) ((f12.1 127 (by decide)).trans e127) ((f12.1 121 (by decide)).trans e121) ((f12.1 122 (by decide)).trans e122) ((f12.1 126 (by decide)).trans e126) hbu.2 (fun y3 hf3 h3 h3' a3 => ?_)
          have f13 : Fr RQ [104, 114, 116] y y3 := f12.tr hf3
          refine q_restore hl6 ?_
          unfold B_M_goRows_146
          refine ev ?_
          rw [nI_1]
          have s3 : ∀ k, k < 29 → gA y3 116 (29 * (l + 1) + k) = gA y 114 k := fun k hk => by rw [h3' _ (by omega), e116]; exact h116 k hk
          refine ihm (i + 1) (by omega) _ (f13.sF (by decide)) (fun k hk => ?_) (fun k hk => ?_) (fun k hk => ?_) ?_ k (by omega)
          · rw [gA_sF, if_pos rfl, fa_fill_in hk]; exact s3 k hk
          · rw [gA_sF, if_neg (by decide)]; exact s3 k hk
          · rw [gA_sF, if_neg (by decide), h3' k (by omega), e116]; exact hhi k hk
          · rw [List.range_succ, List.flatMap_append, List.foldl_append, ← ha, List.flatMap_singleton, if_neg hc, ← a2]; exact a3
        show B_M_goRows_50 _ post _ _ _ _ _ _ y1
        unfold B_M_goRows_50 S_M_has
        rw [show gI y1 112 = nI ng from (hf.1 112 (by decide)).trans hy.2.1, show gI y1 127 = _ from (hf.1 127 (by decide)).trans e127, hb1]
        refine pp_n (nI_ge (by omega) (by omega)) ?_
        cases un with
        | false => exact pp_n (by decide) (go (fun q => absurd q.1 (by decide)))
        | true =>
          refine pp_y rfl ⟨fun c => r11 (skip ⟨rfl, c⟩), fun c => r01 (go (fun q => c q.2))⟩
    refine ⟨ng + 1, loop ng 0 (by omega) _ fs (fun k _ => rfl) (fun k hk => ?_) (fun k hk => ?_) rfl (ng + 1) (Nat.le_refl _)⟩
    · rw [gA_sF, if_pos rfl, fb_put_in (by omega) (by omega)]; congr 1; omega
    · rw [gA_sF, if_pos rfl, fb_put_out (by omega)]
/-! odds -/
def smO (aim : Int32) (s : Int32) (lf : Lf) : Int32 := s + (if lf.2.2.1 = aim then nI lf.2.2.2 else 0)
theorem smO_add (aim : Int32) : ∀ (ls : List Lf) (s : Int32), ls.foldl (smO aim) s = s + ls.foldl (smO aim) 0
  | [], s => (Int32.add_zero s).symm
  | lf :: ls, s => by
    show ls.foldl (smO aim) (smO aim s lf) = s + ls.foldl (smO aim) (smO aim 0 lf)
    rw [smO_add aim ls (smO aim s lf), smO_add aim ls (smO aim 0 lf)]
    unfold smO
    rw [Int32.zero_add, Int32.add_assoc]
theorem q_saveO {rq : (Int32 → St → Prop) → Int32 → Int32 → Int32 → St → Prop} {post : Int32 → St → Prop} {y : St} {l : Nat} {x1 x3 : Int32} (hl6 : l ≤ 6) (h : ∃ n, L_M_oddsFrom_62 rq post n x1 (nI l) x3 (0 : Int32) (0 : Int32) (sF y 116 (fb_put (gA y 116) (gA y 114) (29 * l) 29))) : ∃ n, L_M_oddsFrom_24 rq post n x1 (nI l) x3 (0 : Int32) y := by
  have h0 : y = sF y 116 (fb_put (gA y 116) (gA y 114) (29 * l) 0) := by rw [fb_put_0, sF_id]
  rw [h0]
  refine lp_up (fun n i => L_M_oddsFrom_24 rq post n x1 (nI l) x3 (nI i) (sF y 116 (fb_put (gA y 116) (gA y 114) (29 * l) i))) 29 ?_ ?_
  · intro n i hi ih
    show B_M_oddsFrom_24 rq post _ _ _ _ _ _
    unfold B_M_oddsFrom_24
    rw [k29, pk_mul, nI_add, nI_1, nI_clamp (by omega), nI_clamp (by omega), nI_leI (by omega) (by omega)]
    refine pp_n (by omega) ⟨(vp_in_nI (by omega) (by omega)), (vp_in_nI (by omega) (by omega)), ev (ev ?_)⟩
    rw [sA_sF, gA_sF, if_neg (by decide), fb_put_succ]
    exact ih
  · show B_M_oddsFrom_24 rq post _ _ _ _ _ _
    unfold B_M_oddsFrom_24
    exact pp_y (by decide) h
theorem q_restoreO {rq : (Int32 → St → Prop) → Int32 → Int32 → Int32 → St → Prop} {post : Int32 → St → Prop} {ih62 : Int32 → Int32 → Int32 → Int32 → Int32 → St → Prop} {y : St} {l : Nat} {x1 x3 x4 x5 : Int32} (hl6 : l ≤ 6) (h : ih62 x1 (nI l) x3 x4 (x5 + 1) (sF y 114 (fa_fill (fun k => gA y 116 (29 * l + k)) (gA y 114) 29))) : ∃ n, L_M_oddsFrom_105 rq post ih62 n x1 (nI l) x3 x4 x5 (0 : Int32) y := by
  have h0 : y = sF y 114 (fa_fill (fun k => gA y 116 (29 * l + k)) (gA y 114) 0) := by rw [fa_fill_0, sF_id]
  rw [h0]
  refine lp_up (fun n i => L_M_oddsFrom_105 rq post ih62 n x1 (nI l) x3 x4 x5 (nI i) (sF y 114 (fa_fill (fun k => gA y 116 (29 * l + k)) (gA y 114) i))) 29 ?_ ?_
  · intro n i hi ih
    show B_M_oddsFrom_105 rq post ih62 _ _ _ _ _ _ _ _
    unfold B_M_oddsFrom_105
    rw [k29, pk_mul, nI_add, nI_1 i, nI_clamp (by omega), nI_clamp (by omega), nI_leI (by omega) (by omega)]
    refine pp_n (by omega) ⟨(vp_in_nI (by omega) (by omega)), (vp_in_nI (by omega) (by omega)), ev (ev ?_)⟩
    rw [sA_sF, gA_sF, if_neg (by decide)]
    have e := fa_fill_succ (fun k => gA y 116 (29 * l + k)) (gA y 114) i
    rw [e]
    exact ih
  · show B_M_oddsFrom_105 rq post ih62 _ _ _ _ _ _ _ _
    unfold B_M_oddsFrom_105
    exact pp_y (by decide) (ev h)
theorem od_M {nd ng mo wg : Nat} {q : Nat → Nat} {lk : Nat → Int32} {lw : Option ((Nat → Int32) → Int32)} (hl : Lim nd ng mo wg q) (h0 : 0 < ng) {aim : Int32} : ∀ l d, l < d → l ≤ 6 → ∀ (y : St) (c : Nat → Int32) (V bl row joy parts u : Nat) (post : Int32 → St → Prop), CY nd ng mo wg q lk lw y → TR (gA y 114) c → TB V nd c → gA y 114 28 = nI bl → bl + l ≤ 59 ∧ V + l < 2 ^ 31 → parts < 2 ^ 31 → (∀ y', Fr RD [104, 114, 116] y y' → (∀ k, k < 29 → gA y' 114 k = gA y 114 k) → (∀ k, 29 * (l + 1) ≤ k → gA y' 116 k = gA y 116 k) → post ((lvs nd ng mo q lk lw false l row joy parts u c).foldl (smO aim) 0) y') → D_M_oddsFrom d post aim (nI l) (nI parts) y := by
  have h6 := hl.1
  have g6 := hl.2.1
  intro l
  induction l with
  | zero =>
    intro d hd _ y c V bl row joy parts u post hy tr tb hb hbl hpa hp
    obtain ⟨d, rfl⟩ : ∃ j, d = j + 1 := ⟨d - 1, by omega⟩
    have hp := hp y Fr.rf (fun _ _ => rfl) (fun _ _ => rfl)
    show S_M_oddsFrom _ post _ _ _ y
    unfold S_M_oddsFrom
    rw [tr.b.1]
    have e : (lvs nd ng mo q lk lw false 0 row joy parts u c).foldl (smO aim) 0 = (if c 0 = aim then nI parts else 0) := by
      show (0 : Int32) + (if c 0 = aim then nI parts else 0) = _
      rw [Int32.zero_add]
    rw [e] at hp
    refine pp_y rfl ⟨fun c1 => ?_, fun c1 => ?_⟩
    · rw [if_pos c1] at hp; exact hp
    · rw [if_neg c1] at hp; exact hp
  | succ l ih =>
    intro d hd hl6 y c V bl row joy parts u post hy tr tb hb hbl hpa hp
    obtain ⟨d, rfl⟩ : ∃ j, d = j + 1 := ⟨d - 1, by omega⟩
    show S_M_oddsFrom _ post _ _ _ y
    unfold S_M_oddsFrom
    refine pp_n (nI_ne0 (by omega) (by omega)) (q_saveO hl6 ?_)
    have fs : Fr RD [104, 114, 116] y (sF y 116 (fb_put (gA y 116) (gA y 114) (29 * (l + 1)) 29)) := Fr.rf.sF (by decide)
    have loop : ∀ m i, i + m = ng → ∀ y1 (s : Int32), Fr RD [104, 114, 116] y y1 → (∀ k, k < 29 → gA y1 114 k = gA y 114 k) → (∀ k, k < 29 → gA y1 116 (29 * (l + 1) + k) = gA y 114 k) → (∀ k, 29 * (l + 2) ≤ k → gA y1 116 k = gA y 116 k) → s = ((List.range i).flatMap (fun g => if false = true ∧ u.testBit g = true then [] else lvs nd ng mo q lk lw false l (10 * row + g) (joy + joyN q mo (lk g) (tN (c 0))) (parts / ng) (u ||| 2 ^ g) (visN nd mo q lk lw g c))).foldl (smO aim) 0 → ∀ k, m + 1 ≤ k → L_M_oddsFrom_62 (D_M_oddsFrom d) post k aim (nI (l + 1)) (nI parts) s (nI i) y1 := by
      intro m
      induction m with
      | zero =>
        intro i hi y1 s hf h114 h116 hhi ha k hk
        obtain ⟨k, rfl⟩ : ∃ j, k = j + 1 := ⟨k - 1, by omega⟩
        show B_M_oddsFrom_62 _ post _ _ _ _ _ _ y1
        unfold B_M_oddsFrom_62
        rw [show gI y1 112 = nI ng from (hf.1 112 (by decide)).trans hy.2.1]
        have hp := hp y1 hf h114 hhi
        refine pp_y (nI_le (by omega) (by omega)) ?_
        rw [ha, show i = ng by omega]; exact hp
      | succ m ihm =>
        intro i hi y1 s hf h114 h116 hhi ha k hk
        obtain ⟨k, rfl⟩ : ∃ j, k = j + 1 := ⟨k - 1, by omega⟩
        have hy1 : CY nd ng mo wg q lk lw y1 := hy.fr hf (by decide) (by decide)
        have tr1 : TR (gA y1 114) c := tr.cg28 h114
        show B_M_oddsFrom_62 _ post _ _ _ _ _ _ y1
        unfold B_M_oddsFrom_62
        rw [show gI y1 112 = nI ng from (hf.1 112 (by decide)).trans hy.2.1]
        refine pp_n (nI_ge (by omega) (by omega)) (q_visN114 hy1 hl tr1 tb (show i < ng by omega) ((h114 28 (by omega)).trans hb) (by omega) (fun y2 hf2 t2 e2 => ?_))
        have f12 : Fr RD [104, 114, 116] y y2 := hf.tr (hf2.wk (by decide) (by decide))
        have e116 : gA y2 116 = gA y1 116 := hf2.2.1 116 (by decide)
        rw [show gI y2 112 = nI ng from (f12.1 112 (by decide)).trans hy.2.1, pk_div hpa h0 (by omega), show (nI (l + 1) - 1 : Int32) = nI l from nI_pred l]
        refine ⟨nI_ne0 h0 (by omega), ih d (by omega) (by omega) y2 (visN nd mo q lk lw i c) (V + 1) (bl + 1) (10 * row + i) (joy + joyN q mo (lk i) (tN (c 0))) (parts / ng) (u ||| 2 ^ i) _ (hy.fr f12 (by decide) (by decide)) t2 (tb.visN hl (by omega)) e2 (by omega) (Nat.lt_of_le_of_lt (Nat.div_le_self _ _) hpa) (fun y3 hf3 h3 h3' => ev ?_)⟩
        have f13 : Fr RD [104, 114, 116] y y3 := f12.tr hf3
        refine q_restoreO hl6 ?_
        rw [nI_1]
        have s3 : ∀ k, k < 29 → gA y3 116 (29 * (l + 1) + k) = gA y 114 k := fun k hk => by rw [h3' _ (by omega), e116]; exact h116 k hk
        refine ihm (i + 1) (by omega) _ _ (f13.sF (by decide)) (fun k hk => ?_) (fun k hk => ?_) (fun k hk => ?_) ?_ k (by omega)
        · rw [gA_sF, if_pos rfl, fa_fill_in hk]; exact s3 k hk
        · rw [gA_sF, if_neg (by decide)]; exact s3 k hk
        · rw [gA_sF, if_neg (by decide), h3' k (by omega), e116]; exact hhi k hk
        · rw [List.range_succ, List.flatMap_append, List.foldl_append, ← ha, List.flatMap_singleton, if_neg (fun q => absurd q.1 (by decide)), smO_add aim _ s]
    refine ⟨ng + 1, loop ng 0 (by omega) _ _ fs (fun k _ => rfl) (fun k hk => ?_) (fun k hk => ?_) rfl (ng + 1) (Nat.le_refl _)⟩
    · rw [gA_sF, if_pos rfl, fb_put_in (by omega) (by omega)]; congr 1; omega
    · rw [gA_sF, if_pos rfl, fb_put_out (by omega)]
