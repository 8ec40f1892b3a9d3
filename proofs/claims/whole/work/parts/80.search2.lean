theorem r_cases (x : Int32) (lo hi : Nat) (h : lo ≤ hi) (hb : hi < 2 ^ 31) : (x < nI lo ∨ nI hi < x) ∨ ∃ j, lo ≤ j ∧ j ≤ hi ∧ x = nI j := by
  by_cases h1 : x < nI lo
  · exact .inl (.inl h1)
  · by_cases h2 : nI hi < x
    · exact .inl (.inr h2)
    · have h3 : ¬ x < 0 := fun q => h1 (by rw [fa_lt, nI_toInt (by omega)]; rw [fa_lt, ti0] at q; omega)
      obtain ⟨j, hj, e⟩ := nI_of2 (n := hi) (nI_toInt hb) h3 (fa_of_nlt h2)
      refine .inr ⟨j, ?_, hj, e⟩
      rw [e, nI_ltI (by omega) (by omega)] at h1; omega
theorem q_isInR_y {post : Int32 → St → Prop} {j lo m : Nat} {A B : Int64} {z : St} (ha : A = (nI lo).toInt64) (hb : B = (nI m).toInt64) (hm : m < 2 ^ 31) (h0 : lo ≤ j) (h : j ≤ m) (h1 : post 1 z) : S_M_isIn post (nI j).toInt64 A B z :=
  q_isIn ha hb (fun _ _ => h1) (fun q => q.elim (fun q => absurd q (nI_nlt (by omega) (by omega))) (fun q => absurd q (nI_nlt (by omega) (by omega))))
theorem q_isInR_n {post : Int32 → St → Prop} {lo m : Nat} {A B : Int64} {x : Int32} {z : St} (ha : A = (nI lo).toInt64) (hb : B = (nI m).toInt64) (h : x < nI lo ∨ nI m < x) (h1 : post 0 z) : S_M_isIn post x.toInt64 A B z :=
  q_isIn ha hb (fun p q => h.elim (fun c => absurd c (fa_of_lt_le p)) (fun c => absurd c (fa_of_lt_le q))) (fun _ => h1)
theorem o_comes {V V' : Nat} (hV : V ≤ V') (hVb : V' < 2 ^ 29) : St_comes (Inv V) (Inv V') := by
  intro z y a1 a2 a3 a4 a5 h
  obtain ⟨nd, ng, mo, wg, q, lk, lw, hz, hy0, hl⟩ := h.ctx
  have hT := h.ta
  have h6 := hl.1
  have g6 := hl.2.1
  have hI : Inv V' z (sI y 100 0) := h.fr hV Fr.rf yt
  have hy := hy0.fr (yt : Fr MS MA y (sI y 100 0)) (by decide) (by decide)
  obtain ⟨tb, tr⟩ := hI.srch hz hl
  unfold S_B_comes
  rcases Nat.eq_zero_or_pos ng with e | e
  · unfold S_M_comes
    exact q_isTold_n hz.2.1 e (r01 (ev (pp_y (by rw [hy.2.1, e]; rfl) ⟨rfl, hI⟩)))
  · have hn : ¬ gI (sI y 100 0) 112 = 0 := by rw [hy.2.1]; exact nI_ne0 e (by omega)
    refine q_isTold_y hz.2.1 g6 e (r11 ?_)
    rcases r_cases a1 1 4 (by omega) (by omega) with c | ⟨n, hn1, hn4, rfl⟩
    · have out : S_M_comes (fun r1 y1 => (-1 : Int32) = r1 ∧ Inv V' z y1) a1 a2 y := by
        unfold S_M_comes
        exact ev (pp_n hn (q_isInR_n (lo := 1) (m := 4) L1 L4 c (r01 ⟨rfl, hI⟩)))
      rcases c with c | c
      · exact pp_y c out
      · exact ⟨fun _ => out, fun _ => pp_y c out⟩
    · refine pp_n (show ¬ nI n < nI 1 from nI_nlt hn1 (by omega)) (pp_n (show ¬ nI 4 < nI n from nI_nlt hn4 (by omega)) ?_)
      rcases r_cases a2 0 1 (by omega) (by omega) with c | ⟨j, _, hj, rfl⟩
      · have out : S_M_comes (fun r1 y1 => (-1 : Int32) = r1 ∧ Inv V' z y1) (nI n) a2 y := by
          unfold S_M_comes
          exact ev (pp_n hn (q_isInR_y (lo := 1) (m := 4) L1 L4 (by omega) hn1 hn4 (r11 (q_isInR_n (lo := 0) (m := 1) L0 L1 c (r01 ⟨rfl, hI⟩)))))
        rcases c with c | c
        · exact pp_y c out
        · exact ⟨fun _ => out, fun _ => pp_n (fun q => fa_of_lt_le q c) out⟩
      · refine pp_n (nI_pos (by omega)) (pp_y (show nI j ≤ nI 1 from nI_le hj (by omega)) (q_search hz hl e (un := false) tb rfl (by omega) rfl (fun z' hf _ ha => ?_)))
        have fin : ∀ r : Int32, r = (if j = 0 then gI z' 36 else gI z' 37) → S_M_comes (fun r1 y1 => r = r1 ∧ Inv V' z' y1) (nI n) (nI j) y := fun r hr => by
          unfold S_M_comes
          refine ev (pp_n hn (q_isInR_y (lo := 1) (m := 4) L1 L4 (by omega) hn1 hn4 (r11 (q_isInR_y (lo := 0) (m := 1) L0 L1 (by omega) (by omega) hj (r11 ?_)))))
          refine q_lays hy hl (un := false) tr tb (by omega) rfl (fun y' hf2 hb => ?_)
          have hII : Inv V' z' y' := hI.sq (Nat.le_refl _) (hf.wk (by decide) (by decide)) hf2
          have te := top_eq (aim := gI z 33) (oth := gI z 34) (idx := gI z 35) (x := 0) (w := 0) (lvs_any (nd := nd) (ng := ng) (mo := mo) (q := q) (lk := lk) (lw := lw) e n 0 0 1000000 0 (va_cpy (gA z 23) (gA z 24) 0 0 28)) (fun lf hm => by have := lvs_joy hl e n 0 0 1000000 0 _ V' tb lf hm; omega)
          rw [← ha, ← hb] at te
          rw [nI_eq0 (by omega)]
          refine ⟨fun c => ⟨?_, hII⟩, fun c => ⟨?_, hII⟩⟩
          · rw [hr, if_pos c]; exact te.2
          · rw [hr, if_neg c]; exact te.1
        rw [nI_eq0 (by omega)]
        exact ⟨fun c => fin _ (by rw [if_pos c]), fun c => fin _ (by rw [if_neg c])⟩
/-! the fewest -/
def fewC (H : Nat → Int32 × Int32) (x : Int32) : Nat → Nat → Int32
  | 0, _ => -1
  | m + 1, n => if (H n).1 ≤ 0 then fewC H x m (n + 1) else if x = 0 then nI n else (H n).2
theorem few_cg {H H' : Nat → Int32 × Int32} {x : Int32} (h : ∀ n, n ≤ 4 → (H n).1 = (H' n).1 ∧ (¬ (H n).1 ≤ 0 → (H n).2 = (H' n).2)) : ∀ m n, n + m = 5 → fewC H x m n = fewC H' x m n
  | 0, _, _ => rfl
  | m + 1, n, hn => by
    obtain ⟨h1, h2⟩ := h n (by omega)
    show (if (H n).1 ≤ 0 then fewC H x m (n + 1) else if x = 0 then nI n else (H n).2) = (if (H' n).1 ≤ 0 then fewC H' x m (n + 1) else if x = 0 then nI n else (H' n).2)
    rw [few_cg h m (n + 1) (by omega), ← h1]
    by_cases c : (H n).1 ≤ 0
    · rw [if_pos c, if_pos c]
    · rw [if_neg c, if_neg c, h2 c]
def HitX (nd ng mo : Nat) (q : Nat → Nat) (lk : Nat → Int32) (lw : Option ((Nat → Int32) → Int32)) (aim oth : Int32) (c : Nat → Int32) (n : Nat) : Int32 × Int32 :=
  (((lvs nd ng mo q lk lw false n 0 0 1000000 0 c).foldl (stX aim oth 0) (0, -1, 0, 0, 0)).2.2.1, ((lvs nd ng mo q lk lw false n 0 0 1000000 0 c).foldl (stX aim oth 0) (0, -1, 0, 0, 0)).2.2.2.1)
def HitY (nd ng mo : Nat) (q : Nat → Nat) (lk : Nat → Int32) (lw : Option ((Nat → Int32) → Int32)) (what aim : Int32) (c : Nat → Int32) (n : Nat) : Int32 × Int32 :=
  (((lvs nd ng mo q lk lw false n 0 0 1000000 0 c).foldl (stM what aim 0) (-1, -1, 0)).2.2, ((lvs nd ng mo q lk lw false n 0 0 1000000 0 c).foldl (stM what aim 0) (-1, -1, 0)).2.1)
theorem lvs_small {nd ng mo : Nat} {q : Nat → Nat} {lk : Nat → Int32} {lw : Option ((Nat → Int32) → Int32)} {un : Bool} (g6 : ng ≤ 6) {l row joy parts u : Nat} {c : Nat → Int32} (hl : l ≤ 6) : (lvs nd ng mo q lk lw un l row joy parts u c).length < 2 ^ 31 := by
  have h1 := lvs_len (nd := nd) (ng := ng) (mo := mo) (q := q) (lk := lk) (lw := lw) (un := un) g6 l row joy parts u c
  have h2 : 6 ^ l ≤ 6 ^ 6 := Nat.pow_le_pow_right (by omega) hl
  have h3 : 6 ^ 6 = 46656 := by decide
  omega
theorem Hit_XY {nd ng mo : Nat} {q : Nat → Nat} {lk : Nat → Int32} {lw : Option ((Nat → Int32) → Int32)} {aim oth what : Int32} {c : Nat → Int32} (g6 : ng ≤ 6) (hw : ¬ what = 0) (ho : ∀ s : Int32, s = 0 ∨ s = 1 → (s = oth ↔ ¬ s = (if what = 1 then (1 : Int32) else 0))) : ∀ n, n ≤ 4 → (HitX nd ng mo q lk lw aim oth c n).1 = (HitY nd ng mo q lk lw what aim c n).1 ∧ (¬ (HitX nd ng mo q lk lw aim oth c n).1 ≤ 0 → (HitX nd ng mo q lk lw aim oth c n).2 = (HitY nd ng mo q lk lw what aim c n).2) := fun n hn => by
  obtain ⟨k, hk, h1, h2, h3, h4⟩ := hit_eq (aim := aim) (idx := 0) hw ho (lvs nd ng mo q lk lw false n 0 0 1000000 0 c) (lvs_small g6 (by omega))
  refine ⟨h1.trans h2.symm, fun c => ?_⟩
  have c1 : ¬ nI k ≤ 0 := by rw [← h1]; exact c
  rw [nI_le0 hk] at c1
  exact h3 0 (by omega) rfl
theorem cpy_cpy {f g : Nat → Int32} : va_cpy f (va_cpy f g 0 0 28) 0 0 28 = va_cpy f g 0 0 28 := by
  funext k
  unfold va_cpy
  split
  · rfl
  · rfl
theorem few_X {nd ng mo wg : Nat} {q : Nat → Nat} {lk : Nat → Int32} {lw : Option ((Nat → Int32) → Int32)} (hl : Lim nd ng mo wg q) (h0 : 0 < ng) {V : Nat} {x aim oth : Int32} {c : Nat → Int32} (tb : TB V nd c) : ∀ m n, n + m = 5 → ∀ (z : St) (post : Int32 → St → Prop), CZ nd ng mo wg q lk lw z → va_cpy (gA z 23) (gA z 24) 0 0 28 = c → gI z 33 = aim → gI z 34 = oth → gI z 35 = 0 → (∀ z', Fr XQ [21, 22, 24] z z' → post (fewC (HitX nd ng mo q lk lw aim oth c) x m n) z') → ∀ k, m + 1 ≤ k → L_B_fewest_2 post k x (nI n) z := by
  intro m
  induction m with
  | zero =>
    intro n hn z post hz ec e33 e34 e35 hp k hk
    obtain ⟨k, rfl⟩ : ∃ j, k = j + 1 := ⟨k - 1, by omega⟩
    show B_B_fewest_2 post _ _ _ z
    unfold B_B_fewest_2
    exact pp_y (show nI 4 < nI n from nI_lt (by omega) (by omega)) (hp z Fr.rf)
  | succ m ih =>
    intro n hn z post hz ec e33 e34 e35 hp k hk
    obtain ⟨k, rfl⟩ : ∃ j, k = j + 1 := ⟨k - 1, by omega⟩
    show B_B_fewest_2 post _ _ _ z
    unfold B_B_fewest_2
    refine pp_n (show ¬ nI 4 < nI n from nI_nlt (by omega) (by omega)) (q_search hz hl h0 (un := false) tb ec (by omega) rfl (fun z' hf e24 ha => ?_))
    rw [e33, e34, e35] at ha
    have a38 : gI z' 38 = (HitX nd ng mo q lk lw aim oth c n).1 := congrArg (fun a : AX => a.2.2.1) ha
    have a39 : gI z' 39 = (HitX nd ng mo q lk lw aim oth c n).2 := congrArg (fun a : AX => a.2.2.2.1) ha
    rw [a38, a39, nI_1]
    refine ⟨fun c1 => ev ?_, fun c1 => ⟨fun c2 => ?_, fun c2 => ?_⟩⟩
    · refine ih (n + 1) (by omega) z' post (hz.fr hf (by decide) (by decide)) ?_ ((hf.1 33 (by decide)).trans e33) ((hf.1 34 (by decide)).trans e34) ((hf.1 35 (by decide)).trans e35) (fun z2 hf2 => ?_) k (by omega)
      · rw [e24, hf.2.1 23 (by decide), ← ec, cpy_cpy]
      · have := hp z2 (hf.tr hf2)
        rw [fewC, if_pos c1] at this
        exact this
    · have := hp z' hf
      rw [fewC, if_neg c1, if_pos c2] at this
      exact this
    · have := hp z' hf
      rw [fewC, if_neg c1, if_neg c2] at this
      exact this
theorem few_M {nd ng mo wg : Nat} {q : Nat → Nat} {lk : Nat → Int32} {lw : Option ((Nat → Int32) → Int32)} (hl : Lim nd ng mo wg q) {V : Nat} {x aim what : Int32} {c : Nat → Int32} (tb : TB V nd c) (hV2 : V + 6 < 2 ^ 31) : ∀ m n, n + m = 5 → ∀ (y : St) (post : Int32 → St → Prop), CY nd ng mo wg q lk lw y → TR (gA y 113) c → (∀ y', Fr YQ [104, 114, 116] y y' → post (fewC (HitY nd ng mo q lk lw what aim c) x m n) y') → ∀ k, m + 1 ≤ k → L_M_fewest_3 post k what aim x (nI n) y := by
  intro m
  induction m with
  | zero =>
    intro n hn y post hy tr hp k hk
    obtain ⟨k, rfl⟩ : ∃ j, k = j + 1 := ⟨k - 1, by omega⟩
    show B_M_fewest_3 post _ _ _ _ _ y
    unfold B_M_fewest_3
    exact pp_y (show nI 4 < nI n from nI_lt (by omega) (by omega)) (hp y Fr.rf)
  | succ m ih =>
    intro n hn y post hy tr hp k hk
    obtain ⟨k, rfl⟩ : ∃ j, k = j + 1 := ⟨k - 1, by omega⟩
    show B_M_fewest_3 post _ _ _ _ _ y
    unfold B_M_fewest_3
    refine pp_n (show ¬ nI 4 < nI n from nI_nlt (by omega) (by omega)) (q_lays hy hl (un := false) tr tb (by omega) rfl (fun y' hf ha => ?_))
    have a125 : gI y' 125 = (HitY nd ng mo q lk lw what aim c n).1 := congrArg (fun a : AM => a.2.2) ha
    have a124 : gI y' 124 = (HitY nd ng mo q lk lw what aim c n).2 := congrArg (fun a : AM => a.2.1) ha
    rw [a125, a124, nI_1]
    refine ⟨fun c1 => ev ?_, fun c1 => ⟨fun c2 => ?_, fun c2 => ?_⟩⟩
    · refine ih (n + 1) (by omega) y' post (hy.fr hf (by decide) (by decide)) (by rw [hf.2.1 113 (by decide)]; exact tr) (fun y2 hf2 => ?_) k (by omega)
      have := hp y2 (hf.tr hf2)
      rw [fewC, if_pos c1] at this
      exact this
    · have := hp y' hf
      rw [fewC, if_neg c1, if_pos c2] at this
      exact this
    · have := hp y' hf
      rw [fewC, if_neg c1, if_neg c2] at this
      exact this
theorem ho_1 : ∀ s : Int32, s = 0 ∨ s = 1 → (s = (0 : Int32) ↔ ¬ s = (if (1 : Int32) = 1 then (1 : Int32) else 0)) := fun s h => by rcases h with rfl | rfl <;> decide
theorem ho_2 : ∀ s : Int32, s = 0 ∨ s = 1 → (s = (1 : Int32) ↔ ¬ s = (if (2 : Int32) = 1 then (1 : Int32) else 0)) := fun s h => by rcases h with rfl | rfl <;> decide
theorem o_soonest {V V' : Nat} (hV : V ≤ V') (hVb : V' < 2 ^ 29) : St_soonest (Inv V) (Inv V') := by
  intro z y a1 a2 a3 a4 a5 h
  obtain ⟨nd, ng, mo, wg, q, lk, lw, hz, hy0, hl⟩ := h.ctx
  have hT := h.ta
  have h6 := hl.1
  have g6 := hl.2.1
  have hI : Inv V' z (sI y 100 0) := h.fr hV Fr.rf yt
  have hy := hy0.fr (yt : Fr MS MA y (sI y 100 0)) (by decide) (by decide)
  obtain ⟨tb, tr⟩ := hI.srch hz hl
  unfold S_B_soonest
  rcases ix_cases a1 (n := nd) (by omega) with c | ⟨d, hd, rfl⟩
  · unfold S_M_soonest
    exact q_House_hasDrink_n hz.1 c (r01 (ev (q_M_isDrink_n hy.1 c (r01 ⟨rfl, hI⟩))))
  · have e : 0 < ng := by have := hl.2.2.2.2.2.2; omega
    refine q_House_hasDrink_y hz.1 h6 hd (r11 ?_)
    rcases r_cases a2 0 1 (by omega) (by omega) with c | ⟨j, _, hj, rfl⟩
    · have out : S_M_soonest (fun r1 y1 => (-1 : Int32) = r1 ∧ Inv V' z y1) (nI d) a2 y := by
        unfold S_M_soonest
        exact ev (q_M_isDrink_y hy.1 h6 hd (r11 (q_isInR_n (lo := 0) (m := 1) L0 L1 c (r01 ⟨rfl, hI⟩))))
      rcases c with c | c
      · exact pp_y c out
      · exact ⟨fun _ => out, fun _ => pp_n (fun q => fa_of_lt_le q c) out⟩
    · refine pp_n (nI_pos (by omega)) (pp_y (show nI j ≤ nI 1 from nI_le hj (by omega)) ?_)
      unfold S_Rows_aim S_B_fewest
      refine ev ⟨.inl rfl, ev (ev ?_)⟩
      have f : Fr (33 :: 34 :: 35 :: XQ) [21, 22, 24] z (sI (sI (sI z 33 (nI d)) 34 0) 35 0) := ((Fr.rf.sI (by decide)).sI (by decide)).sI (by decide)
      refine ⟨6, few_X hl e tb 5 0 (by omega) _ _ (hz.fr f (by decide) (by decide)) rfl rfl rfl rfl (fun z' hf => ?_) 6 (by omega)⟩
      unfold S_M_soonest S_M_fewest
      refine ev (q_M_isDrink_y hy.1 h6 hd (r11 (q_isInR_y (lo := 0) (m := 1) L0 L1 (by omega) (by omega) hj (r11 ⟨6, few_M hl (what := 1) tb (by omega) 5 0 (by omega) _ _ hy tr (fun y' hf2 => ⟨?_, ?_⟩) 6 (by omega)⟩))))
      · exact few_cg (Hit_XY g6 (by decide) ho_1) 5 0 (by omega)
      · exact hI.sq (Nat.le_refl _) (f.tr (hf.wk (by decide) (by decide))) hf2
theorem o_ends {V V' : Nat} (hV : V ≤ V') (hVb : V' < 2 ^ 29) : St_ends (Inv V) (Inv V') := by
  intro z y a1 a2 a3 a4 a5 h
  obtain ⟨nd, ng, mo, wg, q, lk, lw, hz, hy0, hl⟩ := h.ctx
  have hT := h.ta
  have h6 := hl.1
  have g6 := hl.2.1
  have hI : Inv V' z (sI y 100 0) := h.fr hV Fr.rf yt
  have hy := hy0.fr (yt : Fr MS MA y (sI y 100 0)) (by decide) (by decide)
  obtain ⟨tb, tr⟩ := hI.srch hz hl
  unfold S_B_ends
  rcases Nat.eq_zero_or_pos ng with e | e
  · unfold S_M_ends
    exact q_isTold_n hz.2.1 e (r01 (ev (pp_y (by rw [hy.2.1, e]; decide) ⟨rfl, hI⟩)))
  · have hn : ¬ gI (sI y 100 0) 112 ≤ 0 := by rw [hy.2.1, nI_le0 (by omega)]; omega
    refine q_isTold_y hz.2.1 g6 e (r11 ?_)
    rcases r_cases a1 0 1 (by omega) (by omega) with c | ⟨j, _, hj, rfl⟩
    · have out : S_M_ends (fun r1 y1 => (-1 : Int32) = r1 ∧ Inv V' z y1) a1 y := by
        unfold S_M_ends
        exact ev (pp_n hn (q_isInR_n (lo := 0) (m := 1) L0 L1 c (r01 ⟨rfl, hI⟩)))
      rcases c with c | c
      · exact pp_y c out
      · exact ⟨fun _ => out, fun _ => pp_n (fun q => fa_of_lt_le q c) out⟩
    · refine pp_n (nI_pos (by omega)) (pp_y (show nI j ≤ nI 1 from nI_le hj (by omega)) ?_)
      unfold S_Table_bottle_8 S_Rows_aim S_B_fewest
      refine ev ⟨.inr rfl, ev (ev ?_)⟩
      have f : Fr (33 :: 34 :: 35 :: XQ) [21, 22, 24] z (sI (sI (sI z 33 (gA z 23 0)) 34 1) 35 0) := ((Fr.rf.sI (by decide)).sI (by decide)).sI (by decide)
      refine ⟨6, few_X hl e tb 5 0 (by omega) _ _ (hz.fr f (by decide) (by decide)) rfl rfl rfl rfl (fun z' hf => ?_) 6 (by omega)⟩
      unfold S_M_ends S_M_fewest
      refine ev (pp_n hn (q_isInR_y (lo := 0) (m := 1) L0 L1 (by omega) (by omega) hj (r11 ⟨5, few_M hl (what := 2) (aim := gA (sI y 100 0) 113 24) tb (by omega) 4 1 (by omega) _ _ hy tr (fun y' hf2 => ⟨?_, ?_⟩) 5 (by omega)⟩)))
      · have e0 : gA (sI y 100 0) 113 24 = gA z 23 0 := hT.b.1
        have e00 : (HitX nd ng mo q lk lw (gA z 23 0) 1 (va_cpy (gA z 23) (gA z 24) 0 0 28) 0).1 ≤ 0 := by
          show (if (if va_cpy (gA z 23) (gA z 24) 0 0 28 0 = gA z 23 0 then (1 : Int32) else 0) = 1 then ((0, 0, 0) : Int32 × Int32 × Int32) else (0 + 1, if (0 : Int32) = 0 then nI 0 else 0, 0 + nI 1000000)).1 ≤ 0
          rw [if_pos (cpy_in (by omega)), if_pos rfl]
          decide
        rw [e0, ← few_cg (Hit_XY (aim := gA z 23 0) (oth := 1) (what := 2) g6 (by decide) ho_2) 4 1 (by omega)]
        exact if_pos e00
      · exact hI.sq (Nat.le_refl _) (f.tr (hf.wk (by decide) (by decide))) hf2
theorem o_odds {V V' : Nat} (hV : V ≤ V') (hVb : V' < 2 ^ 29) : St_odds (Inv V) (Inv V') := by
  intro z y a1 a2 a3 a4 a5 h
  obtain ⟨nd, ng, mo, wg, q, lk, lw, hz, hy0, hl⟩ := h.ctx
  have hT := h.ta
  have h6 := hl.1
  have g6 := hl.2.1
  have hI : Inv V' z (sI y 100 0) := h.fr hV Fr.rf yt
  have hy := hy0.fr (yt : Fr MS MA y (sI y 100 0)) (by decide) (by decide)
  obtain ⟨tb, tr⟩ := hI.srch hz hl
  unfold S_B_odds
  rcases ix_cases a1 (n := nd) (by omega) with c | ⟨d, hd, rfl⟩
  · unfold S_M_odds
    exact q_House_hasDrink_n hz.1 c (r01 (ev (q_M_isDrink_n hy.1 c (r01 ⟨rfl, hI⟩))))
  · have e : 0 < ng := by have := hl.2.2.2.2.2.2; omega
    refine q_House_hasDrink_y hz.1 h6 hd (r11 ?_)
    rcases r_cases a2 0 4 (by omega) (by omega) with c | ⟨j, _, hj, rfl⟩
    · have out : S_M_odds (fun r1 y1 => (-1 : Int32) = r1 ∧ Inv V' z y1) (nI d) a2 y := by
        unfold S_M_odds
        exact ev (q_M_isDrink_y hy.1 h6 hd (r11 (q_isInR_n (lo := 0) (m := 4) L0 L4 c (r01 ⟨rfl, hI⟩))))
      rcases c with c | c
      · exact pp_y c out
      · exact ⟨fun _ => out, fun _ => pp_n (fun q => fa_of_lt_le q c) out⟩
    · refine pp_n (nI_pos (by omega)) (pp_y (show nI j ≤ nI 4 from nI_le hj (by omega)) ?_)
      unfold S_Rows_aim
      refine ev ⟨.inl rfl, ev (ev ?_)⟩
      have f : Fr (33 :: 34 :: 35 :: XQ) [21, 22, 24] z (sI (sI (sI z 33 (nI d)) 34 0) 35 (-1)) := ((Fr.rf.sI (by decide)).sI (by decide)).sI (by decide)
      refine q_search (hz.fr f (by decide) (by decide)) hl e (un := false) tb rfl (by omega) rfl (fun z' hf _ ha => ?_)
      have a40 : gI z' 40 = _ := congrArg (fun a : AX => a.2.2.2.2) ha
      have fy : Fr MS MA (sI y 100 0) (sF (sI y 100 0) 114 (upd (fa_fill (gA (sI y 100 0) 113) (gA (sI y 100 0) 114) 28) 28 0)) := Fr.rf.sF (by decide)
      unfold S_M_odds
      refine ev (q_M_isDrink_y hy.1 h6 hd (r11 (q_isInR_y (lo := 0) (m := 4) L0 L4 (by omega) (by omega) hj (r11 (q_copyM ?_)))))
      show D_M_oddsFrom 8 _ (nI d) (nI j) (nI 1000000) _
      refine od_M hl e j 8 (by omega) (by omega) _ (va_cpy (gA z 23) (gA z 24) 0 0 28) V' 0 0 0 1000000 0 _ (hy.fr fy (by decide) (by decide)) ?_ tb rfl (by omega) (by omega) (fun y' hf2 _ _ => ⟨?_, ?_⟩)
      · show TR (upd (fa_fill (gA y 113) (gA y 114) 28) 28 0) _
        exact tr.cg (fun k hk => by rw [pk_un (by omega), fa_fill_in hk]; rfl) (fun _ _ => rfl)
      · rw [a40]; exact part_eq _ _
      · exact hI.fr (Nat.le_refl _) ((f.tr (hf.wk (by decide) (by decide))).wk (by decide) (by decide)) (fy.tr (hf2.wk (by decide) (by decide)))
theorem o_who {V V' : Nat} (hV : V ≤ V') (hVb : V' < 2 ^ 29) : St_who (Inv V) (Inv V') := by
  intro z y a1 a2 a3 a4 a5 h
  obtain ⟨nd, ng, mo, wg, q, lk, lw, hz, hy0, hl⟩ := h.ctx
  have hT := h.ta
  have h6 := hl.1
  have g6 := hl.2.1
  have hI : Inv V' z (sI y 100 0) := h.fr hV Fr.rf yt
  have hy := hy0.fr (yt : Fr MS MA y (sI y 100 0)) (by decide) (by decide)
  obtain ⟨tb, tr⟩ := hI.srch hz hl
  unfold S_B_who
  rcases ix_cases a1 (n := nd) (by omega) with c | ⟨d, hd, rfl⟩
  · unfold S_M_who
    exact q_House_hasDrink_n hz.1 c (r01 (ev (q_M_isDrink_n hy.1 c (r01 ⟨rfl, hI⟩))))
  · have e : 0 < ng := by have := hl.2.2.2.2.2.2; omega
    refine q_House_hasDrink_y hz.1 h6 hd (r11 ?_)
    rcases r_cases a2 1 3 (by omega) (by omega) with c | ⟨k, hk1, hk3, rfl⟩
    · have out : S_M_who (fun r1 y1 => (-1 : Int32) = r1 ∧ Inv V' z y1) (nI d) a2 a3 y := by
        unfold S_M_who
        exact ev (q_M_isDrink_y hy.1 h6 hd (r11 (q_isInR_n (lo := 1) (m := 3) L1 L3 c (r01 ⟨rfl, hI⟩))))
      rcases c with c | c
      · exact pp_y c out
      · exact ⟨fun _ => out, fun _ => pp_n (fun q => fa_of_lt_le q c) out⟩
    · refine pp_n (nI_nlt hk1 (by omega)) (pp_y (show nI k ≤ nI 3 from nI_le hk3 (by omega)) ?_)
      unfold S_Rows_aim
      refine ev ⟨.inl rfl, ev (ev ?_)⟩
      have f : Fr (33 :: 34 :: 35 :: XQ) [21, 22, 24] z (sI (sI (sI z 33 (nI d)) 34 0) 35 a3) := ((Fr.rf.sI (by decide)).sI (by decide)).sI (by decide)
      refine q_search (hz.fr f (by decide) (by decide)) hl e (un := true) tb rfl (by omega) rfl (fun z' hf _ ha => ?_)
      have fz : Fr (33 :: 34 :: 35 :: XQ) [21, 22, 24] z z' := f.tr (hf.wk (by decide) (by decide))
      have hIz : Inv V' z' (sI y 100 0) := hI.sq (Nat.le_refl _) fz Fr.rf
      obtain ⟨n, hn, h1, h2, h3, h4⟩ := hit_eq (aim := nI d) (oth := 0) (idx := a3) (what := 1) (by decide) ho_1 (lvs nd ng mo q lk lw true k 0 0 1000000 0 (va_cpy (gA z 23) (gA z 24) 0 0 28)) (lvs_small g6 (by omega))
      have a38 : gI z' 38 = nI n := (congrArg (fun a : AX => a.2.2.1) ha).trans h1
      have a39 := congrArg (fun a : AX => a.2.2.2.1) ha
      have fin : ∀ r : Int32, (a3 = -1 → r = nI n) → (¬ a3 = -1 → ¬ (-1 : Int32) ≤ a3 → r = -1) → (¬ a3 = -1 → (-1 : Int32) ≤ a3 → r = ((lvs nd ng mo q lk lw true k 0 0 1000000 0 (va_cpy (gA z 23) (gA z 24) 0 0 28)).foldl (stM 1 (nI d) a3) (-1, -1, 0)).2.1) → S_M_who (fun r1 y1 => r = r1 ∧ Inv V' z' y1) (nI d) (nI k) a3 y := fun r r1 r2 r3 => by
        unfold S_M_who
        refine ev (q_M_isDrink_y hy.1 h6 hd (r11 (q_isInR_y (lo := 1) (m := 3) L1 L3 (by omega) hk1 hk3 (r11 ⟨fun c => ?_, fun c => ⟨?_, hIz⟩⟩))))
        · rw [show gI (sI y 100 0) 112 = nI ng from hy.2.1, nI_leI (by omega) (by omega)]
          refine ⟨fun ck => q_lays hy hl (un := true) tr tb (by omega) rfl (fun y' hf2 hb => ?_), fun ck => ?_⟩
          · have hII : Inv V' z' y' := hI.sq (Nat.le_refl _) fz hf2
            have b125 : gI y' 125 = nI n := (congrArg (fun a : AM => a.2.2) hb).trans h2
            have b124 := congrArg (fun a : AM => a.2.1) hb
            exact ⟨fun c3 => ⟨(r1 c3).trans b125.symm, hII⟩, fun c3 => ⟨(r3 c3 c).trans b124.symm, hII⟩⟩
          · have e0 : lvs nd ng mo q lk lw true k 0 0 1000000 0 (va_cpy (gA z 23) (gA z 24) 0 0 28) = [] := lvs_none k _ _ _ _ _ (by rw [free_0]; omega)
            rw [e0] at h1 r3
            have n0 : n = 0 := ((nI_eq0 hn).mp h1.symm)
            subst n0
            exact ⟨fun c3 => ⟨r1 c3, hIz⟩, fun c3 => ⟨r3 c3 c, hIz⟩⟩
        · exact r2 (fun q => c (by rw [q]; decide)) c
      rw [a38]
      refine ⟨fun c => fin _ (fun _ => rfl) (fun c2 => absurd c c2) (fun c2 => absurd c c2), fun c => ⟨fun c1 => fin _ (fun c2 => absurd c2 c) (fun _ _ => rfl) (fun _ c2 => ?_), fun c1 => ⟨fun c2 => fin _ (fun c3 => absurd c3 c) (fun _ _ => rfl) (fun _ _ => ?_), fun c2 => fin _ (fun c3 => absurd c3 c) (fun _ c3 => ?_) (fun _ _ => ?_)⟩⟩⟩
      · exfalso
        refine c ((fa_eq _ _).mpr ?_)
        rw [fa_lt, ti0] at c1
        rw [fa_le, ti_m1] at c2
        rw [ti_m1]; omega
      · refine (h4 (fun j hj ej => ?_)).symm
        rw [ej, nI_leI (by omega) (by omega)] at c2
        omega
      · exfalso
        rw [fa_lt, ti0] at c1
        rw [fa_le, ti_m1] at c3
        omega
      · refine (show gI z' 39 = _ from a39).trans ?_
        obtain ⟨j, hj, ej⟩ := nI_of2 (x := a3) (M := nI n) (n := n) (nI_toInt hn) c1 (by rw [fa_le]; rw [fa_le] at c2; omega)
        refine h3 j ?_ ej
        rw [ej, nI_leI (by omega) (by omega)] at c2
        omega
