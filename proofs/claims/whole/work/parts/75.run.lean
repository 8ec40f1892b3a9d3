/-! winters that run apart: the class's other table, the reference's trial -/
def canC (nd ng : Nat) (c : Nat → Int32) (a d : Nat) : Bool :=
  if a = 0 then decide (d < ng) else if a = 1 then decide (tN (c 1) < 999) else decide (d < nd ∧ ¬ nI d = c 0 ∧ c 2 = 0)
def brC (nd mo : Nat) (q : Nat → Nat) (lk : Nat → Int32) (lw : Option ((Nat → Int32) → Int32)) (g : Nat) (c : Nat → Int32) : Option Nat :=
  bringN nd q mo (fun d => c (22 + d)) lw (lk g) (tN (c (10 + g))) (c (4 + g)) (c 3) (tN (c 0))
def visN (nd mo : Nat) (q : Nat → Nat) (lk : Nat → Int32) (lw : Option ((Nat → Int32) → Int32)) (g : Nat) (c : Nat → Int32) : Nat → Int32 :=
  visC q mo (lk g) (brC nd mo q lk lw g c) (tN (c (10 + g))) (tN (c 0)) g c
def doC (nd ng mo wg : Nat) (q : Nat → Nat) (lk : Nat → Int32) (lw : Option ((Nat → Int32) → Int32)) (a d : Nat) (c : Nat → Int32) : Nat → Int32 :=
  if a = 0 then visN nd mo q lk lw d c else if a = 1 then monC ng wg c else upd (upd c 0 (nI d)) 2 1
def joC (mo : Nat) (q : Nat → Nat) (lk : Nat → Int32) (a d : Nat) (c : Nat → Int32) : Nat := if a = 0 then joyN q mo (lk d) (tN (c 0)) else 0
def goC (nd ng mo wg : Nat) (q : Nat → Nat) (lk : Nat → Int32) (lw : Option ((Nat → Int32) → Int32)) (s : Nat → Nat) : Nat → Nat → (Nat → Int32) → Nat × (Nat → Int32) × Nat
  | 0, i, c => (i, c, 0)
  | m + 1, i, c => if canC nd ng c (s i / 10) (s i % 10) = true then
      ((goC nd ng mo wg q lk lw s m (i + 1) (doC nd ng mo wg q lk lw (s i / 10) (s i % 10) c)).1,
       (goC nd ng mo wg q lk lw s m (i + 1) (doC nd ng mo wg q lk lw (s i / 10) (s i % 10) c)).2.1,
       joC mo q lk (s i / 10) (s i % 10) c + (goC nd ng mo wg q lk lw s m (i + 1) (doC nd ng mo wg q lk lw (s i / 10) (s i % 10) c)).2.2) else (i, c, 0)
theorem TB.got {V nd : Nat} {c : Nat → Int32} (h : TB V nd c) (h6 : nd ≤ 6) (h2 : 2 ≤ nd) : c 0 = nI (tN (c 0)) ∧ tN (c 0) < nd := by
  obtain ⟨b, hb, e⟩ := h.1
  rw [e, tN_nI (by omega)]
  exact ⟨rfl, by omega⟩
theorem TB.mo {V nd : Nat} {c : Nat → Int32} (h : TB V nd c) {g : Nat} (hg : g < 6) : c (10 + g) = nI (tN (c (10 + g))) ∧ tN (c (10 + g)) ≤ 9 := by
  obtain ⟨b, hb, e⟩ := h.2.2.2.2.2.1 g hg
  rw [e, tN_nI (by omega)]
  exact ⟨rfl, hb⟩
theorem br_lt {nd mo : Nat} {q : Nat → Nat} {lk : Nat → Int32} {lw : Option ((Nat → Int32) → Int32)} {g b : Nat} {c : Nat → Int32} (h : brC nd mo q lk lw g c = some b) : b < nd ∧ c (22 + b) ≤ c (4 + g) := bring_lt h
theorem TB.visN {V : Nat} {nd ng mo wg : Nat} {q : Nat → Nat} {lk : Nat → Int32} {lw : Option ((Nat → Int32) → Int32)} {c : Nat → Int32} (h : TB V nd c) (hl : Lim nd ng mo wg q) {g : Nat} (hg : g < ng) : TB (V + 1) nd (visN nd mo q lk lw g c) := by
  have h6 := hl.1
  have g6 := hl.2.1
  obtain ⟨v, hv, ev⟩ := h.2.2.2.1
  exact vis_TB h hv ev (by omega) (h.mo (by omega)).2 (joyN_le hl (h.got h6 (hl.2.2.2.2.2.1 (by omega))).2) (fun b e => ⟨by have := (br_lt e).1; omega, br_lt e⟩)
theorem can0 {nd ng : Nat} {c : Nat → Int32} {d : Nat} : canC nd ng c 0 d = true ↔ d < ng := by unfold canC; rw [if_pos rfl, decide_eq_true_iff]
theorem can1 {nd ng : Nat} {c : Nat → Int32} {d : Nat} : canC nd ng c 1 d = true ↔ tN (c 1) < 999 := by unfold canC; rw [if_neg (by decide), if_pos rfl, decide_eq_true_iff]
theorem can2 {nd ng : Nat} {c : Nat → Int32} {d : Nat} : canC nd ng c 2 d = true ↔ d < nd ∧ ¬ nI d = c 0 ∧ c 2 = 0 := by unfold canC; rw [if_neg (by decide), if_neg (by decide), decide_eq_true_iff]
theorem tb_doC {V : Nat} {nd ng mo wg : Nat} {q : Nat → Nat} {lk : Nat → Int32} {lw : Option ((Nat → Int32) → Int32)} {c : Nat → Int32} (h : TB V nd c) (hl : Lim nd ng mo wg q) {a d : Nat} (ha : a < 3) (hc : canC nd ng c a d = true) : TB (V + 1) nd (doC nd ng mo wg q lk lw a d c) := by
  unfold doC
  rcases (show a = 0 ∨ a = 1 ∨ a = 2 by omega) with rfl | rfl | rfl
  · rw [if_pos rfl]; exact h.visN hl (can0.mp hc)
  · rw [if_neg (by decide), if_pos rfl]
    obtain ⟨m, hm, em⟩ := h.2.1
    have := can1.mp hc
    rw [em, tN_nI (by omega)] at this
    exact (mon_TB h hl.2.1 em this).mono (by omega)
  · rw [if_neg (by decide), if_neg (by decide)]
    exact ((h.bottle (by have := (can2.mp hc).1; omega)).put (.inr rfl)).mono (by omega)
theorem goC_TB {nd ng mo wg : Nat} {q : Nat → Nat} {lk : Nat → Int32} {lw : Option ((Nat → Int32) → Int32)} (hl : Lim nd ng mo wg q) {s : Nat → Nat} {N : Nat} (hs : ∀ i, i < N → s i < 30) : ∀ m i (c : Nat → Int32) (V : Nat), i + m = N → TB V nd c → TB (V + m) nd (goC nd ng mo wg q lk lw s m i c).2.1
  | 0, i, c, V, _, h => h
  | m + 1, i, c, V, hi, h => by
    have hsi := hs i (by omega)
    by_cases hc : canC nd ng c (s i / 10) (s i % 10) = true
    · have := goC_TB (lk := lk) (lw := lw) hl hs m (i + 1) _ (V + 1) (by omega) (tb_doC h hl (lk := lk) (lw := lw) (show s i / 10 < 3 by omega) hc)
      rw [goC, if_pos hc, show V + (m + 1) = V + 1 + m by omega]
      exact this
    · rw [goC, if_neg hc]; exact h.mono (by omega)
theorem q_canBe9 {post : Int32 → St → Prop} {nd ng mo wg : Nat} {q : Nat → Nat} {lk : Nat → Int32} {lw : Option ((Nat → Int32) → Int32)} {z : St} (hz : CZ nd ng mo wg q lk lw z) (hl : Lim nd ng mo wg q) (h0 : 0 < ng) {V : Nat} (tb : TB V nd (gA z 24)) {a d : Nat} (ha : a < 3) (hd : d < 10) (hy : canC nd ng (gA z 24) a d = true → post 1 z) (hn : ¬ canC nd ng (gA z 24) a d = true → post 0 z) : S_Table_canBe_9 post (nI a) (nI d) z := by
  have h6 := hl.1
  have g6 := hl.2.1
  unfold S_Table_canBe_9
  rcases (show a = 0 ∨ a = 1 ∨ a = 2 by omega) with rfl | rfl | rfl
  · rw [can0] at hy hn
    refine pp_y rfl ?_
    by_cases c : d < ng
    · exact q_House_hasGuest_y hz.2.1 g6 c ⟨.inr rfl, hy c⟩
    · exact q_House_hasGuest_n hz.2.1 (ix_n c (by omega) (by omega)) ⟨.inl rfl, hn c⟩
  · rw [can1] at hy hn
    obtain ⟨m, hm, em⟩ := tb.2.1
    rw [em, tN_nI (by omega)] at hy hn
    refine pp_n (by decide) (pp_y rfl (q_isTold_y hz.2.1 g6 h0 (r11 ?_)))
    rw [em, k999, nI_leI (by omega) (by omega)]
    exact ⟨fun c => hn (by omega), fun c => hy (by omega)⟩
  · rw [can2] at hy hn
    refine pp_n (by decide) (pp_n (by decide) ?_)
    by_cases c : d < nd
    · refine q_House_hasDrink_y hz.1 h6 c (r11 ⟨fun c0 => hn (fun q => q.2.1 c0), fun c0 => ⟨fun c2 => hy ⟨c, c0, c2⟩, fun c2 => hn (fun q => c2 q.2.2)⟩⟩)
    · exact q_House_hasDrink_n hz.1 (ix_n c (by omega) (by omega)) (r01 (hn (fun q => c q.1)))
theorem q_carry9 {post : St → Prop} {nd ng mo wg : Nat} {q : Nat → Nat} {lk : Nat → Int32} {lw : Option ((Nat → Int32) → Int32)} {z : St} (hz : CZ nd ng mo wg q lk lw z) (hl : Lim nd ng mo wg q) (h0 : 0 < ng) {V : Nat} (tb : TB V nd (gA z 24)) {a d : Nat} (ha : a < 3) (hc : canC nd ng (gA z 24) a d = true) (hp : ∀ z', Fr [] [21, 22, 24] z z' → gA z' 24 = doC nd ng mo wg q lk lw a d (gA z 24) → post z') : S_Table_carry_9 post (nI a) (nI d) z := by
  have h6 := hl.1
  have g6 := hl.2.1
  unfold S_Table_carry_9
  unfold doC at hp
  rcases (show a = 0 ∨ a = 1 ∨ a = 2 by omega) with rfl | rfl | rfl
  · rw [can0] at hc
    obtain ⟨eg, hgot⟩ := tb.got h6 (hl.2.2.2.2.2.1 h0)
    obtain ⟨em, hm⟩ := tb.mo (show d < 6 by omega)
    rw [if_pos rfl] at hp
    exact pp_y rfl (q_receive9 hz hl hc hgot eg hm em (fun z' hf e => hp z' hf e))
  · rw [can1] at hc
    obtain ⟨m, hm, em⟩ := tb.2.1
    rw [em, tN_nI (by omega)] at hc
    rw [if_neg (by decide), if_pos rfl] at hp
    exact pp_n (by decide) (pp_y rfl (q_month9 hz hl tb em hc (hp _ (Fr.rf.sF (by decide)) (by rw [gA_sF, if_pos rfl]))))
  · rw [if_neg (by decide), if_neg (by decide)] at hp
    exact pp_n (by decide) (pp_n (by decide) (ev (ev (hp _ ((Fr.rf.sA (by decide)).sA (by decide)) (by rw [gA_sA, if_pos rfl, gA_sA, if_pos rfl])))))
theorem go_X {nd ng mo wg : Nat} {q : Nat → Nat} {lk : Nat → Int32} {lw : Option ((Nat → Int32) → Int32)} (hl : Lim nd ng mo wg q) (h0 : 0 < ng) {N w : Nat} (hN : N ≤ 16) (hw : w < 4) {s : Nat → Nat} (hs : ∀ i, i < N → s i < 30) : ∀ m i, i + m = N → ∀ (z : St) (V : Nat) (post : Int32 → St → Prop), CZ nd ng mo wg q lk lw z → TB V nd (gA z 24) → gZ z (8 + w) = N → (∀ i, i < N → gA z (32 + w) i = nI (s i)) → (∀ z', Fr [] [21, 22, 24] z z' → gA z' 24 = (goC nd ng mo wg q lk lw s m i (gA z 24)).2.1 → post (nI (goC nd ng mo wg q lk lw s m i (gA z 24)).1) z') → ∀ k, m + 1 ≤ k → L_Table_goThrough_9_dyn17_2 post k (gZ z w) (nI w) (nI i) z := by
  intro m
  induction m with
  | zero =>
    intro i hi z V post hz tb eN es hp k hk
    obtain ⟨k, rfl⟩ : ∃ j, k = j + 1 := ⟨k - 1, by omega⟩
    show B_Table_goThrough_9_dyn17_2 post _ _ _ _ z
    unfold B_Table_goThrough_9_dyn17_2
    rw [nI_clamp (by omega), show 0 + w = w by omega, eN]
    refine ⟨(vp_in_nI (by omega) (by omega)), rfl, pp_y (nI_le (by omega) (by omega)) ⟨(vp_in_nI (by omega) (by omega)), rfl, ?_⟩⟩
    have := hp z Fr.rf rfl
    rw [goC, show i = N by omega] at this
    exact this
  | succ m ih =>
    intro i hi z V post hz tb eN es hp k hk
    obtain ⟨k, rfl⟩ : ∃ j, k = j + 1 := ⟨k - 1, by omega⟩
    have hsi := hs i (by omega)
    have e10 : nI (s i) = nI (10 * (s i / 10) + s i % 10) := congrArg nI (by omega)
    have hn10 := nI10 (show s i / 10 < 3 by omega) (show s i % 10 < 10 by omega)
    show B_Table_goThrough_9_dyn17_2 post _ _ _ _ z
    unfold B_Table_goThrough_9_dyn17_2
    rw [nI_clamp (by omega), show 0 + w = w by omega, eN, nI_clamp (by omega), es i (by omega), e10, hn10.2, hn10.1]
    refine ⟨(vp_in_nI (by omega) (by omega)), rfl, pp_n (nI_ge (by omega) (by omega)) ⟨(vp_in_nI (by omega) (by omega)), rfl, (vp_in_nI (by omega) (by omega)), ev ⟨(vp_in_nI (by omega) (by omega)), rfl, (vp_in_nI (by omega) (by omega)), ev ?_⟩⟩⟩
    refine q_canBe9 hz hl h0 tb (by omega) (by omega) (fun hc => r11 (q_carry9 hz hl h0 tb (by omega) hc (fun z' hf e => ev ?_))) (fun hc => r01 ?_)
    · rw [nI_1, ← hf.2.2.1]
      rw [goC, if_pos hc] at hp
      refine ih (i + 1) (by omega) z' (V + 1) post (hz.fr hf (by decide) (by decide)) (by rw [e]; exact tb_doC tb hl (by omega) hc) (by rw [hf.2.2.1]; exact eN) (fun j hj => ?_) (fun z2 hf2 e2 => ?_) k (by omega)
      · rw [hf.2.1 (32 + w) (by intro q; simp at q; omega)]; exact es j hj
      · rw [e] at e2 ⊢
        exact hp z2 (hf.tr hf2) e2
    · rw [goC, if_neg hc] at hp
      exact hp z Fr.rf rfl
theorem bookW_28 {bl g got : Nat} {br joy : Int32} {w : Nat → Int32} (h : bl < 60) : bookW bl g got br joy w 28 = nI (bl + 1) := by
  unfold bookW rowW
  rw [if_neg (by omega), pk_us]
theorem q_can114 {post : Int32 → St → Prop} {nd ng mo wg : Nat} {q : Nat → Nat} {lk : Nat → Int32} {lw : Option ((Nat → Int32) → Int32)} {y : St} {c : Nat → Int32} (hy : CY nd ng mo wg q lk lw y) (hl : Lim nd ng mo wg q) {V : Nat} (tr : TR (gA y 114) c) (tb : TB V nd c) {a d row : Nat} (ha : a < 3) (hd : d < 10) (hr : row < 159) (ea : gA y 111 row = nI a) (ed : gA y 111 (row + 1) = (if a = 1 then -1 else nI d)) (hp : canC nd ng c a d = true → post 1 y) (hn : ¬ canC nd ng c a d = true → post 0 y) : S_M_canStep_r114 post (nI row) y := by
  have h6 := hl.1
  have g6 := hl.2.1
  unfold S_M_canStep_r114
  rw [nI_1, nI_clamp (by omega), nI_clamp (by omega), ea]
  refine ⟨(vp_in_nI (by omega) (by omega)), ?_⟩
  rcases (show a = 0 ∨ a = 1 ∨ a = 2 by omega) with rfl | rfl | rfl
  · rw [can0] at hp hn
    rw [if_neg (by decide)] at ed
    rw [ed]
    refine pp_y rfl ⟨(vp_in_nI (by omega) (by omega)), ?_⟩
    by_cases c : d < ng
    · exact q_M_isGuest_y hy.2.1 g6 c ⟨.inr rfl, hp c⟩
    · exact q_M_isGuest_n hy.2.1 (ix_n c (by omega) (by omega)) ⟨.inl rfl, hn c⟩
  · rw [can1] at hp hn
    obtain ⟨m, hm, em⟩ := tb.2.1
    rw [em, tN_nI (by omega)] at hp hn
    refine pp_n (by decide) (pp_y rfl ?_)
    rw [tr.b.2.1, em, k999, nI_leI (by omega) (by omega)]
    exact ⟨fun c => hn (by omega), fun c => hp (by omega)⟩
  · rw [can2] at hp hn
    rw [if_neg (by decide)] at ed
    rw [ed]
    refine pp_n (by decide) (pp_n (by decide) ⟨(vp_in_nI (by omega) (by omega)), ?_⟩)
    unfold S_M_canHost_r114
    by_cases c : d < nd
    · refine q_M_isDrink_y hy.1 h6 c (r11 ?_)
      rw [tr.b.1, tr.b.2.2.1]
      refine ⟨fun c0 => ⟨.inl rfl, hn (fun q => q.2.1 c0.symm)⟩, fun c0 => ⟨fun c2 => ⟨.inr rfl, hp ⟨c, fun q => c0 q.symm, c2⟩⟩, fun c2 => ⟨.inl rfl, hn (fun q => c2 q.2.2)⟩⟩⟩
    · exact q_M_isDrink_n hy.1 (ix_n c (by omega) (by omega)) (r01 ⟨.inl rfl, hn (fun q => c q.1)⟩)
theorem q_visN114 {post : Int32 → St → Prop} {nd ng mo wg : Nat} {q : Nat → Nat} {lk : Nat → Int32} {lw : Option ((Nat → Int32) → Int32)} {y : St} {c : Nat → Int32} (hy : CY nd ng mo wg q lk lw y) (hl : Lim nd ng mo wg q) {V bl : Nat} (tr : TR (gA y 114) c) (tb : TB V nd c) {g : Nat} (hg : g < ng) (hb : gA y 114 28 = nI bl) (hb60 : bl < 60 ∧ V < 2 ^ 31) (hp : ∀ y', Fr RD [104, 114] y y' → TR (gA y' 114) (visN nd mo q lk lw g c) → gA y' 114 28 = nI (bl + 1) → post (nI (joyN q mo (lk g) (tN (c 0)))) y') : S_M_visits_r114 post (nI g) y := by
  have h6 := hl.1
  have g6 := hl.2.1
  obtain ⟨eg, hgot⟩ := tb.got h6 (hl.2.2.2.2.2.1 (by omega))
  obtain ⟨em, hm⟩ := tb.mo (show g < 6 by omega)
  refine q_visM114 hy hl hg hgot (tr.b.1.trans eg) hm ((tr.g (by omega)).2.1.trans em) hb (by omega) (by rw [(tr.g (show g < 6 by omega)).1]; exact tb.m_min (by omega)) (by rw [tr.b.2.2.2]; exact tb.n_min hb60.2) (by rw [tr.d (by omega)]; exact tb.p_min (by omega)) (fun br y' hbr hf e => hp y' hf ?_ ?_)
  · rw [bring_tr tr (by omega) hgot h6] at hbr
    subst hbr
    rw [e]
    exact (vis_TR tr (by omega) (fun b hb => by have := (bring_lt hb).1; omega)).cg (fun k hk => bookW_lo hk) (fun _ _ => rfl)
  · rw [e]; exact bookW_28 hb60.1
theorem q_steps114 {post : Int32 → St → Prop} {nd ng mo wg : Nat} {q : Nat → Nat} {lk : Nat → Int32} {lw : Option ((Nat → Int32) → Int32)} {y : St} {c : Nat → Int32} (hy : CY nd ng mo wg q lk lw y) (hl : Lim nd ng mo wg q) {V bl : Nat} (tr : TR (gA y 114) c) (tb : TB V nd c) {a d row : Nat} (ha : a < 3) (hd : d < 10) (hr : row < 159) (ea : gA y 111 row = nI a) (ed : gA y 111 (row + 1) = (if a = 1 then -1 else nI d)) (hc : canC nd ng c a d = true) (hb : gA y 114 28 = nI bl) (hb60 : bl < 60 ∧ V < 2 ^ 31) (hp : ∀ y' bl', Fr RD [104, 114] y y' → TR (gA y' 114) (doC nd ng mo wg q lk lw a d c) → gA y' 114 28 = nI bl' → bl' ≤ bl + 1 → post (nI (joC mo q lk a d c)) y') : S_M_steps_r114 post (nI row) y := by
  have h6 := hl.1
  have g6 := hl.2.1
  unfold S_M_steps_r114
  rw [nI_1, nI_clamp (by omega), nI_clamp (by omega), ea]
  refine ⟨(vp_in_nI (by omega) (by omega)), ?_⟩
  unfold doC joC at hp
  rcases (show a = 0 ∨ a = 1 ∨ a = 2 by omega) with rfl | rfl | rfl
  · rw [can0] at hc
    rw [if_neg (by decide)] at ed
    rw [if_pos rfl, if_pos rfl] at hp
    rw [ed]
    exact pp_y rfl ⟨(vp_in_nI (by omega) (by omega)), q_visN114 hy hl tr tb hc hb hb60 (fun y' hf t e => hp y' (bl + 1) hf t e (Nat.le_refl _))⟩
  · rw [if_neg (by decide), if_pos rfl, if_neg (by decide)] at hp
    refine pp_n (by decide) ⟨(vp_in_nI (by omega) (by omega)), pp_y rfl (q_monthM114 hy hl (pay_ok tr tb g6) (hp _ bl (Fr.rf.sF (by decide)) ?_ ?_ (by omega)))⟩
    · rw [gA_sF, if_pos rfl]; exact mon_TR tr g6
    · rw [gA_sF, if_pos rfl]; unfold monW
      rw [pk_un (by decide), pk_un (by decide), payR_out ng (fun j hj => by omega)]; exact hb
  · rw [if_neg (by decide)] at ed
    rw [if_neg (by decide), if_neg (by decide), if_neg (by decide)] at hp
    rw [ed]
    unfold S_M_hosts_r114
    refine pp_n (by decide) ⟨(vp_in_nI (by omega) (by omega)), pp_n (by decide) ⟨(vp_in_nI (by omega) (by omega)), ev (ev (hp _ bl ((Fr.rf.sA (by decide)).sA (by decide)) ?_ ?_ (by omega)))⟩⟩
    · rw [gA_sA, if_pos rfl, gA_sA, if_pos rfl]
      exact (tr.up (by omega) (show 0 = pi 24 by decide) _).up (by omega) (show 2 = pi 26 by decide) _
    · rw [gA_sA, if_pos rfl, gA_sA, if_pos rfl, pk_un (by decide), pk_un (by decide)]; exact hb
theorem go_M {nd ng mo wg : Nat} {q : Nat → Nat} {lk : Nat → Int32} {lw : Option ((Nat → Int32) → Int32)} (hl : Lim nd ng mo wg q) {N w : Nat} (hN : N ≤ 16) (hw : w < 4) {s : Nat → Nat} (hs : ∀ i, i < N → s i < 30) : ∀ m i, i + m = N → ∀ (y : St) (c : Nat → Int32) (V bl j : Nat) (post : Int32 → St → Prop), CY nd ng mo wg q lk lw y → TR (gA y 114) c → TB V nd c → gA y 114 28 = nI bl → bl ≤ i ∧ V + m < 2 ^ 31 → gI y 120 = nI j → gA y 112 w = nI N → (∀ i, i < N → gA y 111 (2 * (16 * w + i)) = nI (s i / 10) ∧ gA y 111 (2 * (16 * w + i) + 1) = (if s i / 10 = 1 then -1 else nI (s i % 10))) → (∀ y' bl', Fr (120 :: RD) [104, 114] y y' → TR (gA y' 114) (goC nd ng mo wg q lk lw s m i c).2.1 → gA y' 114 28 = nI bl' → bl' ≤ N → gI y' 120 = nI (j + (goC nd ng mo wg q lk lw s m i c).2.2) → post (nI (goC nd ng mo wg q lk lw s m i c).1) y') → ∀ k, m + 1 ≤ k → L_M_runs_7 post k (nI w) (nI i) y := by
  intro m
  induction m with
  | zero =>
    intro i hi y c V bl j post hy tr tb hb hbi hj eN es hp k hk
    obtain ⟨k, rfl⟩ : ∃ j, k = j + 1 := ⟨k - 1, by omega⟩
    show B_M_runs_7 post _ _ _ y
    unfold B_M_runs_7
    rw [nI_clamp (by omega), eN]
    exact ⟨(vp_in_nI (by omega) (by omega)), pp_y (nI_le (by omega) (by omega)) (hp y bl Fr.rf tr hb (by omega) hj)⟩
  | succ m ih =>
    intro i hi y c V bl j post hy tr tb hb hbi hj eN es hp k hk
    obtain ⟨k, rfl⟩ : ∃ j, k = j + 1 := ⟨k - 1, by omega⟩
    have hsi := hs i (by omega)
    obtain ⟨ea, ed⟩ := es i (by omega)
    show B_M_runs_7 post _ _ _ y
    unfold B_M_runs_7
    rw [nI_clamp (by omega), eN, k2, k16, pk_mul, nI_add, pk_mul]
    refine ⟨(vp_in_nI (by omega) (by omega)), pp_n (nI_ge (by omega) (by omega)) (q_can114 hy hl tr tb (show s i / 10 < 3 by omega) (show s i % 10 < 10 by omega) (by omega) ea ed (fun hc => r11 (q_steps114 hy hl tr tb (by omega) (show s i % 10 < 10 by omega) (by omega) ea ed hc hb (by omega) (fun y' bl' hf t e hb' => ev (ev ?_)))) (fun hc => r01 ?_))⟩
    · rw [nI_1, hj, nI_add]
      rw [goC, if_pos hc] at hp
      have hf2 : Fr (120 :: RD) [104, 114] y (sI y' 120 (nI (j + joC mo q lk (s i / 10) (s i % 10) c))) := (hf.wk (fun k hk => List.mem_cons_of_mem _ hk) (fun k hk => hk)).sI (by decide)
      refine ih (i + 1) (by omega) _ _ (V + 1) bl' _ post (hy.fr hf2 (by decide) (by decide)) t (tb_doC tb hl (by omega) hc) e (by omega) rfl ((congrFun (hf2.2.1 112 (by decide)) w).trans eN) (fun i hi => ?_) (fun y2 b2 hf3 t2 e2 hb2 e3 => hp y2 b2 (hf2.tr hf3) t2 e2 hb2 (by rw [e3, Nat.add_assoc])) k (by omega)
      rw [hf2.2.1 111 (by decide)]; exact es i hi
    · rw [goC, if_neg hc] at hp
      exact hp y bl Fr.rf tr hb (by omega) hj
theorem visC_j {q : Nat → Nat} {mo : Nat} {l : Int32} {br : Option Nat} {mood got g k : Nat} {c : Nat → Int32} (hg : g < 6) (hk : k < 6) : visC q mo l br mood got g c (16 + k) = if k = g then c (16 + g) + nI (joyN q mo l got) else c (16 + k) := by
  have e1 : upd (upd (upd c (10 + g) (nI (moodN mood (joyN q mo l got)))) (16 + g) (c (16 + g) + nI (joyN q mo l got))) 3 (c 3 + 1) (16 + k) = if k = g then c (16 + g) + nI (joyN q mo l got) else c (16 + k) := by
    rw [pk_un (by omega)]
    by_cases e : k = g
    · subst e; rw [pk_us, if_pos rfl]
    · rw [pk_un (by omega), pk_un (by omega), if_neg e]
  cases br with
  | none => exact e1
  | some b =>
    show upd (upd _ (4 + g) _) 0 _ (16 + k) = _
    rw [pk_un (by omega), pk_un (by omega)]
    exact e1
theorem sum_vis {nd mo : Nat} {q : Nat → Nat} {lk : Nat → Int32} {lw : Option ((Nat → Int32) → Int32)} {c : Nat → Int32} {g : Nat} (hg : g < 6) : ∀ n, n ≤ 6 → sumI (fun k => visN nd mo q lk lw g c (16 + k)) n = sumI (fun k => c (16 + k)) n + (if g < n then nI (joyN q mo (lk g) (tN (c 0))) else 0)
  | 0, _ => by rw [if_neg (by omega)]; rfl
  | n + 1, hn => by
    have ih := sum_vis (nd := nd) (mo := mo) (q := q) (lk := lk) (lw := lw) (c := c) hg n (by omega)
    show sumI (fun k => visN nd mo q lk lw g c (16 + k)) n + visN nd mo q lk lw g c (16 + n) = (sumI (fun k => c (16 + k)) n + c (16 + n)) + _
    rw [ih, show visN nd mo q lk lw g c (16 + n) = _ from visC_j hg (by omega)]
    by_cases e : n = g
    · subst e
      rw [if_neg (by omega), if_pos rfl, if_pos (by omega), Int32.add_zero, Int32.add_assoc]
    · rw [if_neg e]
      by_cases e2 : g < n
      · rw [if_pos e2, if_pos (by omega), Int32.add_assoc, Int32.add_comm (nI _) (c (16 + n)), Int32.add_assoc]
      · rw [if_neg e2, if_neg (by omega), Int32.add_zero, Int32.add_zero]
theorem sum_do {nd ng mo wg : Nat} {q : Nat → Nat} {lk : Nat → Int32} {lw : Option ((Nat → Int32) → Int32)} (hl : Lim nd ng mo wg q) {c : Nat → Int32} {a d : Nat} (ha : a < 3) (hc : canC nd ng c a d = true) : sumI (fun k => doC nd ng mo wg q lk lw a d c (16 + k)) ng = sumI (fun k => c (16 + k)) ng + nI (joC mo q lk a d c) := by
  have g6 := hl.2.1
  unfold doC joC
  rcases (show a = 0 ∨ a = 1 ∨ a = 2 by omega) with rfl | rfl | rfl
  · rw [if_pos rfl, if_pos rfl, sum_vis (by have := can0.mp hc; omega) ng g6, if_pos (can0.mp hc)]
  · rw [if_neg (by decide), if_pos rfl, if_neg (by decide), show nI 0 = 0 from rfl, Int32.add_zero]
    refine sumI_cg (fun k hk => ?_)
    unfold monC
    rw [payR_out ng (fun j hj => by omega), pk_un (by omega), pk_un (by omega)]
  · rw [if_neg (by decide), if_neg (by decide), if_neg (by decide), show nI 0 = 0 from rfl, Int32.add_zero]
    refine sumI_cg (fun k hk => ?_)
    rw [pk_un (by omega), pk_un (by omega)]
theorem sum_go {nd ng mo wg : Nat} {q : Nat → Nat} {lk : Nat → Int32} {lw : Option ((Nat → Int32) → Int32)} (hl : Lim nd ng mo wg q) {s : Nat → Nat} {N : Nat} (hs : ∀ i, i < N → s i < 30) : ∀ m i (c : Nat → Int32), i + m = N → sumI (fun k => (goC nd ng mo wg q lk lw s m i c).2.1 (16 + k)) ng = sumI (fun k => c (16 + k)) ng + nI (goC nd ng mo wg q lk lw s m i c).2.2
  | 0, i, c, _ => by
    show sumI (fun k => c (16 + k)) ng = sumI (fun k => c (16 + k)) ng + nI 0
    rw [show nI 0 = 0 from rfl, Int32.add_zero]
  | m + 1, i, c, hi => by
    have hsi := hs i (by omega)
    by_cases hc : canC nd ng c (s i / 10) (s i % 10) = true
    · rw [goC, if_pos hc]
      show sumI (fun k => (goC nd ng mo wg q lk lw s m (i + 1) _).2.1 (16 + k)) ng = _ + nI (_ + _)
      rw [sum_go hl hs m (i + 1) _ (by omega), sum_do hl (by omega) hc, ← nI_add, Int32.add_assoc]
    · rw [goC, if_neg hc]
      show sumI (fun k => c (16 + k)) ng = sumI (fun k => c (16 + k)) ng + nI 0
      rw [show nI 0 = 0 from rfl, Int32.add_zero]
theorem goC_le {nd ng mo wg : Nat} {q : Nat → Nat} {lk : Nat → Int32} {lw : Option ((Nat → Int32) → Int32)} {s : Nat → Nat} : ∀ m i (c : Nat → Int32), (goC nd ng mo wg q lk lw s m i c).1 ≤ i + m
  | 0, i, c => Nat.le_refl _
  | m + 1, i, c => by
    by_cases hc : canC nd ng c (s i / 10) (s i % 10) = true
    · rw [goC, if_pos hc]
      have := goC_le (nd := nd) (ng := ng) (mo := mo) (wg := wg) (q := q) (lk := lk) (lw := lw) (s := s) m (i + 1) (doC nd ng mo wg q lk lw (s i / 10) (s i % 10) c)
      show (goC nd ng mo wg q lk lw s m (i + 1) _).1 ≤ _
      omega
    · rw [goC, if_neg hc]; show i ≤ _; omega
theorem q_copyX {post : St → Prop} {z : St} (h : post (sF z 24 (va_cpy (gA z 23) (gA z 24) 0 0 28))) : S_Table_copy_9_r8 post z := by
  unfold S_Table_copy_9_r8
  rw [c28, c0']
  exact ⟨by decide, by decide, by decide, by decide, by decide, ev h⟩
theorem q_copyM {post : St → Prop} {y : St} (h : post (sF y 114 (upd (fa_fill (gA y 113) (gA y 114) 28) 28 0))) : S_M_copy_r113_r114 post y := by
  unfold S_M_copy_r113_r114
  have h0 : y = sF y 114 (fa_fill (gA y 113) (gA y 114) 0) := by rw [fa_fill_0, sF_id]
  rw [h0]
  refine lp_up (fun n i => L_M_copy_r113_r114_2 post n (nI i) (sF y 114 (fa_fill (gA y 113) (gA y 114) i))) 28 ?_ ?_
  · intro n i hi ih
    show B_M_copy_r113_r114_2 post _ _ _
    unfold B_M_copy_r113_r114_2
    rw [k28, nI_1, nI_clamp (by omega)]
    refine pp_n (nI_ge hi (by omega)) ⟨(vp_in_nI (by omega) (by omega)), (vp_in_nI (by omega) (by omega)), ev (ev ?_)⟩
    rw [sA_sF, gA_sF, if_neg (by decide), fa_fill_succ]
    exact ih
  · show B_M_copy_r113_r114_2 post _ _ _
    unfold B_M_copy_r113_r114_2
    refine pp_y (by decide) (ev ?_)
    rw [sA_sF]
    exact h
/-- the steps of a winter, as numbers -/
theorem Inv.steps {V : Nat} {z y : St} (h : Inv V z y) {wn w : Nat} (e : gI z 0 = nI wn) (h4 : wn ≤ 4) (hw : w < wn) : gZ z (8 + w) ≤ 16 ∧ gA y 112 w = nI (gZ z (8 + w)) ∧ (∀ i, i < gZ z (8 + w) → tN (gA z (32 + w) i) < 30) ∧ (∀ i, i < gZ z (8 + w) → gA z (32 + w) i = nI (tN (gA z (32 + w) i))) ∧ ∀ i, i < gZ z (8 + w) → gA y 111 (2 * (16 * w + i)) = nI (tN (gA z (32 + w) i) / 10) ∧ gA y 111 (2 * (16 * w + i) + 1) = (if tN (gA z (32 + w) i) / 10 = 1 then -1 else nI (tN (gA z (32 + w) i) % 10)) := by
  obtain ⟨h1, h2, h3⟩ := (h.winN e h4).at hw rfl
  refine ⟨h1, h2, fun i hi => ?_, fun i hi => ?_, fun i hi => ?_⟩
  · obtain ⟨a, d, ha, hd, e1, e2, e3⟩ := h3 i hi
    rw [e1, tN_nI (by omega)]; omega
  · obtain ⟨a, d, ha, hd, e1, e2, e3⟩ := h3 i hi
    rw [e1, tN_nI (by omega)]
  · obtain ⟨a, d, ha, hd, e1, e2, e3⟩ := h3 i hi
    rw [e1, tN_nI (by omega), show (10 * a + d) / 10 = a by omega, show (10 * a + d) % 10 = d by omega]
    exact ⟨e2, e3⟩
theorem sub_same (a b : Int32) : a + b - a = b := by rw [Int32.add_comm, Int32.add_sub_cancel]
theorem o_run {V V' : Nat} (hV : V ≤ V') (hVb : V < 2 ^ 29) : St_run (Inv V) (Inv V') := by
  intro z y a1 a2 a3 a4 a5 h
  obtain ⟨nd, ng, mo, wg, q, lk, lw, hz, hy0, hl⟩ := h.ctx
  have hT := h.ta
  have h6 := hl.1
  have g6 := hl.2.1
  have hI : Inv V' z (sI y 100 0) := h.fr hV Fr.rf yt
  have hy := hy0.fr (yt : Fr MS MA y (sI y 100 0)) (by decide) (by decide)
  have hI0 : Inv V z (sI y 100 0) := h.fr (Nat.le_refl _) Fr.rf yt
  obtain ⟨wn, hw⟩ := hI0.win
  have w4 := hw.2.2.1
  obtain ⟨v, ta⟩ := hI0.taN hz.1 h6
  unfold S_B_run S_M_run
  rcases Nat.eq_zero_or_pos ng with e | e
  · refine q_isTold_n hz.2.1 e (r01 (ev ?_))
    rcases ix_cases a1 (n := wn) (by omega) with c | ⟨g, hg, rfl⟩
    · exact q_M_isWinter_n hw.2.1 c (r01 ⟨rfl, hI⟩)
    · exact q_M_isWinter_y hw.2.1 w4 hg (r11 (pp_y (by rw [hy.2.1, e]; rfl) ⟨rfl, hI⟩))
  · have hn : ¬ gI (sI y 100 0) 112 = 0 := by rw [hy.2.1]; exact nI_ne0 e (by omega)
    refine q_isTold_y hz.2.1 g6 e (r11 ?_)
    rcases ix_cases a1 (n := wn) (by omega) with c | ⟨g, hg, rfl⟩
    · exact q_B_hasWinter_n hw.1 c (r01 (ev (q_M_isWinter_n hw.2.1 c (r01 ⟨rfl, hI⟩))))
    · refine q_B_hasWinter_y hw.1 w4 hg (r11 ?_)
      rcases wh_cases a2 1 (by omega) with c | ⟨j, hj, rfl⟩
      · have out : (r : Int32) → r = -1000000 → S_M_isWinter (fun r1 z2 => (r1 = 0 → (r = -1000000 ∧ Inv V' z z2)) ∧ (¬ r1 = 0 → ((gI z2 112 = 0 → (r = -1000000 ∧ Inv V' z z2)) ∧ (¬ gI z2 112 = 0 → S_M_isIn (fun r4 z3 => (r4 = 0 → (r = -1000000 ∧ Inv V' z z3)) ∧ (¬ r4 = 0 → (S_M_copy_r113_r114 (fun z4 => S_M_runs (fun r6 z5 => (a2 = 1 → (r = gI z5 120 ∧ Inv V' z z5)) ∧ (¬ a2 = 1 → (vp_in (nI g) 5 ∧ ((r6 = gA z5 112 (nI g).toNatClampNeg → (r = -1 ∧ Inv V' z z5)) ∧ (¬ r6 = gA z5 112 (nI g).toNatClampNeg → (r = r6 ∧ Inv V' z z5)))))) (nI g) z4) z3))) a2.toInt64 0 1 z2)))) (nI g) (sI y 100 0) := fun r hr =>
          q_M_isWinter_y hw.2.1 w4 hg (r11 (pp_n hn (q_isIn_n (m := 1) L1 (by omega) c (r01 ⟨hr, hI⟩))))
        refine ⟨fun _ => ev (out _ rfl), fun c1 => pp_n (fun c2 => ?_) (ev (out _ rfl))⟩
        rcases c with c | c
        · exact c1 c
        · exact fa_of_lt_le c2 c
      · refine pp_n (nI_pos (by omega)) (pp_y (show nI j ≤ nI 1 from nI_le hj (by omega)) (q_copyX ⟨(vp_in_nI (by omega) (by omega)), ev ?_⟩))
        obtain ⟨s1, s2, s3, s4, s5⟩ := hI0.steps hw.1 w4 hg
        have tb : TB V nd (va_cpy (gA z 23) (gA z 24) 0 0 28) := ta.2.1.cg (fun k hk => cpy_in hk)
        have fz : Fr XS XA z (sF z 24 (va_cpy (gA z 23) (gA z 24) 0 0 28)) := Fr.rf.sF (by decide)
        have fy : Fr MS MA (sI y 100 0) (sI (sF (sI y 100 0) 114 (upd (fa_fill (gA (sI y 100 0) 113) (gA (sI y 100 0) 114) 28) 28 0)) 120 0) := (Fr.rf.sF (by decide)).sI (by decide)
        have tr : TR (upd (fa_fill (gA (sI y 100 0) 113) (gA (sI y 100 0) 114) 28) 28 0) (va_cpy (gA z 23) (gA z 24) 0 0 28) := ta.1.cg (fun k hk => by rw [pk_un (by omega), fa_fill_in hk]) (fun k hk => cpy_in hk)
        rw [nI_clamp (by omega), show 0 + g = g by omega]
        refine ⟨gZ z (8 + g) + 1, go_X hl e s1 (by omega) (s := fun i => tN (gA z (32 + g) i)) s3 (gZ z (8 + g)) 0 (by omega) _ V _ (hz.fr fz (by decide) (by decide)) ?_ rfl ?_ (fun z' hf ez => ?_) _ (Nat.le_refl _)⟩
        · rw [gA_sF, if_pos rfl]; exact tb
        · intro i hi; rw [gA_sF, if_neg (by omega)]; exact s4 i hi
        · rw [gA_sF, if_pos rfl] at ez ⊢
          have fz2 : Fr XS XA z z' := fz.tr (hf.wk (by decide) (by decide))
          have mside : ∀ (r : Int32), (r = if j = 1 then nI (goC nd ng mo wg q lk lw (fun i => tN (gA z (32 + g) i)) (gZ z (8 + g)) 0 (va_cpy (gA z 23) (gA z 24) 0 0 28)).2.2 else if (goC nd ng mo wg q lk lw (fun i => tN (gA z (32 + g) i)) (gZ z (8 + g)) 0 (va_cpy (gA z 23) (gA z 24) 0 0 28)).1 = gZ z (8 + g) then -1 else nI (goC nd ng mo wg q lk lw (fun i => tN (gA z (32 + g) i)) (gZ z (8 + g)) 0 (va_cpy (gA z 23) (gA z 24) 0 0 28)).1) → S_M_isWinter (fun r1 z2 => (r1 = 0 → (r = -1000000 ∧ Inv V' z' z2)) ∧ (¬ r1 = 0 → ((gI z2 112 = 0 → (r = -1000000 ∧ Inv V' z' z2)) ∧ (¬ gI z2 112 = 0 → S_M_isIn (fun r4 z3 => (r4 = 0 → (r = -1000000 ∧ Inv V' z' z3)) ∧ (¬ r4 = 0 → (S_M_copy_r113_r114 (fun z4 => S_M_runs (fun r6 z5 => (nI j = 1 → (r = gI z5 120 ∧ Inv V' z' z5)) ∧ (¬ nI j = 1 → (vp_in (nI g) 5 ∧ ((r6 = gA z5 112 g → (r = -1 ∧ Inv V' z' z5)) ∧ (¬ r6 = gA z5 112 g → (r = r6 ∧ Inv V' z' z5)))))) (nI g) z4) z3))) (nI j).toInt64 0 1 z2)))) (nI g) (sI y 100 0) := fun r hr => by
            refine q_M_isWinter_y hw.2.1 w4 hg (r11 (pp_n hn (q_isIn_y (m := 1) L1 (by omega) hj (r11 (q_copyM (ev ⟨gZ z (8 + g) + 1, go_M hl s1 (by omega) (s := fun i => tN (gA z (32 + g) i)) s3 (gZ z (8 + g)) 0 (by omega) _ (va_cpy (gA z 23) (gA z 24) 0 0 28) V 0 0 _ (hy.fr fy (by decide) (by decide)) tr tb rfl (by omega) rfl s2 s5 (fun y' bl' hf2 t2 e2 hb2 e3 => ?_) _ (Nat.le_refl _)⟩))))))
            have fy2 : Fr MS MA (sI y 100 0) y' := fy.tr (hf2.wk (by decide) (by decide))
            have hII : Inv V' z' y' := hI.fr (Nat.le_refl _) fz2 fy2
            have hle := goC_le (nd := nd) (ng := ng) (mo := mo) (wg := wg) (q := q) (lk := lk) (lw := lw) (s := fun i => tN (gA z (32 + g) i)) (gZ z (8 + g)) 0 (va_cpy (gA z 23) (gA z 24) 0 0 28)
            rw [Nat.zero_add] at e3
            refine ⟨fun c => ⟨?_, hII⟩, fun c => ⟨(vp_in_nI (by omega) (by omega)), ?_⟩⟩
            · rw [k1, nI_eq (by omega) (by omega)] at c
              rw [if_pos c] at hr
              rw [hr, e3]
            · rw [k1, nI_eq (by omega) (by omega)] at c
              rw [if_neg c] at hr
              rw [show gA y' 112 g = nI (gZ z (8 + g)) from (congrFun (fy2.2.1 112 (by decide)) g).trans s2, nI_eq (by omega) (by omega)]
              refine ⟨fun c2 => ⟨?_, hII⟩, fun c2 => ⟨?_, hII⟩⟩
              · rw [hr, if_pos c2]
              · rw [hr, if_neg c2]
          refine ⟨fun c => ?_, fun c => ⟨(vp_in_nI (by omega) (by omega)), ev ⟨(vp_in_nI (by omega) (by omega)), rfl, ?_⟩⟩⟩
          · have cj : j = 1 := by rw [k1, nI_eq (by omega) (by omega)] at c; exact c
            have hn9 : gI z' 27 = nI ng := (fz2.1 27 (by decide)).trans hz.2.1
            refine q_joyAll9 hn9 g6 (q_joyAll8 hn9 g6 (ev (mside _ ?_)))
            rw [if_pos cj, ez, sum_go hl s3 _ 0 _ (by omega), fz2.2.1 23 (by decide), sumI_cg (f := fun k => va_cpy (gA z 23) (gA z 24) 0 0 28 (16 + k)) (g := fun k => gA z 23 (16 + k)) (fun k hk => cpy_in (by omega)), sub_same]
          · have cj : ¬ j = 1 := by rw [k1, nI_eq (by omega) (by omega)] at c; exact c
            have hle := goC_le (nd := nd) (ng := ng) (mo := mo) (wg := wg) (q := q) (lk := lk) (lw := lw) (s := fun i => tN (gA z (32 + g) i)) (gZ z (8 + g)) 0 (va_cpy (gA z 23) (gA z 24) 0 0 28)
            rw [hf.2.2.1]
            show (nI _ = nI (gZ z (8 + g)) → _) ∧ (¬ nI _ = nI (gZ z (8 + g)) → _)
            rw [nI_eq (by omega) (by omega)]
            refine ⟨fun c2 => ev (mside _ ?_), fun c2 => ev (mside _ ?_)⟩
            · rw [if_neg cj, if_pos c2]
            · rw [if_neg cj, if_neg c2]
