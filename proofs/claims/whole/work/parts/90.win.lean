/-! winters read -/
abbrev SW : Type := Nat × Nat × Nat × (Nat → Nat)
def stepW (T : Nat → Nat) (i : Nat) (s : SW) : Option SW :=
  if s.1 = 0 then (match spt 5 (nI (T i)) with
    | none => none
    | some k => if k = 1 then (if s.2.2.1 < 16 then some (2, 1, s.2.2.1 + 1, fun j => if j = s.2.2.1 then 10 else s.2.2.2 j) else none) else some (1, k, s.2.2.1, s.2.2.2))
  else if s.1 = 1 then (if dg (T i) = true then (if s.2.2.1 < 16 then some (2, s.2.1, s.2.2.1 + 1, fun j => if j = s.2.2.1 then 10 * s.2.1 + (T i - 48) else s.2.2.2 j) else none) else none)
  else if T i = 59 ∧ s.2.2.1 < 16 then some (0, s.2.1, s.2.2.1, s.2.2.2) else none
def clW (s : SW) : Option SW := if s.1 = 2 then some s else none
def WZ (s : SW) (z : St) : Prop := gI z 22 = nI s.1 ∧ s.1 ≤ 2 ∧ (s.1 = 1 → gI z 21 = nI s.2.1 ∧ s.2.1 < 3) ∧ gI z 20 = nI s.2.2.1 ∧ s.2.2.1 ≤ 16 ∧ ∀ j, j < s.2.2.1 → gA z 16 j = nI (s.2.2.2 j) ∧ s.2.2.2 j < 30
theorem spR_lt {f : Nat → Int32} {x : Int32} : ∀ m i j, spR f x m i = some j → j < i + m
  | 0, _, _, h => by cases h
  | m + 1, i, j, h => by
    rw [spR] at h
    split at h
    · injection h with h; omega
    · have := spR_lt m (i + 1) j h; omega
theorem spt_lt {k : Nat} {x : Int32} {j : Nat} (h : spt k x = some j) : j < slen.getD k 0 := by have := spR_lt _ _ _ h; omega
theorem q_adds {post : Int32 → St → Prop} {z : St} {s : SW} {k d : Nat} (h20 : gI z 20 = nI s.2.2.1) (h16 : s.2.2.1 ≤ 16) (hst : ∀ j, j < s.2.2.1 → gA z 16 j = nI (s.2.2.2 j) ∧ s.2.2.2 j < 30) (h21 : gI z 21 = nI k) (hk : k < 3) (hd : d < 10) (h1 : ∀ z', s.2.2.1 < 16 → Fr [20, 22] [16] z z' → WZ (2, k, s.2.2.1 + 1, fun j => if j = s.2.2.1 then 10 * k + d else s.2.2.2 j) z' → post 1 z') (h0 : ¬ s.2.2.1 < 16 → post 0 z) : S_WinterReader_adds post (nI d) z := by
  unfold S_WinterReader_adds
  rw [h20, k16, nI_ltI (by omega) (by omega), h21, k10, pk_mul, nI_add, nI_clamp (by omega)]
  refine ⟨fun c => ⟨(vp_in_nI (by omega) (by omega)), ev (ev (ev (h1 _ c (((Fr.rf.sA (by decide)).sI (by decide)).sI (by decide)) ?_)))⟩, h0⟩
  rw [show gI (sA z 16 s.2.2.1 (nI (10 * k + d))) 20 = nI s.2.2.1 from h20, nI_1]
  refine ⟨rfl, Nat.le_refl _, fun q => absurd (show (2 : Nat) = 1 from q) (by decide), rfl, by show s.2.2.1 + 1 ≤ 16; omega, fun j hj => ?_⟩
  show upd (gA z 16) s.2.2.1 (nI (10 * k + d)) j = nI (if j = s.2.2.1 then 10 * k + d else s.2.2.2 j) ∧ (if j = s.2.2.1 then 10 * k + d else s.2.2.2 j) < 30
  have hj : j < s.2.2.1 + 1 := hj
  by_cases e : j = s.2.2.1
  · rw [if_pos e, e, pk_us]; exact ⟨rfl, by omega⟩
  · rw [if_neg e, pk_un e]; exact hst j (by omega)
theorem q_takesW {post : Int32 → St → Prop} {T : Nat → Nat} {i : Nat} {z : St} {s : SW} {x2 x3 : Int32} (hb : T i < 256) (hW : WZ s z) (h1 : ∀ s' z', stepW T i s = some s' → Fr [20, 21, 22] [16] z z' → WZ s' z' → post 1 z') (h0 : ∀ z', stepW T i s = none → Fr [20, 21, 22] [16] z z' → post 0 z') : S_WinterReader_takes post (nI (T i)) x2 x3 z := by
  obtain ⟨w1, w2, w3, w4, w5, w6⟩ := hW
  unfold S_WinterReader_takes
  rw [w1]
  have : s.1 = 0 ∨ s.1 = 1 ∨ s.1 = 2 := by omega
  rcases this with e | e | e
  · rw [e]
    refine pp_y rfl ?_
    unfold S_WinterReader_takesKind
    refine ⟨by decide, q_indexOf (by decide) (by decide) hb (ev ?_)⟩
    unfold stepW at h1 h0
    rw [if_pos e] at h1 h0
    rw [show gI (sI z 21 (enc (spt 5 (nI (T i))))) 21 = enc (spt 5 (nI (T i))) from rfl]
    cases hs : spt 5 (nI (T i)) with
    | none =>
      rw [hs] at h0
      refine pp_n (by decide) (ev (pp_y (show (-1 : Int32) < 0 by decide) ⟨.inl rfl, h0 _ rfl ((Fr.rf.sI (by decide)).sI (by decide))⟩))
    | some k =>
      have hk : k < 3 := spt_lt hs
      rw [hs] at h1 h0
      show (nI k = 1 → _) ∧ (¬ nI k = 1 → _)
      rw [k1, nI_eq (by omega) (by omega)]
      refine ⟨fun c => ?_, fun c => ev (pp_n (show ¬ nI k < 0 from nI_pos (by omega)) ⟨.inr rfl, ?_⟩)⟩
      · have h1 := fun s' z' h => h1 s' z' ((if_pos c).trans h)
        have h0 := fun z' h => h0 z' ((if_pos c).trans h)
        refine q_adds (z := sI z 21 (enc (some k))) (s := s) (k := 1) (d := 0) w4 w5 w6 (by rw [c]; rfl) (by omega) (by omega) (fun z' hl hf hw => ⟨.inr rfl, .inr rfl, h1 _ z' ?_ (((Fr.rf.sI (by decide)).tr (hf.wk (by decide) (by decide)))) hw⟩) (fun hl => ⟨.inl rfl, .inl rfl, h0 _ ?_ (Fr.rf.sI (by decide))⟩)
        · rw [if_pos hl]
        · rw [if_neg hl]
      · refine h1 _ _ (if_neg c) ((Fr.rf.sI (by decide)).sI (by decide)) ⟨rfl, by show 1 ≤ 2; omega, fun _ => ⟨rfl, hk⟩, w4, w5, w6⟩
  · rw [e]
    refine pp_n (by decide) (pp_y rfl ?_)
    unfold stepW at h1 h0
    rw [if_neg (by omega), if_pos e] at h1 h0
    obtain ⟨e21, hk⟩ := w3 e
    refine q_digX (by omega) ?_
    by_cases c : dg (T i) = true
    · rw [if_pos c]
      have h1 := fun s' z' h => h1 s' z' ((if_pos c).trans h)
      have h0 := fun z' h => h0 z' ((if_pos c).trans h)
      have cd := dg_iff.mp c
      rw [k48, pk_sub (by omega)]
      refine r11 (q_adds (s := s) (k := s.2.1) (d := T i - 48) w4 w5 w6 e21 hk (by omega) (fun z' hl hf hw => r11 (h1 _ z' ?_ (hf.wk (by decide) (by decide)) hw)) (fun hl => r01 (h0 _ ?_ Fr.rf)))
      · rw [if_pos hl]
      · rw [if_neg hl]
    · rw [if_neg c]
      exact r01 (h0 _ (if_neg c) Fr.rf)
  · rw [e]
    refine pp_n (by decide) (pp_n (by decide) (ev ?_))
    unfold stepW at h1 h0
    rw [if_neg (by omega), if_neg (by omega)] at h1 h0
    rw [show gI (sI z 22 0) 20 = nI s.2.2.1 from w4, k59, k16, nI_eq (by omega) (by omega), nI_leI (by omega) (by omega)]
    refine ⟨fun c => ⟨fun c1 => h0 _ (if_neg (fun q => by omega)) (Fr.rf.sI (by decide)), fun c1 => h1 _ _ (if_pos ⟨c, by omega⟩) (Fr.rf.sI (by decide)) ⟨rfl, by show 0 ≤ 2; omega, fun q => absurd (show (0 : Nat) = 1 from q) (by decide), w4, w5, w6⟩⟩, fun c => h0 _ (if_neg (fun q => c q.1)) (Fr.rf.sI (by decide))⟩
theorem flt_W {T : Nat → Nat} {n : Nat} (h240 : n ≤ 240) : ∀ m i, i + m = n → ∀ (z : St) (s : SW) (x2 : Int32) (post : Int32 → St → Prop), gI z 2 = nI n → (∀ i, i < n → T i < 256 ∧ gA z 12 i = nI (T i)) → WZ s z → (∀ z', Fr [20, 21, 22] [16] z z' → ((runR T n (stepW T) clW m i s).1 = none → WZ (runR T n (stepW T) clW m i s).2 z') → post (faI (runR T n (stepW T) clW m i s).1) z') → ∀ k, m + 1 ≤ k → L_Reader_faultOf_4_r1_8 post k x2 (nI i) z := by
  intro m
  induction m with
  | zero =>
    intro i hi z s x2 post hn hT hW hp k hk
    obtain ⟨k, rfl⟩ : ∃ j, k = j + 1 := ⟨k - 1, by omega⟩
    have hp := hp z Fr.rf
    show B_Reader_faultOf_4_r1_8 post _ _ _ z
    unfold B_Reader_faultOf_4_r1_8 S_WinterReader_closes
    rw [hn, hW.1, k2, nI_eq (by have := hW.2.1; omega) (by omega)]
    refine pp_y (nI_le (by omega) (by omega)) ⟨fun c => r11 ?_, fun c => r01 ?_⟩
    · have e : runR T n (stepW T) clW 0 i s = (none, s) := by rw [runR, clW, if_pos c]
      rw [e] at hp
      exact hp (fun _ => hW)
    · have e : runR T n (stepW T) clW 0 i s = (some n, s) := by rw [runR, clW, if_neg c]
      rw [e] at hp
      rw [hn]
      exact hp (fun q => by cases q)
  | succ m ih =>
    intro i hi z s x2 post hn hT hW hp k hk
    obtain ⟨k, rfl⟩ : ∃ j, k = j + 1 := ⟨k - 1, by omega⟩
    have hTi := hT i (by omega)
    show B_Reader_faultOf_4_r1_8 post _ _ _ z
    unfold B_Reader_faultOf_4_r1_8 B_Reader_faultOf_4_r1_49 B_Reader_faultOf_4_r1_61
    rw [hn, nI_1 i]
    refine pp_n (nI_ge (by omega) (by omega)) (q_signAt hn h240 hT (by omega) ?_)
    rw [show sg T n i = nI (T i) from if_pos (by omega), k32, nI_eq (by omega) (by omega)]
    refine ⟨fun c => pp_y c (ev ?_), fun c => q_signAt hn h240 hT (by omega) ?_⟩
    · refine ih (i + 1) (by omega) z s _ post hn hT hW (fun z' hf hw => ?_) k (by omega)
      have e : runR T n (stepW T) clW (m + 1) i s = runR T n (stepW T) clW m (i + 1) s := by rw [runR, if_pos c]
      rw [e] at hp
      exact hp z' hf hw
    · refine q_takesW hTi.1 hW (fun s' z' hs hf hw => r11 (pp_n c (ev ?_))) (fun z' hs hf => r01 ?_)
      · have e : runR T n (stepW T) clW (m + 1) i s = runR T n (stepW T) clW m (i + 1) s' := by rw [runR, if_neg c, hs]
        rw [e] at hp
        exact ih (i + 1) (by omega) z' s' _ post ((hf.1 2 (by decide)).trans hn) (fun j hj => by rw [hf.2.1 12 (by decide)]; exact hT j hj) hw (fun z2 hf2 hw2 => hp z2 (hf.tr hf2) hw2) k (by omega)
      · have e : runR T n (stepW T) clW (m + 1) i s = (some i, s) := by rw [runR, if_neg c, hs]
        rw [e] at hp
        exact hp z' hf (fun q => by cases q)
/-! the reference -/
def WY (s : SW) (y : St) : Prop := ∀ j, j < s.2.2.1 → s.2.2.2 j < 30 ∧ gA y 111 (2 * (64 + j)) = nI (s.2.2.2 j / 10) ∧ gA y 111 (2 * (64 + j) + 1) = (if s.2.2.2 j / 10 = 1 then -1 else nI (s.2.2.2 j % 10))
theorem spt5_m1 : spt 5 (-1) = none := by decide
def FW (y y' : St) : Prop := Fr [105, 106] [111, 112] y y' ∧ (∀ j, j < 128 → gA y' 111 j = gA y 111 j) ∧ ∀ j, j < 4 → gA y' 112 j = gA y 112 j
theorem FW.rf {y : St} : FW y y := ⟨Fr.rf, fun _ _ => rfl, fun _ _ => rfl⟩
theorem FW.sI {y y' : St} (h : FW y y') {k : Nat} {v : Int32} (hk : k ∈ [105, 106]) : FW y (sI y' k v) := ⟨h.1.sI hk, h.2.1, h.2.2⟩
theorem FW.s111 {y y' : St} (h : FW y y') {i : Nat} {v : Int32} (hi : 128 ≤ i) : FW y (sA y' 111 i v) := by
  refine ⟨h.1.sA (by decide), fun j hj => ?_, h.2.2⟩
  rw [gA_sA, if_pos rfl, pk_un (by omega)]; exact h.2.1 j hj
theorem FW.s112 {y y' : St} (h : FW y y') {v : Int32} : FW y (sA y' 112 4 v) := by
  refine ⟨h.1.sA (by decide), h.2.1, fun j hj => ?_⟩
  rw [gA_sA, if_pos rfl, pk_un (by omega)]; exact h.2.2 j hj
theorem FW.tr {y y1 y2 : St} (h : FW y y1) (h2 : FW y1 y2) : FW y y2 := ⟨h.1.tr h2.1, fun j hj => (h2.2.1 j hj).trans (h.2.1 j hj), fun j hj => (h2.2.2 j hj).trans (h.2.2 j hj)⟩
/-- behind a step: the next ; or the end -/
theorem win_tail {T : Nat → Nat} {n B r : Nat} {y0 : St} {post : St → Prop} {ih17 : Int32 → Int32 → St → Prop} {y : St} {s : SW} {p : Nat} (hR : RX T n B r y) (h105 : gI y 105 = nI p) (hpn : p ≤ n) (h106 : gI y 106 = -1) (hs : s.1 = 2) (h16 : s.2.2.1 ≤ 16) (hW : WY s y) (hF : FW y0 y)
    (hp : ∀ y', FW y0 y' → gI y' 106 = faI (RN T n (stepW T) clW p s).1 → ((RN T n (stepW T) clW p s).1 = none → WY (RN T n (stepW T) clW p s).2 y' ∧ gA y' 112 4 = nI (RN T n (stepW T) clW p s).2.2.2.1 ∧ (RN T n (stepW T) clW p s).2.2.2.1 ≤ 16) → post y')
    (hmore : ∀ p1, s.2.2.1 < 16 → p1 ≤ n → RN T n (stepW T) clW p s = RN T n (stepW T) clW p1 (0, s.2.1, s.2.2.1, s.2.2.2) → ∀ y', RX T n B r y' → gI y' 105 = nI p1 → gI y' 106 = -1 → WY s y' → FW y0 y' → ih17 (nI s.2.2.1) 1 y')
    (hend : ∀ p1, BL T n p p1 → (p1 < n → T p1 ≠ 59) → ∀ y', y' = sI y 105 (nI p1) → ih17 (nI s.2.2.1) 0 y' ) : S_M_look (fun r7 z5 => (r7 = 59 → B_M_readWinter_57 post ih17 (nI s.2.2.1) 1 z5) ∧ (¬ r7 = 59 → B_M_readWinter_57 post ih17 (nI s.2.2.1) 0 z5)) y := by
  have h960 := hR.n_le
  refine q_look hR h105 hpn (fun p1 hb => ?_)
  have hRN := RN_bl (step := stepW T) (cl := clW) (s := s) hb
  have R1 := hR.sI (k := 105) (v := nI p1) (by decide) (by decide)
  unfold B_M_readWinter_57 B_M_readWinter_74
  by_cases c : p1 < n
  · rw [if_pos c]
    have hT := (R1.at c).2.2
    rw [k59, nI_eq (by omega) (by omega)]
    refine ⟨fun c1 => r11 ?_, fun c1 => r01 (r01 (hend p1 hb (fun _ => c1) _ rfl))⟩
    rw [k16, nI_eq (by omega) (by omega)]
    refine ⟨fun c2 => ?_, fun c2 => r11 (ev ?_)⟩
    · have hno : stepW T p1 s = none := by unfold stepW; rw [if_neg (by omega), if_neg (by omega), if_neg (fun q => by omega)]
      have e := hRN.trans (RN_no c (hb.2.2.2 c) hno)
      refine q_fails_1 (y := sI y 105 (nI p1)) rfl h106 (hp _ ((hF.sI (by decide)).sI (by decide)) ?_ (fun q => ?_))
      · rw [e]; rfl
      · rw [e] at q; cases q
    · have hyes : stepW T p1 s = some (0, s.2.1, s.2.2.1, s.2.2.2) := by unfold stepW; rw [if_neg (by omega), if_neg (by omega), if_pos ⟨c1, by omega⟩]
      have e := hRN.trans (RN_yes c (hb.2.2.2 c) hyes)
      rw [show gI (sI y 105 (nI p1)) 105 = nI p1 from rfl, nI_1]
      refine hmore (p1 + 1) (by omega) (by omega) e _ (R1.sI (by decide) (by decide)) rfl h106 hW ((hF.sI (by decide)).sI (by decide))
  · rw [if_neg c]
    exact pp_n (by decide) (r01 (r01 (hend p1 hb (fun q => absurd q c) _ rfl)))
theorem win_M {T : Nat → Nat} {n B r : Nat} {y0 : St} {post : St → Prop} : ∀ m, ∀ (y : St) (kd cnt : Nat) (f : Nat → Nat) (p : Nat), cnt + m = 16 → 0 < m → RX T n B r y → gI y 105 = nI p → p ≤ n → gI y 106 = -1 → WY (0, kd, cnt, f) y → FW y0 y → (∀ y', FW y0 y' → gI y' 106 = faI (RN T n (stepW T) clW p (0, kd, cnt, f)).1 → ((RN T n (stepW T) clW p (0, kd, cnt, f)).1 = none → WY (RN T n (stepW T) clW p (0, kd, cnt, f)).2 y' ∧ gA y' 112 4 = nI (RN T n (stepW T) clW p (0, kd, cnt, f)).2.2.2.1 ∧ (RN T n (stepW T) clW p (0, kd, cnt, f)).2.2.2.1 ≤ 16) → post y') → ∀ k, m + 1 ≤ k → L_M_readWinter_17 post k (nI cnt) 1 y := by
  intro m
  induction m with
  | zero => intro y kd cnt f p _ h; omega
  | succ m ih =>
    intro y kd cnt f p hcm _ hR h105 hpn h106 hW hF hp k hk
    obtain ⟨k, rfl⟩ : ∃ j, k = j + 1 := ⟨k - 1, by omega⟩
    have h960 := hR.n_le
    show B_M_readWinter_17 post _ _ _ y
    unfold B_M_readWinter_17
    refine pp_n (by decide) ?_
    rw [k2, show (64 : Int32) = nI 64 from rfl, nI_add, pk_mul, nI_1]
    -- what follows a step that was read
    have tail : ∀ (p2 kd2 v : Nat) (y2 : St), p2 ≤ n → v < 30 → RN T n (stepW T) clW p (0, kd, cnt, f) = RN T n (stepW T) clW p2 (2, kd2, cnt + 1, fun j => if j = cnt then v else f j) → RX T n B r y2 → gI y2 105 = nI p2 → gI y2 106 = -1 → gA y2 111 = upd (upd (gA y 111) (2 * (64 + cnt)) (nI (v / 10))) (2 * (64 + cnt) + 1) (if v / 10 = 1 then -1 else nI (v % 10)) → FW y0 y2 → ((gI y2 106 = -1 → ∀ v6 : Int32, v6 = nI (cnt + 1) → S_M_look (fun r7 z5 => (r7 = 59 → B_M_readWinter_57 post (L_M_readWinter_17 post k) v6 1 z5) ∧ (¬ r7 = 59 → B_M_readWinter_57 post (L_M_readWinter_17 post k) v6 0 z5)) y2) ∧ (¬ gI y2 106 = -1 → post y2)) := fun p2 kd2 v y2 hp2 hv hRN hR2 e105 e106 e111 hF2 => by
      have hW2 : WY (2, kd2, cnt + 1, fun j => if j = cnt then v else f j) y2 := fun j hj => by
        have hj : j < cnt + 1 := hj
        show (if j = cnt then v else f j) < 30 ∧ gA y2 111 (2 * (64 + j)) = nI ((if j = cnt then v else f j) / 10) ∧ gA y2 111 (2 * (64 + j) + 1) = (if (if j = cnt then v else f j) / 10 = 1 then -1 else nI ((if j = cnt then v else f j) % 10))
        rw [e111]
        by_cases e : j = cnt
        · rw [if_pos e, e, pk_us, pk_un (by omega), pk_us]; exact ⟨hv, rfl, rfl⟩
        · rw [if_neg e, pk_un (by omega), pk_un (by omega), pk_un (by omega), pk_un (by omega)]; exact hW j (by show j < cnt; omega)
      refine pp_y e106 (ev ?_)
      refine win_tail (y0 := y0) (s := (2, kd2, cnt + 1, fun j => if j = cnt then v else f j)) hR2 e105 hp2 e106 rfl (by show cnt + 1 ≤ 16; omega) hW2 hF2 (fun y' a1 a2 a3 => hp y' a1 (by rw [hRN]; exact a2) (by rw [hRN]; exact a3)) (fun p3 hc hp3 e3 y3 R3 b1 b2 b3 b4 => ?_) (fun p3 hb n59 y3 e3 => ?_)
      · have hc : cnt + 1 < 16 := hc
        refine ih y3 kd2 (cnt + 1) _ p3 (by omega) (by omega) R3 b1 hp3 b2 b3 b4 (fun y' a1 a2 a3 => hp y' a1 ?_ ?_) k (by omega)
        · rw [hRN, e3]; exact a2
        · rw [hRN, e3]; exact a3
      · subst e3
        obtain ⟨k, rfl⟩ : ∃ j, k = j + 1 := ⟨k - 1, by omega⟩
        show B_M_readWinter_17 post _ _ _ _
        unfold B_M_readWinter_17
        refine pp_y rfl (ev ?_)
        have R3 : RX T n B r (sA (sI y2 105 (nI p3)) 112 4 (nI (cnt + 1))) := (hR2.sI (by decide) (by decide)).sA (by decide) (by decide)
        refine q_look R3 (p := p3) rfl hb.2.1 (fun p4 hb4 => ?_)
        have e4 : p4 = p3 := by
          rcases Nat.lt_or_ge p3 n with c | c
          · rcases Nat.lt_or_ge p3 p4 with c2 | c2
            · exact absurd (hb4.2.2.1 p3 (Nat.le_refl _) c2) (hb.2.2.2 c)
            · have := hb4.1; omega
          · have := hb4.1; have := hb4.2.1; omega
        subst e4
        have hRN3 := hRN.trans (RN_bl hb)
        by_cases c : p4 < n
        · rw [if_pos c]
          have hT := (hR2.at c).2.2
          refine pp_n (fun q => (nI_m1 (by omega)).mp q) ?_
          have c59 := n59 c
          have hno : stepW T p4 (2, kd2, cnt + 1, fun j => if j = cnt then v else f j) = none := by unfold stepW; rw [if_neg (show ¬ (2 : Nat) = 0 by decide), if_neg (show ¬ (2 : Nat) = 1 by decide), if_neg (fun q => c59 q.1)]
          have e := hRN3.trans (RN_no c (hb.2.2.2 c) hno)
          refine q_fails_1 (p := p4) rfl e106 (hp _ ((((hF2.sI (by decide)).s112).sI (by decide)).sI (by decide)) ?_ (fun q => ?_))
          · rw [e]; rfl
          · rw [e] at q; cases q
        · rw [if_neg c]
          have en : p4 = n := by have := hb.2.1; omega
          subst en
          have e := hRN3.trans (RN_end (s := (2, kd2, cnt + 1, fun j => if j = cnt then v else f j)))
          rw [show clW (2, kd2, cnt + 1, fun j => if j = cnt then v else f j) = some (2, kd2, cnt + 1, fun j => if j = cnt then v else f j) from rfl] at e
          refine pp_y rfl (hp _ (((hF2.sI (by decide)).s112).sI (by decide)) ?_ (fun _ => ?_))
          · rw [e]; exact e106
          · rw [e]; exact ⟨hW2, rfl, by show cnt + 1 ≤ 16; omega⟩
    unfold S_M_readStep
    refine q_look hR h105 hpn (fun p1 hb => ?_)
    have hRN1 := RN_bl (step := stepW T) (cl := clW) (s := ((0, kd, cnt, f) : SW)) hb
    have R1 := hR.sI (k := 105) (v := nI p1) (by decide) (by decide)
    by_cases c : p1 < n
    · rw [if_pos c]
      have hT := (R1.at c).2.2
      refine q_spotOf (by decide) ?_
      cases hs : spt 5 (nI (T p1)) with
      | none =>
        have hno : stepW T p1 (0, kd, cnt, f) = none := by unfold stepW; rw [if_pos rfl, hs]
        have e := hRN1.trans (RN_no c (hb.2.2.2 c) hno)
        refine pp_y rfl (q_fails_1 (y := sI y 105 (nI p1)) rfl h106 (pp_n (fun q => (nI_m1 (by omega)).mp q) (hp _ ((hF.sI (by decide)).sI (by decide)) ?_ (fun q => ?_))))
        · rw [e]; rfl
        · rw [e] at q; cases q
      | some kk =>
        have hk3 : kk < 3 := spt_lt hs
        rw [show enc (some kk) = nI kk from rfl, show gI (sI y 105 (nI p1)) 105 = nI p1 from rfl, nI_1]
        refine pp_n (fun q => (nI_m1 (by omega)).mp q) (ev ⟨(vp_in_nI (by omega) (by omega)), ?_⟩)
        rw [nI_clamp (by omega), nI_1, nI_clamp (by omega)]
        refine ev ⟨(vp_in_nI (by omega) (by omega)), ev ?_⟩
        rw [show (nI kk = (1 : Int32)) = (kk = 1) from propext (nI_eq (b := 1) (by omega) (by omega))]
        have R2 : RX T n B r (sA (sA (sI (sI y 105 (nI p1)) 105 (nI (p1 + 1))) 111 (2 * (64 + cnt)) (nI kk)) 111 (2 * (64 + cnt) + 1) (-1)) := ((R1.sI (by decide) (by decide)).sA (by decide) (by decide)).sA (by decide) (by decide)
        have F2 : FW y0 (sA (sA (sI (sI y 105 (nI p1)) 105 (nI (p1 + 1))) 111 (2 * (64 + cnt)) (nI kk)) 111 (2 * (64 + cnt) + 1) (-1)) := (((hF.sI (by decide)).sI (by decide)).s111 (by omega)).s111 (by omega)
        refine ⟨fun c1 => ?_, fun c1 => ?_⟩
        · subst c1
          have hyes : stepW T p1 (0, kd, cnt, f) = some (2, 1, cnt + 1, fun j => if j = cnt then 10 else f j) := by unfold stepW; rw [if_pos rfl, hs]; show (if (1 : Nat) = 1 then (if cnt < 16 then _ else _) else _) = _; rw [if_pos rfl, if_pos (by omega)]
          refine tail (p1 + 1) 1 10 _ (by omega) (by omega) (hRN1.trans (RN_yes c (hb.2.2.2 c) hyes)) R2 rfl h106 ?_ F2
          rw [gA_sA, if_pos rfl, gA_sA, if_pos rfl]; rfl
        · have hyes : stepW T p1 (0, kd, cnt, f) = some (1, kk, cnt, f) := by unfold stepW; rw [if_pos rfl, hs]; show (if kk = 1 then _ else _) = _; rw [if_neg c1]
          have hRN2 := hRN1.trans (RN_yes c (hb.2.2.2 c) hyes)
          refine q_look R2 (p := p1 + 1) rfl (by omega) (fun p2 hb2 => ?_)
          have hRN3 := hRN2.trans (RN_bl hb2)
          have R3 := R2.sI (k := 105) (v := nI p2) (by decide) (by decide)
          refine q_isDigit R3 (p := p2) rfl hb2.2.1 (fun c2 cd => r11 ⟨(vp_in_nI (by omega) (by omega)), ?_⟩) (fun cd => r01 ?_)
          · rw [if_pos c2]
            have cd' := dg_iff.mp cd
            have hyes2 : stepW T p2 (1, kk, cnt, f) = some (2, kk, cnt + 1, fun j => if j = cnt then 10 * kk + (T p2 - 48) else f j) := by unfold stepW; rw [if_neg (show ¬ (1 : Nat) = 0 by decide), if_pos rfl, if_pos cd]; show (if cnt < 16 then _ else _) = _; rw [if_pos (by omega)]
            rw [k48, pk_sub (by omega)]
            refine ev (ev ?_)
            rw [show gI (sA (sI (sA (sA (sI (sI y 105 (nI p1)) 105 (nI (p1 + 1))) 111 (2 * (64 + cnt)) (nI kk)) 111 (2 * (64 + cnt) + 1) (-1)) 105 (nI p2)) 111 (2 * (64 + cnt) + 1) (nI (T p2 - 48))) 105 = nI p2 from rfl, nI_1]
            refine tail (p2 + 1) kk (10 * kk + (T p2 - 48)) _ (by omega) (by omega) (hRN3.trans (RN_yes c2 (hb2.2.2.2 c2) hyes2)) ((R3.sA (by decide) (by decide)).sI (by decide) (by decide)) rfl h106 ?_ (((F2.sI (by decide)).s111 (by omega)).sI (by decide))
            rw [show (10 * kk + (T p2 - 48)) / 10 = kk by omega, show (10 * kk + (T p2 - 48)) % 10 = T p2 - 48 by omega, if_neg c1]
            show upd (upd (upd (gA y 111) (2 * (64 + cnt)) (nI kk)) (2 * (64 + cnt) + 1) (-1)) (2 * (64 + cnt) + 1) (nI (T p2 - 48)) = _
            rw [fa_upd_twice]
          · -- no digit
            refine q_fails_1 (p := p2) rfl h106 (pp_n (fun q => (nI_m1 (by have := hb2.2.1; omega)).mp q) ?_)
            have e : RN T n (stepW T) clW p (0, kd, cnt, f) = (some p2, (1, kk, cnt, f)) := by
              rw [hRN3]
              rcases Nat.lt_or_ge p2 n with c2 | c2
              · refine RN_no c2 (hb2.2.2.2 c2) ?_
                unfold stepW; rw [if_neg (show ¬ (1 : Nat) = 0 by decide), if_pos rfl, if_neg (cd c2)]
              · have : p2 = n := by have := hb2.2.1; omega
                subst this; rw [RN_end]; rfl
            refine hp _ ((F2.sI (by decide)).sI (by decide)) ?_ (fun q => ?_)
            · rw [e]; rfl
            · rw [e] at q; cases q
    · rw [if_neg c]
      have en : p1 = n := by have := hb.2.1; omega
      subst en
      have e := hRN1.trans (RN_end (s := ((0, kd, cnt, f) : SW)))
      rw [show clW (0, kd, cnt, f) = none from rfl] at e
      refine q_spotOf (by decide) ?_
      rw [spt5_m1]
      refine pp_y rfl (q_fails_1 (y := sI y 105 (nI p1)) rfl h106 (pp_n (fun q => (nI_m1 (by omega)).mp q) (hp _ ((hF.sI (by decide)).sI (by decide)) ?_ (fun q => ?_))))
      · rw [e]; rfl
      · rw [e] at q; cases q
