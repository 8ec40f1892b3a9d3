/-! laws read: the class -/
abbrev SL : Type := (Int32 × Int32 × Int32 × Int32 × Int32) × List Nat × List Int32
def mkL (aw st cm di wi : Int32) (W : List Nat) (CR : List Int32) : SL := ((aw, st, cm, di, wi), W, CR)
def rkN (b : Nat) : Nat := if b = 33 then 3 else if b = 38 then 2 else if b = 42 then 6 else if b = 43 then 5 else if b = 45 then 5 else if b = 47 then 6 else if b = 60 then 4 else if b = 61 then 4 else if b = 62 then 4 else if b = 124 then 1 else 0
def wrL (w : Int32) (CR : List Int32) : List Int32 := if 241 ≤ CR.length then CR else w :: CR
def awL (b : Nat) (W : List Nat) : List Nat := if 64 ≤ W.length then W else b :: W
def enL : List Nat → Int32
  | [] => -1
  | x :: W => if x = 40 then 40 else if x = 91 then 91 else enL W
def poL (r : Nat) : List Nat → List Int32 → Int32 → List Nat × List Int32 × Int32
  | [], CR, wi => ([], CR, wi)
  | x :: W, CR, wi => if rkN x < r then (x :: W, CR, wi) else poL r W (wrL (-(nI x)) CR) (if x = 33 then wi - 1 else wi)
def gsL (b : Nat) (th st cm wi : Int32) (W : List Nat) (CR : List Int32) : SL := mkL th st cm 0 (poL (rkN b) W CR wi).2.2 (awL b (poL (rkN b) W CR wi).1) (poL (rkN b) W CR wi).2.1
def cbM (th st cm : Int32) : List Nat → List Int32 → Int32 → SL
  | [], CR, wi => mkL th st cm 0 wi [] CR
  | _ :: W, CR, wi => mkL th st cm 0 (wi - 1) W CR
def cbL (th st cm wi : Int32) (W : List Nat) (CR : List Int32) : SL := cbM th st cm (poL 1 W CR wi).1 (poL 1 W CR wi).2.1 (poL 1 W CR wi).2.2
def ecL (wi : Int32) (W : List Nat) (CR : List Int32) : SL := mkL 3 2 0 0 (poL 1 W CR wi).2.2 (poL 1 W CR wi).1 (wrL (-63) (poL 1 W CR wi).2.1)
def esL (st cm di wi : Int32) (W : List Nat) (CR : List Int32) : SL := mkL 0 st cm di (poL 1 W CR wi).2.2 (poL 1 W CR wi).1 (wrL (-59) (poL 1 W CR wi).2.1)
def cpL (b : Nat) (aw st cm wi : Int32) (W : List Nat) (CR : List Int32) : Option SL := if aw = 4 then (if enL W = 91 then none else if cm = 0 then (if st = 2 then none else some (gsL b 3 1 1 wi W CR)) else none) else none
def arL (b : Nat) (aw st cm wi : Int32) (W : List Nat) (CR : List Int32) : Option SL := if aw = 4 then some (gsL b 3 st cm wi W CR) else none
def joL (b : Nat) (st cm wi : Int32) (W : List Nat) (CR : List Int32) : Option SL := if cm = 0 then none else if enL W = 91 then none else some (gsL b 2 st 0 wi W CR)
def bhL (b : Nat) (aw st cm wi : Int32) (W : List Nat) (CR : List Int32) : Option SL :=
  if b = 38 then joL 38 st cm wi W CR
  else if b = 41 then (if enL W = 40 then (if cm = 0 then none else some (cbL 5 st cm wi W CR)) else none)
  else if b = 42 then arL 42 aw st cm wi W CR
  else if b = 43 then arL 43 aw st cm wi W CR
  else if b = 45 then arL 45 aw st cm wi W CR
  else if b = 47 then arL 47 aw st cm wi W CR
  else if b = 59 then (if enL W = -1 then (if st = 1 then none else some (esL st cm 0 wi W CR)) else none)
  else if b = 60 then cpL 60 aw st cm wi W CR
  else if b = 61 then cpL 61 aw st cm wi W CR
  else if b = 62 then cpL 62 aw st cm wi W CR
  else if b = 63 then (if enL W = -1 then (if cm = 0 then none else some (ecL wi W CR)) else none)
  else if b = 93 then (if enL W = 91 then some (cbL 4 st cm wi W CR) else none)
  else if b = 124 then joL 124 st cm wi W CR
  else none
def opL (b : Nat) (aw st cm di wi : Int32) (W : List Nat) (CR : List Int32) : Option SL :=
  if aw = 2 ∧ (b = 33 ∨ b = 40) then (if wi < 6 then some (mkL 2 1 cm di (wi + 1) (awL b W) CR) else none)
  else if b = 91 then (if wi < 6 then some (mkL 3 st cm di (wi + 1) (awL b W) CR) else none)
  else none
def stL (b : Nat) (aw st cm di wi : Int32) (W : List Nat) (CR : List Int32) : Option SL :=
  match spt 1 (nI b) with
  | some l => some (mkL 4 st cm 0 wi W (wrL (-1 - nI l) CR))
  | none => if dg b = true then some (mkL 4 st cm 1 wi W (wrL (nI (b - 48)) CR)) else opL b aw st cm di wi W CR
def dgL (b : Nat) (aw st cm di wi : Int32) (W : List Nat) (CR : List Int32) : Option SL :=
  if di < 1 then none else if 4 ≤ di then none else match CR with
  | [] => none
  | w :: CR' => some (mkL aw st cm (di + 1) wi W ((w * 10 + nI b - 48) :: CR'))
def stp (T : Nat → Nat) (i : Nat) (aw st cm di wi : Int32) (W : List Nat) (CR : List Int32) : Option SL :=
    if aw = 0 then (if T i = 121 then some (mkL 1 st cm di wi W CR) else none)
    else if aw = 1 then (if T i = 58 then some (mkL 2 0 0 di wi W CR) else none)
    else if aw = 2 ∨ aw = 3 then stL (T i) aw st cm di wi W CR
    else if dg (T i) = true then (if jn T i = true then dgL (T i) aw st cm di wi W CR else none)
    else bhL (T i) aw st cm wi W CR
def stepL (T : Nat → Nat) (i : Nat) (s : SL) : Option SL := stp T i s.1.1 s.1.2.1 s.1.2.2.1 s.1.2.2.2.1 s.1.2.2.2.2 s.2.1 s.2.2
def clo (aw st cm di wi : Int32) (W : List Nat) (CR : List Int32) : Option SL := if aw = 4 then (if st = 1 then none else if enL W = -1 then some (esL st cm di wi W CR) else none) else none
def clL (s : SL) : Option SL := clo s.1.1 s.1.2.1 s.1.2.2.1 s.1.2.2.2.1 s.1.2.2.2.2 s.2.1 s.2.2
/-- the class's lists -/
def LA (W : List Nat) (CR : List Int32) (z : St) : Prop :=
  gI z 13 = nI CR.length ∧ CR.length ≤ 241 ∧ gI z 14 = nI W.length ∧ W.length ≤ 64 ∧ (∀ i, i < CR.length → gA z 14 i = CR.getD (CR.length - 1 - i) 0) ∧ (∀ i, i < W.length → gA z 15 i = nI (W.getD (W.length - 1 - i) 0)) ∧ ∀ x, x ∈ W → x < 256
def LZ (z : St) : SL → Prop
  | ((aw, st, cm, di, wi), W, CR) => gI z 16 = aw ∧ gI z 17 = st ∧ gI z 18 = cm ∧ gI z 19 = di ∧ gI z 15 = wi ∧ LA W CR z
def LF : List Nat := [13, 14, 15, 16, 17, 18, 19]
theorem LA.fr {W : List Nat} {CR : List Int32} {z z' : St} {is as : List Nat} (h : LA W CR z) (hf : Fr is as z z') (h1 : 13 ∉ is) (h2 : 14 ∉ is) (h3 : 14 ∉ as) (h4 : 15 ∉ as) : LA W CR z' := by
  unfold LA
  rw [hf.1 13 h1, hf.1 14 h2, hf.2.1 14 h3, hf.2.1 15 h4]; exact h
theorem q_writeL {post : St → Prop} {z : St} {W : List Nat} {CR : List Int32} {w : Int32} (h : LA W CR z) (hp : ∀ z', Fr [13] [14] z z' → LA W (wrL w CR) z' → post z') : S_LawReader_write post w z := by
  obtain ⟨h1, h2, h3, h4, h5, h6, h7⟩ := h
  unfold S_LawReader_write
  rw [h1, show (241 : Int32) = nI 241 from rfl, nI_leI (by omega) (by omega), nI_clamp (by omega)]
  unfold wrL at hp
  refine ⟨fun c => ?_, fun c => ⟨(vp_in_nI (by omega) (by omega)), ev (ev ?_)⟩⟩
  · rw [if_pos c] at hp
    exact hp z Fr.rf ⟨h1, h2, h3, h4, h5, h6, h7⟩
  · rw [if_neg c] at hp
    rw [show gI (sA z 14 CR.length w) 13 = nI CR.length from h1, nI_1]
    refine hp _ ((Fr.rf.sA (by decide)).sI (by decide)) ⟨rfl, by show CR.length + 1 ≤ 241; omega, h3, h4, fun i hi => ?_, h6, h7⟩
    have hi : i < CR.length + 1 := hi
    show upd (gA z 14) CR.length w i = (w :: CR).getD (CR.length + 1 - 1 - i) 0
    by_cases e : i = CR.length
    · rw [e, pk_us, show CR.length + 1 - 1 - CR.length = 0 by omega]; rfl
    · rw [pk_un e, h5 i (by omega), show CR.length + 1 - 1 - i = (CR.length - 1 - i) + 1 by omega]; rfl
theorem q_awaitL {post : St → Prop} {z : St} {W : List Nat} {CR : List Int32} {b : Nat} (h : LA W CR z) (hb : b < 256) (hp : ∀ z', Fr [14] [15] z z' → LA (awL b W) CR z' → post z') : S_LawReader_await post (nI b) z := by
  obtain ⟨h1, h2, h3, h4, h5, h6, h7⟩ := h
  unfold S_LawReader_await
  rw [h3, show (64 : Int32) = nI 64 from rfl, nI_leI (by omega) (by omega), nI_clamp (by omega)]
  unfold awL at hp
  refine ⟨fun c => ?_, fun c => ⟨(vp_in_nI (by omega) (by omega)), ev (ev ?_)⟩⟩
  · rw [if_pos c] at hp
    exact hp z Fr.rf ⟨h1, h2, h3, h4, h5, h6, h7⟩
  · rw [if_neg c] at hp
    rw [show gI (sA z 15 W.length (nI b)) 14 = nI W.length from h3, nI_1]
    refine hp _ ((Fr.rf.sA (by decide)).sI (by decide)) ⟨h1, h2, rfl, by show W.length + 1 ≤ 64; omega, h5, fun i hi => ?_, fun x hx => ?_⟩
    · have hi : i < W.length + 1 := hi
      show upd (gA z 15) W.length (nI b) i = nI ((b :: W).getD (W.length + 1 - 1 - i) 0)
      by_cases e : i = W.length
      · rw [e, pk_us, show W.length + 1 - 1 - W.length = 0 by omega]; rfl
      · rw [pk_un e, h6 i (by omega), show W.length + 1 - 1 - i = (W.length - 1 - i) + 1 by omega]; rfl
    · rcases List.mem_cons.mp hx with q | q
      · omega
      · exact h7 x q
theorem q_rankL {post : Int32 → St → Prop} {z : St} {b : Nat} (hb : b < 256) (h : post (nI (rkN b)) z) : S_LawReader_rank post (nI b) z := by
  unfold S_LawReader_rank
  unfold rkN at h
  rw [show (33 : Int32) = nI 33 from rfl, show (38 : Int32) = nI 38 from rfl, show (42 : Int32) = nI 42 from rfl, show (43 : Int32) = nI 43 from rfl, show (45 : Int32) = nI 45 from rfl, show (47 : Int32) = nI 47 from rfl, show (60 : Int32) = nI 60 from rfl, show (61 : Int32) = nI 61 from rfl, show (62 : Int32) = nI 62 from rfl, show (124 : Int32) = nI 124 from rfl]
  have e : ∀ k, k < 256 → (nI b = nI k ↔ b = k) := fun k hk => nI_eq (by omega) (by omega)
  rw [e 33 (by omega), e 38 (by omega), e 42 (by omega), e 43 (by omega), e 45 (by omega), e 47 (by omega), e 60 (by omega), e 61 (by omega), e 62 (by omega), e 124 (by omega)]
  refine ⟨fun c => ?_, fun c => ?_⟩
  · rw [if_pos c] at h; exact h
  rw [if_neg c] at h
  refine ⟨fun c => ?_, fun c => ?_⟩
  · rw [if_pos c] at h; exact h
  rw [if_neg c] at h
  refine ⟨fun c => ?_, fun c => ?_⟩
  · rw [if_pos c] at h; exact h
  rw [if_neg c] at h
  refine ⟨fun c => ?_, fun c => ?_⟩
  · rw [if_pos c] at h; exact h
  rw [if_neg c] at h
  refine ⟨fun c => ?_, fun c => ?_⟩
  · rw [if_pos c] at h; exact h
  rw [if_neg c] at h
  refine ⟨fun c => ?_, fun c => ?_⟩
  · rw [if_pos c] at h; exact h
  rw [if_neg c] at h
  refine ⟨fun c => ?_, fun c => ?_⟩
  · rw [if_pos c] at h; exact h
  rw [if_neg c] at h
  refine ⟨fun c => ?_, fun c => ?_⟩
  · rw [if_pos c] at h; exact h
  rw [if_neg c] at h
  refine ⟨fun c => ?_, fun c => ?_⟩
  · rw [if_pos c] at h; exact h
  rw [if_neg c] at h
  refine ⟨fun c => ?_, fun c => ?_⟩
  · rw [if_pos c] at h; exact h
  rw [if_neg c] at h
  exact h
theorem rk_le (b : Nat) : rkN b ≤ 6 := by unfold rkN; (repeat' split) <;> omega
theorem q_popL {post : St → Prop} {r : Nat} (hr : r ≤ 6) : ∀ (W : List Nat) (CR : List Int32) (wi : Int32) (z : St), LA W CR z → gI z 15 = wi → (∀ z', Fr [13, 14, 15] [14] z z' → LA (poL r W CR wi).1 (poL r W CR wi).2.1 z' → gI z' 15 = (poL r W CR wi).2.2 → post z') → ∀ k, W.length + 1 ≤ k → L_LawReader_writeWaiting_0 post k (nI r) z
  | [], CR, wi, z, h, h15, hp, k, hk => by
    obtain ⟨k, rfl⟩ : ∃ j, k = j + 1 := ⟨k - 1, by simp at hk; omega⟩
    show B_LawReader_writeWaiting_0 post _ _ z
    unfold B_LawReader_writeWaiting_0
    rw [h.2.2.1]
    exact pp_y (by decide) (hp z Fr.rf h h15)
  | x :: W, CR, wi, z, h, h15, hp, k, hk => by
    obtain ⟨k, rfl⟩ : ∃ j, k = j + 1 := ⟨k - 1, by simp at hk; omega⟩
    have hh := h
    obtain ⟨h1, h2, h3, h4, h5, h6, h7⟩ := h
    have hk : W.length + 1 + 1 ≤ k + 1 := hk
    have h4 : W.length + 1 ≤ 64 := h4
    have hx := h7 x (List.mem_cons_self ..)
    have eT : gA z 15 W.length = nI x := by
      have := h6 W.length (by show W.length < W.length + 1; omega)
      rw [this, show (x :: W).length - 1 - W.length = 0 by show W.length + 1 - 1 - W.length = 0; omega]; rfl
    have hrk := rk_le x
    show B_LawReader_writeWaiting_0 post _ _ z
    unfold B_LawReader_writeWaiting_0 B_LawReader_writeWaiting_59
    rw [h3, show (nI (x :: W).length - 1 : Int32) = nI W.length from nI_pred W.length, nI_clamp (by omega), eT, nI_le0 (by show W.length + 1 < _; omega)]
    refine pp_n (by show ¬ W.length + 1 = 0; omega) ⟨(vp_in_nI (by omega) (by omega)), q_rankL hx ?_⟩
    rw [nI_ltI (by omega) (by omega)]
    unfold poL at hp
    refine ⟨fun c => ?_, fun c => ev ?_⟩
    · rw [if_pos c] at hp
      exact hp z Fr.rf hh h15
    · rw [if_neg c] at hp
      rw [show gI z 14 - 1 = nI W.length by rw [h3]; exact nI_pred W.length]
      have hA1 : LA W CR (sI z 14 (nI W.length)) := by
        refine ⟨h1, h2, rfl, by omega, h5, fun i hi => ?_, fun y hy => h7 y (List.mem_cons_of_mem _ hy)⟩
        have := h6 i (by show i < W.length + 1; omega)
        show gA z 15 i = _
        rw [this, show (x :: W).length - 1 - i = (W.length - 1 - i) + 1 by show W.length + 1 - 1 - i = _; omega]; rfl
      have f1 : Fr [13, 14, 15] [14] z (sI z 14 (nI W.length)) := Fr.rf.sI (by decide)
      rw [show gI (sI z 14 (nI W.length)) 14 = nI W.length from rfl, nI_clamp (by omega), show gA (sI z 14 (nI W.length)) 15 W.length = nI x from eT, show (33 : Int32) = nI 33 from rfl, nI_eq (by omega) (by omega)]
      refine ⟨(vp_in_nI (by omega) (by omega)), fun c33 => ev ⟨(vp_in_nI (by omega) (by omega)), ?_⟩, fun c33 => ⟨(vp_in_nI (by omega) (by omega)), ?_⟩⟩
      · rw [if_pos c33] at hp
        rw [show gI (sI z 14 (nI W.length)) 15 = wi from h15, show gI (sI (sI z 14 (nI W.length)) 15 (wi - 1)) 14 = nI W.length from rfl, nI_clamp (by omega), show gA (sI (sI z 14 (nI W.length)) 15 (wi - 1)) 15 W.length = nI x from eT]
        refine q_writeL (z := sI (sI z 14 (nI W.length)) 15 (wi - 1)) (hA1.fr (Fr.rf.sI (is := [15]) (as := []) (by decide)) (by decide) (by decide) (by decide) (by decide)) (fun z2 f2 hA2 => ?_)
        exact q_popL hr W _ _ z2 hA2 ((f2.1 15 (by decide)).trans rfl) (fun z3 f3 hA3 e3 => hp z3 (((f1.sI (by decide)).tr (f2.wk (by decide) (by decide))).tr f3) hA3 e3) k (by omega)
      · rw [if_neg c33] at hp
        refine q_writeL hA1 (fun z2 f2 hA2 => ?_)
        exact q_popL hr W _ _ z2 hA2 ((f2.1 15 (by decide)).trans h15) (fun z3 f3 hA3 e3 => hp z3 ((f1.tr (f2.wk (by decide) (by decide))).tr f3) hA3 e3) k (by omega)
theorem q_encL {post : Int32 → St → Prop} {z : St} {W : List Nat} {CR : List Int32} (h : LA W CR z) (hp : post (enL W) z) : S_LawReader_enclosing post z := by
  obtain ⟨h1, h2, h3, h4, h5, h6, h7⟩ := h
  have lp : ∀ (W : List Nat), W.length ≤ 64 → (∀ i, i < W.length → gA z 15 i = nI (W.getD (W.length - 1 - i) 0)) → (∀ x, x ∈ W → x < 256) → post (enL W) z → ∀ k, W.length + 1 ≤ k → L_LawReader_enclosing_7 post k (nI W.length - 1) z := by
    intro W
    induction W with
    | nil =>
      intro _ _ _ hp k hk
      obtain ⟨k, rfl⟩ : ∃ j, k = j + 1 := ⟨k - 1, by simp at hk; omega⟩
      show B_LawReader_enclosing_7 post _ _ z
      unfold B_LawReader_enclosing_7
      exact pp_y (by decide) hp
    | cons x W ih =>
      intro g4 g6 g7 hp k hk
      obtain ⟨k, rfl⟩ : ∃ j, k = j + 1 := ⟨k - 1, by simp at hk; omega⟩
      have hk : W.length + 1 + 1 ≤ k + 1 := hk
      have g4 : W.length + 1 ≤ 64 := g4
      have hx := g7 x (List.mem_cons_self ..)
      have eT : gA z 15 W.length = nI x := by
        have := g6 W.length (by show W.length < W.length + 1; omega)
        rw [this, show (x :: W).length - 1 - W.length = 0 by show W.length + 1 - 1 - W.length = 0; omega]; rfl
      show B_LawReader_enclosing_7 post _ _ z
      unfold B_LawReader_enclosing_7 B_LawReader_enclosing_33
      rw [show (nI (x :: W).length - 1 : Int32) = nI W.length from nI_pred W.length, nI_clamp (by omega), eT, show (40 : Int32) = nI 40 from rfl, show (91 : Int32) = nI 91 from rfl, nI_eq (by omega) (by omega), nI_eq (by omega) (by omega)]
      rw [enL] at hp
      refine pp_n (nI_pos (by omega)) ⟨(vp_in_nI (by omega) (by omega)), fun c => ⟨(vp_in_nI (by omega) (by omega)), ?_⟩, fun c => ⟨(vp_in_nI (by omega) (by omega)), fun c2 => ⟨(vp_in_nI (by omega) (by omega)), ?_⟩, fun c2 => ev ?_⟩⟩
      · rw [if_pos c] at hp; rw [c]; exact hp
      · rw [if_neg c, if_pos c2] at hp; rw [c2]; exact hp
      · rw [if_neg c, if_neg c2] at hp
        rw [show (nI W.length + -1 : Int32) = nI W.length - 1 from (Int32.sub_eq_add_neg ..).symm]
        refine ih (by omega) (fun i hi => ?_) (fun y hy => g7 y (List.mem_cons_of_mem _ hy)) hp k (by omega)
        have := g6 i (by show i < W.length + 1; omega)
        rw [this, show (x :: W).length - 1 - i = (W.length - 1 - i) + 1 by show W.length + 1 - 1 - i = _; omega]; rfl
  unfold S_LawReader_enclosing
  rw [h3]
  exact ev ⟨_, lp W h4 h6 h7 hp _ (Nat.le_refl _)⟩
