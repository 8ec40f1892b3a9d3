/-! laws read: the class takes a sign -/
theorem q_popS {post : St → Prop} {r : Nat} {W : List Nat} {CR : List Int32} {wi : Int32} {z : St} (hr : r ≤ 6) (hA : LA W CR z) (h15 : gI z 15 = wi) (hp : ∀ z', Fr [13, 14, 15] [14] z z' → LA (poL r W CR wi).1 (poL r W CR wi).2.1 z' → gI z' 15 = (poL r W CR wi).2.2 → post z') : S_LawReader_writeWaiting post (nI r) z :=
  ⟨_, q_popL hr W CR wi z hA h15 hp _ (Nat.le_refl _)⟩
theorem q_goesL {post : Int32 → St → Prop} {z : St} {b : Nat} {aw st cm wi th : Int32} {W : List Nat} {CR : List Int32} (hb : b < 256) (hZ : LZ z ((aw, st, cm, 0, wi), W, CR)) (hp : ∀ z', Fr LF [14, 15] z z' → LZ z' (gsL b th st cm wi W CR) → post 1 z') : S_LawReader_goesOn post (nI b) th z := by
  obtain ⟨h1, h2, h3, h4, h5, hA⟩ := hZ
  have hrk := rk_le b
  unfold S_LawReader_goesOn
  refine q_rankL hb (q_popS (by omega) hA h5 (fun z1 f1 hA1 e1 => q_awaitL hA1 hb (fun z2 f2 hA2 => ev ?_)))
  refine hp _ (((f1.wk (by decide) (by decide)).tr (f2.wk (by decide) (by decide))).sI (by decide)) ⟨rfl, ?_, ?_, ?_, ?_, hA2.fr (Fr.rf.sI (is := [16]) (as := []) (by decide)) (by decide) (by decide) (by decide) (by decide)⟩
  · exact (f2.1 17 (by decide)).trans ((f1.1 17 (by decide)).trans h2)
  · exact (f2.1 18 (by decide)).trans ((f1.1 18 (by decide)).trans h3)
  · exact (f2.1 19 (by decide)).trans ((f1.1 19 (by decide)).trans h4)
  · exact (f2.1 15 (by decide)).trans e1
theorem q_cbL {post : Int32 → St → Prop} {z : St} {aw st cm wi th : Int32} {W : List Nat} {CR : List Int32} (hZ : LZ z ((aw, st, cm, 0, wi), W, CR)) (hp : ∀ z', Fr LF [14, 15] z z' → LZ z' (cbL th st cm wi W CR) → post 1 z') : S_LawReader_closesBracket post th z := by
  obtain ⟨h1, h2, h3, h4, h5, hA⟩ := hZ
  unfold S_LawReader_closesBracket B_LawReader_closesBracket_32
  show S_LawReader_writeWaiting _ (nI 1) z
  refine q_popS (by omega) hA h5 (fun z1 f1 hA1 e1 => ?_)
  unfold cbL at hp
  generalize (poL 1 W CR wi).1 = W1 at *
  generalize (poL 1 W CR wi).2.1 = C1 at *
  generalize (poL 1 W CR wi).2.2 = w1 at *
  have e17 : gI z1 17 = st := (f1.1 17 (by decide)).trans h2
  have e18 : gI z1 18 = cm := (f1.1 18 (by decide)).trans h3
  have e19 : gI z1 19 = 0 := (f1.1 19 (by decide)).trans h4
  have l4 := hA1.2.2.2.1
  rw [hA1.2.2.1, nI_le0 (by omega)]
  cases W1 with
  | nil => exact pp_y rfl (ev (hp _ ((f1.wk (by decide) (by decide)).sI (by decide)) ⟨rfl, e17, e18, e19, e1, hA1.fr (Fr.rf.sI (is := [16]) (as := []) (by decide)) (by decide) (by decide) (by decide) (by decide)⟩))
  | cons x W2 =>
    refine pp_n (by show ¬ W2.length + 1 = 0; omega) (ev ?_)
    rw [show (nI (x :: W2).length - 1 : Int32) = nI W2.length from nI_pred W2.length, show gI (sI z1 14 (nI W2.length)) 15 = w1 from e1]
    refine ev (ev (hp _ ((((f1.wk (by decide) (by decide)).sI (by decide)).sI (by decide)).sI (by decide)) ⟨rfl, e17, e18, e19, rfl, ?_⟩))
    obtain ⟨g1, g2, g3, g4, g5, g6, g7⟩ := hA1
    have g4 : W2.length + 1 ≤ 64 := g4
    refine ⟨g1, g2, rfl, by omega, g5, fun i hi => ?_, fun y hy => g7 y (List.mem_cons_of_mem _ hy)⟩
    have := g6 i (by show i < W2.length + 1; omega)
    show gA z1 15 i = _
    rw [this, show (x :: W2).length - 1 - i = (W2.length - 1 - i) + 1 by show W2.length + 1 - 1 - i = _; omega]; rfl
theorem q_esL {post : Int32 → St → Prop} {z : St} {aw st cm di wi : Int32} {W : List Nat} {CR : List Int32} (hZ : LZ z ((aw, st, cm, di, wi), W, CR)) (hp : ∀ z', Fr LF [14, 15] z z' → LZ z' (esL st cm di wi W CR) → post 1 z') : S_LawReader_endsSum post z := by
  obtain ⟨h1, h2, h3, h4, h5, hA⟩ := hZ
  unfold S_LawReader_endsSum
  show S_LawReader_writeWaiting _ (nI 1) z
  refine q_popS (by omega) hA h5 (fun z1 f1 hA1 e1 => q_writeL hA1 (fun z2 f2 hA2 => ev ?_))
  refine hp _ (((f1.wk (by decide) (by decide)).tr (f2.wk (by decide) (by decide))).sI (by decide)) ⟨rfl, ?_, ?_, ?_, ?_, hA2.fr (Fr.rf.sI (is := [16]) (as := []) (by decide)) (by decide) (by decide) (by decide) (by decide)⟩
  · exact (f2.1 17 (by decide)).trans ((f1.1 17 (by decide)).trans h2)
  · exact (f2.1 18 (by decide)).trans ((f1.1 18 (by decide)).trans h3)
  · exact (f2.1 19 (by decide)).trans ((f1.1 19 (by decide)).trans h4)
  · exact (f2.1 15 (by decide)).trans e1
theorem q_ecL {post : Int32 → St → Prop} {z : St} {aw st cm wi : Int32} {W : List Nat} {CR : List Int32} (hZ : LZ z ((aw, st, cm, 0, wi), W, CR)) (hp : ∀ z', Fr LF [14, 15] z z' → LZ z' (ecL wi W CR) → post 1 z') : S_LawReader_endsCondition post z := by
  obtain ⟨h1, h2, h3, h4, h5, hA⟩ := hZ
  unfold S_LawReader_endsCondition
  show S_LawReader_writeWaiting _ (nI 1) z
  refine q_popS (by omega) hA h5 (fun z1 f1 hA1 e1 => q_writeL hA1 (fun z2 f2 hA2 => ev (ev (ev ?_))))
  refine hp _ (((((f1.wk (by decide) (by decide)).tr (f2.wk (by decide) (by decide))).sI (by decide)).sI (by decide)).sI (by decide)) ⟨rfl, rfl, rfl, ?_, ?_, hA2.fr (((Fr.rf.sI (is := [16, 17, 18]) (as := []) (by decide)).sI (by decide)).sI (by decide)) (by decide) (by decide) (by decide) (by decide)⟩
  · exact (f2.1 19 (by decide)).trans ((f1.1 19 (by decide)).trans h4)
  · exact (f2.1 15 (by decide)).trans e1
theorem LZ.s {z : St} {aw st cm di wi : Int32} {W : List Nat} {CR : List Int32} (h : LZ z ((aw, st, cm, di, wi), W, CR)) {k : Nat} {v : Int32} (hk : k ∈ [16, 17, 18, 19]) : LZ (sI z k v) (((if k = 16 then v else aw), (if k = 17 then v else st), (if k = 18 then v else cm), (if k = 19 then v else di), wi), W, CR) := by
  obtain ⟨h1, h2, h3, h4, h5, hA⟩ := h
  have hA' : LA W CR (sI z k v) := hA.fr (Fr.rf.sI (is := [k]) (as := []) (by simp)) (by simp at hk ⊢; omega) (by simp at hk ⊢; omega) (by simp) (by simp)
  simp at hk
  rcases hk with rfl | rfl | rfl | rfl
  · exact ⟨rfl, h2, h3, h4, h5, hA'⟩
  · exact ⟨h1, rfl, h3, h4, h5, hA'⟩
  · exact ⟨h1, h2, rfl, h4, h5, hA'⟩
  · exact ⟨h1, h2, h3, rfl, h5, hA'⟩
def Tk (z : St) (o : Option SL) (post : Int32 → St → Prop) : Prop := (∀ s' z', o = some s' → Fr LF [14, 15] z z' → LZ z' s' → post 1 z') ∧ (∀ z', o = none → Fr LF [14, 15] z z' → post 0 z')
theorem q_arL {post : Int32 → St → Prop} {z : St} {b : Nat} {aw st cm wi : Int32} {W : List Nat} {CR : List Int32} (hb : b < 256) (hZ : LZ z ((aw, st, cm, 0, wi), W, CR)) (h : Tk z (arL b aw st cm wi W CR) post) : ((gI z 16 = 4 → S_LawReader_goesOn (fun r z => (r = 0 → post 0 z) ∧ (¬ r = 0 → post 1 z)) (nI b) 3 z) ∧ (¬ gI z 16 = 4 → post 0 z)) := by
  unfold arL at h
  rw [hZ.1]
  refine ⟨fun c => ?_, fun c => ?_⟩
  · rw [if_pos c] at h
    exact q_goesL hb hZ (fun z' hf hw => r11 (h.1 _ z' rfl hf hw))
  · rw [if_neg c] at h
    exact h.2 z rfl Fr.rf
theorem q_cpL {post : Int32 → St → Prop} {z : St} {b : Nat} {aw st cm wi : Int32} {W : List Nat} {CR : List Int32} (hb : b < 256) (hZ : LZ z ((aw, st, cm, 0, wi), W, CR)) (h : Tk z (cpL b aw st cm wi W CR) post) : ((gI z 16 = 4 → ((enL W = 91 → post 0 z) ∧ (¬ enL W = 91 → S_LawReader_takesComparison (fun r z => (r = 0 → post 0 z) ∧ (¬ r = 0 → post 1 z)) (nI b) z))) ∧ (¬ gI z 16 = 4 → post 0 z)) := by
  unfold cpL at h
  rw [hZ.1]
  refine ⟨fun c => ?_, fun c => ?_⟩
  · rw [if_pos c] at h
    refine ⟨fun c2 => ?_, fun c2 => ?_⟩
    · rw [if_pos c2] at h
      exact h.2 z rfl Fr.rf
    · rw [if_neg c2] at h
      unfold S_LawReader_takesComparison
      rw [hZ.2.2.1, hZ.2.1]
      refine ⟨fun c3 => ?_, fun c3 => ?_⟩
      · rw [if_pos c3] at h
        refine ⟨fun c4 => ?_, fun c4 => ev (ev ?_)⟩
        · rw [if_pos c4] at h
          exact r01 (h.2 z rfl Fr.rf)
        · rw [if_neg c4] at h
          have hZ2 := (hZ.s (k := 17) (v := 1) (by decide)).s (k := 18) (v := 1) (by decide)
          exact q_goesL (st := 1) (cm := 1) (aw := aw) hb hZ2 (fun z' hf hw => ⟨.inr rfl, r11 (h.1 _ z' rfl (((Fr.rf.sI (by decide)).sI (by decide)).tr hf) hw)⟩)
      · rw [if_neg c3] at h
        exact r01 (h.2 z rfl Fr.rf)
  · rw [if_neg c] at h
    exact h.2 z rfl Fr.rf
theorem q_joL {post : Int32 → St → Prop} {z : St} {b : Nat} {aw st cm wi : Int32} {W : List Nat} {CR : List Int32} (hb : b < 256) (hZ : LZ z ((aw, st, cm, 0, wi), W, CR)) (h : Tk z (joL b st cm wi W CR) post) : ((gI z 18 = 0 → post 0 z) ∧ (¬ gI z 18 = 0 → ((enL W = 91 → post 0 z) ∧ (¬ enL W = 91 → S_LawReader_takesJoint (fun r z => (r = 0 → post 0 z) ∧ (¬ r = 0 → post 1 z)) (nI b) z)))) := by
  unfold joL at h
  rw [hZ.2.2.1]
  refine ⟨fun c => ?_, fun c => ⟨fun c2 => ?_, fun c2 => ?_⟩⟩
  · rw [if_pos c] at h
    exact h.2 z rfl Fr.rf
  · rw [if_neg c, if_pos c2] at h
    exact h.2 z rfl Fr.rf
  · rw [if_neg c, if_neg c2] at h
    unfold S_LawReader_takesJoint
    exact ev (q_goesL (st := st) (cm := 0) (aw := aw) hb (hZ.s (k := 18) (v := 0) (by decide)) (fun z' hf hw => ⟨.inr rfl, r11 (h.1 _ z' rfl ((Fr.rf.sI (by decide)).tr hf) hw)⟩))
theorem q_behL {post : Int32 → St → Prop} {z : St} {b : Nat} {aw st cm di wi : Int32} {W : List Nat} {CR : List Int32} (hb : b < 256) (hZ0 : LZ z ((aw, st, cm, di, wi), W, CR)) (h0 : Tk z (bhL b aw st cm wi W CR) post) : S_LawReader_takesBehind post (nI b) z := by
  have hZ : LZ (sI z 19 0) ((aw, st, cm, 0, wi), W, CR) := hZ0.s (k := 19) (v := 0) (by decide)
  have h : Tk (sI z 19 0) (bhL b aw st cm wi W CR) post := ⟨fun s' z' a f w => h0.1 s' z' a ((Fr.rf.sI (by decide)).tr f) w, fun z' a f => h0.2 z' a ((Fr.rf.sI (by decide)).tr f)⟩
  clear h0
  unfold S_LawReader_takesBehind
  refine ev (q_encL hZ.2.2.2.2.2 ?_)
  generalize sI z 19 0 = z1 at *
  have e : ∀ k, k < 256 → (nI b = nI k ↔ b = k) := fun k hk => nI_eq (by omega) (by omega)
  unfold bhL at h
  have no : post 0 z1 → post 0 z1 := id
  refine ⟨fun c => ?_, fun c => ?_⟩
  · have c := (e 38 (by omega)).mp c
    rw [if_pos c] at h
    subst c
    exact q_joL hb hZ h
  rw [if_neg (fun q => c ((e 38 (by omega)).mpr q))] at h
  refine ⟨fun c => ?_, fun c => ?_⟩
  · have c := (e 41 (by omega)).mp c
    rw [if_pos c] at h
    refine ⟨fun c2 => ?_, fun c2 => ?_⟩
    · rw [if_pos c2] at h
      rw [hZ.2.2.1]
      refine ⟨fun c3 => ?_, fun c3 => ?_⟩
      · rw [if_pos c3] at h
        exact h.2 z1 rfl Fr.rf
      · rw [if_neg c3] at h
        exact q_cbL hZ (fun z' hf hw => r11 (h.1 _ z' rfl hf hw))
    · rw [if_neg c2] at h
      exact h.2 z1 rfl Fr.rf
  rw [if_neg (fun q => c ((e 41 (by omega)).mpr q))] at h
  refine ⟨fun c => ?_, fun c => ?_⟩
  · have c := (e 42 (by omega)).mp c
    rw [if_pos c] at h
    subst c
    exact q_arL hb hZ h
  rw [if_neg (fun q => c ((e 42 (by omega)).mpr q))] at h
  refine ⟨fun c => ?_, fun c => ?_⟩
  · have c := (e 43 (by omega)).mp c
    rw [if_pos c] at h
    subst c
    exact q_arL hb hZ h
  rw [if_neg (fun q => c ((e 43 (by omega)).mpr q))] at h
  refine ⟨fun c => ?_, fun c => ?_⟩
  · have c := (e 45 (by omega)).mp c
    rw [if_pos c] at h
    subst c
    exact q_arL hb hZ h
  rw [if_neg (fun q => c ((e 45 (by omega)).mpr q))] at h
  refine ⟨fun c => ?_, fun c => ?_⟩
  · have c := (e 47 (by omega)).mp c
    rw [if_pos c] at h
    subst c
    exact q_arL hb hZ h
  rw [if_neg (fun q => c ((e 47 (by omega)).mpr q))] at h
  refine ⟨fun c => ?_, fun c => ?_⟩
  · have c := (e 59 (by omega)).mp c
    rw [if_pos c] at h
    refine ⟨fun c2 => ?_, fun c2 => ?_⟩
    · rw [if_pos c2] at h
      rw [hZ.2.1]
      refine ⟨fun c3 => ?_, fun c3 => ?_⟩
      · rw [if_pos c3] at h
        exact h.2 z1 rfl Fr.rf
      · rw [if_neg c3] at h
        exact q_esL hZ (fun z' hf hw => r11 (h.1 _ z' rfl hf hw))
    · rw [if_neg c2] at h
      exact h.2 z1 rfl Fr.rf
  rw [if_neg (fun q => c ((e 59 (by omega)).mpr q))] at h
  refine ⟨fun c => ?_, fun c => ?_⟩
  · have c := (e 60 (by omega)).mp c
    rw [if_pos c] at h
    subst c
    exact q_cpL hb hZ h
  rw [if_neg (fun q => c ((e 60 (by omega)).mpr q))] at h
  refine ⟨fun c => ?_, fun c => ?_⟩
  · have c := (e 61 (by omega)).mp c
    rw [if_pos c] at h
    subst c
    exact q_cpL hb hZ h
  rw [if_neg (fun q => c ((e 61 (by omega)).mpr q))] at h
  refine ⟨fun c => ?_, fun c => ?_⟩
  · have c := (e 62 (by omega)).mp c
    rw [if_pos c] at h
    subst c
    exact q_cpL hb hZ h
  rw [if_neg (fun q => c ((e 62 (by omega)).mpr q))] at h
  refine ⟨fun c => ?_, fun c => ?_⟩
  · have c := (e 63 (by omega)).mp c
    rw [if_pos c] at h
    refine ⟨fun c2 => ?_, fun c2 => ?_⟩
    · rw [if_pos c2] at h
      rw [hZ.2.2.1]
      refine ⟨fun c3 => ?_, fun c3 => ?_⟩
      · rw [if_pos c3] at h
        exact h.2 z1 rfl Fr.rf
      · rw [if_neg c3] at h
        exact q_ecL hZ (fun z' hf hw => r11 (h.1 _ z' rfl hf hw))
    · rw [if_neg c2] at h
      exact h.2 z1 rfl Fr.rf
  rw [if_neg (fun q => c ((e 63 (by omega)).mpr q))] at h
  refine ⟨fun c => ?_, fun c => ?_⟩
  · have c := (e 93 (by omega)).mp c
    rw [if_pos c] at h
    refine ⟨fun c2 => ?_, fun c2 => ?_⟩
    · rw [if_pos c2] at h
      exact q_cbL hZ (fun z' hf hw => r11 (h.1 _ z' rfl hf hw))
    · rw [if_neg c2] at h
      exact h.2 z1 rfl Fr.rf
  rw [if_neg (fun q => c ((e 93 (by omega)).mpr q))] at h
  refine ⟨fun c => ?_, fun c => ?_⟩
  · have c := (e 124 (by omega)).mp c
    rw [if_pos c] at h
    subst c
    exact q_joL hb hZ h
  rw [if_neg (fun q => c ((e 124 (by omega)).mpr q))] at h
  exact h.2 z1 rfl Fr.rf
theorem L_let : ∀ b, b < 256 → (∀ l, spt 1 (nI b) = some l → l < 6 ∧ [113, 104, 108, 109, 110, 112].getD l 0 = b ∧ ¬ dg b = true) := by
  have h : ∀ b, b < 256 → (match spt 1 (nI b) with | none => true | some l => decide (l < 6) && decide ([113, 104, 108, 109, 110, 112].getD l 0 = b) && !dg b) = true := by decide +kernel
  intro b hb l hl
  have := h b hb
  rw [hl] at this
  simp only [Bool.and_eq_true, decide_eq_true_eq, Bool.not_eq_true'] at this
  exact ⟨this.1.1, this.1.2, by rw [this.2]; decide⟩
theorem q_startL {post : Int32 → St → Prop} {z : St} {b : Nat} {aw st cm di wi : Int32} {W : List Nat} {CR : List Int32} (hb : b < 256) (hZ : LZ z ((aw, st, cm, di, wi), W, CR)) (h : Tk z (stL b aw st cm di wi W CR) post) : S_LawReader_takesStart post (nI b) z := by
  unfold S_LawReader_takesStart
  refine ⟨by decide, q_indexOf (by decide) (by decide) hb ?_⟩
  have wr : ∀ (s19 w : Int32), (∀ z', Fr LF [14, 15] z z' → LZ z' (mkL 4 st cm s19 wi W (wrL w CR)) → post 1 z') → B_LawReader_takesStart_47 post w (sI z 19 s19) := fun s19 w hp => by
    unfold B_LawReader_takesStart_47
    have hZ2 := hZ.s (k := 19) (v := s19) (by decide)
    refine q_writeL hZ2.2.2.2.2.2 (fun z2 f2 hA2 => ev (hp _ (((Fr.rf.sI (by decide)).tr (f2.wk (by decide) (by decide))).sI (by decide)) ⟨rfl, ?_, ?_, ?_, ?_, hA2.fr (Fr.rf.sI (is := [16]) (as := []) (by decide)) (by decide) (by decide) (by decide) (by decide)⟩))
    · exact (f2.1 17 (by decide)).trans hZ2.2.1
    · exact (f2.1 18 (by decide)).trans hZ2.2.2.1
    · exact (f2.1 19 (by decide)).trans hZ2.2.2.2.1
    · exact (f2.1 15 (by decide)).trans hZ2.2.2.2.2.1
  unfold stL at h
  cases hs : spt 1 (nI b) with
  | some l =>
    rw [hs] at h
    have hl := (L_let b hb l hs).1
    refine pp_y (show 0 ≤ nI l from nI_le (Nat.zero_le _) (by omega)) ?_
    unfold B_LawReader_takesStart_19 B_LawReader_takesStart_29
    exact pp_n (nI_pos (by omega)) (ev (pp_n (nI_pos (by omega)) (wr 0 _ (fun z' f w => h.1 _ z' rfl f w))))
  | none =>
    rw [hs] at h
    refine pp_n (by decide) (q_digX (by omega) ?_)
    by_cases cd : dg b = true
    · rw [if_pos cd]
      have h : Tk z (if dg b = true then some (mkL 4 st cm 1 wi W (wrL (nI (b - 48)) CR)) else opL b aw st cm di wi W CR) post := h
      rw [if_pos cd] at h
      have c2 := dg_iff.mp cd
      unfold B_LawReader_takesStart_19 B_LawReader_takesStart_29
      refine r11 (pp_y (by decide) (ev (pp_y (by decide) ?_)))
      rw [k48, pk_sub (by omega)]
      exact wr 1 _ (fun z' f w => h.1 _ z' rfl f w)
    · rw [if_neg cd]
      have h : Tk z (if dg b = true then some (mkL 4 st cm 1 wi W (wrL (nI (b - 48)) CR)) else opL b aw st cm di wi W CR) post := h
      rw [if_neg cd] at h
      unfold opL at h
      have ope : ∀ (z1 : St) (x : Int32) (st' : Int32), LZ z1 ((aw, st', cm, di, wi), W, CR) → (∀ z', Fr LF [14, 15] z1 z' → LZ z' (mkL x st' cm di (wi + 1) (awL b W) CR) → post 1 z') → B_LawReader_takesStart_123 post (nI b) x z1 := fun z1 x st' hZ1 hp => by
        unfold B_LawReader_takesStart_123
        refine ev (ev ?_)
        have hZ2 := hZ1.s (k := 16) (v := x) (by decide)
        rw [show gI (sI z1 16 x) 15 = wi from hZ2.2.2.2.2.1]
        refine q_awaitL (hZ2.2.2.2.2.2.fr (Fr.rf.sI (is := [15]) (as := []) (k := 15) (v := wi + 1) (by decide)) (by decide) (by decide) (by decide) (by decide)) hb (fun z' f hA => hp z' (((Fr.rf.sI (by decide)).sI (by decide)).tr (f.wk (by decide) (by decide))) ⟨?_, ?_, ?_, ?_, ?_, hA⟩)
        · exact (f.1 16 (by decide)).trans rfl
        · exact (f.1 17 (by decide)).trans hZ2.2.1
        · exact (f.1 18 (by decide)).trans hZ2.2.2.1
        · exact (f.1 19 (by decide)).trans hZ2.2.2.2.1
        · exact (f.1 15 (by decide)).trans rfl
      have e : ∀ k, k < 256 → (nI b = nI k ↔ b = k) := fun k hk => nI_eq (by omega) (by omega)
      have yes : aw = 2 ∧ (b = 33 ∨ b = 40) → B_LawReader_takesStart_77 post (nI b) z := fun c => by
        rw [if_pos c] at h
        unfold B_LawReader_takesStart_77 B_LawReader_takesStart_82 B_LawReader_takesStart_93 B_LawReader_takesStart_113
        refine pp_n (by decide) ?_
        rw [hZ.2.2.2.2.1]
        refine ⟨fun c2 => pp_n (by decide) (ev (pp_n (by decide) ?_)), fun c2 => ?_⟩
        · rw [if_pos c2] at h
          exact ope _ 2 1 (hZ.s (k := 17) (v := 1) (by decide)) (fun z' f w => h.1 _ z' rfl ((Fr.rf.sI (by decide)).tr f) w)
        · rw [if_neg c2] at h
          exact h.2 z rfl Fr.rf
      have no : ¬ (aw = 2 ∧ (b = 33 ∨ b = 40)) → B_LawReader_takesStart_81 post (nI b) z := fun c => by
        rw [if_neg c] at h
        unfold B_LawReader_takesStart_81 B_LawReader_takesStart_82 B_LawReader_takesStart_93 B_LawReader_takesStart_113
        refine pp_y rfl ⟨fun c1 => ?_, fun c1 => ?_⟩
        · rw [if_pos ((e 91 (by omega)).mp c1)] at h
          rw [hZ.2.2.2.2.1]
          refine ⟨fun c2 => pp_y rfl (pp_y rfl ?_), fun c2 => ?_⟩
          · rw [if_pos c2] at h
            exact ope _ 3 st hZ (fun z' f w => h.1 _ z' rfl f w)
          · rw [if_neg c2] at h
            exact h.2 z rfl Fr.rf
        · rw [if_neg (fun q => c1 ((e 91 (by omega)).mpr q))] at h
          exact h.2 z rfl Fr.rf
      rw [hZ.1]
      refine r01 ⟨fun c => ⟨fun c1 => yes ⟨c, .inl ((e 33 (by omega)).mp c1)⟩, fun c1 => ⟨fun c2 => yes ⟨c, .inr ((e 40 (by omega)).mp c2)⟩, fun c2 => no (fun q => q.2.elim (fun q => c1 ((e 33 (by omega)).mpr q)) (fun q => c2 ((e 40 (by omega)).mpr q)))⟩⟩, fun c => no (fun q => c q.1)⟩
theorem q_digL {post : Int32 → St → Prop} {z : St} {b : Nat} {aw st cm di wi : Int32} {W : List Nat} {CR : List Int32} (hZ : LZ z ((aw, st, cm, di, wi), W, CR)) (h : Tk z (dgL b aw st cm di wi W CR) post) : S_LawReader_takesDigit post (nI b) z := by
  obtain ⟨h1, h2, h3, h4, h5, hA⟩ := hZ
  unfold S_LawReader_takesDigit
  unfold dgL at h
  rw [h4]
  refine ⟨fun c => ?_, fun c => ⟨fun c2 => ?_, fun c2 => ?_⟩⟩
  · rw [if_pos c] at h
    exact h.2 z rfl Fr.rf
  · rw [if_neg c, if_pos c2] at h
    exact h.2 z rfl Fr.rf
  · rw [if_neg c, if_neg c2] at h
    obtain ⟨g1, g2, g3, g4, g5, g6, g7⟩ := hA
    rw [g1, k1, nI_leI (by omega) (by omega)]
    cases CR with
    | nil => exact pp_n (by show ¬ 1 ≤ 0; omega) (h.2 z rfl Fr.rf)
    | cons w C =>
      have g2 : C.length + 1 ≤ 241 := g2
      refine pp_y (by show 1 ≤ C.length + 1; omega) (ev ?_)
      rw [show gI (sI z 19 (di + nI 1)) 13 = nI (C.length + 1) from g1]
      rw [show (nI (C.length + 1) - nI 1 : Int32) = nI C.length from nI_pred C.length, nI_clamp (by omega)]
      have ew : gA z 14 C.length = w := by
        have := g5 C.length (by show C.length < C.length + 1; omega)
        rw [this, show (w :: C).length - 1 - C.length = 0 by show C.length + 1 - 1 - C.length = 0; omega]; rfl
      rw [show gA (sI z 19 (di + nI 1)) 14 C.length = w from ew]
      refine ⟨(vp_in_nI (by omega) (by omega)), (vp_in_nI (by omega) (by omega)), ev (h.1 _ _ rfl ((Fr.rf.sI (by decide)).sA (by decide)) ⟨h1, h2, h3, rfl, h5, g1, g2, g3, g4, fun i hi => ?_, g6, g7⟩)⟩
      have hi : i < C.length + 1 := hi
      show upd (gA z 14) C.length (w * 10 + nI b - 48) i = ((w * 10 + nI b - 48) :: C).getD (C.length + 1 - 1 - i) 0
      by_cases e : i = C.length
      · rw [e, pk_us, show C.length + 1 - 1 - C.length = 0 by omega]; rfl
      · rw [pk_un e, g5 i hi, show (w :: C).length - 1 - i = (C.length - 1 - i) + 1 by show C.length + 1 - 1 - i = _; omega, show C.length + 1 - 1 - i = (C.length - 1 - i) + 1 by omega]; rfl
theorem q_takesL {post : Int32 → St → Prop} {T : Nat → Nat} {n i : Nat} {z : St} {s : SL} {x2 x3 : Int32} (hb : T i < 256) (hj : x3 = if jn T i = true then 1 else 0) (hZ : LZ z s) (h : Tk z (stepL T i s) post) : S_LawReader_takes post (nI (T i)) x2 x3 z := by
  obtain ⟨⟨aw, st, cm, di, wi⟩, W, CR⟩ := s
  have h : Tk z (stp T i aw st cm di wi W CR) post := h
  unfold stp at h
  unfold S_LawReader_takes B_LawReader_takes_75
  rw [hZ.1, show (121 : Int32) = nI 121 from rfl, show (58 : Int32) = nI 58 from rfl, nI_eq (by omega) (by omega), nI_eq (by omega) (by omega)]
  have h01 : ∀ o, Tk z o post → Tk z o (fun r z => (r = 0 ∨ r = 1) ∧ post r z) := fun o h => ⟨fun s' z' a f w => ⟨.inr rfl, h.1 s' z' a f w⟩, fun z' a f => ⟨.inl rfl, h.2 z' a f⟩⟩
  refine ⟨fun c => ev ⟨fun c2 => ?_, fun c2 => ?_⟩, fun c => ⟨fun c1 => ev (ev (ev ⟨fun c2 => ?_, fun c2 => ?_⟩)), fun c1 => ⟨fun c2 => ?_, fun c2 => ⟨fun c3 => ?_, fun c3 => q_digX (by omega) ?_⟩⟩⟩⟩
  · rw [if_pos c, if_pos c2] at h
    exact h.1 _ _ rfl (Fr.rf.sI (by decide)) (hZ.s (k := 16) (v := 1) (by decide))
  · rw [if_pos c, if_neg c2] at h
    exact h.2 _ rfl (Fr.rf.sI (by decide))
  · rw [if_neg c, if_pos c1, if_pos c2] at h
    exact h.1 _ _ rfl (((Fr.rf.sI (by decide)).sI (by decide)).sI (by decide)) (((hZ.s (k := 16) (v := 2) (by decide)).s (k := 17) (v := 0) (by decide)).s (k := 18) (v := 0) (by decide))
  · rw [if_neg c, if_pos c1, if_neg c2] at h
    exact h.2 _ rfl (((Fr.rf.sI (by decide)).sI (by decide)).sI (by decide))
  · rw [if_neg c, if_neg c1, if_pos (.inl c2)] at h
    exact q_startL hb hZ (h01 _ h)
  · rw [if_neg c, if_neg c1, if_pos (.inr c3)] at h
    exact q_startL hb hZ (h01 _ h)
  · rw [if_neg c, if_neg c1, if_neg (fun q => q.elim c2 c3)] at h
    by_cases cd : dg (T i) = true
    · rw [if_pos cd] at h ⊢
      refine r11 ?_
      rw [hj]
      by_cases cj : jn T i = true
      · rw [if_pos cj] at h ⊢
        exact pp_n (by decide) (q_digL hZ ⟨fun s' z' a f w => r11 (h.1 s' z' a f w), fun z' a f => r01 (h.2 z' a f)⟩)
      · rw [if_neg cj] at h ⊢
        exact pp_y rfl (h.2 z rfl Fr.rf)
    · rw [if_neg cd] at h ⊢
      exact r01 (q_behL hb hZ (h01 _ h))
theorem q_closesL {post : Int32 → St → Prop} {z : St} {s : SL} (hZ : LZ z s) (h : Tk z (clL s) post) : S_LawReader_closes post z := by
  obtain ⟨⟨aw, st, cm, di, wi⟩, W, CR⟩ := s
  have h : Tk z (clo aw st cm di wi W CR) post := h
  unfold clo at h
  unfold S_LawReader_closes
  rw [hZ.1, hZ.2.1]
  refine ⟨fun c => ?_, fun c => ?_⟩
  · rw [if_pos c] at h
    refine ⟨fun c2 => ?_, fun c2 => ?_⟩
    · rw [if_pos c2] at h
      exact h.2 z rfl Fr.rf
    · rw [if_neg c2] at h
      refine q_encL hZ.2.2.2.2.2 ⟨fun c3 => ?_, fun c3 => ?_⟩
      · rw [if_pos c3] at h
        exact q_esL hZ (fun z' f w => r11 (h.1 _ z' rfl f w))
      · rw [if_neg c3] at h
        exact h.2 z rfl Fr.rf
  · rw [if_neg c] at h
    exact h.2 z rfl Fr.rf
theorem flt_L {T : Nat → Nat} {n : Nat} (h240 : n ≤ 240) (hT : ∀ i, i < n → T i < 256) : ∀ m i, i + m = n → ∀ (z : St) (s : SL) (x2 : Int32) (post : Int32 → St → Prop), x2 = (if jn T i = true then 1 else 0) → gI z 2 = nI n → (∀ i, i < n → gA z 12 i = nI (T i)) → LZ z s → (∀ z', Fr LF [14, 15] z z' → ((runR T n (stepL T) clL m i s).1 = none → LZ z' (runR T n (stepL T) clL m i s).2) → post (faI (runR T n (stepL T) clL m i s).1) z') → ∀ k, m + 1 ≤ k → L_Reader_faultOf_3_r1_8 post k x2 (nI i) z := by
  intro m
  induction m with
  | zero =>
    intro i hi z s x2 post hx hn hA hH hp k hk
    obtain ⟨k, rfl⟩ : ∃ j, k = j + 1 := ⟨k - 1, by omega⟩
    show B_Reader_faultOf_3_r1_8 post _ _ _ z
    unfold B_Reader_faultOf_3_r1_8
    rw [hn]
    refine pp_y (nI_le (by omega) (by omega)) (q_closesL hH ⟨fun s' z' hc hf hw => r11 ?_, fun z' hc hf => r01 ?_⟩)
    · have e : runR T n (stepL T) clL 0 i s = (none, s') := by rw [runR, hc]
      rw [e] at hp
      exact hp z' hf (fun _ => hw)
    · have e : runR T n (stepL T) clL 0 i s = (some n, s) := by rw [runR, hc]
      rw [e] at hp
      rw [show gI z' 2 = nI n from (hf.1 2 (by decide)).trans hn]
      exact hp z' hf (fun q => by cases q)
  | succ m ih =>
    intro i hi z s x2 post hx hn hA hH hp k hk
    obtain ⟨k, rfl⟩ : ∃ j, k = j + 1 := ⟨k - 1, by omega⟩
    have hTA : ∀ i, i < n → T i < 256 ∧ gA z 12 i = nI (T i) := fun i hi => ⟨hT i hi, hA i hi⟩
    have hTi := hT i (by omega)
    show B_Reader_faultOf_3_r1_8 post _ _ _ z
    unfold B_Reader_faultOf_3_r1_8 B_Reader_faultOf_3_r1_49 B_Reader_faultOf_3_r1_61
    rw [hn, nI_1 i]
    refine pp_n (nI_ge (by omega) (by omega)) (q_signAt hn h240 hTA (by omega) ?_)
    rw [show sg T n i = nI (T i) from if_pos (by omega), k32, nI_eq (by omega) (by omega)]
    have js := jn_s T i
    refine ⟨fun c => pp_y c (ev ?_), fun c => q_signAt hn h240 hTA (by omega) ?_⟩
    · rw [if_pos c] at js
      refine ih (i + 1) (by omega) z s _ post js hn hA hH (fun z' hf hw => ?_) k (by omega)
      have e : runR T n (stepL T) clL (m + 1) i s = runR T n (stepL T) clL m (i + 1) s := by rw [runR, if_pos c]
      rw [e] at hp
      exact hp z' hf hw
    · rw [if_neg c] at js
      refine q_takesL (n := n) hTi hx hH ⟨fun s' z' hs hf hw => r11 (pp_n c (ev ?_)), fun z' hs hf => r01 ?_⟩
      · have e : runR T n (stepL T) clL (m + 1) i s = runR T n (stepL T) clL m (i + 1) s' := by rw [runR, if_neg c, hs]
        rw [e] at hp
        exact ih (i + 1) (by omega) z' s' _ post js ((hf.1 2 (by decide)).trans hn) (fun j hj => by rw [hf.2.1 12 (by decide)]; exact hA j hj) hw (fun z2 hf2 hw2 => hp z2 (hf.tr hf2) hw2) k (by omega)
      · have e : runR T n (stepL T) clL (m + 1) i s = (some i, s) := by rw [runR, if_neg c, hs]
        rw [e] at hp
        exact hp z' hf (fun q => by cases q)
