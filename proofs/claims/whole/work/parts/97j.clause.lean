/-! clauses -/
theorem wrt_skip {L : Nat → Int32} {c st : List Int32} : ∀ (E : List Int32), (∀ w, w ∈ E → w ≠ -59) → wrt L (E ++ -59 :: c) st true = wrt L c st false
  | [], _ => rfl
  | w :: E, h => by
    show wrt L (E ++ -59 :: c) st (decide (w ≠ -59)) = _
    rw [decide_eq_true (h w (List.mem_cons_self ..))]
    exact wrt_skip E (fun x hx => h x (List.mem_cons_of_mem _ hx))
def KV (L : Nat → Int32) (CR : List Int32) (y : St) : Prop :=
  (gI y 110 = 0 ∧ gI y 109 = 0 ∧ (noM L → ∀ c, wrt L (CR.reverse ++ c) [] false = wrt L c [] false)) ∨ (gI y 110 = 1 ∧ (noM L → ∀ c, wrt L (CR.reverse ++ c) [] false = gI y 109))
def FC : List Nat := [105, 106, 107, 109, 110]
def OkC (T : Nat → Nat) (n B r p : Nat) (s : SL) (CR : List Int32) (y y' : St) : Prop :=
  ∃ p2 st di P CR' E, p ≤ p2 ∧ (st = 0 ∨ st = 2) ∧ rnL T n p s = rnL T n p2 (mkW 4 st 0 di (P ++ []) CR') ∧ (∀ x, x ∈ P → 5 ≤ rkN x) ∧ flush P CR' = E ++ CR ∧ YY T n B r p2 0 y' ∧ CR'.length + (P ++ []).length ≤ p2 ∧ noE T n p2 di ∧ Fr FC [] y y' ∧ (p2 < n → T p2 ≠ 32 ∧ arF (T p2) ∧ (st = 0 → T p2 ≠ 60 ∧ T p2 ≠ 61 ∧ T p2 ≠ 62)) ∧ KV (lets (gA y 104)) (-59 :: (E ++ CR)) y'
def FLC (T : Nat → Nat) (n p : Nat) (s : SL) (y y' : St) : Prop := ∃ f, f ≤ n ∧ (rnL T n p s).1 = some f ∧ gI y' 106 = nI f ∧ Fr FC [] y y'
theorem b134_f {post : St → Prop} {x1 x2 x3 : Int32} {y : St} (h : ¬ gI y 106 = -1) (hp : post y) : B_M_clause_134 post x1 x2 x3 y := by
  unfold B_M_clause_134
  exact pp_n h hp
/-- the clause's value is heard -/
theorem b134 {post : St → Prop} {x2 x3 : Int32} {y y0 : St} {L : Nat → Int32} {CR Ecl : List Int32} (h106 : gI y 106 = -1) (h108 : gI y 108 = 121) (hx2 : x2 = 0 ∨ x2 = 1) (hK : KV L CR y0) (e110 : gI y 110 = gI y0 110) (e109 : gI y 109 = gI y0 109)
    (h1 : x2 = 1 → noM L → ∀ c, wrt L (Ecl.reverse ++ -59 :: c) [] false = x3) (h0 : x2 = 0 → noM L → ∀ c, wrt L (Ecl.reverse ++ -59 :: c) [] false = wrt L c [] false) (hp : ∀ y', Fr [109, 110] [] y y' → (gT y' 1 = gT y 1) → KV L (-59 :: (Ecl ++ CR)) y' → post y') : B_M_clause_134 post (nI 121) x2 x3 y := by
  have er : ∀ c, (-59 :: (Ecl ++ CR)).reverse ++ c = CR.reverse ++ (Ecl.reverse ++ -59 :: c) := fun c => by
    rw [List.reverse_cons, List.reverse_append, List.append_assoc, List.append_assoc, List.singleton_append]
  unfold B_M_clause_134
  rw [h108]
  refine pp_y h106 ⟨fun c => pp_y rfl ?_, fun c => ?_⟩
  · rcases hK with ⟨k1, k2, k3⟩ | ⟨k1, k2⟩
    · refine ⟨fun q => hp y Fr.rf rfl (.inl ⟨c, e109.trans k2, fun hn c => by rw [er, k3 hn]; exact h0 q hn c⟩), fun q => ev (ev (hp _ ((Fr.rf.sI (by decide)).sI (by decide)) rfl (.inr ⟨rfl, fun hn c => ?_⟩)))⟩
      rw [er, k3 hn]
      refine h1 ?_ hn c
      rcases hx2 with e | e
      · exact absurd e q
      · exact e
    · rw [e110, k1] at c; exact absurd c (by decide)
  · rcases hK with ⟨k1, k2, k3⟩ | ⟨k1, k2⟩
    · exact absurd (e110.trans k1) c
    · exact hp y Fr.rf rfl (.inr ⟨e110.trans k1, fun hn c => by rw [er, k2 hn, e109]⟩)
theorem RX.cg {T : Nat → Nat} {n B r : Nat} {y y' : St} (h : RX T n B r y) {is : List Nat} (hf : Fr is [] y y') (h1 : 103 ∉ is) (h2 : 104 ∉ is) (ht : gT y' 1 = gT y 1) : RX T n B r y' := by
  obtain ⟨e1, e2, e3, e4, e5⟩ := h
  refine ⟨ht.trans e1, e2, (hf.1 103 h1).trans e3, (hf.1 104 h2).trans e4, fun i hi => ?_⟩
  rw [hf.2.1 r (by simp)]; exact e5 i hi
theorem val_1 {L : Nat → Int32} {E c : List Int32} {k : Nat} {v : Int32} (h : EV L E k v) (hk : k ≤ 64) (hn : noM L) : wrt L (E.reverse ++ -59 :: c) [] false = v := by
  rw [(h.2 hn).1 [] _ (by show 0 + k ≤ 64; omega), wrt_f, if_pos (by decide), if_pos rfl]; rfl
theorem val_2 {L : Nat → Int32} {Ec Es c : List Int32} {k ks : Nat} {x v : Int32} (h : EV L Ec k x) (hs : EV L Es ks v) (hk : k ≤ 64) (hks : ks ≤ 64) (hn : noM L) : wrt L ((Es ++ -63 :: Ec).reverse ++ -59 :: c) [] false = if x = 0 then wrt L c [] false else v := by
  rw [List.reverse_append, List.reverse_cons, List.append_assoc, List.append_assoc, (h.2 hn).1 [] _ (by show 0 + k ≤ 64; omega)]
  show wrt L (-63 :: (Es.reverse ++ -59 :: c)) [x] false = _
  rw [wrt_f, if_pos (by decide), if_neg (by decide)]
  show (if (-63 : Int32) = -33 then _ else if (-63 : Int32) = -63 then wrt L (Es.reverse ++ -59 :: c) [] (decide (x = 0)) else _) = _
  rw [if_neg (by decide), if_pos rfl]
  by_cases e : x = 0
  · rw [if_pos e, decide_eq_true e]
    exact wrt_skip _ (fun w hw => hs.1 w (List.mem_reverse.mp hw))
  · rw [if_neg e, decide_eq_false e]
    exact val_1 hs hks hn
/-- behind a condition: ?, and the sum -/
theorem q_aft {post : St → Prop} {T : Nat → Nat} {n B r : Nat} {CR : List Int32} {p0 : Nat} {s0 : SL} {y0 y : St} {x : Int32} (h108 : gI y0 108 = 121) (hK : KV (lets (gA y0 104)) CR y0) (hok : OkU T n B r p0 0 1 18 s0 [] CR y0 x y) (h1 : ∀ y', OkC T n B r p0 s0 CR y0 y' → post y') (h0 : ∀ y', FLC T n p0 s0 y0 y' → post y') : S_M_takes (fun r15 z10 => (r15 = 0 → post z10) ∧ (¬ r15 = 0 → D_M_sum 8 (fun r17 z11 => B_M_clause_134 post (nI 121) x r17 z11) z10)) 63 y := by
  obtain ⟨p2, aw2, di2, P2, CR2, Ec, gle, gaw, g1, g2, g3, g4, gv, ⟨gR, g105, gpn, g106, g107, h240⟩, g6, g7, g8, g9⟩ := hok
  have hpl : (P2 ++ ([] : List Nat)).length = P2.length + 0 := List.length_append
  rw [hpl] at g6
  have en : enL (P2 ++ []) = -1 := (enL_app P2 g2).trans rfl
  unfold S_M_takes
  refine pp_y g106 (q_look gR g105 gpn (fun p3 hb3 => ?_))
  have hb31 := hb3.1
  have hb32 := hb3.2.1
  have hRN3 : rnL T n p0 s0 = rnL T n p3 (mkW aw2 1 1 di2 (P2 ++ []) CR2) := g1.trans (RN_bl hb3)
  have rej : (rnL T n p0 s0).1 = some p3 → B_M_takes_16 (fun r15 z10 => (r15 = 0 → post z10) ∧ (¬ r15 = 0 → D_M_sum 8 (fun r17 z11 => B_M_clause_134 post (nI 121) x r17 z11) z10)) (sI y 105 (nI p3)) := fun e => by
    unfold B_M_takes_16
    exact q_fails_1 (p := p3) rfl g106 ⟨.inl rfl, r01 (h0 _ ⟨p3, hb32, e, rfl, ((g8.wk (by decide) (by decide)).sI (by decide)).sI (by decide)⟩)⟩
  by_cases c3 : p3 < n
  · rw [if_pos c3]
    have hT3 := ((gR.sI (k := 105) (v := nI p3) (by decide) (by decide)).at c3).2.2
    have g9' := g9 p3 hb3 c3
    rw [show (nI (T p3) = (63 : Int32)) = (T p3 = 63) from propext (nI_eq (b := 63) (by omega) (by omega))]
    refine ⟨fun c63 => ev (r11 ?_), fun c63 => rej ?_⟩
    · have hlen : (Ec ++ CR).length = CR2.length + P2.length := by rw [← g3, flush_len]
      have hs3 : stepL T p3 (mkW aw2 1 1 di2 (P2 ++ []) CR2) = some (mkW 3 2 0 0 [] (-63 :: (Ec ++ CR))) := by
        rw [st_4 gaw, if_neg (by rw [c63]; decide), c63]
        show (if enL (P2 ++ []) = -1 then (if (1 : Int32) = 0 then none else some (ecL (nI (cO (P2 ++ []))) (P2 ++ []) CR2)) else none) = _
        rw [if_pos en, if_neg (by decide)]
        unfold ecL
        rw [poL_fl (by omega) (show (0 : Nat) < 1 by decide) P2 CR2 g2 (by omega), g3]
        show some (mkL 3 2 0 0 (nI 0) [] (wrL (-63) (Ec ++ CR))) = _
        rw [show wrL (-63) (Ec ++ CR) = -63 :: (Ec ++ CR) from if_neg (by omega)]; rfl
      have hRN4 : rnL T n p0 s0 = rnL T n (p3 + 1) (mkW 3 2 0 0 [] (-63 :: (Ec ++ CR))) := hRN3.trans (RN_yes c3 (hb3.2.2.2 c3) hs3)
      rw [show gI (sI y 105 (nI p3)) 105 = nI p3 from rfl, nI_1, sI_sI]
      have F4 : Fr FX [] y0 (sI y 105 (nI (p3 + 1))) := g8.sI (by decide)
      refine sum_D 8 0 (by omega) (by omega) 3 2 0 0 [] (-63 :: (Ec ++ CR)) (p3 + 1) (sI y 105 (nI (p3 + 1))) _ ⟨gR.sI (by decide) (by decide), rfl, by omega, g106, g107, h240⟩ rfl (.inl rfl) (by show 0 ≤ _; omega) (by show (Ec ++ CR).length + 1 + 0 ≤ _; omega) (show (0 : Nat) < 5 by decide) (fun v y' hok => ?_) (fun v y' hfl => ?_)
      · obtain ⟨p5, di5, P5, CR5, Es, fle, f1, f2, f3, f4, ⟨fR, f105, fpn, f106, f107, _⟩, f6, f7, f8, f9⟩ := hok
        have hEs : EV (lets (gA y0 104)) Es 15 v := by
          rw [show lets (gA y0 104) = lets (gA (sI y 105 (nI (p3 + 1))) 104) by rw [F4.2.1 104 (by decide)]]; exact f4
        have F5 : Fr FX [] y0 y' := F4.tr f8
        refine b134 (L := lets (gA y0 104)) (y0 := y0) (CR := CR) (Ecl := Es ++ -63 :: Ec) f106 ((F5.1 108 (by decide)).trans h108) gv hK (F5.1 110 (by decide)) (F5.1 109 (by decide)) (fun q hn c => ?_) (fun q hn c => ?_) (fun y2 hf2 ht hK2 => h1 y2 ⟨p5, 2, di5, P5, CR5, Es ++ -63 :: Ec, by omega, .inr rfl, hRN4.trans f1, f2, ?_, ⟨fR.cg hf2 (by decide) (by decide) ht, (hf2.1 105 (by decide)).trans f105, fpn, (hf2.1 106 (by decide)).trans f106, (hf2.1 107 (by decide)).trans f107, h240⟩, f6, f7, (F5.wk (by decide) (by decide)).tr (hf2.wk (by decide) (by decide)), fun q => ⟨(f9 q).1, ⟨(f9 q).2.1, (f9 q).2.2.1, ((f9 q).2.2.2 rfl).1, ((f9 q).2.2.2 rfl).2⟩, fun q => absurd q (by decide)⟩, hK2⟩)
        · rw [val_2 g4 hEs (by omega) (by omega) hn, if_neg (by rw [q]; decide)]
        · rw [val_2 g4 hEs (by omega) (by omega) hn, if_pos q]
        · rw [f3]
          show Es ++ (-63 :: (Ec ++ CR)) = (Es ++ -63 :: Ec) ++ CR
          rw [List.append_assoc]; rfl
      · obtain ⟨f, f1, f2, f3, f4⟩ := hfl
        exact b134_f (by rw [f3]; exact fun q => (nI_m1 (by omega)).mp q) (h0 _ ⟨f, f1, by rw [hRN4]; exact f2, f3, (F4.tr f4).wk (by decide) (by decide)⟩)
    · have hs3 := st_cj (CR := CR2) c3 gaw (noE_bl hb3 g7) (by rw [en]; decide) g9'.1 (g9'.2.1 (by omega)) (g9'.2.2 (by omega)) (fun q => by rw [en] at q; exact absurd q (by decide)) (fun _ => c63)
      rw [hRN3]
      show (RN T n (stepL T) clL p3 _).1 = _
      rw [RN_no c3 (hb3.2.2.2 c3) hs3]
  · rw [if_neg c3]
    refine pp_n (by decide) (rej ?_)
    have en : p3 = n := by omega
    subst en
    rw [hRN3]
    show (RN T p3 (stepL T) clL p3 _).1 = _
    rw [RN_end, cl_cj]
