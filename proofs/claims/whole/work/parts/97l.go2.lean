/-! a law's text, whole -/
theorem st_val {T : Nat → Nat} {n p : Nat} {st di : Int32} {W' : List Nat} {CR : List Int32} (c : p < n) (hst : st = 0 ∨ st = 2) (hE : noE T n p di) (he : enL W' = -1) (har : arF (T p)) (h6 : st = 0 → T p ≠ 60 ∧ T p ≠ 61 ∧ T p ≠ 62) (h59 : T p ≠ 59) : stepL T p (mkW 4 st 0 di W' CR) = none := by
  by_cases hd : dg (T p) = true
  · exact st_dg (.inl rfl) c hd hE
  · rw [st_4 (.inl rfl), if_neg hd]
    have j : ∀ b, joL b st 0 (nI (cO W')) W' CR = none := fun b => if_pos rfl
    obtain ⟨a1, a2, a3, a4⟩ := har
    unfold bhL
    rw [j, j, he, if_neg (show ¬ (-1 : Int32) = 40 by decide), if_neg (show ¬ (-1 : Int32) = 91 by decide), if_neg a1, if_neg a2, if_neg a3, if_neg a4, if_neg h59, if_pos (show (0 : Int32) = 0 from rfl)]
    rcases hst with rfl | rfl
    · obtain ⟨b1, b2, b3⟩ := h6 rfl
      rw [if_neg b1, if_neg b2, if_neg b3]; simp
    · have q : ∀ b, cpL b 4 2 0 (nI (cO W')) W' CR = none := fun b => by
        unfold cpL; rw [if_pos rfl, he, if_neg (by decide), if_pos rfl, if_pos rfl]
      rw [q, q, q]; simp
theorem st_es {st di : Int32} {P : List Nat} {CR CR' E : List Int32} (hP : ∀ x, x ∈ P → 5 ≤ rkN x) (hf : flush P CR' = E ++ CR) (hl : CR'.length + P.length ≤ 240) : esL st 0 di (nI (cO (P ++ []))) (P ++ []) CR' = mkW 0 st 0 di [] (-59 :: (E ++ CR)) := by
  have hlen : (E ++ CR).length = CR'.length + P.length := by rw [← hf, flush_len]
  unfold esL
  rw [poL_fl (by omega) (show (0 : Nat) < 1 by decide) P CR' (fun x hx => by have := hP x hx; omega) (by omega), hf]
  show mkL 0 st 0 di (nI 0) [] (wrL (-59) (E ++ CR)) = _
  rw [show wrL (-59) (E ++ CR) = -59 :: (E ++ CR) from if_neg (by omega)]; rfl
def OkG (T : Nat → Nat) (n p : Nat) (s : SL) (y y' : St) : Prop := Fr FC [] y y' ∧ gI y' 106 = faI (rnL T n p s).1 ∧ ((rnL T n p s).1 = none → KV (lets (gA y 104)) (rnL T n p s).2.2.2 y')
theorem go_lp101 {T : Nat → Nat} {n B r : Nat} {p0 : Nat} {s0 : SL} {y0 : St} {post : St → Prop} (h108 : gI y0 108 = 121) (hp : ∀ y', OkG T n p0 s0 y0 y' → post y') : ∀ m (y : St) (p : Nat) (s : SL) (CR : List Int32) (y1 : St), n - p ≤ m → rnL T n p0 s0 = rnL T n p s → Fr FC [] y0 y1 → OkC T n B r p s CR y1 y → ∀ k, m + 1 ≤ k → L_M_goThrough_r101_32 post k y := by
  intro m
  induction m using Nat.strongRecOn with
  | ind m ih =>
    intro y p s CR y1 hm hRN0 hF0 hok k hk
    obtain ⟨k, rfl⟩ : ∃ j, k = j + 1 := ⟨k - 1, by omega⟩
    obtain ⟨p2, st, di, P, CR', E, gle, gst, g1, g2, g3, ⟨gR, g105, gpn, g106, g107, h240⟩, g6, g7, g8, g9, gK⟩ := hok
    have hpl : (P ++ ([] : List Nat)).length = P.length + 0 := List.length_append
    rw [hpl] at g6
    have en : enL (P ++ []) = -1 := (enL_app P (fun x hx => by have := g2 x hx; omega)).trans rfl
    have hRN : rnL T n p0 s0 = rnL T n p2 (mkW 4 st 0 di (P ++ []) CR') := hRN0.trans g1
    have hF : Fr FC [] y0 y := hF0.tr g8
    have eL : lets (gA y1 104) = lets (gA y0 104) := by rw [hF0.2.1 104 (by decide)]
    have look2 : ∀ post2 : Int32 → St → Prop, post2 (if p2 < n then nI (T p2) else -1) y → S_M_look post2 y := fun post2 hp2 => by
      refine q_look gR g105 gpn (fun p3 hb3 => ?_)
      have := BL_id hb3 (fun q => (g9 q).1)
      subst this
      rw [sI_id g105]; exact hp2
    show B_M_goThrough_r101_32 post _ y
    unfold B_M_goThrough_r101_32 B_M_goThrough_r101_66
    refine pp_y g106 (look2 _ ?_)
    have e1 : st ≠ 1 := by rcases gst with e | e <;> rw [e] <;> decide
    by_cases c : p2 < n
    · rw [if_pos c] at look2 ⊢
      have hT := (gR.at c).2.2
      rw [show (nI (T p2) = (59 : Int32)) = (T p2 = 59) from propext (nI_eq (b := 59) (by omega) (by omega))]
      refine ⟨fun c59 => ev ?_, fun c59 => pp_y g106 (look2 _ (pp_n (fun q => (nI_m1 (by omega)).mp q) ?_))⟩
      · have hs : stepL T p2 (mkW 4 st 0 di (P ++ []) CR') = some (mkW 0 st 0 0 [] (-59 :: (E ++ CR))) := by
          rw [st_4 (.inl rfl), if_neg (by rw [c59]; decide), c59]
          show (if enL (P ++ []) = -1 then (if st = 1 then none else some (esL st 0 0 (nI (cO (P ++ []))) (P ++ []) CR')) else none) = _
          rw [if_pos en, if_neg e1, st_es g2 g3 (by omega)]
        have hRN2 : rnL T n p0 s0 = rnL T n (p2 + 1) (mkW 0 st 0 0 [] (-59 :: (E ++ CR))) := hRN.trans (RN_yes c (g9 c).1 hs)
        have hlen : (E ++ CR).length = CR'.length + P.length := by rw [← g3, flush_len]
        have F2 : Fr FC [] y0 (sI y 105 (nI (p2 + 1))) := hF.sI (by decide)
        have eL2 : lets (gA (sI y 105 (nI (p2 + 1))) 104) = lets (gA y1 104) := by rw [show gA (sI y 105 (nI (p2 + 1))) 104 = gA y 104 from rfl, g8.2.1 104 (by decide)]
        rw [g105, nI_1]
        refine q_clauseL (st := st) (cm := 0) (di := 0) (CR := -59 :: (E ++ CR)) (p := p2 + 1) (y := sI y 105 (nI (p2 + 1))) ⟨gR.sI (by decide) (by decide), rfl, by omega, g106, g107, h240⟩ ((F2.1 108 (by decide)).trans h108) (by show (E ++ CR).length + 1 ≤ _; omega) (by rw [eL2]; exact gK) (fun y' hok => ?_) (fun y' hfl => ?_)
        · exact ih (n - (p2 + 1)) (by omega) y' (p2 + 1) _ _ (sI y 105 (nI (p2 + 1))) (Nat.le_refl _) hRN2 F2 hok k (by omega)
        · obtain ⟨f, f1, f2, f3, f4⟩ := hfl
          have n106 : ¬ gI y' 106 = -1 := by rw [f3]; exact fun q => (nI_m1 (by omega)).mp q
          obtain ⟨k, rfl⟩ : ∃ j, k = j + 1 := ⟨k - 1, by omega⟩
          show B_M_goThrough_r101_32 post _ y'
          unfold B_M_goThrough_r101_32 B_M_goThrough_r101_66
          refine pp_n n106 (pp_n n106 (hp _ ⟨F2.tr f4, ?_, fun q => ?_⟩))
          · rw [hRN2, f2]; exact f3
          · rw [hRN2, f2] at q; cases q
      · have hs := st_val (CR := CR') c gst g7 en (g9 c).2.1 (g9 c).2.2 c59
        have e : (rnL T n p0 s0).1 = some p2 := by
          rw [hRN]
          show (RN T n (stepL T) clL p2 _).1 = _
          rw [RN_no c (g9 c).1 hs]
        exact q_fails_1 g105 g106 (hp _ ⟨hF.sI (by decide), by rw [e]; rfl, fun q => by rw [e] at q; cases q⟩)
    · rw [if_neg c] at look2 ⊢
      refine pp_n (by decide) (pp_y g106 (look2 _ (pp_y rfl ?_)))
      have en2 : p2 = n := by omega
      subst en2
      have hcl : clL (mkW 4 st 0 di (P ++ []) CR') = some (mkW 0 st 0 di [] (-59 :: (E ++ CR))) := by
        show clo 4 st 0 di (nI (cO (P ++ []))) (P ++ []) CR' = _
        unfold clo
        rw [if_pos rfl, if_neg e1, if_pos en, st_es g2 g3 (by omega)]
      have e : rnL T p2 p0 s0 = (none, mkW 0 st 0 di [] (-59 :: (E ++ CR))) := by
        rw [hRN]
        show RN T p2 (stepL T) clL p2 _ = _
        rw [RN_end, hcl]
      refine hp _ ⟨hF, by rw [e]; exact g106, fun _ => ?_⟩
      rw [e, ← eL]
      exact gK
def goY101 (B n : Nat) (y : St) : St := sI (sI (sI (sI (sI (sI (sI (sI (sT y 1 101) 103 (nI B)) 104 (nI n)) 105 0) 106 (-1)) 108 121) 107 0) 110 0) 109 0
theorem q_go101 {T : Nat → Nat} {n B : Nat} {st cm di : Int32} {y : St} {post : St → Prop} (h240 : n ≤ 240) (hR : RX T n B 101 (goY101 B n y)) (hp : ∀ y', OkG T n 0 (mkW 0 st cm di [] []) (goY101 B n y) y' → post y') : S_M_goThrough_r101 post (nI B) (nI n) y := by
  unfold S_M_goThrough_r101 S_M_starts_r101
  refine ev (ev (ev (ev (ev (ev (ev (ev (ev ?_))))))))
  show S_M_clause _ (goY101 B n y)
  refine q_clauseL (st := st) (cm := cm) (di := di) (CR := []) (p := 0) ⟨hR, rfl, by omega, rfl, rfl, h240⟩ rfl (by show 0 ≤ 0; omega) (.inl ⟨rfl, rfl, fun _ c => rfl⟩) (fun y' hok => ⟨n + 1, ?_⟩) (fun y' hfl => ⟨1, ?_⟩)
  · exact go_lp101 (y0 := goY101 B n y) (p0 := 0) (s0 := mkW 0 st cm di [] []) rfl hp n y' 0 _ _ (goY101 B n y) (by omega) rfl Fr.rf hok _ (Nat.le_refl _)
  · obtain ⟨f, f1, f2, f3, f4⟩ := hfl
    have n106 : ¬ gI y' 106 = -1 := by rw [f3]; exact fun q => (nI_m1 (by omega)).mp q
    show B_M_goThrough_r101_32 post _ y'
    unfold B_M_goThrough_r101_32 B_M_goThrough_r101_66
    refine pp_n n106 (pp_n n106 (hp _ ⟨f4, by rw [f2]; exact f3, fun q => by rw [f2] at q; cases q⟩))
theorem go_lp102 {T : Nat → Nat} {n B r : Nat} {p0 : Nat} {s0 : SL} {y0 : St} {post : St → Prop} (h108 : gI y0 108 = 121) (hp : ∀ y', OkG T n p0 s0 y0 y' → post y') : ∀ m (y : St) (p : Nat) (s : SL) (CR : List Int32) (y1 : St), n - p ≤ m → rnL T n p0 s0 = rnL T n p s → Fr FC [] y0 y1 → OkC T n B r p s CR y1 y → ∀ k, m + 1 ≤ k → L_M_goThrough_r102_32 post k y := by
  intro m
  induction m using Nat.strongRecOn with
  | ind m ih =>
    intro y p s CR y1 hm hRN0 hF0 hok k hk
    obtain ⟨k, rfl⟩ : ∃ j, k = j + 1 := ⟨k - 1, by omega⟩
    obtain ⟨p2, st, di, P, CR', E, gle, gst, g1, g2, g3, ⟨gR, g105, gpn, g106, g107, h240⟩, g6, g7, g8, g9, gK⟩ := hok
    have hpl : (P ++ ([] : List Nat)).length = P.length + 0 := List.length_append
    rw [hpl] at g6
    have en : enL (P ++ []) = -1 := (enL_app P (fun x hx => by have := g2 x hx; omega)).trans rfl
    have hRN : rnL T n p0 s0 = rnL T n p2 (mkW 4 st 0 di (P ++ []) CR') := hRN0.trans g1
    have hF : Fr FC [] y0 y := hF0.tr g8
    have eL : lets (gA y1 104) = lets (gA y0 104) := by rw [hF0.2.1 104 (by decide)]
    have look2 : ∀ post2 : Int32 → St → Prop, post2 (if p2 < n then nI (T p2) else -1) y → S_M_look post2 y := fun post2 hp2 => by
      refine q_look gR g105 gpn (fun p3 hb3 => ?_)
      have := BL_id hb3 (fun q => (g9 q).1)
      subst this
      rw [sI_id g105]; exact hp2
    show B_M_goThrough_r102_32 post _ y
    unfold B_M_goThrough_r102_32 B_M_goThrough_r102_66
    refine pp_y g106 (look2 _ ?_)
    have e1 : st ≠ 1 := by rcases gst with e | e <;> rw [e] <;> decide
    by_cases c : p2 < n
    · rw [if_pos c] at look2 ⊢
      have hT := (gR.at c).2.2
      rw [show (nI (T p2) = (59 : Int32)) = (T p2 = 59) from propext (nI_eq (b := 59) (by omega) (by omega))]
      refine ⟨fun c59 => ev ?_, fun c59 => pp_y g106 (look2 _ (pp_n (fun q => (nI_m1 (by omega)).mp q) ?_))⟩
      · have hs : stepL T p2 (mkW 4 st 0 di (P ++ []) CR') = some (mkW 0 st 0 0 [] (-59 :: (E ++ CR))) := by
          rw [st_4 (.inl rfl), if_neg (by rw [c59]; decide), c59]
          show (if enL (P ++ []) = -1 then (if st = 1 then none else some (esL st 0 0 (nI (cO (P ++ []))) (P ++ []) CR')) else none) = _
          rw [if_pos en, if_neg e1, st_es g2 g3 (by omega)]
        have hRN2 : rnL T n p0 s0 = rnL T n (p2 + 1) (mkW 0 st 0 0 [] (-59 :: (E ++ CR))) := hRN.trans (RN_yes c (g9 c).1 hs)
        have hlen : (E ++ CR).length = CR'.length + P.length := by rw [← g3, flush_len]
        have F2 : Fr FC [] y0 (sI y 105 (nI (p2 + 1))) := hF.sI (by decide)
        have eL2 : lets (gA (sI y 105 (nI (p2 + 1))) 104) = lets (gA y1 104) := by rw [show gA (sI y 105 (nI (p2 + 1))) 104 = gA y 104 from rfl, g8.2.1 104 (by decide)]
        rw [g105, nI_1]
        refine q_clauseL (st := st) (cm := 0) (di := 0) (CR := -59 :: (E ++ CR)) (p := p2 + 1) (y := sI y 105 (nI (p2 + 1))) ⟨gR.sI (by decide) (by decide), rfl, by omega, g106, g107, h240⟩ ((F2.1 108 (by decide)).trans h108) (by show (E ++ CR).length + 1 ≤ _; omega) (by rw [eL2]; exact gK) (fun y' hok => ?_) (fun y' hfl => ?_)
        · exact ih (n - (p2 + 1)) (by omega) y' (p2 + 1) _ _ (sI y 105 (nI (p2 + 1))) (Nat.le_refl _) hRN2 F2 hok k (by omega)
        · obtain ⟨f, f1, f2, f3, f4⟩ := hfl
          have n106 : ¬ gI y' 106 = -1 := by rw [f3]; exact fun q => (nI_m1 (by omega)).mp q
          obtain ⟨k, rfl⟩ : ∃ j, k = j + 1 := ⟨k - 1, by omega⟩
          show B_M_goThrough_r102_32 post _ y'
          unfold B_M_goThrough_r102_32 B_M_goThrough_r102_66
          refine pp_n n106 (pp_n n106 (hp _ ⟨F2.tr f4, ?_, fun q => ?_⟩))
          · rw [hRN2, f2]; exact f3
          · rw [hRN2, f2] at q; cases q
      · have hs := st_val (CR := CR') c gst g7 en (g9 c).2.1 (g9 c).2.2 c59
        have e : (rnL T n p0 s0).1 = some p2 := by
          rw [hRN]
          show (RN T n (stepL T) clL p2 _).1 = _
          rw [RN_no c (g9 c).1 hs]
        exact q_fails_1 g105 g106 (hp _ ⟨hF.sI (by decide), by rw [e]; rfl, fun q => by rw [e] at q; cases q⟩)
    · rw [if_neg c] at look2 ⊢
      refine pp_n (by decide) (pp_y g106 (look2 _ (pp_y rfl ?_)))
      have en2 : p2 = n := by omega
      subst en2
      have hcl : clL (mkW 4 st 0 di (P ++ []) CR') = some (mkW 0 st 0 di [] (-59 :: (E ++ CR))) := by
        show clo 4 st 0 di (nI (cO (P ++ []))) (P ++ []) CR' = _
        unfold clo
        rw [if_pos rfl, if_neg e1, if_pos en, st_es g2 g3 (by omega)]
      have e : rnL T p2 p0 s0 = (none, mkW 0 st 0 di [] (-59 :: (E ++ CR))) := by
        rw [hRN]
        show RN T p2 (stepL T) clL p2 _ = _
        rw [RN_end, hcl]
      refine hp _ ⟨hF, by rw [e]; exact g106, fun _ => ?_⟩
      rw [e, ← eL]
      exact gK
def goY102 (B n : Nat) (y : St) : St := sI (sI (sI (sI (sI (sI (sI (sI (sT y 1 102) 103 (nI B)) 104 (nI n)) 105 0) 106 (-1)) 108 121) 107 0) 110 0) 109 0
theorem q_go102 {T : Nat → Nat} {n B : Nat} {st cm di : Int32} {y : St} {post : St → Prop} (h240 : n ≤ 240) (hR : RX T n B 102 (goY102 B n y)) (hp : ∀ y', OkG T n 0 (mkW 0 st cm di [] []) (goY102 B n y) y' → post y') : S_M_goThrough_r102 post (nI B) (nI n) y := by
  unfold S_M_goThrough_r102 S_M_starts_r102
  refine ev (ev (ev (ev (ev (ev (ev (ev (ev ?_))))))))
  show S_M_clause _ (goY102 B n y)
  refine q_clauseL (st := st) (cm := cm) (di := di) (CR := []) (p := 0) ⟨hR, rfl, by omega, rfl, rfl, h240⟩ rfl (by show 0 ≤ 0; omega) (.inl ⟨rfl, rfl, fun _ c => rfl⟩) (fun y' hok => ⟨n + 1, ?_⟩) (fun y' hfl => ⟨1, ?_⟩)
  · exact go_lp102 (y0 := goY102 B n y) (p0 := 0) (s0 := mkW 0 st cm di [] []) rfl hp n y' 0 _ _ (goY102 B n y) (by omega) rfl Fr.rf hok _ (Nat.le_refl _)
  · obtain ⟨f, f1, f2, f3, f4⟩ := hfl
    have n106 : ¬ gI y' 106 = -1 := by rw [f3]; exact fun q => (nI_m1 (by omega)).mp q
    show B_M_goThrough_r102_32 post _ y'
    unfold B_M_goThrough_r102_32 B_M_goThrough_r102_66
    refine pp_n n106 (pp_n n106 (hp _ ⟨f4, by rw [f2]; exact f3, fun q => by rw [f2] at q; cases q⟩))
