/-! units -/
theorem st_op {T : Nat → Nat} {p : Nat} {st di : Int32} {W : List Nat} {CR : List Int32} (hb : T p = 33 ∨ T p = 40) (hc : cO W ≤ 6) (hw : W.length < 64) : stepL T p (mkW 2 st 0 di W CR) = if cO W < 6 then some (mkW 2 1 0 di (T p :: W) CR) else none := by
  rw [st_3 (.inr rfl)]
  unfold stL
  have hs : spt 1 (nI (T p)) = none := by rcases hb with e | e <;> rw [e] <;> decide
  rw [hs]
  show (if dg (T p) = true then _ else opL (T p) 2 st 0 di (nI (cO W)) W CR) = _
  rw [if_neg (by rcases hb with e | e <;> rw [e] <;> decide)]
  unfold opL
  rw [if_pos ⟨rfl, hb⟩]
  have i6 : nI (cO W) < (6 : Int32) ↔ cO W < 6 := nI_ltI (b := 6) (by omega) (by omega)
  by_cases c : cO W < 6
  · rw [if_pos (i6.mpr c), if_pos c, nI_1, show awL (T p) W = T p :: W from if_neg (by omega)]
    unfold mkW
    rw [show cO (T p :: W) = cO W + 1 by show cO W + _ = _; rw [if_pos (by omega)]]
  · rw [if_neg (fun q => c (i6.mp q)), if_neg c]
theorem unit_ok {T : Nat → Nat} {n B r dep : Nat} {rq : (Int32 → St → Prop) → St → Prop} (hdep : dep ≤ 6) (hq : dep < 6 → UnitP T n B r (dep + 1) rq) : UnitP T n B r dep (S_M_unit rq) := by
  intro st di W CR p y post hy hc hst he hW hl hT4 h1 h0
  obtain ⟨hR, e105, hpn, e106, e107, h240⟩ := hy
  unfold S_M_unit
  refine q_look hR e105 hpn (fun p1 hb => ?_)
  have hb1 := hb.1
  have hb2 := hb.2.1
  have hRN : rnL T n p (mkW 2 st 0 di W CR) = rnL T n p1 (mkW 2 st 0 di W CR) := RN_bl hb
  have R1 := hR.sI (k := 105) (v := nI p1) (by decide) (by decide)
  have F1 : Fr FX [] y (sI y 105 (nI p1)) := Fr.rf.sI (by decide)
  -- the way in
  have inn : ∀ b, (b = 33 ∨ b = 40) → p1 < n → T p1 = b → ∀ post2 : Int32 → St → Prop, (dep < 6 → rnL T n p (mkW 2 st 0 di W CR) = rnL T n (p1 + 1) (mkW 2 1 0 di (b :: W) CR) → post2 1 (sI (sI (sI y 105 (nI p1)) 107 (nI (dep + 1))) 105 (nI (p1 + 1)))) → (∀ y', FL T n p (mkW 2 st 0 di W CR) y y' → post2 0 y') → S_M_goesIn post2 (sI y 105 (nI p1)) := fun b hbo c hbT post2 k1 k0 => by
    have hs := st_op (T := T) (p := p1) (st := st) (di := di) (W := W) (CR := CR) (by omega) (by omega) (by omega)
    unfold S_M_goesIn
    rw [show gI (sI y 105 (nI p1)) 107 = nI dep from e107, show (nI dep = (6 : Int32)) = (dep = 6) from propext (nI_eq (b := 6) (by omega) (by omega))]
    refine ⟨fun c6 => ?_, fun c6 => ev (ev ?_)⟩
    · rw [if_neg (by omega)] at hs
      have e := hRN.trans (RN_no (cl := clL) c (hb.2.2.2 c) hs)
      exact q_fails_1 (p := p1) rfl e106 ⟨.inl rfl, k0 _ ⟨p1, hb2, by rw [e], rfl, F1.sI (by decide)⟩⟩
    · rw [if_pos (by omega), hbT] at hs
      rw [nI_1, show gI (sI (sI y 105 (nI p1)) 107 (nI (dep + 1))) 105 = nI p1 from rfl, nI_1]
      exact k1 (by omega) (hRN.trans (RN_yes c (hb.2.2.2 c) hs))
  have F2 : Fr FX [] y (sI (sI (sI y 105 (nI p1)) 107 (nI (dep + 1))) 105 (nI (p1 + 1))) := (F1.sI (by decide)).sI (by decide)
  have RYY : p1 < n → YY T n B r (p1 + 1) (dep + 1) (sI (sI (sI y 105 (nI p1)) 107 (nI (dep + 1))) 105 (nI (p1 + 1))) := fun c => ⟨(R1.sI (by decide) (by decide)).sI (by decide) (by decide), rfl, by omega, e106, rfl, h240⟩
  have cmp : (p1 < n → T p1 ≠ 33 ∧ T p1 ≠ 40) → S_M_compares (fun r4 z2 => (r4 = 0 ∨ r4 = 1) ∧ post r4 z2) 0 0 (sI y 105 (nI p1)) := fun hno => by
    have st1 : st = 1 := by
      rcases hst with e | e
      · exact e
      · obtain ⟨q1, q2⟩ := e p1 hb
        have := hno q1
        omega
    unfold S_M_compares
    refine pp_y rfl (sum_D 8 dep hdep (by omega) 2 st 0 di W CR p1 (sI y 105 (nI p1)) _ ⟨R1, rfl, hb2, e106, e107, h240⟩ hc (.inr ⟨rfl, fun p' hb' hp' => ?_⟩) (by omega) (by omega) (by omega) (fun v y' hok => ?_) (fun v y' hfl => ?_))
    · have := BL_id hb' hb.2.2.2
      subst this
      exact hno hp'
    · obtain ⟨p2, di2, P, CR2, E, gle, g1, g2, g3, g4, g5, g6, g7, g8, g9⟩ := hok
      refine q_cmp (y0 := y) (p0 := p) (s0 := mkW 2 st 0 di W CR) hdep (.inl st1) hc he hW hT4 (by omega) (hRN.trans g1) g2 g3 g4 g5 g6 g7 (F1.tr g8) (fun q => ⟨(g9 q).1, (g9 q).2.1, (g9 q).2.2.1, ((g9 q).2.2.2 rfl).1, ((g9 q).2.2.2 rfl).2⟩) (fun v y' hok => ⟨?_, h1 v y' hok⟩) (fun v y' hv hfl => ⟨hv, h0 v y' hv hfl⟩)
      obtain ⟨_, _, _, _, _, _, _, _, _, _, _, _, hv, _⟩ := hok
      exact hv
    · obtain ⟨f, g1, g2, g3, g4⟩ := hfl
      exact cmp_f (T := T) (n := n) (p0 := p) (s0 := mkW 2 st 0 di W CR) (y0 := y) h240 (fun v y' hv hfl => ⟨hv, h0 v y' hv hfl⟩) ⟨f, g1, by rw [hRN]; exact g2, g3, F1.tr g4⟩
  by_cases c : p1 < n
  · rw [if_pos c]
    have hT := (R1.at c).2.2
    rw [show (nI (T p1) = (33 : Int32)) = (T p1 = 33) from propext (nI_eq (b := 33) (by omega) (by omega)), show (nI (T p1) = (40 : Int32)) = (T p1 = 40) from propext (nI_eq (b := 40) (by omega) (by omega))]
    refine ⟨fun c33 => inn 33 (.inl rfl) c c33 _ (fun d6 hRN2 => r11 ?_) (fun y' hfl => r01 (h0 0 y' (.inl rfl) hfl)), fun c33 => ⟨fun c40 => inn 40 (.inr rfl) c c40 _ (fun d6 hRN2 => r11 ?_) (fun y' hfl => r01 (h0 0 y' (.inl rfl) hfl)), fun c40 => cmp (fun _ => ⟨c33, c40⟩)⟩⟩
    · refine hq d6 1 di (33 :: W) CR (p1 + 1) _ _ (RYY c) (by show cO W + 1 = dep + 1; omega) (.inl rfl) he (by show W.length + 1 ≤ _; omega) (by show CR.length + (W.length + 1) ≤ _; omega) (show (3 : Nat) < 4 by decide) (fun v y' hok => ev ?_) (fun v y' hv hfl => ev ?_)
      · obtain ⟨p2, aw2, di2, P2, CR2, E, gle, gaw, g1, g2, g3, g4, gv, ⟨gR, g105, gpn, g106, g107, _⟩, g6, g7, g8, g9⟩ := hok
        have eW : (P2 ++ [33]) ++ W = P2 ++ 33 :: W := by rw [List.append_assoc]; rfl
        rw [g107, nI_pred]
        have fin : ∀ u : Int32, u = 1 - v → (u = 0 ∨ u = 1) → post u (sI y' 107 (nI dep)) := fun u hu hu01 => by
          refine h1 _ _ ⟨p2, aw2, di2, P2 ++ [33], CR2, -(nI 33) :: E, by omega, gaw, by rw [eW]; exact hRN2.trans g1, fun x hx => ?_, ?_, (g4.mono (by omega)).not hu (o1_min hu01), hu01, ⟨gR.sI (by decide) (by decide), g105, gpn, g106, rfl, h240⟩, by rw [eW]; exact g6, g7, (F2.tr g8).sI (by decide), g9⟩
          · rcases List.mem_append.mp hx with q | q
            · exact g2 x q
            · rw [List.mem_singleton] at q; rw [q]; decide
          · rw [flush_app, g3]; rfl
        refine ⟨fun q => fin 1 (by rw [q]; decide) (.inr rfl), fun q => fin 0 ?_ (.inl rfl)⟩
        rcases gv with e | e
        · exact absurd e q
        · rw [e]; decide
      · have hfl' : FL T n p (mkW 2 st 0 di W CR) y (sI y' 107 (gI y' 107 - 1)) := by
          obtain ⟨f, g1, g2, g3, g4⟩ := hfl
          exact ⟨f, g1, by rw [hRN2]; exact g2, g3, (F2.tr g4).sI (by decide)⟩
        exact ⟨fun _ => h0 1 _ (.inr rfl) hfl', fun _ => h0 0 _ (.inl rfl) hfl'⟩
    · refine q_cond (dep := dep + 1) (by omega) (hq d6) (st := 1) (di := di) (W := 40 :: W) (CR := CR) (p := p1 + 1) (RYY c) (by show cO W + 1 = dep + 1; omega) (.inl rfl) (show (40 : Int32) ≠ 91 by decide) (by show W.length + 1 ≤ _; omega) (by show CR.length + (W.length + 1) ≤ _; omega) (show (0 : Nat) < 1 by decide) (fun v y' hok => ?_) (fun v y' hv hfl => ?_)
      · obtain ⟨p2, aw2, di2, P2, CR2, E, gle, gaw, g1, g2, g3, g4, gv, ⟨gR, g105, gpn, g106, g107, _⟩, g6, g7, g8, g9⟩ := hok
        have hpl : (P2 ++ 40 :: W).length = P2.length + (W.length + 1) := List.length_append
        rw [hpl] at g6
        have en40 : enL (P2 ++ 40 :: W) = 40 := (enL_app P2 g2).trans rfl
        unfold S_M_takes
        refine pp_y g106 (q_look gR g105 gpn (fun p3 hb3 => ?_))
        have hb31 := hb3.1
        have hb32 := hb3.2.1
        have hRN3 : rnL T n p (mkW 2 st 0 di W CR) = rnL T n p3 (mkW aw2 1 1 di2 (P2 ++ 40 :: W) CR2) := (hRN2.trans g1).trans (RN_bl hb3)
        have rej : (rnL T n p (mkW 2 st 0 di W CR)).1 = some p3 → B_M_takes_16 (fun r8 z5 => (r8 = 0 → post 0 z5) ∧ (¬ r8 = 0 → ∀ z6 : St, z6 = sI z5 107 (gI z5 107 - 1) → (v = 0 ∨ v = 1) ∧ post v z6)) (sI y' 105 (nI p3)) := fun e => by
          unfold B_M_takes_16
          exact q_fails_1 (p := p3) rfl g106 ⟨.inl rfl, r01 (h0 0 _ (.inl rfl) ⟨p3, hb32, e, rfl, ((F2.tr g8).sI (by decide)).sI (by decide)⟩)⟩
        by_cases c3 : p3 < n
        · rw [if_pos c3]
          have hT3 := ((gR.sI (k := 105) (v := nI p3) (by decide) (by decide)).at c3).2.2
          have g9' := g9 p3 hb3 c3
          rw [show (nI (T p3) = (41 : Int32)) = (T p3 = 41) from propext (nI_eq (b := 41) (by omega) (by omega))]
          refine ⟨fun c41 => ev (r11 (ev ?_)), fun c41 => rej ?_⟩
          · have hs3 : stepL T p3 (mkW aw2 1 1 di2 (P2 ++ 40 :: W) CR2) = some (mkW 5 1 1 0 W (E ++ CR)) := by
              rw [st_4 gaw, if_neg (by rw [c41]; decide), c41]
              show (if enL (P2 ++ 40 :: W) = 40 then (if (1 : Int32) = 0 then none else some (cbL 5 1 1 (nI (cO (P2 ++ 40 :: W))) (P2 ++ 40 :: W) CR2)) else none) = _
              rw [if_pos en40, if_neg (by decide)]
              unfold cbL
              rw [poL_fl (by omega) (show (0 : Nat) < 1 by decide) P2 CR2 g2 (by omega), g3]
              show some (mkL 5 1 1 0 (nI (cO W + 1) - 1) W (E ++ CR)) = _
              rw [nI_pred]; rfl
            rw [show gI (sI y' 105 (nI p3)) 105 = nI p3 from rfl, nI_1, sI_sI, show gI (sI y' 105 (nI (p3 + 1))) 107 = nI (dep + 1) from g107, nI_pred]
            have hlen : (E ++ CR).length = CR2.length + P2.length := by rw [← g3, flush_len]
            refine ⟨gv, h1 _ _ ⟨p3 + 1, 5, 0, [], E ++ CR, E, by omega, .inr rfl, hRN3.trans (RN_yes c3 (hb3.2.2.2 c3) hs3), fun x hx => absurd hx List.not_mem_nil, rfl, g4.mono (by omega), gv, ⟨(gR.sI (by decide) (by decide)).sI (by decide) (by decide), rfl, by omega, g106, rfl, h240⟩, by show (E ++ CR).length + W.length ≤ _; omega, fun _ _ _ => .inl (by decide), ((F2.tr g8).sI (by decide)).sI (by decide), fun p' _ _ => ⟨fun q => absurd q (by decide), fun q => absurd q (by decide), fun q => absurd q (by decide)⟩⟩⟩
          · have hs3 := st_cj (CR := CR2) c3 gaw (noE_bl hb3 g7) (by rw [en40]; decide) g9'.1 (g9'.2.1 (by omega)) (g9'.2.2 (by omega)) (fun _ => c41) (fun q => by rw [en40] at q; exact absurd q (by decide))
            rw [hRN3]
            show (RN T n (stepL T) clL p3 _).1 = _
            rw [RN_no c3 (hb3.2.2.2 c3) hs3]
        · rw [if_neg c3]
          refine pp_n (by decide) (rej ?_)
          have en : p3 = n := by omega
          subst en
          rw [hRN3]
          show (RN T p3 (stepL T) clL p3 _).1 = _
          rw [RN_end, cl_cj]
      · obtain ⟨f, g1, g2, g3, g4⟩ := hfl
        have n106 : ¬ gI y' 106 = -1 := by rw [g3]; exact fun q => (nI_m1 (by omega)).mp q
        unfold S_M_takes B_M_takes_16
        exact pp_n n106 (q_fails_2 n106 ⟨.inl rfl, r01 (h0 0 _ (.inl rfl) ⟨f, g1, by rw [hRN2]; exact g2, g3, F2.tr g4⟩)⟩)
  · rw [if_neg c]
    exact pp_n (by decide) (pp_n (by decide) (cmp (fun q => absurd q c)))
theorem unit_D {T : Nat → Nat} {n B r : Nat} : ∀ d dep, dep ≤ 6 → 7 ≤ d + dep → UnitP T n B r dep (D_M_unit d)
  | 0, dep, h1, h2 => by omega
  | d + 1, dep, h1, h2 => unit_ok h1 (fun q => unit_D d (dep + 1) (by omega) (by omega))
