/-! clauses and the whole text -/
theorem spt_7 : ∀ b, b < 256 → ((spt 7 (nI b)).isSome = true ↔ b = 121) := by decide +kernel
theorem spt_7m : spt 7 (-1) = none := by decide
theorem tk_f {post : Int32 → St → Prop} {x : Int32} {y : St} (h : ¬ gI y 106 = -1) (hp : post 0 y) : S_M_takes post x y := by
  unfold S_M_takes B_M_takes_16
  exact pp_n h (q_fails_2 h ⟨.inl rfl, hp⟩)
theorem q_takesM {post : Int32 → St → Prop} {T : Nat → Nat} {n B r p x : Nat} {y : St} (hx : x < 256) (hR : RX T n B r y) (e105 : gI y 105 = nI p) (hpn : p ≤ n) (e106 : gI y 106 = -1) (h1 : ∀ p1, BL T n p p1 → p1 < n → T p1 = x → post 1 (sI y 105 (nI (p1 + 1)))) (h0 : ∀ p1, BL T n p p1 → (p1 < n → T p1 ≠ x) → post 0 (sI (sI y 105 (nI p1)) 106 (nI p1))) : S_M_takes post (nI x) y := by
  unfold S_M_takes B_M_takes_16
  refine pp_y e106 (q_look hR e105 hpn (fun p1 hb => ?_))
  have no : (p1 < n → T p1 ≠ x) → S_M_fails (fun r1 z1 => (r1 = 0 ∨ r1 = 1) ∧ post r1 z1) (sI y 105 (nI p1)) := fun q => q_fails_1 (p := p1) rfl e106 ⟨.inl rfl, h0 p1 hb q⟩
  by_cases c : p1 < n
  · rw [if_pos c]
    have hT := (hR.at c).2.2
    rw [nI_eq (by omega) (by omega), show gI (sI y 105 (nI p1)) 105 = nI p1 from rfl, nI_1, sI_sI]
    exact ⟨fun q => ev (h1 p1 hb c q), fun q => no (fun _ => q)⟩
  · rw [if_neg c]
    refine pp_n (fun q => ?_) (no (fun q => absurd q c))
    exact (nI_m1 (by omega)).mp q.symm
theorem q_clauseL {post : St → Prop} {T : Nat → Nat} {n B r : Nat} {st cm di : Int32} {CR : List Int32} {p : Nat} {y : St} (hy : YY T n B r p 0 y) (h108 : gI y 108 = 121) (hl : CR.length ≤ p) (hK : KV (lets (gA y 104)) CR y) (h1 : ∀ y', OkC T n B r p (mkW 0 st cm di [] CR) CR y y' → post y') (h0 : ∀ y', FLC T n p (mkW 0 st cm di [] CR) y y' → post y') : S_M_clause post y := by
  obtain ⟨hR, e105, hpn, e106, e107, h240⟩ := hy
  unfold S_M_clause
  refine q_look hR e105 hpn (fun p1 hb => q_isAmong (by decide) ?_)
  have hb1 := hb.1
  have hb2 := hb.2.1
  have hRN : rnL T n p (mkW 0 st cm di [] CR) = rnL T n p1 (mkW 0 st cm di [] CR) := RN_bl hb
  have R1 := hR.sI (k := 105) (v := nI p1) (by decide) (by decide)
  have F1 : Fr FX [] y (sI y 105 (nI p1)) := Fr.rf.sI (by decide)
  have fc : ∀ {y'}, Fr FX [] y y' → Fr FC [] y y' := fun h => h.wk (by decide) (by decide)
  have bad : (rnL T n p (mkW 0 st cm di [] CR)).1 = some p1 → S_M_fails (fun _ z12 => post z12) (sI y 105 (nI p1)) := fun e => q_fails_1 (p := p1) rfl e106 (h0 _ ⟨p1, hb2, e, rfl, fc (F1.sI (by decide))⟩)
  by_cases c : p1 < n
  · rw [if_pos c]
    have hT := (R1.at c).2.2
    have hs : stepL T p1 (mkW 0 st cm di [] CR) = if T p1 = 121 then some (mkW 1 st cm di [] CR) else none := rfl
    by_cases c121 : T p1 = 121
    · rw [if_pos ((spt_7 _ hT).mpr c121)]
      rw [if_pos c121] at hs
      refine r11 (ev ?_)
      rw [show gI (sI y 105 (nI p1)) 105 = nI p1 from rfl, nI_1, sI_sI, c121]
      have hRN2 : rnL T n p (mkW 0 st cm di [] CR) = rnL T n (p1 + 1) (mkW 1 st cm di [] CR) := hRN.trans (RN_yes c (hb.2.2.2 c) hs)
      have hR2 : RX T n B r (sI y 105 (nI (p1 + 1))) := hR.sI (by decide) (by decide)
      show S_M_takes _ (nI 58) _
      refine q_takesM (by omega) hR2 (p := p1 + 1) rfl (by omega) e106 (fun p2 hb' c2 c58 => r11 ?_) (fun p2 hb' c58 => r01 ?_)
      · have hb'1 := hb'.1
        have hb'2 := hb'.2.1
        have R2 := hR.sI (k := 105) (v := nI p2) (by decide) (by decide)
        have hRN3 : rnL T n p (mkW 0 st cm di [] CR) = rnL T n p2 (mkW 1 st cm di [] CR) := hRN2.trans (RN_bl hb')
        have hs2 : stepL T p2 (mkW 1 st cm di [] CR) = if T p2 = 58 then some (mkW 2 0 0 di [] CR) else none := rfl
        · rw [if_pos c58] at hs2
          rw [sI_sI]
          have hRN4 : rnL T n p (mkW 0 st cm di [] CR) = rnL T n (p2 + 1) (mkW 2 0 0 di [] CR) := hRN3.trans (RN_yes c2 (hb'.2.2.2 c2) hs2)
          refine q_look (hR.sI (by decide) (by decide)) (p := p2 + 1) rfl (by omega) (fun p3 hb3 => ?_)
          rw [sI_sI]
          have hb31 := hb3.1
          have hb32 := hb3.2.1
          have R3 := hR.sI (k := 105) (v := nI p3) (by decide) (by decide)
          have F3 : Fr FX [] y (sI y 105 (nI p3)) := Fr.rf.sI (by decide)
          have Y3 : YY T n B r p3 0 (sI y 105 (nI p3)) := ⟨R3, rfl, hb32, e106, e107, h240⟩
          have hRN5 : rnL T n p (mkW 0 st cm di [] CR) = rnL T n p3 (mkW 2 0 0 di [] CR) := hRN4.trans (RN_bl hb3)
          have upF : ∀ {y'}, FL T n p3 (mkW 2 0 0 di [] CR) (sI y 105 (nI p3)) y' → FL T n p (mkW 0 st cm di [] CR) y y' := fun ⟨f, g1, g2, g3, g4⟩ => ⟨f, g1, by rw [hRN5]; exact g2, g3, F3.tr g4⟩
          have upC : ∀ {y'}, FL T n p (mkW 0 st cm di [] CR) y y' → FLC T n p (mkW 0 st cm di [] CR) y y' := fun ⟨f, g1, g2, g3, g4⟩ => ⟨f, g1, g2, g3, fc g4⟩
          have n106 : ∀ {y'}, FL T n p (mkW 0 st cm di [] CR) y y' → ¬ gI y' 106 = -1 := fun ⟨f, g1, g2, g3, g4⟩ => by rw [g3]; exact fun q => (nI_m1 (by omega)).mp q
          have upU : ∀ {rm k v y'}, OkU T n B r p3 0 rm k (mkW 2 0 0 di [] CR) [] CR (sI y 105 (nI p3)) v y' → OkU T n B r p 0 rm k (mkW 0 st cm di [] CR) [] CR y v y' := fun ⟨q2, aw2, di2, P2, CR2, E, gle, gaw, g1, g2, g3, g4, gv, g5, g6, g7, g8, g9⟩ => ⟨q2, aw2, di2, P2, CR2, E, by omega, gaw, hRN5.trans g1, g2, g3, g4, gv, g5, g6, g7, F3.tr g8, g9⟩
          -- with a condition from its first unit
          have b64 : p3 < n → (T p3 = 33 ∨ T p3 = 40) → B_M_clause_64 post (nI 121) (sI y 105 (nI p3)) := fun c3 ho => by
            unfold B_M_clause_64
            refine q_cond (dep := 0) (by omega) (unit_D 8 0 (by omega) (by omega)) (st := 0) (di := di) (W := []) (CR := CR) Y3 rfl (.inr (fun p' hb4 => ?_)) (show (-1 : Int32) ≠ 91 by decide) (by show 0 ≤ _; omega) (by show CR.length + 0 ≤ _; omega) (show (0 : Nat) < 1 by decide) (fun v y' hok => q_aft h108 hK (upU hok) h1 h0) (fun v y' hv hfl => tk_f (n106 (upF hfl)) (r01 (h0 _ (upC (upF hfl)))))
            have := BL_id hb4 hb3.2.2.2
            subst this
            exact ⟨c3, ho⟩
          -- with a sum
          have bsum : (p3 < n → T p3 ≠ 33 ∧ T p3 ≠ 40) → D_M_sum 8 (fun r9 z6 => ((gI z6 106 = -1 → S_M_look (fun r11 z7 => S_M_isSign (fun r12 z8 => (r12 = 0 → B_M_clause_134 post (nI 121) 1 r9 z8) ∧ (¬ r12 = 0 → S_M_condition (D_M_unit 8) (fun r14 z9 => S_M_takes (fun r15 z10 => (r15 = 0 → post z10) ∧ (¬ r15 = 0 → D_M_sum 8 (fun r17 z11 => B_M_clause_134 post (nI 121) r14 r17 z11) z10)) 63 z9) 1 r9 z8)) r11 z7) z6) ∧ (¬ gI z6 106 = -1 → B_M_clause_134 post (nI 121) 1 r9 z6))) (sI y 105 (nI p3)) := fun hno => by
            refine sum_D 8 0 (by omega) (by omega) 2 0 0 di [] CR p3 (sI y 105 (nI p3)) _ Y3 rfl (.inr ⟨rfl, fun p' hb4 hp' => ?_⟩) (by show 0 ≤ _; omega) (by show CR.length + 0 ≤ _; omega) (show (0 : Nat) < 5 by decide) (fun v y' hok => ?_) (fun v y' hfl => ?_)
            · have := BL_id hb4 hb3.2.2.2
              subst this
              exact hno hp'
            · obtain ⟨p5, di5, P5, CR5, Es, fle, f1, f2, f3, f4, fY, f6, f7, f8, f9⟩ := hok
              have fYY := fY
              obtain ⟨fR, f105, fpn, f106, f107, _⟩ := fY
              have F5 : Fr FX [] y y' := F3.tr f8
              have hEs : EV (lets (gA y 104)) Es 15 v := f4
              refine pp_y f106 (q_look fR f105 fpn (fun p6 hb6 => ?_))
              have := BL_id hb6 (fun q => (f9 q).1)
              subst this
              rw [sI_id f105]
              have plain : (p6 < n → T p6 ≠ 60 ∧ T p6 ≠ 61 ∧ T p6 ≠ 62) → B_M_clause_134 post (nI 121) 1 v y' := fun hns => by
                refine b134 (L := lets (gA y 104)) (y0 := y) (CR := CR) (Ecl := Es) f106 ((F5.1 108 (by decide)).trans h108) (.inr rfl) hK (F5.1 110 (by decide)) (F5.1 109 (by decide)) (fun q hn c => val_1 hEs (by omega) hn) (fun q => absurd q (by decide)) (fun y2 hf2 ht hK2 => h1 y2 ⟨p6, 0, di5, P5, CR5, Es, by omega, .inl rfl, hRN5.trans f1, f2, f3, ⟨fR.cg hf2 (by decide) (by decide) ht, (hf2.1 105 (by decide)).trans f105, fpn, (hf2.1 106 (by decide)).trans f106, (hf2.1 107 (by decide)).trans f107, h240⟩, f6, f7, (fc F5).tr (hf2.wk (by decide) (by decide)), fun q => ⟨(f9 q).1, ⟨(f9 q).2.1, (f9 q).2.2.1, ((f9 q).2.2.2 rfl).1, ((f9 q).2.2.2 rfl).2⟩, fun _ => hns q⟩, hK2⟩)
              by_cases c6 : p6 < n
              · rw [if_pos c6]
                refine q_isSign (fR.at c6).2.2 (fun ho => r11 ?_) (fun hn => r01 (plain (fun _ => hn)))
                unfold S_M_condition S_M_part S_M_compares B_M_part_17
                have UD := unit_D (T := T) (n := n) (B := B) (r := r) 8 0 (by omega) (by omega)
                have hcf : ∀ v y', (v = 0 ∨ v = 1) → FL T n p (mkW 0 st cm di [] CR) y y' → S_M_takes (fun r15 z10 => (r15 = 0 → post z10) ∧ (¬ r15 = 0 → D_M_sum 8 (fun r17 z11 => B_M_clause_134 post (nI 121) v r17 z11) z10)) 63 y' := fun v y' _ hfl => tk_f (n106 hfl) (r01 (h0 _ (upC hfl)))
                have hpf : ∀ v y', (v = 0 ∨ v = 1) → FL T n p (mkW 0 st cm di [] CR) y y' → ∃ n2, L_M_condition_7 (D_M_unit 8) (fun r14 z9 => S_M_takes (fun r15 z10 => (r15 = 0 → post z10) ∧ (¬ r15 = 0 → D_M_sum 8 (fun r17 z11 => B_M_clause_134 post (nI 121) r14 r17 z11) z10)) 63 z9) n2 v y' := fun v y' hv hfl => ⟨1, cond_f h240 hcf hv hfl (by omega)⟩
                refine pp_n (by decide) (pp_n (by decide) (q_cmp (dep := 0) (y0 := y) (p0 := p) (s0 := mkW 0 st cm di [] CR) (W := []) (CR := CR) (by omega) (.inr ⟨by decide, c6, ho⟩) rfl (show (-1 : Int32) ≠ 91 by decide) (by show 0 ≤ _; omega) (show (0 : Nat) < 4 by decide) (by omega) (hRN5.trans f1) f2 f3 hEs fYY f6 f7 F5 (fun q => ⟨(f9 q).1, (f9 q).2.1, (f9 q).2.2.1, ((f9 q).2.2.2 rfl).1, ((f9 q).2.2.2 rfl).2⟩) (fun v y' hok => ?_) (fun v y' hv hfl => ⟨1, part_f h240 hpf hv hfl (by omega)⟩)))
                obtain ⟨q2, aw2, di2, P2, CR2, E, gle, gaw, g1, g2, g3, g4, gv, g5, g6, g7, g8, g9⟩ := hok
                refine ⟨_, part_lp (dep := 0) (by omega) UD (W := []) (CR := CR) rfl (show (-1 : Int32) ≠ 91 by decide) (by show 0 ≤ _; omega) (show (0 : Nat) < 2 by decide) (fun v y' hok => ?_) hpf (n - q2) q2 y' v aw2 di2 P2 CR2 E (Nat.le_refl _) gle gaw g1 (fun x hx => by have := g2 x hx; omega) g3 (g4.mono (by omega)) gv g5 g6 g7 g8 (fun p' hb' hp' => (g9 p' hb' hp').1) _ (Nat.le_refl _)⟩
                obtain ⟨q2, aw2, di2, P2, CR2, E, gle, gaw, g1, g2, g3, g4, gv, g5, g6, g7, g8, g9⟩ := hok
                exact ⟨_, cond_lp (dep := 0) (by omega) UD (W := []) (CR := CR) rfl (show (-1 : Int32) ≠ 91 by decide) (by show 0 ≤ _; omega) (show (0 : Nat) < 1 by decide) (fun v y' hok => q_aft h108 hK hok h1 h0) hcf (n - q2) q2 y' v aw2 di2 P2 CR2 E (Nat.le_refl _) gle gaw g1 (fun x hx => by have := g2 x hx; omega) g3 (g4.mono (by omega)) gv g5 g6 g7 g8 (fun p' hb' hp' => ⟨(g9 p' hb' hp').1, (g9 p' hb' hp').2.1 (by omega)⟩) _ (Nat.le_refl _)⟩
              · rw [if_neg c6]
                exact q_isSign_m (r01 (plain (fun q => absurd q c6)))
            · have n6 := n106 (upF hfl)
              exact pp_n n6 (b134_f n6 (h0 _ (upC (upF hfl))))
          by_cases c3 : p3 < n
          · rw [if_pos c3]
            have hT3 := (R3.at c3).2.2
            rw [show (nI (T p3) = (33 : Int32)) = (T p3 = 33) from propext (nI_eq (b := 33) (by omega) (by omega)), show (nI (T p3) = (40 : Int32)) = (T p3 = 40) from propext (nI_eq (b := 40) (by omega) (by omega))]
            exact ⟨fun q => b64 c3 (.inl q), fun q => ⟨fun q2 => b64 c3 (.inr q2), fun q2 => bsum (fun _ => ⟨q, q2⟩)⟩⟩
          · rw [if_neg c3]
            exact pp_n (by decide) (pp_n (by decide) (bsum (fun q => absurd q c3)))
      · have hb'1 := hb'.1
        have hb'2 := hb'.2.1
        have hRN3 : rnL T n p (mkW 0 st cm di [] CR) = rnL T n p2 (mkW 1 st cm di [] CR) := hRN2.trans (RN_bl hb')
        refine h0 _ ⟨p2, hb'2, ?_, rfl, fc (((Fr.rf.sI (by decide)).sI (by decide)).sI (by decide))⟩
        rw [hRN3]
        show (RN T n (stepL T) clL p2 _).1 = _
        by_cases c2 : p2 < n
        · have hs2 : stepL T p2 (mkW 1 st cm di [] CR) = if T p2 = 58 then some (mkW 2 0 0 di [] CR) else none := rfl
          rw [if_neg (c58 c2)] at hs2
          rw [RN_no c2 (hb'.2.2.2 c2) hs2]
        · have en : p2 = n := by omega
          subst en
          rw [RN_end]; rfl
    · rw [if_neg (fun q => c121 ((spt_7 _ hT).mp q))]
      rw [if_neg c121] at hs
      refine r01 (bad ?_)
      rw [hRN]
      show (RN T n (stepL T) clL p1 _).1 = _
      rw [RN_no c (hb.2.2.2 c) hs]
  · rw [if_neg c, spt_7m]
    refine r01 (bad ?_)
    have en : p1 = n := by omega
    subst en
    rw [hRN]
    show (RN T p1 (stepL T) clL p1 _).1 = _
    rw [RN_end]; rfl
