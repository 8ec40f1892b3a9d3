theorem q_digS {post : Int32 → St → Prop} {T : Nat → Nat} {n i : Nat} {z : St} (hT : ∀ i, i < n → T i < 256) (h : post (if dgn T n i = true then 1 else 0) z) : S_Reader_isDigit post (sg T n i) z := by
  unfold sg
  by_cases c : i < n
  · rw [if_pos c]
    refine q_digX (by have := hT i c; omega) ?_
    have e : dgn T n i = dg (T i) := by unfold dgn; rw [decide_eq_true c, Bool.true_and]
    rw [e] at h; exact h
  · rw [if_neg c]
    have e : dgn T n i = false := by unfold dgn; rw [decide_eq_false c, Bool.false_and]
    rw [e, if_neg (by decide)] at h
    unfold S_Reader_isDigit
    exact pp_y (by decide) h
theorem q_clauseH {post : Int32 → St → Prop} {T : Nat → Nat} {n i : Nat} {z : St} {kd us le di nu rt dt gt : Nat} {v : Nat → Nat} (hb : T i < 256) (hH : HZ z ((0, kd, us, le, di, nu), (rt, dt, gt), v)) (h1 : ∀ s' z', stepH T n i ((0, kd, us, le, di, nu), (rt, dt, gt), v) = some s' → Fr HF [13] z z' → HZ z' s' → post 1 z') (h0 : stepH T n i ((0, kd, us, le, di, nu), (rt, dt, gt), v) = none → post 0 z) : S_HouseReader_takesClause post (nI (T i)) z := by
  obtain ⟨w3, _, w4, r1, w5, d6, w6, g6, _, hV⟩ := hH
  have hst : stepH T n i ((0, kd, us, le, di, nu), (rt, dt, gt), v) = (if T i = 115 ∧ rt < 1 then some (mkH 1 0 0 le 0 nu (rt + 1) dt gt (begV 0 0 v))
      else if T i = 100 ∧ dt < 6 then some (mkH 1 1 0 le 0 nu rt (dt + 1) gt (begV 1 (3 + 2 * dt) v))
      else if T i = 103 ∧ gt < 6 then some (mkH 1 2 0 le 0 nu rt dt (gt + 1) (begV 2 (15 + 3 * gt) v))
      else none) := by
    unfold stepH
    exact if_pos rfl
  rw [hst] at h1 h0
  have b76 : ¬ (T i = 115 ∧ rt < 1) → ¬ (T i = 100 ∧ dt < 6) → B_HouseReader_takesClause_76 post (nI (T i)) z := fun n1 n2 => by
    rw [if_neg n1, if_neg n2] at h1 h0
    unfold B_HouseReader_takesClause_76
    rw [w6, k103, k6, nI_eq (by omega) (by omega), nI_leI (by omega) (by omega)]
    refine ⟨fun c => ⟨fun c2 => h0 (if_neg (fun q => by omega)), fun c2 => ?_⟩, fun c => h0 (if_neg (fun q => c q.1))⟩
    rw [show (15 : Int32) = nI 15 from rfl, k3, pk_mul, nI_add]
    show S_HouseReader_begin _ (2 + 2) (nI (fi 2)) _ z
    refine q_begin (kd := 2) (by omega) (by show 15 + 3 * gt + 3 ≤ 33; omega) (fun z' hf e4 e5 e6 eT e3 e7 e8 e9 e11 eA => ev (h1 _ _ (if_pos ⟨c, by omega⟩) (hf.sI (by decide)) ?_))
    rw [e6, w6, nI_1]
    have hv := hV.beg (kd := 2) (base := 15 + 3 * gt) (by omega) eA (.inr (.inr ⟨rfl, rfl⟩)) d6
    refine ⟨e3, by omega, e4.trans w4, r1, e5.trans w5, d6, rfl, by omega, fun _ => ⟨eT, by omega, fun q => absurd q (by decide), fun _ => by omega, e7, ?_, e9, by omega, e11, by omega, fun q => absurd q (by decide)⟩, hv⟩
    show gI z' 8 = nI (15 + 3 * (gt + 1 - 1))
    rw [e8]; rfl
  have b34 : ¬ (T i = 115 ∧ rt < 1) → B_HouseReader_takesClause_34 post (nI (T i)) z := fun n1 => by
    unfold B_HouseReader_takesClause_34
    rw [w5, k100, k6, nI_eq (by omega) (by omega), nI_leI (by omega) (by omega)]
    refine ⟨fun c => ⟨fun c2 => b76 n1 (fun q => by omega), fun c2 => ?_⟩, fun c => b76 n1 (fun q => c q.1)⟩
    rw [if_neg n1, if_pos ⟨c, by omega⟩] at h1
    rw [k3, k2, pk_mul, nI_add]
    show S_HouseReader_begin _ (2 + 1) (nI (fi 1)) _ z
    refine q_begin (kd := 1) (by omega) (by show 3 + 2 * dt + 2 ≤ 33; omega) (fun z' hf e4 e5 e6 eT e3 e7 e8 e9 e11 eA => ev (h1 _ _ rfl (hf.sI (by decide)) ?_))
    rw [e5, w5, nI_1]
    have hv := hV.beg (kd := 1) (base := 3 + 2 * dt) (by omega) eA (.inr (.inl ⟨rfl, rfl, by omega⟩)) d6
    refine ⟨e3, by omega, e4.trans w4, r1, rfl, by omega, e6.trans w6, g6, fun _ => ⟨eT, by omega, fun _ => by omega, fun q => absurd q (by decide), e7, ?_, e9, by omega, e11, by omega, fun q => absurd q (by decide)⟩, hv⟩
    show gI z' 8 = nI (3 + 2 * (dt + 1 - 1))
    rw [e8]; rfl
  unfold S_HouseReader_takesClause
  rw [w4, show (115 : Int32) = nI 115 from rfl, k1, nI_eq (by omega) (by omega), nI_leI (by omega) (by omega)]
  refine ⟨fun c => ⟨fun c2 => b34 (fun q => by omega), fun c2 => ?_⟩, fun c => b34 (fun q => c q.1)⟩
  rw [if_pos ⟨c, by omega⟩] at h1
  show S_HouseReader_begin _ (2 + 0) (nI (fi 0)) (nI 0) z
  refine q_begin (kd := 0) (by omega) (by decide) (fun z' hf e4 e5 e6 eT e3 e7 e8 e9 e11 eA => ev (h1 _ _ rfl (hf.sI (by decide)) ?_))
  rw [e4, w4, nI_add]
  have hv := hV.beg (kd := 0) (base := 0) (by omega) eA (.inl ⟨rfl, rfl⟩) d6
  exact ⟨e3, by omega, rfl, by omega, e5.trans w5, d6, e6.trans w6, g6, fun _ => ⟨eT, by omega, fun q => absurd q (by decide), fun q => absurd q (by decide), e7, e8, e9, by omega, e11, by omega, fun q => absurd q (by decide)⟩, hv⟩
theorem q_digitH {post : Int32 → St → Prop} {T : Nat → Nat} {n i : Nat} {z : St} {aw kd us le di nu rt dt gt : Nat} {v : Nat → Nat} (hT : ∀ i, i < n → T i < 256) (hd : dg (T i) = true) (haw : aw ≠ 0) (hin : aw = 2 ∨ (jn T i = true ∧ di = 1)) (hH : HZ z ((aw, kd, us, le, di, nu), (rt, dt, gt), v)) (h1 : ∀ s' z', stepH T n i ((aw, kd, us, le, di, nu), (rt, dt, gt), v) = some s' → Fr HF [13] z z' → HZ z' s' → post 1 z') (h0 : ∀ z', stepH T n i ((aw, kd, us, le, di, nu), (rt, dt, gt), v) = none → Fr HF [13] z z' → post 0 z') : S_HouseReader_takesDigit post (nI (T i)) (sg T n (i + 1)) z := by
  obtain ⟨w3, a2, w4, r1, w5, d6, w6, g6, hA, hV⟩ := hH
  obtain ⟨eT, hk, hkd, hkg, e7, e8, e9, u8, e11, di2, hL⟩ := hA haw
  have hor : aw = 2 ∨ di = 1 := hin.imp id (fun q => q.2)
  obtain ⟨e10, hle, e12, nu9, h20⟩ := hL hor
  have cd := dg_iff.mp hd
  have c3 := cn_le (kd := kd)
  have f8 := fi_cn hk
  have hfv : fv kd dt gt + cn kd ≤ 33 := by
    have : kd = 0 ∨ kd = 1 ∨ kd = 2 := by omega
    rcases this with rfl | rfl | rfl
    · show 0 + 3 ≤ 33; decide
    · show 3 + 2 * (dt - 1) + 2 ≤ 33; omega
    · show 15 + 3 * (gt - 1) + 3 ≤ 33; omega
  have hst : stepH T n i ((aw, kd, us, le, di, nu), (rt, dt, gt), v) = (if dgn T n (i + 1) = true then some (mkH 1 kd us le (di + 1) (nu * 10 + (T i - 48)) rt dt gt v)
        else if nu * 10 + (T i - 48) ≤ moN (fi kd + le) then some (mkH 1 kd us le (di + 1) (nu * 10 + (T i - 48)) rt dt gt (fun j => if j = fv kd dt gt + le then nu * 10 + (T i - 48) else v j))
        else none) := by
    show (if aw = 0 then _ else if dg (T i) = true then (if aw = 2 ∨ (jn T i = true ∧ di = 1) then _ else _) else _) = _
    rw [if_neg haw, if_pos hd, if_pos hin]
  rw [hst] at h1 h0
  have hdi : di + 1 ≤ 2 := by
    rcases hor with q | q
    · have := (h20 q).2; omega
    · omega
  have hnu : di + 1 = 1 → nu * 10 + (T i - 48) ≤ 9 := fun q => by
    rcases hor with q2 | q2
    · have := (h20 q2).1; omega
    · omega
  unfold S_HouseReader_takesDigit
  have en : (nI nu * 10 + nI (T i) - 48 : Int32) = nI (nu * 10 + (T i - 48)) := by
    rw [k10, k48, pk_mul, nI_add, pk_sub (by omega)]; congr 1; omega
  rw [e12, en]
  refine ev (ev ?_)
  rw [show gI (sI z 12 (nI (nu * 10 + (T i - 48)))) 11 = nI di from e11, nI_1]
  refine ev (q_digS hT ?_)
  have f1 : Fr HF [13] z (sI (sI (sI z 12 (nI (nu * 10 + (T i - 48)))) 11 (nI (di + 1))) 3 1) := ((Fr.rf.sI (by decide)).sI (by decide)).sI (by decide)
  by_cases c : dgn T n (i + 1) = true
  · rw [if_pos c]
    rw [if_pos c] at h1
    refine r11 (h1 _ _ rfl f1 ⟨rfl, by omega, w4, r1, w5, d6, w6, g6, fun _ => ⟨eT, hk, hkd, hkg, e7, e8, e9, u8, rfl, hdi, fun q => ⟨e10, hle, rfl, ?_, fun q2 => absurd q2 (by decide)⟩⟩, hV⟩)
    rcases q with q | q
    · exact absurd q (by decide)
    · exact hnu q
  · rw [if_neg c]
    rw [if_neg c] at h1 h0
    refine r01 ?_
    show vp_in (gI z 8 + gI z 10) 33 ∧ ∀ z5 : St, z5 = sA (sI (sI (sI z 12 (nI (nu * 10 + (T i - 48)))) 11 (nI (di + 1))) 3 1) 13 (gI z 8 + gI z 10).toNatClampNeg (nI (nu * 10 + (T i - 48))) → _
    rw [e8, e10, nI_add, nI_clamp (by omega)]
    refine ⟨vp_in_nI (by omega) (by omega), ev ?_⟩
    show vp_in (gI z 7 + gI z 10) 8 ∧ ((st51.getD (gI z 7 + gI z 10).toNatClampNeg 0 < nI (nu * 10 + (T i - 48)) → _) ∧ (¬ st51.getD (gI z 7 + gI z 10).toNatClampNeg 0 < nI (nu * 10 + (T i - 48)) → _))
    rw [e7, e10, nI_add, nI_clamp (by omega), mo_st _ (by omega)]
    have hm := mo_le (fi kd + le)
    rw [nI_ltI (by omega) (by omega)]
    have f2 := f1.sA (k := 13) (i := fv kd dt gt + le) (v := nI (nu * 10 + (T i - 48))) (by decide)
    refine ⟨vp_in_nI (by omega) (by omega), fun c2 => h0 _ (if_neg (by omega)) f2, fun c2 => h1 _ _ (if_pos (by omega)) f2 ⟨rfl, by omega, w4, r1, w5, d6, w6, g6, fun _ => ⟨eT, hk, hkd, hkg, e7, e8, e9, u8, rfl, hdi, fun q => ⟨e10, hle, rfl, ?_, fun q2 => absurd q2 (by decide)⟩⟩, ?_⟩⟩
    · rcases q with q | q
      · exact absurd q (by decide)
      · exact hnu q
    · show VZ _ dt gt (upd (gA z 13) (fv kd dt gt + le) (nI (nu * 10 + (T i - 48))))
      exact hV.put hk hle hkd hkg d6 (by omega)
theorem bt8 : ∀ u, u < 8 → ∀ l, l < 3 → u ||| 2 ^ l < 8 := by decide
theorem q_takesH {post : Int32 → St → Prop} {T : Nat → Nat} {n i : Nat} {z : St} {s : SH} {x3 : Int32} (hT : ∀ i, i < n → T i < 256) (hi : i < n) (hj : x3 = if jn T i = true then 1 else 0) (hH : HZ z s) (h1 : ∀ s' z', stepH T n i s = some s' → Fr HF [13] z z' → HZ z' s' → post 1 z') (h0 : ∀ z', stepH T n i s = none → Fr HF [13] z z' → post 0 z') : S_HouseReader_takes post (nI (T i)) (sg T n (i + 1)) x3 z := by
  obtain ⟨⟨aw, kd, us, le, di, nu⟩, ⟨rt, dt, gt⟩, v⟩ := s
  have hb := hT i hi
  have hH' := hH
  obtain ⟨w3, a2, w4, r1, w5, d6, w6, g6, hA, hV⟩ := hH'
  unfold S_HouseReader_takes
  rw [w3]
  by_cases c0 : aw = 0
  · subst c0
    exact pp_y rfl (q_clauseH hb hH (fun s' z' a b c => ⟨.inr rfl, h1 s' z' a b c⟩) (fun a => ⟨.inl rfl, h0 z a Fr.rf⟩))
  · obtain ⟨eT, hk, hkd, hkg, e7, e8, e9, u8, e11, di2, hL⟩ := hA c0
    rw [nI_eq0 (by omega)]
    refine pp_n c0 (q_digX (by omega) ?_)
    rw [w3, show (nI aw = (2 : Int32)) = (aw = 2) from propext (nI_eq (b := 2) (by omega) (by omega)), e11, show (nI di = (1 : Int32)) = (di = 1) from propext (nI_eq (b := 1) (by omega) (by omega))]
    by_cases cd : dg (T i) = true
    · rw [if_pos cd]
      have yes : (aw = 2 ∨ (jn T i = true ∧ di = 1)) → B_HouseReader_takes_40 post (nI (T i)) (sg T n (i + 1)) z := fun hin => by
        unfold B_HouseReader_takes_40 B_HouseReader_takes_45
        exact r11 (q_digitH hT cd c0 hin hH (fun s' z' a b c => r11 (h1 s' z' a b c)) (fun z' a b => r01 (h0 z' a b)))
      have no : ¬ (aw = 2 ∨ (jn T i = true ∧ di = 1)) → B_HouseReader_takes_44 post (nI (T i)) (sg T n (i + 1)) z := fun hin => by
        unfold B_HouseReader_takes_44 B_HouseReader_takes_45
        refine r01 (h0 z ?_ Fr.rf)
        show (if aw = 0 then _ else if dg (T i) = true then (if aw = 2 ∨ (jn T i = true ∧ di = 1) then _ else _) else _) = _
        rw [if_neg c0, if_pos cd, if_neg hin]
      rw [hj]
      refine r11 ⟨fun c => yes (.inl c), fun c => ⟨fun c2 => no ?_, fun c2 => ⟨fun c4 => yes (.inr ⟨?_, c4⟩), fun c4 => no ?_⟩⟩⟩
      · rintro (q | q)
        · exact c q
        · rw [if_pos q.1] at c2; exact absurd c2 (by decide)
      · by_cases q : jn T i = true
        · exact q
        · rw [if_neg q] at c2; exact absurd rfl c2
      · rintro (q | q)
        · exact c q
        · exact c4 q.2
    · rw [if_neg cd]
      have hst : stepH T n i ((aw, kd, us, le, di, nu), (rt, dt, gt), v) = (if aw = 2 then none
          else if T i = 59 then some (mkH 0 kd us le di nu rt dt gt v)
          else match spt (2 + kd) (nI (T i)) with
            | none => none
            | some l => if us.testBit l = true then none else some (mkH 2 kd (us ||| 2 ^ l) l 0 0 rt dt gt v)) := by
        show (if aw = 0 then _ else if dg (T i) = true then _ else _) = _
        rw [if_neg c0, if_neg cd]
        rfl
      rw [hst] at h1 h0
      refine r01 ⟨fun c => h0 z (if_pos c) Fr.rf, fun c => ?_⟩
      rw [if_neg c] at h1 h0
      rw [k59, nI_eq (by omega) (by omega)]
      refine ⟨fun c5 => ev (h1 _ _ (if_pos c5) (Fr.rf.sI (by decide)) ⟨rfl, by omega, w4, r1, w5, d6, w6, g6, fun q => absurd rfl q, hV⟩), fun c5 => ?_⟩
      rw [if_neg c5] at h1 h0
      unfold S_HouseReader_takesLetter
      rw [eT]
      refine ⟨by omega, q_indexOf (by omega) (by rw [sl_cn hk]; have := cn_le (kd := kd); omega) hb (ev ?_)⟩
      rw [show gI (sI z 10 (enc (spt (2 + kd) (nI (T i))))) 10 = enc (spt (2 + kd) (nI (T i))) from rfl]
      cases hs : spt (2 + kd) (nI (T i)) with
      | none =>
        rw [hs] at h0
        exact pp_y (show (-1 : Int32) < 0 by decide) ⟨.inl rfl, h0 _ rfl (Fr.rf.sI (by decide))⟩
      | some l =>
        rw [hs] at h1 h0
        have hl := spt_lt hs
        rw [sl_cn hk] at hl
        have hl3 := cn_le (kd := kd)
        show (nI l < 0 → _) ∧ (¬ nI l < 0 → ((((gI z 9 >>> (nI l &&& 31)) &&& 1) = 1 → _) ∧ (¬ ((gI z 9 >>> (nI l &&& 31)) &&& 1) = 1 → ∀ z3 : St, z3 = sI (sI z 10 (nI l)) 9 (gI z 9 ||| ((1 : Int32) <<< (nI l &&& 31))) → _)))
        rw [e9, bit_1 us (by omega) l (by omega), (bit_u us (by omega) l (by omega)).1]
        refine pp_n (nI_pos (by omega)) ⟨fun cb => ⟨.inl rfl, h0 _ (if_pos cb) (Fr.rf.sI (by decide))⟩, fun cb => ev (ev (ev (ev ⟨.inr rfl, h1 _ _ (if_neg cb) (((((Fr.rf.sI (by decide)).sI (by decide)).sI (by decide)).sI (by decide)).sI (by decide)) ?_⟩)))⟩
        exact ⟨rfl, by omega, w4, r1, w5, d6, w6, g6, fun _ => ⟨eT, hk, hkd, hkg, e7, e8, rfl, bt8 us u8 l (by omega), rfl, by omega, fun _ => ⟨rfl, hl, rfl, by omega, fun _ => ⟨rfl, rfl⟩⟩⟩, hV⟩
theorem q_closesH {post : Int32 → St → Prop} {z : St} {s : SH} (hH : HZ z s) (h1 : ∀ s', clH s = some s' → s' = s → post 1 z) (h0 : clH s = none → post 0 z) : S_HouseReader_closes post z := by
  obtain ⟨⟨aw, kd, us, le, di, nu⟩, ⟨rt, dt, gt⟩, v⟩ := s
  obtain ⟨w3, a2, w4, r1, w5, d6, w6, g6, hA, hV⟩ := hH
  have hcl : clH ((aw, kd, us, le, di, nu), (rt, dt, gt), v) = if aw = 1 ∧ wholeH dt gt v = true then some (mkH aw kd us le di nu rt dt gt v) else none := rfl
  rw [hcl] at h1 h0
  have m5 := mo_le 0
  have b0 := hV.1 0 (by omega)
  have lp : ∀ m g, g + m = gt → (allF (fun g => decide (v (15 + 3 * g) < dt)) m g = true → post 1 z) → (¬ allF (fun g => decide (v (15 + 3 * g) < dt)) m g = true → post 0 z) → ∀ k, m + 1 ≤ k → L_HouseReader_closes_39 post k (nI g) z := by
    intro m
    induction m with
    | zero =>
      intro g hg a1 a0 k hk
      obtain ⟨k, rfl⟩ : ∃ j, k = j + 1 := ⟨k - 1, by omega⟩
      show B_HouseReader_closes_39 post _ _ z
      unfold B_HouseReader_closes_39
      rw [w6]
      exact pp_y (nI_le (by omega) (by omega)) (a1 rfl)
    | succ m ih =>
      intro g hg a1 a0 k hk
      obtain ⟨k, rfl⟩ : ∃ j, k = j + 1 := ⟨k - 1, by omega⟩
      have bg := hV.2.2 g (by omega) 0 (by omega)
      have m5' := mo_le (5 + 0)
      show B_HouseReader_closes_39 post _ _ z
      unfold B_HouseReader_closes_39 S_HouseReader_likeTold
      rw [w6, show (15 : Int32) = nI 15 from rfl, k3, pk_mul, nI_add, nI_clamp (by omega)]
      refine pp_n (nI_ge (by omega) (by omega)) ⟨(vp_in_nI (by omega) (by omega)), ?_⟩
      show (gA z 13 (15 + 3 * g) < gI z 5 → _) ∧ (¬ gA z 13 (15 + 3 * g) < gI z 5 → _)
      rw [show gA z 13 (15 + 3 * g) = nI (v (15 + 3 * g)) from bg.1, w5, nI_ltI (by have := bg.2; show v (15 + 3 * g + 0) < _; omega) (by omega), nI_1]
      rw [allF] at a1 a0
      refine ⟨fun c => ev (ih (g + 1) (by omega) (fun q => a1 ?_) (fun q => a0 ?_) k (by omega)), fun c => a0 ?_⟩
      · rw [decide_eq_true c, Bool.true_and]; exact q
      · rw [decide_eq_true c, Bool.true_and]; exact q
      · rw [decide_eq_false c, Bool.false_and]; decide
  unfold S_HouseReader_closes S_HouseReader_bottleTold
  rw [w3, show (nI aw = (1 : Int32)) = (aw = 1) from propext (nI_eq (b := 1) (by omega) (by omega))]
  refine ⟨fun c => ?_, fun c => h0 (if_neg (fun q => c q.1))⟩
  have no : ¬ wholeH dt gt v = true → post 0 z := fun q => h0 (if_neg (fun p => q p.2))
  have yes : wholeH dt gt v = true → post 1 z := fun q => h1 _ (if_pos ⟨c, q⟩) rfl
  unfold wholeH at no yes
  rw [w5, w6, k2, k1, nI_ltI (by omega) (by omega), nI_ltI (by omega) (by omega)]
  refine ⟨fun c2 => no (by rw [decide_eq_false (by omega)]; simp), fun c2 => ⟨fun c3 => no (by rw [decide_eq_false (show ¬ 1 ≤ gt by omega)]; simp), fun c3 => ?_⟩⟩
  show (gA z 13 0 < gI z 5 → _) ∧ (¬ gA z 13 0 < gI z 5 → _)
  rw [b0.1, w5, nI_ltI (by omega) (by omega)]
  refine ⟨fun c4 => ⟨gt + 1, lp gt 0 (by omega) (fun q => yes ?_) (fun q => no ?_) _ (Nat.le_refl _)⟩, fun c4 => no (by rw [decide_eq_false c4]; simp)⟩
  · rw [decide_eq_true (show 2 ≤ dt by omega), decide_eq_true (show 1 ≤ gt by omega), decide_eq_true c4, q]; rfl
  · rw [decide_eq_true (show 2 ≤ dt by omega), decide_eq_true (show 1 ≤ gt by omega), decide_eq_true c4]; simpa using q
theorem jn_s (T : Nat → Nat) (i : Nat) : (if T i = 32 then (0 : Int32) else 1) = if jn T (i + 1) = true then 1 else 0 := by
  unfold jn
  rw [if_neg (show ¬ i + 1 = 0 by omega), show i + 1 - 1 = i by omega]
  by_cases c : T i = 32
  · rw [if_pos c, if_neg (by rw [decide_eq_true_iff]; exact fun q => q c)]
  · rw [if_neg c, if_pos (by rw [decide_eq_true_iff]; exact c)]
theorem flt_H {T : Nat → Nat} {n : Nat} (h240 : n ≤ 240) (hT : ∀ i, i < n → T i < 256) : ∀ m i, i + m = n → ∀ (z : St) (s : SH) (x2 : Int32) (post : Int32 → St → Prop), x2 = (if jn T i = true then 1 else 0) → gI z 2 = nI n → (∀ i, i < n → gA z 12 i = nI (T i)) → HZ z s → (∀ z', Fr HF [13] z z' → ((runR T n (stepH T n) clH m i s).1 = none → HZ z' (runR T n (stepH T n) clH m i s).2) → post (faI (runR T n (stepH T n) clH m i s).1) z') → ∀ k, m + 1 ≤ k → L_Reader_faultOf_2_r1_8 post k x2 (nI i) z := by
  intro m
  induction m with
  | zero =>
    intro i hi z s x2 post hx hn hA hH hp k hk
    obtain ⟨k, rfl⟩ : ∃ j, k = j + 1 := ⟨k - 1, by omega⟩
    have hp := hp z Fr.rf
    show B_Reader_faultOf_2_r1_8 post _ _ _ z
    unfold B_Reader_faultOf_2_r1_8
    rw [hn]
    refine pp_y (nI_le (by omega) (by omega)) (q_closesH hH (fun s' hc es => r11 ?_) (fun hc => r01 ?_))
    · have e : runR T n (stepH T n) clH 0 i s = (none, s') := by rw [runR, hc]
      rw [e] at hp
      exact hp (fun _ => by rw [es]; exact hH)
    · have e : runR T n (stepH T n) clH 0 i s = (some n, s) := by rw [runR, hc]
      rw [e] at hp
      rw [hn]
      exact hp (fun q => by cases q)
  | succ m ih =>
    intro i hi z s x2 post hx hn hA hH hp k hk
    obtain ⟨k, rfl⟩ : ∃ j, k = j + 1 := ⟨k - 1, by omega⟩
    have hTA : ∀ i, i < n → T i < 256 ∧ gA z 12 i = nI (T i) := fun i hi => ⟨hT i hi, hA i hi⟩
    have hTi := hT i (by omega)
    show B_Reader_faultOf_2_r1_8 post _ _ _ z
    unfold B_Reader_faultOf_2_r1_8 B_Reader_faultOf_2_r1_49 B_Reader_faultOf_2_r1_61
    rw [hn, nI_1 i]
    refine pp_n (nI_ge (by omega) (by omega)) (q_signAt hn h240 hTA (by omega) ?_)
    rw [show sg T n i = nI (T i) from if_pos (by omega), k32, nI_eq (by omega) (by omega)]
    have js := jn_s T i
    refine ⟨fun c => pp_y c (ev ?_), fun c => q_signAt hn h240 hTA (by omega) ?_⟩
    · rw [if_pos c] at js
      refine ih (i + 1) (by omega) z s _ post js hn hA hH (fun z' hf hw => ?_) k (by omega)
      have e : runR T n (stepH T n) clH (m + 1) i s = runR T n (stepH T n) clH m (i + 1) s := by rw [runR, if_pos c]
      rw [e] at hp
      exact hp z' hf hw
    · rw [if_neg c] at js
      refine q_takesH hT (by omega) hx hH (fun s' z' hs hf hw => r11 (pp_n c (ev ?_))) (fun z' hs hf => r01 ?_)
      · have e : runR T n (stepH T n) clH (m + 1) i s = runR T n (stepH T n) clH m (i + 1) s' := by rw [runR, if_neg c, hs]
        rw [e] at hp
        exact ih (i + 1) (by omega) z' s' _ post js ((hf.1 2 (by decide)).trans hn) (fun j hj => by rw [hf.2.1 12 (by decide)]; exact hA j hj) hw (fun z2 hf2 hw2 => hp z2 (hf.tr hf2) hw2) k (by omega)
      · have e : runR T n (stepH T n) clH (m + 1) i s = (some i, s) := by rw [runR, if_neg c, hs]
        rw [e] at hp
        exact hp z' hf (fun q => by cases q)
