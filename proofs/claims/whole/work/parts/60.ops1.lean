theorem ti0 : (0 : Int32).toInt = 0 := by decide
theorem o_end {V V' : Nat} (hV : V ≤ V') : St_end (Inv V) (Inv V') := by
  intro z y a1 a2 a3 a4 a5 h
  have hz : gI z 2 = gI y 101 := by obtain ⟨nd, ng, tl, ln, wn, sn, a, n, v, hH, hT, _⟩ := h; exact hT.1.trans hT.2.1.symm
  unfold S_B_end S_M_end
  simp only [forall_eq, gI_sI]
  refine ⟨fun c => pp_y c ⟨by trivial, h.fr hV Fr.rf (Fr.rf.sI (by decide))⟩, fun c => ⟨fun c1 => ?_, fun c1 => ?_⟩⟩
  · refine pp_n c (pp_y (show a1 ≤ gI y 101 from hz ▸ c1) ⟨by trivial, ?_⟩)
    refine h.u_tape hV (Fr.rf.sI (by decide)) ((Fr.rf.sI (by decide)).sI (by decide)) ?_
    intro nd ng tl hH hT
    obtain ⟨e1, e2, h3, h4⟩ := hT
    rw [e1] at c1
    obtain ⟨j, hj, ej⟩ := nI_of2 (n := tl) (nI_toInt (by omega)) c c1
    refine ⟨j, ?_, ?_, by omega, fun i hi => h4 i (by omega)⟩
    · simp only [gI_sI, if_true]; exact ej
    · simp only [gI_sI, if_true]; exact ej
  · exact pp_n c (pp_n (show ¬ a1 ≤ gI y 101 from hz ▸ c1) ⟨by trivial, h.fr hV Fr.rf (Fr.rf.sI (by decide))⟩)
theorem o_snow {V V' : Nat} (hV : V ≤ V') : St_snow (Inv V) (Inv V') := by
  intro z y a1 a2 a3 a4 a5 h
  have hz : gI z 1 = gI y 118 := by obtain ⟨nd, ng, tl, ln, wn, sn, a, n, v, hH, hT, _, _, _, _, _, _, hs⟩ := h; exact hs
  have hn : ∀ b : Int32, b = 0 → (b = 0 ∧ Inv V' z (sI y 100 0)) := fun b hb => ⟨hb, h.fr hV Fr.rf (Fr.rf.sI (by decide))⟩
  have e9 : (9 : Int64) = (9 : Int32).toInt64 := by decide
  have e0 : (0 : Int64) = (0 : Int32).toInt64 := by decide
  unfold S_B_snow S_M_snow
  simp only [forall_eq]
  refine ⟨fun c => ?_, fun c => ⟨fun c1 => ?_, fun c1 => ?_⟩⟩
  · exact q_isIn e0 e9 (fun q _ => absurd c (fun c => by rw [fa_lt] at c; rw [fa_le] at q; omega)) (fun _ => r01 ⟨by trivial, h.fr hV Fr.rf (Fr.rf.sI (by decide))⟩)
  · exact q_isIn e0 e9 (fun _ q => absurd c1 (fun c => by rw [fa_lt] at c; rw [fa_le] at q; omega)) (fun _ => r01 ⟨by trivial, h.fr hV Fr.rf (Fr.rf.sI (by decide))⟩)
  · refine ⟨fun c2 => ?_, fun c2 => ?_⟩
    · exact q_isIn e0 e9 (fun _ _ => r11 (pp_y (by simp only [gI_sI]; rw [if_neg (by decide)]; exact c2.trans hz) ⟨by trivial, h.fr hV Fr.rf (Fr.rf.sI (by decide))⟩)) (fun q => absurd q (fun q => q.elim c c1))
    · refine q_isIn e0 e9 (fun _ _ => r11 (pp_n (by simp only [gI_sI]; rw [if_neg (by decide)]; exact fun q => c2 (q.trans hz.symm)) ⟨by trivial, ?_⟩)) (fun q => absurd q (fun q => q.elim c c1))
      refine h.u_snow hV (Fr.rf.sI (by decide)) ((Fr.rf.sI (by decide)).sI (by decide)) (fun _ _ _ _ => ?_)
      simp only [gI_sI, if_true]
theorem L0 : (0 : Int64) = (0 : Int32).toInt64 := by decide
theorem L1 : (1 : Int64) = (1 : Int32).toInt64 := by decide
theorem L2 : (2 : Int64) = (2 : Int32).toInt64 := by decide
theorem L3 : (3 : Int64) = (3 : Int32).toInt64 := by decide
theorem L4 : (4 : Int64) = (4 : Int32).toInt64 := by decide
theorem L9 : (9 : Int64) = (9 : Int32).toInt64 := by decide
theorem L50 : (50 : Int64) = (50 : Int32).toInt64 := by decide
theorem L60 : (60 : Int64) = (60 : Int32).toInt64 := by decide
theorem L99 : (99 : Int64) = (99 : Int32).toInt64 := by decide
/-- what: 0 .. m, else refused -/
theorem wh_cases (x : Int32) (m : Nat) (hm : m < 2 ^ 31 - 1) : (x < 0 ∨ nI m < x) ∨ ∃ j : Nat, j ≤ m ∧ x = nI j := by
  by_cases h : x < 0
  · exact .inl (.inl h)
  · by_cases h2 : nI m < x
    · exact .inl (.inr h2)
    · obtain ⟨j, hj, e⟩ := nI_of2 (n := m) (nI_toInt (by omega)) h (fa_of_nlt h2)
      exact .inr ⟨j, hj, e⟩
theorem q_isIn_y {post : Int32 → St → Prop} {j m : Nat} {B : Int64} {z : St} (hb : B = (nI m).toInt64) (hm : m < 2 ^ 31) (h : j ≤ m) (h1 : post 1 z) : S_M_isIn post (nI j).toInt64 0 B z :=
  q_isIn L0 hb (fun _ _ => h1) (fun q => q.elim (fun q => absurd q (nI_pos (by omega))) (fun q => absurd q (nI_nlt (by omega) (by omega))))
theorem q_isIn_n {post : Int32 → St → Prop} {m : Nat} {B : Int64} {x : Int32} {z : St} (hb : B = (nI m).toInt64) (hm : m < 2 ^ 31) (h : x < 0 ∨ nI m < x) (h1 : post 0 z) : S_M_isIn post x.toInt64 0 B z :=
  q_isIn L0 hb (fun p q => h.elim (fun c => absurd c (fun c => by rw [fa_lt] at c; rw [fa_le] at p; omega)) (fun c => absurd c (fun c => by rw [fa_lt] at c; rw [fa_le] at q; omega))) (fun _ => h1)
theorem Inv.q {V V' : Nat} {z y z' y' : St} (h : Inv V z y) (hV : V ≤ V') (hz : Fr XS XA z z') (hy : Fr MS MA y y') {r r1 : Int32} (e : r = r1) : r = r1 ∧ Inv V' z' y' := ⟨e, h.fr hV hz hy⟩
theorem yt {y : St} : Fr MS MA y (sI y 100 0) := Fr.rf.sI (by decide)
theorem TR.b {w c : Nat → Int32} (h : TR w c) : w 24 = c 0 ∧ w 25 = c 1 ∧ w 26 = c 2 ∧ w 27 = c 3 := ⟨h 24 (by decide), h 25 (by decide), h 26 (by decide), h 27 (by decide)⟩
theorem TR.g {w c : Nat → Int32} (h : TR w c) {g : Nat} (hg : g < 6) : w (3 * g) = c (4 + g) ∧ w (3 * g + 1) = c (10 + g) ∧ w (3 * g + 2) = c (16 + g) := by
  refine ⟨?_, ?_, ?_⟩
  · rw [h _ (by omega)]; unfold pi; rw [if_pos (by omega)]; congr 1; omega
  · rw [h _ (by omega)]; unfold pi; rw [if_pos (by omega)]; congr 1; omega
  · rw [h _ (by omega)]; unfold pi; rw [if_pos (by omega)]; congr 1; omega
theorem TR.d {w c : Nat → Int32} (h : TR w c) {d : Nat} (hd : d < 6) : w (18 + d) = c (22 + d) := by
  rw [h _ (by omega)]; unfold pi; rw [if_neg (by omega), if_pos (by omega)]; congr 1; omega
/-- the table now, of both sides -/
theorem Inv.ta {V : Nat} {z y : St} (h : Inv V z y) : TR (gA y 113) (gA z 23) := by
  obtain ⟨nd, ng, tl, ln, wn, sn, a, n, v, hH, hT, hL, hW, hS, hTa, _⟩ := h; exact hTa.1
theorem o_rule {V V' : Nat} (hV : V ≤ V') : St_rule (Inv V) (Inv V') := by
  intro z y a1 a2 a3 a4 a5 h
  obtain ⟨nd, ng, mo, wg, q, lk, lw, hz, hy, hl⟩ := h.ctx
  have hb := h.ta.b
  unfold S_B_rule S_M_rule
  simp only [forall_eq, gI_sI]
  rcases Nat.eq_zero_or_pos ng with e | e
  · refine q_isTold_n hz.2.1 e (r01 (pp_y (by rw [if_neg (by decide), hy.2.1, e]; rfl) ⟨by trivial, h.fr hV Fr.rf yt⟩))
  · refine q_isTold_y hz.2.1 hl.2.1 e (r11 ?_)
    have hn : ¬ (if 112 = 100 then 0 else gI y 112) = 0 := by rw [if_neg (by decide), hy.2.1]; exact nI_ne0 e (by have := hl.2.1; omega)
    rcases wh_cases a1 2 (by omega) with c | ⟨j, hj, ej⟩
    · have c0 : ¬ a1 = 0 := fun e => by subst e; revert c; decide
      have c1 : ¬ a1 = 1 := fun e => by subst e; revert c; decide
      have c2 : ¬ a1 = 2 := fun e => by subst e; revert c; decide
      exact pp_n c0 (pp_n c1 (pp_n c2 (pp_n hn (q_isIn_n (m := 2) L2 (by omega) c (r01 ⟨by trivial, h.fr hV Fr.rf yt⟩)))))
    · have : j = 0 ∨ j = 1 ∨ j = 2 := by omega
      rcases this with rfl | rfl | rfl
      · subst ej
        refine pp_y rfl ?_
        unfold S_Table_bottle_8
        exact pp_n hn (q_isIn_y (m := 2) L2 (by omega) (by omega) (r11 (pp_y rfl (h.q hV Fr.rf yt (by rw [gA_sI]; exact hb.1.symm)))))
      · subst ej
        refine pp_n (by decide) (pp_y rfl ?_)
        exact pp_n hn (q_isIn_y (m := 2) L2 (by omega) (by omega) (r11 (pp_n (by decide) ⟨vp_in_nI (by omega) (by omega), h.q hV Fr.rf yt (by rw [gA_sI, hz.2.2.1]; exact hy.2.2.1.symm)⟩)))
      · subst ej
        refine pp_n (by decide) (pp_n (by decide) (pp_y rfl ?_))
        exact pp_n hn (q_isIn_y (m := 2) L2 (by omega) (by omega) (r11 (pp_n (by decide) ⟨vp_in_nI (by omega) (by omega), h.q hV Fr.rf yt (by rw [gA_sI, hz.2.2.2.1]; exact hy.2.2.2.1.symm)⟩)))
