theorem ti0 : (0 : Int32).toInt = 0 := by decide
theorem o_end {V V' : Nat} (hV : V ≤ V') : St_end (Inv V) (Inv V') := by
  intro z y a1 a2 a3 a4 a5 h
  have hz : gI z 2 = gI y 101 := by obtain ⟨nd, ng, tl, ln, wn, sn, a, n, v, hH, hT, _⟩ := h; exact hT.1.trans hT.2.1.symm
  unfold S_B_end S_M_end
  simp only [forall_eq, gI_sI]
  refine ⟨fun c => pp_y c ⟨rfl, h.fr hV Fr.rf (Fr.rf.sI (by decide))⟩, fun c => ⟨fun c1 => ?_, fun c1 => ?_⟩⟩
  · refine pp_n c (pp_y (show a1 ≤ gI y 101 from hz ▸ c1) ⟨rfl, ?_⟩)
    refine h.u_tape hV (Fr.rf.sI (by decide)) ((Fr.rf.sI (by decide)).sI (by decide)) ?_
    intro nd ng tl hH hT
    obtain ⟨e1, e2, h3, h4⟩ := hT
    rw [e1] at c1
    obtain ⟨j, hj, ej⟩ := nI_of2 (n := tl) (nI_toInt (by omega)) c c1
    refine ⟨j, ?_, ?_, by omega, fun i hi => h4 i (by omega)⟩
    · simp only [gI_sI, if_true]; exact ej
    · simp only [gI_sI, if_true]; exact ej
  · exact pp_n c (pp_n (show ¬ a1 ≤ gI y 101 from hz ▸ c1) ⟨rfl, h.fr hV Fr.rf (Fr.rf.sI (by decide))⟩)
theorem o_snow {V V' : Nat} (hV : V ≤ V') : St_snow (Inv V) (Inv V') := by
  intro z y a1 a2 a3 a4 a5 h
  have hz : gI z 1 = gI y 118 := by obtain ⟨nd, ng, tl, ln, wn, sn, a, n, v, hH, hT, _, _, _, _, _, _, hs⟩ := h; exact hs
  have hn : ∀ b : Int32, b = 0 → (b = 0 ∧ Inv V' z (sI y 100 0)) := fun b hb => ⟨hb, h.fr hV Fr.rf (Fr.rf.sI (by decide))⟩
  have e9 : (9 : Int64) = (9 : Int32).toInt64 := by decide
  have e0 : (0 : Int64) = (0 : Int32).toInt64 := by decide
  unfold S_B_snow S_M_snow
  simp only [forall_eq]
  refine ⟨fun c => ?_, fun c => ⟨fun c1 => ?_, fun c1 => ?_⟩⟩
  · exact q_isIn e0 e9 (fun q _ => absurd c (fun c => by rw [fa_lt] at c; rw [fa_le] at q; omega)) (fun _ => r01 ⟨rfl, h.fr hV Fr.rf (Fr.rf.sI (by decide))⟩)
  · exact q_isIn e0 e9 (fun _ q => absurd c1 (fun c => by rw [fa_lt] at c; rw [fa_le] at q; omega)) (fun _ => r01 ⟨rfl, h.fr hV Fr.rf (Fr.rf.sI (by decide))⟩)
  · refine ⟨fun c2 => ?_, fun c2 => ?_⟩
    · exact q_isIn e0 e9 (fun _ _ => r11 (pp_y (by simp only [gI_sI]; rw [if_neg (by decide)]; exact c2.trans hz) ⟨rfl, h.fr hV Fr.rf (Fr.rf.sI (by decide))⟩)) (fun q => absurd q (fun q => q.elim c c1))
    · refine q_isIn e0 e9 (fun _ _ => r11 (pp_n (by simp only [gI_sI]; rw [if_neg (by decide)]; exact fun q => c2 (q.trans hz.symm)) ⟨rfl, ?_⟩)) (fun q => absurd q (fun q => q.elim c c1))
      refine h.u_snow hV (Fr.rf.sI (by decide)) ((Fr.rf.sI (by decide)).sI (by decide)) (fun _ _ _ _ => ?_)
      simp only [gI_sI, if_true]
