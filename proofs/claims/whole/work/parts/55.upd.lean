theorem Inv.u_tape {V V' : Nat} {z y z' y' : St} (h : Inv V z y) (hV : V ≤ V') (hz : Fr ([2] ++ XS) ([12] ++ XA) z z') (hy : Fr ([101] ++ MS) ([101] ++ MA) y y') (hc : ∀ (nd : Nat) (ng : Nat) (tl : Nat), HouseI nd ng (gI z 26) (gI z 27) (gI z 28) (gI z 29) (gA z 18) (gA z 19) (gI y 111) (gI y 112) (gA y 105) (gA y 107) (gA y 109) → TapeI tl (gI z 2) (gA z 12) (gI y 101) (gA y 101) → ∃ tl' : Nat, TapeI tl' (gI z' 2) (gA z' 12) (gI y' 101) (gA y' 101)) : Inv V' z' y' := by
  obtain ⟨nd, ng, tl, ln, wn, sn, a, n, v, hH, hT, hL, hW, hS, hTa, hP, hI, hs⟩ := h
  obtain ⟨tl', hT'⟩ := hc nd ng tl hH hT
  have hL := hL.cg (zz' := gZ z') (zc' := gA z') (fun k _ _ => by rw [hz.2.2.1]) (fun k h1 h2 => hz.2.1 k (by have : k = 36 ∨ k = 37 ∨ k = 38 ∨ k = 39 := (by omega); rcases this with rfl | rfl | rfl | rfl <;> decide))
  have hW := hW.cg (zz' := gZ z') (zc' := gA z') (fun k _ _ => by rw [hz.2.2.1]) (fun k h1 h2 => hz.2.1 k (by have : k = 32 ∨ k = 33 ∨ k = 34 ∨ k = 35 := (by omega); rcases this with rfl | rfl | rfl | rfl <;> decide))
  have hTa := hTa.mono hV
  have hP := hP.mono hV
  have hI := hI.mono hV
  refine ⟨nd, ng, tl', ln, wn, sn, a, n, v, ?_, hT', ?_, ?_, ?_, ?_, ?_, ?_, ?_⟩
  · rw [hz.1 26 (by decide), hz.1 27 (by decide), hz.1 28 (by decide), hz.1 29 (by decide), hz.2.1 18 (by decide), hz.2.1 19 (by decide), hy.1 111 (by decide), hy.1 112 (by decide), hy.2.1 105 (by decide), hy.2.1 107 (by decide), hy.2.1 109 (by decide)]; exact hH
  · rw [hz.1 30 (by decide), hz.1 31 (by decide), hy.1 102 (by decide), hy.1 117 (by decide), hy.2.1 102 (by decide), hy.2.1 103 (by decide)]; exact hL
  · rw [hz.1 0 (by decide), hy.1 115 (by decide), hy.2.1 111 (by decide), hy.2.1 112 (by decide)]; exact hW
  · rw [hz.1 41 (by decide), hz.2.1 30 (by decide), hy.1 128 (by decide), hy.2.1 117 (by decide)]; exact hS
  · rw [hz.2.1 23 (by decide), hz.2.1 26 (by decide), hy.2.1 113 (by decide)]; exact hTa
  · rw [hz.1 25 (by decide), hz.1 24 (by decide), hz.2.1 25 (by decide), hz.2.1 26 (by decide), hy.1 119 (by decide), hy.2.1 115 (by decide)]; exact hP
  · rw [hz.1 23 (by decide), hz.2.1 27 (by decide), hz.2.1 28 (by decide), hy.1 129 (by decide), hy.2.1 119 (by decide)]; exact hI
  · rw [hz.1 1 (by decide), hy.1 118 (by decide)]; exact hs

theorem Inv.u_snow {V V' : Nat} {z y z' y' : St} (h : Inv V z y) (hV : V ≤ V') (hz : Fr ([1] ++ XS) ([] ++ XA) z z') (hy : Fr ([118] ++ MS) ([] ++ MA) y y') (hc : ∀ (nd : Nat) (ng : Nat), HouseI nd ng (gI z 26) (gI z 27) (gI z 28) (gI z 29) (gA z 18) (gA z 19) (gI y 111) (gI y 112) (gA y 105) (gA y 107) (gA y 109) → gI z 1 = gI y 118 → gI z' 1 = gI y' 118) : Inv V' z' y' := by
  obtain ⟨nd, ng, tl, ln, wn, sn, a, n, v, hH, hT, hL, hW, hS, hTa, hP, hI, hs⟩ := h
  have hs' := hc nd ng hH hs
  have hL := hL.cg (zz' := gZ z') (zc' := gA z') (fun k _ _ => by rw [hz.2.2.1]) (fun k h1 h2 => hz.2.1 k (by have : k = 36 ∨ k = 37 ∨ k = 38 ∨ k = 39 := (by omega); rcases this with rfl | rfl | rfl | rfl <;> decide))
  have hW := hW.cg (zz' := gZ z') (zc' := gA z') (fun k _ _ => by rw [hz.2.2.1]) (fun k h1 h2 => hz.2.1 k (by have : k = 32 ∨ k = 33 ∨ k = 34 ∨ k = 35 := (by omega); rcases this with rfl | rfl | rfl | rfl <;> decide))
  have hTa := hTa.mono hV
  have hP := hP.mono hV
  have hI := hI.mono hV
  refine ⟨nd, ng, tl, ln, wn, sn, a, n, v, ?_, ?_, ?_, ?_, ?_, ?_, ?_, ?_, hs'⟩
  · rw [hz.1 26 (by decide), hz.1 27 (by decide), hz.1 28 (by decide), hz.1 29 (by decide), hz.2.1 18 (by decide), hz.2.1 19 (by decide), hy.1 111 (by decide), hy.1 112 (by decide), hy.2.1 105 (by decide), hy.2.1 107 (by decide), hy.2.1 109 (by decide)]; exact hH
  · rw [hz.1 2 (by decide), hz.2.1 12 (by decide), hy.1 101 (by decide), hy.2.1 101 (by decide)]; exact hT
  · rw [hz.1 30 (by decide), hz.1 31 (by decide), hy.1 102 (by decide), hy.1 117 (by decide), hy.2.1 102 (by decide), hy.2.1 103 (by decide)]; exact hL
  · rw [hz.1 0 (by decide), hy.1 115 (by decide), hy.2.1 111 (by decide), hy.2.1 112 (by decide)]; exact hW
  · rw [hz.1 41 (by decide), hz.2.1 30 (by decide), hy.1 128 (by decide), hy.2.1 117 (by decide)]; exact hS
  · rw [hz.2.1 23 (by decide), hz.2.1 26 (by decide), hy.2.1 113 (by decide)]; exact hTa
  · rw [hz.1 25 (by decide), hz.1 24 (by decide), hz.2.1 25 (by decide), hz.2.1 26 (by decide), hy.1 119 (by decide), hy.2.1 115 (by decide)]; exact hP
  · rw [hz.1 23 (by decide), hz.2.1 27 (by decide), hz.2.1 28 (by decide), hy.1 129 (by decide), hy.2.1 119 (by decide)]; exact hI

theorem Inv.u_law {V V' : Nat} {z y z' y' : St} (h : Inv V z y) (hV : V ≤ V') (hz : Fr ([30, 31] ++ XS) ([] ++ XA) z z') (hy : Fr ([102, 117] ++ MS) ([102, 103] ++ MA) y y') (hc : ∀ (nd : Nat) (ng : Nat) (ln : Nat), HouseI nd ng (gI z 26) (gI z 27) (gI z 28) (gI z 29) (gA z 18) (gA z 19) (gI y 111) (gI y 112) (gA y 105) (gA y 107) (gA y 109) → LawI ln (gI z 30) (gI z 31) (gZ z) (gA z) (gI y 102) (gI y 117) (gA y 102) (gA y 103) → ∃ ln' : Nat, LawI ln' (gI z' 30) (gI z' 31) (gZ z') (gA z') (gI y' 102) (gI y' 117) (gA y' 102) (gA y' 103)) : Inv V' z' y' := by
  obtain ⟨nd, ng, tl, ln, wn, sn, a, n, v, hH, hT, hL, hW, hS, hTa, hP, hI, hs⟩ := h
  obtain ⟨ln', hL'⟩ := hc nd ng ln hH hL
  have hW := hW.cg (zz' := gZ z') (zc' := gA z') (fun k _ _ => by rw [hz.2.2.1]) (fun k h1 h2 => hz.2.1 k (by have : k = 32 ∨ k = 33 ∨ k = 34 ∨ k = 35 := (by omega); rcases this with rfl | rfl | rfl | rfl <;> decide))
  have hTa := hTa.mono hV
  have hP := hP.mono hV
  have hI := hI.mono hV
  refine ⟨nd, ng, tl, ln', wn, sn, a, n, v, ?_, ?_, hL', ?_, ?_, ?_, ?_, ?_, ?_⟩
  · rw [hz.1 26 (by decide), hz.1 27 (by decide), hz.1 28 (by decide), hz.1 29 (by decide), hz.2.1 18 (by decide), hz.2.1 19 (by decide), hy.1 111 (by decide), hy.1 112 (by decide), hy.2.1 105 (by decide), hy.2.1 107 (by decide), hy.2.1 109 (by decide)]; exact hH
  · rw [hz.1 2 (by decide), hz.2.1 12 (by decide), hy.1 101 (by decide), hy.2.1 101 (by decide)]; exact hT
  · rw [hz.1 0 (by decide), hy.1 115 (by decide), hy.2.1 111 (by decide), hy.2.1 112 (by decide)]; exact hW
  · rw [hz.1 41 (by decide), hz.2.1 30 (by decide), hy.1 128 (by decide), hy.2.1 117 (by decide)]; exact hS
  · rw [hz.2.1 23 (by decide), hz.2.1 26 (by decide), hy.2.1 113 (by decide)]; exact hTa
  · rw [hz.1 25 (by decide), hz.1 24 (by decide), hz.2.1 25 (by decide), hz.2.1 26 (by decide), hy.1 119 (by decide), hy.2.1 115 (by decide)]; exact hP
  · rw [hz.1 23 (by decide), hz.2.1 27 (by decide), hz.2.1 28 (by decide), hy.1 129 (by decide), hy.2.1 119 (by decide)]; exact hI
  · rw [hz.1 1 (by decide), hy.1 118 (by decide)]; exact hs

theorem Inv.u_seen {V V' : Nat} {z y z' y' : St} (h : Inv V z y) (hV : V ≤ V') (hz : Fr ([41] ++ XS) ([30] ++ XA) z z') (hy : Fr ([128] ++ MS) ([117] ++ MA) y y') (hc : ∀ (nd : Nat) (ng : Nat) (sn : Nat), HouseI nd ng (gI z 26) (gI z 27) (gI z 28) (gI z 29) (gA z 18) (gA z 19) (gI y 111) (gI y 112) (gA y 105) (gA y 107) (gA y 109) → SeenI nd sn (gI z 41) (gA z 30) (gI y 128) (gA y 117) → ∃ sn' : Nat, SeenI nd sn' (gI z' 41) (gA z' 30) (gI y' 128) (gA y' 117)) : Inv V' z' y' := by
  obtain ⟨nd, ng, tl, ln, wn, sn, a, n, v, hH, hT, hL, hW, hS, hTa, hP, hI, hs⟩ := h
  obtain ⟨sn', hS'⟩ := hc nd ng sn hH hS
  have hL := hL.cg (zz' := gZ z') (zc' := gA z') (fun k _ _ => by rw [hz.2.2.1]) (fun k h1 h2 => hz.2.1 k (by have : k = 36 ∨ k = 37 ∨ k = 38 ∨ k = 39 := (by omega); rcases this with rfl | rfl | rfl | rfl <;> decide))
  have hW := hW.cg (zz' := gZ z') (zc' := gA z') (fun k _ _ => by rw [hz.2.2.1]) (fun k h1 h2 => hz.2.1 k (by have : k = 32 ∨ k = 33 ∨ k = 34 ∨ k = 35 := (by omega); rcases this with rfl | rfl | rfl | rfl <;> decide))
  have hTa := hTa.mono hV
  have hP := hP.mono hV
  have hI := hI.mono hV
  refine ⟨nd, ng, tl, ln, wn, sn', a, n, v, ?_, ?_, ?_, ?_, hS', ?_, ?_, ?_, ?_⟩
  · rw [hz.1 26 (by decide), hz.1 27 (by decide), hz.1 28 (by decide), hz.1 29 (by decide), hz.2.1 18 (by decide), hz.2.1 19 (by decide), hy.1 111 (by decide), hy.1 112 (by decide), hy.2.1 105 (by decide), hy.2.1 107 (by decide), hy.2.1 109 (by decide)]; exact hH
  · rw [hz.1 2 (by decide), hz.2.1 12 (by decide), hy.1 101 (by decide), hy.2.1 101 (by decide)]; exact hT
  · rw [hz.1 30 (by decide), hz.1 31 (by decide), hy.1 102 (by decide), hy.1 117 (by decide), hy.2.1 102 (by decide), hy.2.1 103 (by decide)]; exact hL
  · rw [hz.1 0 (by decide), hy.1 115 (by decide), hy.2.1 111 (by decide), hy.2.1 112 (by decide)]; exact hW
  · rw [hz.2.1 23 (by decide), hz.2.1 26 (by decide), hy.2.1 113 (by decide)]; exact hTa
  · rw [hz.1 25 (by decide), hz.1 24 (by decide), hz.2.1 25 (by decide), hz.2.1 26 (by decide), hy.1 119 (by decide), hy.2.1 115 (by decide)]; exact hP
  · rw [hz.1 23 (by decide), hz.2.1 27 (by decide), hz.2.1 28 (by decide), hy.1 129 (by decide), hy.2.1 119 (by decide)]; exact hI
  · rw [hz.1 1 (by decide), hy.1 118 (by decide)]; exact hs

theorem Inv.u_act {V V' : Nat} {z y z' y' : St} (h : Inv V z y) (hV : V ≤ V') (hz : Fr ([25, 24] ++ XS) ([23, 26, 25, 26] ++ XA) z z') (hy : Fr ([119] ++ MS) ([113, 115] ++ MA) y y') (hc : ∀ (nd : Nat) (ng : Nat) (v : Nat → Nat) (a : Nat) (n : Nat), HouseI nd ng (gI z 26) (gI z 27) (gI z 28) (gI z 29) (gA z 18) (gA z 19) (gI y 111) (gI y 112) (gA y 105) (gA y 107) (gA y 109) → TaI V nd (v 0) (gA y 113) (gA z 23) (gA z 26) → PastI V nd a n v (gI z 25) (gI z 24) (gA z 25) (gA z 26) (gI y 119) (gA y 115) → ∃ v' : Nat → Nat, ∃ a' : Nat, ∃ n' : Nat, TaI V' nd (v' 0) (gA y' 113) (gA z' 23) (gA z' 26) ∧ PastI V' nd a' n' v' (gI z' 25) (gI z' 24) (gA z' 25) (gA z' 26) (gI y' 119) (gA y' 115)) : Inv V' z' y' := by
  obtain ⟨nd, ng, tl, ln, wn, sn, a, n, v, hH, hT, hL, hW, hS, hTa, hP, hI, hs⟩ := h
  obtain ⟨v', a', n', hTa', hP'⟩ := hc nd ng v a n hH hTa hP
  have hL := hL.cg (zz' := gZ z') (zc' := gA z') (fun k _ _ => by rw [hz.2.2.1]) (fun k h1 h2 => hz.2.1 k (by have : k = 36 ∨ k = 37 ∨ k = 38 ∨ k = 39 := (by omega); rcases this with rfl | rfl | rfl | rfl <;> decide))
  have hW := hW.cg (zz' := gZ z') (zc' := gA z') (fun k _ _ => by rw [hz.2.2.1]) (fun k h1 h2 => hz.2.1 k (by have : k = 32 ∨ k = 33 ∨ k = 34 ∨ k = 35 := (by omega); rcases this with rfl | rfl | rfl | rfl <;> decide))
  have hI := hI.mono hV
  refine ⟨nd, ng, tl, ln, wn, sn, a', n', v', ?_, ?_, ?_, ?_, ?_, hTa', hP', ?_, ?_⟩
  · rw [hz.1 26 (by decide), hz.1 27 (by decide), hz.1 28 (by decide), hz.1 29 (by decide), hz.2.1 18 (by decide), hz.2.1 19 (by decide), hy.1 111 (by decide), hy.1 112 (by decide), hy.2.1 105 (by decide), hy.2.1 107 (by decide), hy.2.1 109 (by decide)]; exact hH
  · rw [hz.1 2 (by decide), hz.2.1 12 (by decide), hy.1 101 (by decide), hy.2.1 101 (by decide)]; exact hT
  · rw [hz.1 30 (by decide), hz.1 31 (by decide), hy.1 102 (by decide), hy.1 117 (by decide), hy.2.1 102 (by decide), hy.2.1 103 (by decide)]; exact hL
  · rw [hz.1 0 (by decide), hy.1 115 (by decide), hy.2.1 111 (by decide), hy.2.1 112 (by decide)]; exact hW
  · rw [hz.1 41 (by decide), hz.2.1 30 (by decide), hy.1 128 (by decide), hy.2.1 117 (by decide)]; exact hS
  · rw [hz.1 23 (by decide), hz.2.1 27 (by decide), hz.2.1 28 (by decide), hy.1 129 (by decide), hy.2.1 119 (by decide)]; exact hI
  · rw [hz.1 1 (by decide), hy.1 118 (by decide)]; exact hs

theorem Inv.u_img {V V' : Nat} {z y z' y' : St} (h : Inv V z y) (hV : V ≤ V') (hz : Fr ([23] ++ XS) ([27, 28] ++ XA) z z') (hy : Fr ([129] ++ MS) ([119] ++ MA) y y') (hc : ∀ (nd : Nat) (ng : Nat) (v : Nat → Nat), HouseI nd ng (gI z 26) (gI z 27) (gI z 28) (gI z 29) (gA z 18) (gA z 19) (gI y 111) (gI y 112) (gA y 105) (gA y 107) (gA y 109) → TaI V nd (v 0) (gA y 113) (gA z 23) (gA z 26) → ImgI V nd (gI z 23) (gA z 27) (gA z 28) (gI y 129) (gA y 119) → ImgI V' nd (gI z' 23) (gA z' 27) (gA z' 28) (gI y' 129) (gA y' 119)) : Inv V' z' y' := by
  obtain ⟨nd, ng, tl, ln, wn, sn, a, n, v, hH, hT, hL, hW, hS, hTa, hP, hI, hs⟩ := h
  have hI' := hc nd ng v hH hTa hI
  have hL := hL.cg (zz' := gZ z') (zc' := gA z') (fun k _ _ => by rw [hz.2.2.1]) (fun k h1 h2 => hz.2.1 k (by have : k = 36 ∨ k = 37 ∨ k = 38 ∨ k = 39 := (by omega); rcases this with rfl | rfl | rfl | rfl <;> decide))
  have hW := hW.cg (zz' := gZ z') (zc' := gA z') (fun k _ _ => by rw [hz.2.2.1]) (fun k h1 h2 => hz.2.1 k (by have : k = 32 ∨ k = 33 ∨ k = 34 ∨ k = 35 := (by omega); rcases this with rfl | rfl | rfl | rfl <;> decide))
  have hTa := hTa.mono hV
  have hP := hP.mono hV
  refine ⟨nd, ng, tl, ln, wn, sn, a, n, v, ?_, ?_, ?_, ?_, ?_, ?_, ?_, hI', ?_⟩
  · rw [hz.1 26 (by decide), hz.1 27 (by decide), hz.1 28 (by decide), hz.1 29 (by decide), hz.2.1 18 (by decide), hz.2.1 19 (by decide), hy.1 111 (by decide), hy.1 112 (by decide), hy.2.1 105 (by decide), hy.2.1 107 (by decide), hy.2.1 109 (by decide)]; exact hH
  · rw [hz.1 2 (by decide), hz.2.1 12 (by decide), hy.1 101 (by decide), hy.2.1 101 (by decide)]; exact hT
  · rw [hz.1 30 (by decide), hz.1 31 (by decide), hy.1 102 (by decide), hy.1 117 (by decide), hy.2.1 102 (by decide), hy.2.1 103 (by decide)]; exact hL
  · rw [hz.1 0 (by decide), hy.1 115 (by decide), hy.2.1 111 (by decide), hy.2.1 112 (by decide)]; exact hW
  · rw [hz.1 41 (by decide), hz.2.1 30 (by decide), hy.1 128 (by decide), hy.2.1 117 (by decide)]; exact hS
  · rw [hz.2.1 23 (by decide), hz.2.1 26 (by decide), hy.2.1 113 (by decide)]; exact hTa
  · rw [hz.1 25 (by decide), hz.1 24 (by decide), hz.2.1 25 (by decide), hz.2.1 26 (by decide), hy.1 119 (by decide), hy.2.1 115 (by decide)]; exact hP
  · rw [hz.1 1 (by decide), hy.1 118 (by decide)]; exact hs

theorem Inv.u_back {V V' : Nat} {z y z' y' : St} (h : Inv V z y) (hV : V ≤ V') (hz : Fr ([25, 24] ++ XS) ([23, 26, 25, 26] ++ XA) z z') (hy : Fr ([119] ++ MS) ([113, 115] ++ MA) y y') (hc : ∀ (nd : Nat) (ng : Nat) (v : Nat → Nat) (a : Nat) (n : Nat), HouseI nd ng (gI z 26) (gI z 27) (gI z 28) (gI z 29) (gA z 18) (gA z 19) (gI y 111) (gI y 112) (gA y 105) (gA y 107) (gA y 109) → TaI V nd (v 0) (gA y 113) (gA z 23) (gA z 26) → PastI V nd a n v (gI z 25) (gI z 24) (gA z 25) (gA z 26) (gI y 119) (gA y 115) → ImgI V nd (gI z 23) (gA z 27) (gA z 28) (gI y 129) (gA y 119) → ∃ v' : Nat → Nat, ∃ a' : Nat, ∃ n' : Nat, TaI V' nd (v' 0) (gA y' 113) (gA z' 23) (gA z' 26) ∧ PastI V' nd a' n' v' (gI z' 25) (gI z' 24) (gA z' 25) (gA z' 26) (gI y' 119) (gA y' 115)) : Inv V' z' y' := by
  obtain ⟨nd, ng, tl, ln, wn, sn, a, n, v, hH, hT, hL, hW, hS, hTa, hP, hI, hs⟩ := h
  obtain ⟨v', a', n', hTa', hP'⟩ := hc nd ng v a n hH hTa hP hI
  have hL := hL.cg (zz' := gZ z') (zc' := gA z') (fun k _ _ => by rw [hz.2.2.1]) (fun k h1 h2 => hz.2.1 k (by have : k = 36 ∨ k = 37 ∨ k = 38 ∨ k = 39 := (by omega); rcases this with rfl | rfl | rfl | rfl <;> decide))
  have hW := hW.cg (zz' := gZ z') (zc' := gA z') (fun k _ _ => by rw [hz.2.2.1]) (fun k h1 h2 => hz.2.1 k (by have : k = 32 ∨ k = 33 ∨ k = 34 ∨ k = 35 := (by omega); rcases this with rfl | rfl | rfl | rfl <;> decide))
  have hI := hI.mono hV
  refine ⟨nd, ng, tl, ln, wn, sn, a', n', v', ?_, ?_, ?_, ?_, ?_, hTa', hP', ?_, ?_⟩
  · rw [hz.1 26 (by decide), hz.1 27 (by decide), hz.1 28 (by decide), hz.1 29 (by decide), hz.2.1 18 (by decide), hz.2.1 19 (by decide), hy.1 111 (by decide), hy.1 112 (by decide), hy.2.1 105 (by decide), hy.2.1 107 (by decide), hy.2.1 109 (by decide)]; exact hH
  · rw [hz.1 2 (by decide), hz.2.1 12 (by decide), hy.1 101 (by decide), hy.2.1 101 (by decide)]; exact hT
  · rw [hz.1 30 (by decide), hz.1 31 (by decide), hy.1 102 (by decide), hy.1 117 (by decide), hy.2.1 102 (by decide), hy.2.1 103 (by decide)]; exact hL
  · rw [hz.1 0 (by decide), hy.1 115 (by decide), hy.2.1 111 (by decide), hy.2.1 112 (by decide)]; exact hW
  · rw [hz.1 41 (by decide), hz.2.1 30 (by decide), hy.1 128 (by decide), hy.2.1 117 (by decide)]; exact hS
  · rw [hz.1 23 (by decide), hz.2.1 27 (by decide), hz.2.1 28 (by decide), hy.1 129 (by decide), hy.2.1 119 (by decide)]; exact hI
  · rw [hz.1 1 (by decide), hy.1 118 (by decide)]; exact hs

theorem Inv.u_house {V V' : Nat} {z y z' y' : St} (h : Inv V z y) (hV : V ≤ V') (hz : Fr ([26, 27, 28, 29, 2, 41, 25, 24, 23] ++ XS) ([18, 19, 12, 30, 23, 26, 25, 26, 27, 28] ++ XA) z z') (hy : Fr ([111, 112, 101, 128, 119, 129] ++ MS) ([105, 107, 109, 101, 117, 113, 115, 119] ++ MA) y y') (hc : ∀ (nd : Nat) (ng : Nat) (tl : Nat) (sn : Nat) (v : Nat → Nat) (a : Nat) (n : Nat), HouseI nd ng (gI z 26) (gI z 27) (gI z 28) (gI z 29) (gA z 18) (gA z 19) (gI y 111) (gI y 112) (gA y 105) (gA y 107) (gA y 109) → TapeI tl (gI z 2) (gA z 12) (gI y 101) (gA y 101) → SeenI nd sn (gI z 41) (gA z 30) (gI y 128) (gA y 117) → TaI V nd (v 0) (gA y 113) (gA z 23) (gA z 26) → PastI V nd a n v (gI z 25) (gI z 24) (gA z 25) (gA z 26) (gI y 119) (gA y 115) → ImgI V nd (gI z 23) (gA z 27) (gA z 28) (gI y 129) (gA y 119) → ∃ nd' : Nat, ∃ ng' : Nat, ∃ tl' : Nat, ∃ sn' : Nat, ∃ v' : Nat → Nat, ∃ a' : Nat, ∃ n' : Nat, HouseI nd' ng' (gI z' 26) (gI z' 27) (gI z' 28) (gI z' 29) (gA z' 18) (gA z' 19) (gI y' 111) (gI y' 112) (gA y' 105) (gA y' 107) (gA y' 109) ∧ TapeI tl' (gI z' 2) (gA z' 12) (gI y' 101) (gA y' 101) ∧ SeenI nd' sn' (gI z' 41) (gA z' 30) (gI y' 128) (gA y' 117) ∧ TaI V' nd' (v' 0) (gA y' 113) (gA z' 23) (gA z' 26) ∧ PastI V' nd' a' n' v' (gI z' 25) (gI z' 24) (gA z' 25) (gA z' 26) (gI y' 119) (gA y' 115) ∧ ImgI V' nd' (gI z' 23) (gA z' 27) (gA z' 28) (gI y' 129) (gA y' 119)) : Inv V' z' y' := by
  obtain ⟨nd, ng, tl, ln, wn, sn, a, n, v, hH, hT, hL, hW, hS, hTa, hP, hI, hs⟩ := h
  obtain ⟨nd', ng', tl', sn', v', a', n', hH', hT', hS', hTa', hP', hI'⟩ := hc nd ng tl sn v a n hH hT hS hTa hP hI
  have hL := hL.cg (zz' := gZ z') (zc' := gA z') (fun k _ _ => by rw [hz.2.2.1]) (fun k h1 h2 => hz.2.1 k (by have : k = 36 ∨ k = 37 ∨ k = 38 ∨ k = 39 := (by omega); rcases this with rfl | rfl | rfl | rfl <;> decide))
  have hW := hW.cg (zz' := gZ z') (zc' := gA z') (fun k _ _ => by rw [hz.2.2.1]) (fun k h1 h2 => hz.2.1 k (by have : k = 32 ∨ k = 33 ∨ k = 34 ∨ k = 35 := (by omega); rcases this with rfl | rfl | rfl | rfl <;> decide))
  refine ⟨nd', ng', tl', ln, wn, sn', a', n', v', hH', hT', ?_, ?_, hS', hTa', hP', hI', ?_⟩
  · rw [hz.1 30 (by decide), hz.1 31 (by decide), hy.1 102 (by decide), hy.1 117 (by decide), hy.2.1 102 (by decide), hy.2.1 103 (by decide)]; exact hL
  · rw [hz.1 0 (by decide), hy.1 115 (by decide), hy.2.1 111 (by decide), hy.2.1 112 (by decide)]; exact hW
  · rw [hz.1 1 (by decide), hy.1 118 (by decide)]; exact hs
