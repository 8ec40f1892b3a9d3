def XS : List Nat := [3, 4, 5, 6, 7, 8, 9, 10, 11, 12, 13, 14, 15, 16, 17, 18, 19, 20, 21, 22, 32, 33, 34, 35, 36, 37, 38, 39, 40]
def XA : List Nat := [13, 14, 15, 16, 21, 22, 24, 29, 31]
def MS : List Nat := [100, 103, 104, 105, 106, 107, 108, 109, 110, 113, 114, 116, 120, 121, 122, 123, 124, 125, 126, 127]
def MA : List Nat := [104, 106, 108, 110, 114, 116, 118]
theorem TB.mono {V V' nd : Nat} {c : Nat → Int32} (h : TB V nd c) (hV : V ≤ V') : TB V' nd c := by
  obtain ⟨h1, h2, h3, ⟨v, hv, e⟩, h5, h6, h7, h8⟩ := h
  refine ⟨h1, h2, h3, ⟨v, by omega, e⟩, h5, h6, fun g hg => ?_, h8⟩
  obtain ⟨j, hj, e⟩ := h7 g hg
  exact ⟨j, by omega, e⟩
theorem TaI.mono {V V' nd v : Nat} {w c l : Nat → Int32} (h : TaI V nd v w c l) (hV : V ≤ V') : TaI V' nd v w c l := ⟨h.1, h.2.1.mono hV, h.2.2.1, Nat.le_trans h.2.2.2.1 hV, h.2.2.2.2⟩
theorem PastI.mono {V V' nd a n : Nat} {v : Nat → Nat} {zk zn yk : Int32} {zp l yp : Nat → Int32} (h : PastI V nd a n v zk zn zp l yk yp) (hV : V ≤ V') : PastI V' nd a n v zk zn zp l yk yp :=
  ⟨h.1, h.2.1, h.2.2.1, h.2.2.2.1, h.2.2.2.2.1, fun j hj => ⟨(h.2.2.2.2.2 j hj).1, (h.2.2.2.2.2 j hj).2.1, (h.2.2.2.2.2 j hj).2.2.mono hV⟩⟩
theorem ImgI.mono {V V' nd : Nat} {zi yi : Int32} {zc l yr : Nat → Int32} (h : ImgI V nd zi zc l yi yr) (hV : V ≤ V') : ImgI V' nd zi zc l yi yr :=
  h.imp id (fun q => ⟨q.1, q.2.1, q.2.2.elim (fun v hv => ⟨v, hv.mono hV⟩)⟩)
theorem LawI.cg {ln : Nat} {a b e f : Int32} {zz zz' : Nat → Nat} {zc zc' : Nat → Nat → Int32} {yt yl : Nat → Int32} (h : LawI ln a b zz zc e f yt yl) (hz : ∀ k, 12 ≤ k → k < 16 → zz' k = zz k) (hc : ∀ k, 36 ≤ k → k < 40 → zc' k = zc k) : LawI ln a b zz' zc' e f yt yl := by
  refine ⟨h.1, h.2.1, h.2.2.1, h.2.2.2.1, fun q hq => ?_⟩
  have hl := h.2.2.1
  rw [hz _ (by omega) (by omega), hc _ (by omega) (by omega)]
  exact h.2.2.2.2 q hq
theorem WinI.cg {wn : Nat} {a e : Int32} {zz zz' : Nat → Nat} {zc zc' : Nat → Nat → Int32} {yw yl : Nat → Int32} (h : WinI wn a zz zc e yw yl) (hz : ∀ k, 8 ≤ k → k < 12 → zz' k = zz k) (hc : ∀ k, 32 ≤ k → k < 36 → zc' k = zc k) : WinI wn a zz' zc' e yw yl := by
  refine ⟨h.1, h.2.1, h.2.2.1, fun q hq => ?_⟩
  have hl := h.2.2.1
  rw [hz _ (by omega) (by omega), hc _ (by omega) (by omega)]
  exact h.2.2.2 q hq
theorem fr_hi {z z' : St} {is as : List Nat} (h : Fr is as z z') (ha : ∀ a, a ∈ as → a < 32) (k : Nat) (hk : 32 ≤ k) : gA z' k = gA z k := h.2.1 k (fun q => by have := ha k q; omega)
theorem Inv.mono {V V' : Nat} {z y : St} (h : Inv V z y) (hV : V ≤ V') : Inv V' z y := by
  obtain ⟨nd, ng, tl, ln, wn, sn, a, n, v, hH, hT, hL, hW, hS, hTa, hP, hI, hs⟩ := h
  exact ⟨nd, ng, tl, ln, wn, sn, a, n, v, hH, hT, hL, hW, hS, hTa.mono hV, hP.mono hV, hI.mono hV, hs⟩
/-- scratch may change -/
theorem Inv.fr {V V' : Nat} {z y z' y' : St} (h : Inv V z y) (hV : V ≤ V') (hz : Fr XS XA z z') (hy : Fr MS MA y y') : Inv V' z' y' := by
  have h := h.mono hV
  obtain ⟨nd, ng, tl, ln, wn, sn, a, n, v, hH, hT, hL, hW, hS, hTa, hP, hI, hs⟩ := h
  have hh : ∀ k, 32 ≤ k → gA z' k = gA z k := fr_hi hz (by decide)
  have hL := hL.cg (zz' := gZ z') (zc' := gA z') (fun k _ _ => by rw [hz.2.2.1]) (fun k h1 _ => hh k (by omega))
  have hW := hW.cg (zz' := gZ z') (zc' := gA z') (fun k _ _ => by rw [hz.2.2.1]) (fun k h1 _ => hh k (by omega))
  refine ⟨nd, ng, tl, ln, wn, sn, a, n, v, ?_, ?_, ?_, ?_, ?_, ?_, ?_, ?_, ?_⟩

  · rw [hz.1 26 (by decide), hz.1 27 (by decide), hz.1 28 (by decide), hz.1 29 (by decide), hz.2.1 18 (by decide), hz.2.1 19 (by decide), hy.1 111 (by decide), hy.1 112 (by decide), hy.2.1 105 (by decide), hy.2.1 107 (by decide), hy.2.1 109 (by decide)]; exact hH
  · rw [hz.1 2 (by decide), hz.2.1 12 (by decide), hy.1 101 (by decide), hy.2.1 101 (by decide)]; exact hT
  · rw [hz.1 30 (by decide), hz.1 31 (by decide), hy.1 102 (by decide), hy.1 117 (by decide), hy.2.1 102 (by decide), hy.2.1 103 (by decide)]; exact hL
  · rw [hz.1 0 (by decide), hy.1 115 (by decide), hy.2.1 111 (by decide), hy.2.1 112 (by decide)]; exact hW
  · rw [hz.1 41 (by decide), hz.2.1 30 (by decide), hy.1 128 (by decide), hy.2.1 117 (by decide)]; exact hS
  · rw [hz.2.1 23 (by decide), hz.2.1 26 (by decide), hy.2.1 113 (by decide)]; exact hTa
  · rw [hz.1 25 (by decide), hz.1 24 (by decide), hz.2.1 25 (by decide), hz.2.1 26 (by decide), hy.1 119 (by decide), hy.2.1 115 (by decide)]; exact hP
  · rw [hz.1 23 (by decide), hz.2.1 27 (by decide), hz.2.1 28 (by decide), hy.1 129 (by decide), hy.2.1 119 (by decide)]; exact hI
  · rw [hz.1 1 (by decide), hy.1 118 (by decide)]; exact hs
