/-! acts: a visit, a month, the host, of both sides -/
theorem vis_TR {w c : Nat → Int32} (h : TR w c) {q : Nat → Nat} {mo : Nat} {l : Int32} {br : Option Nat} {mood got g : Nat} (hg : g < 6) (hb : ∀ b, br = some b → b < 6) : TR (visW q mo l br mood got g w) (visC q mo l br mood got g c) := by
  have t := h.g hg
  have t3 := h.b.2.2.2
  have e3 : (3 : Nat) = pi 27 := by decide
  have e0 : (0 : Nat) = pi 24 := by decide
  cases br with
  | none =>
    show TR (upd (upd (upd w (3 * g + 1) (nI (moodN mood (joyN q mo l got)))) (3 * g + 2) (w (3 * g + 2) + nI (joyN q mo l got))) 27 (w 27 + 1)) (upd (upd (upd c (10 + g) (nI (moodN mood (joyN q mo l got)))) (16 + g) (c (16 + g) + nI (joyN q mo l got))) 3 (c 3 + 1))
    rw [t.2.2, t3]
    exact ((h.up (by omega) (pi_h hg) _).up (by omega) (pi_j hg) _).up (by omega) e3 _
  | some b =>
    have hb6 := hb b rfl
    have e : visC q mo l (some b) mood got g c = upd (upd (upd (upd (upd c (10 + g) (nI (moodN mood (joyN q mo l got)))) (16 + g) (c (16 + g) + nI (joyN q mo l got))) (4 + g) (c (4 + g) - c (22 + b))) 0 (nI b)) 3 (c 3 + 1) := by
      show upd (upd (upd _ 3 _) (4 + g) _) 0 _ = _
      rw [fa_upd_swap _ (show 3 ≠ 4 + g by omega), fa_upd_swap _ (show 3 ≠ 0 by decide)]
    rw [e]
    show TR (upd (upd (upd (upd (upd w (3 * g + 1) (nI (moodN mood (joyN q mo l got)))) (3 * g + 2) (w (3 * g + 2) + nI (joyN q mo l got))) (3 * g) (w (3 * g) - w (18 + b))) 24 (nI b)) 27 (w 27 + 1)) _
    rw [t.2.2, t.1, t3, h.d hb6]
    exact ((((h.up (by omega) (pi_h hg) _).up (by omega) (pi_j hg) _).up (by omega) (pi_m hg) _).up (by omega) e0 _).up (by omega) e3 _
theorem vis_TB {V nd v : Nat} {c : Nat → Int32} (h : TB V nd c) (hv : v ≤ V) (ev3 : c 3 = nI v) {q : Nat → Nat} {mo : Nat} {l : Int32} {br : Option Nat} {mood got g : Nat} (hg : g < 6) (hm : mood ≤ 9) (hj : joyN q mo l got ≤ 18) (hb : ∀ b, br = some b → b < 6 ∧ b < nd ∧ c (22 + b) ≤ c (4 + g)) : TB (V + 1) nd (visC q mo l br mood got g c) := by
  obtain ⟨m, hm9, em⟩ := h.2.2.2.2.1 g hg
  obtain ⟨j, hj9, ej⟩ := h.2.2.2.2.2.2.1 g hg
  have h1 := h.mono (Nat.le_succ V)
  have e1 : c 3 + 1 = nI (v + 1) := by rw [ev3, nI_1]
  have e2 : c (16 + g) + nI (joyN q mo l got) = nI (j + joyN q mo l got) := by rw [ej, nI_add]
  have b1 : TB (V + 1) nd (upd (upd (upd c (10 + g) (nI (moodN mood (joyN q mo l got)))) (16 + g) (c (16 + g) + nI (joyN q mo l got))) 3 (c 3 + 1)) := by
    rw [e1, e2]
    exact ((h1.mood hg (moodN_le hm)).joy hg (by omega)).vis (by omega)
  cases br with
  | none => exact b1
  | some b =>
    obtain ⟨hb6, hbn, hbp⟩ := hb b rfl
    obtain ⟨p, hp, ep⟩ := h.2.2.2.2.2.2.2 b hb6
    rw [ep, em, nI_leI (by omega) (by omega)] at hbp
    show TB (V + 1) nd (upd (upd (upd (upd (upd c (10 + g) (nI (moodN mood (joyN q mo l got)))) (16 + g) (c (16 + g) + nI (joyN q mo l got))) 3 (c 3 + 1)) (4 + g) (c (4 + g) - c (22 + b))) 0 (nI b))
    rw [em, ep, pk_sub hbp]
    exact (b1.money hg (by omega)).bottle (by omega)
theorem visC_3 {q : Nat → Nat} {mo : Nat} {l : Int32} {br : Option Nat} {mood got g : Nat} {c : Nat → Int32} : visC q mo l br mood got g c 3 = c 3 + 1 := by
  cases br with
  | none => show upd _ 3 _ 3 = _; rw [pk_us]
  | some b => show upd (upd (upd _ 3 _) (4 + g) _) 0 _ 3 = _; rw [pk_un (by decide), pk_un (by omega), pk_us]
theorem visW_hi {q : Nat → Nat} {mo : Nat} {l : Int32} {br : Option Nat} {mood got g : Nat} {w : Nat → Int32} (hg : g < 6) {k : Nat} (hk : 28 ≤ k) : visW q mo l br mood got g w k = w k := by
  cases br with
  | none => show upd (upd (upd w _ _) _ _) 27 _ k = _; rw [pk_un (by omega), pk_un (by omega), pk_un (by omega)]
  | some b => show upd (upd (upd (upd (upd w _ _) _ _) _ _) 24 _) 27 _ k = _; rw [pk_un (by omega), pk_un (by omega), pk_un (by omega), pk_un (by omega), pk_un (by omega)]
def lineL (v : Nat) (a b c d : Int32) (L : Nat → Int32) : Nat → Int32 := upd (upd (upd (upd L (4 * (v % 100)) a) (4 * (v % 100) + 1) b) (4 * (v % 100) + 2) c) (4 * (v % 100) + 3) d
theorem q_write {post : St → Prop} {z : St} {v : Nat} {a b c d : Int32} (hv : v < 2 ^ 30) (h : post (sF z 26 (lineL v a b c d (gA z 26)))) : S_Memory_write post (nI v) a b c d z := by
  unfold S_Memory_write
  have hm := Nat.mod_lt v (show 0 < 100 by omega)
  refine q_place hv ?_
  rw [show v % 100 * 4 = 4 * (v % 100) by omega, k1, k2, k3, nI_add, nI_add, nI_add, nI_clamp (by omega), nI_clamp (by omega), nI_clamp (by omega), nI_clamp (by omega)]
  refine ⟨(vp_in_nI (by omega) (by omega)), ev ⟨(vp_in_nI (by omega) (by omega)), ev ⟨(vp_in_nI (by omega) (by omega)), ev ⟨(vp_in_nI (by omega) (by omega)), ev ?_⟩⟩⟩⟩
  show post (sA (sA (sA (sF z 26 (upd (gA z 26) (4 * (v % 100)) a)) 26 _ b) 26 _ c) 26 _ d)
  rw [sA_sF, sA_sF, sA_sF]
  exact h
theorem lineL_out {v : Nat} {a b c d : Int32} {L : Nat → Int32} {k : Nat} (h : k < 4 * (v % 100) ∨ 4 * (v % 100) + 4 ≤ k) : lineL v a b c d L k = L k := by
  unfold lineL; rw [pk_un (by omega), pk_un (by omega), pk_un (by omega), pk_un (by omega)]
theorem lineL_0 {v : Nat} {a b c d : Int32} {L : Nat → Int32} : lineL v a b c d L (4 * (v % 100)) = a := by
  unfold lineL; rw [pk_un (by omega), pk_un (by omega), pk_un (by omega), pk_us]
theorem lineL_1 {v : Nat} {a b c d : Int32} {L : Nat → Int32} : lineL v a b c d L (4 * (v % 100) + 1) = b := by
  unfold lineL; rw [pk_un (by omega), pk_un (by omega), pk_us]
theorem lineL_2 {v : Nat} {a b c d : Int32} {L : Nat → Int32} : lineL v a b c d L (4 * (v % 100) + 2) = c := by
  unfold lineL; rw [pk_un (by omega), pk_us]
theorem lineL_3 {v : Nat} {a b c d : Int32} {L : Nat → Int32} : lineL v a b c d L (4 * (v % 100) + 3) = d := by
  unfold lineL; rw [pk_us]
theorem BK.vis {nd v g got : Nat} {w w' L : Nat → Int32} {br joy : Int32} (h : BK nd v w L) (hw : ∀ k, 28 ≤ k → k < 269 → w' k = w k) (hgot : got < nd) : BK nd (v + 1) (bookW (min 60 v) g got br joy w') (lineL (v + 1) (nI g) (nI got) br joy L) := by
  obtain ⟨b1, b2, b3⟩ := h
  have old : ∀ i t, 0 < i → i < min 60 (v + 1) → t < 4 → lineL (v + 1) (nI g) (nI got) br joy L (4 * ((v + 1 - i) % 100) + t) = L (4 * ((v - (i - 1)) % 100) + t) := fun i t h0 hi ht => by
    rw [lineL_out (by omega), show v + 1 - i = v - (i - 1) by omega]
  by_cases c : v < 60
  · have e1 : min 60 v = v := by omega
    have e2 : min 60 (v + 1) = v + 1 := by omega
    rw [e1] at b1 b2 b3
    unfold bookW
    rw [e1, if_neg (by omega)]
    unfold BK rowW
    rw [e2]
    refine ⟨by rw [pk_us], fun i t hi ht => ?_, fun i hi => ?_⟩
    · rw [pk_un (by omega)]
      rcases Nat.eq_zero_or_pos i with e | e
      · subst e
        rw [show v + 1 - 1 - 0 = v by omega, show v + 1 - 0 = v + 1 by omega]
        have : t = 0 ∨ t = 1 ∨ t = 2 ∨ t = 3 := by omega
        rcases this with rfl | rfl | rfl | rfl
        · rw [pk_un (by omega), pk_un (by omega), pk_un (by omega), show 29 + 4 * v + 0 = 29 + 4 * v from rfl, pk_us]; exact lineL_0.symm
        · rw [pk_un (by omega), pk_un (by omega), pk_us]; exact lineL_1.symm
        · rw [pk_un (by omega), pk_us]; exact lineL_2.symm
        · rw [pk_us]; exact lineL_3.symm
      · rw [pk_un (by omega), pk_un (by omega), pk_un (by omega), pk_un (by omega), hw _ (by omega) (by omega), old i t e (by omega) ht, ← b2 (i - 1) t (by omega) ht]
        congr 1; omega
    · rcases Nat.eq_zero_or_pos i with e | e
      · subst e; exact ⟨got, hgot, lineL_1⟩
      · rw [old i 1 e (by omega) (by omega)]; exact b3 (i - 1) (by omega)
  · have e1 : min 60 v = 60 := by omega
    have e2 : min 60 (v + 1) = 60 := by omega
    rw [e1] at b1 b2 b3
    unfold bookW
    rw [e1, if_pos rfl]
    unfold BK rowW
    rw [e2]
    refine ⟨by rw [pk_us], fun i t hi ht => ?_, fun i hi => ?_⟩
    · rw [pk_un (by omega)]
      rcases Nat.eq_zero_or_pos i with e | e
      · subst e
        rw [show 60 - 1 - 0 = 59 by omega, show v + 1 - 0 = v + 1 by omega]
        have : t = 0 ∨ t = 1 ∨ t = 2 ∨ t = 3 := by omega
        rcases this with rfl | rfl | rfl | rfl
        · rw [pk_un (by omega), pk_un (by omega), pk_un (by omega), show 29 + 4 * 59 + 0 = 29 + 4 * 59 from rfl, pk_us]; exact lineL_0.symm
        · rw [pk_un (by omega), pk_un (by omega), pk_us]; exact lineL_1.symm
        · rw [pk_un (by omega), pk_us]; exact lineL_2.symm
        · rw [pk_us]; exact lineL_3.symm
      · rw [pk_un (by omega), pk_un (by omega), pk_un (by omega), pk_un (by omega), pk_un (by omega)]
        unfold shf
        rw [if_pos (by omega), hw _ (by omega) (by omega), old i t e (by omega) ht, ← b2 (i - 1) t (by omega) ht]
        congr 1; omega
    · rcases Nat.eq_zero_or_pos i with e | e
      · subst e; exact ⟨got, hgot, lineL_1⟩
      · rw [old i 1 e (by omega) (by omega)]; exact b3 (i - 1) (by omega)
/-- a new line: the acts' books don't reach it -/
theorem PastI.line {V nd a n : Nat} {v : Nat → Nat} {zk zn yk : Int32} {zp L L' yp : Nat → Int32} (h : PastI V nd a n v zk zn zp L yk yp) (h1 : 0 < a → v 1 = v 0) (hL : ∀ k, (k < 4 * ((v 0 + 1) % 100) ∨ 4 * ((v 0 + 1) % 100) + 4 ≤ k) → L' k = L k) : PastI V nd a n (fun j => if j = 0 then v 0 + 1 else v j) zk zn zp L' yk yp := by
  obtain ⟨p1, p2, p3, p4, p5, p6⟩ := h
  have ch : ∀ j, j < a → v 0 ≤ v (j + 1) + j ∧ v (j + 1) ≤ v 0 := by
    intro j
    induction j with
    | zero => intro hj; rw [h1 hj]; omega
    | succ j ih => intro hj; have i1 := ih (by omega); have := p6 (j + 1) hj; omega
  refine ⟨p1, p2, p3, p4, p5, fun j hj => ?_⟩
  obtain ⟨d1, d2, t1, t2, t3, t4, t5⟩ := p6 j hj
  have c := ch j hj
  refine ⟨?_, ?_, t1, t2, t3, t4, t5.cg (fun _ _ _ => rfl) (fun i t hi ht => hL _ ?_)⟩
  · show (if j + 1 = 0 then v 0 + 1 else v (j + 1)) ≤ (if j = 0 then v 0 + 1 else v j)
    rw [if_neg (by omega)]; split
    · rename_i e; subst e; omega
    · exact d1
  · show (if j = 0 then v 0 + 1 else v j) ≤ (if j + 1 = 0 then v 0 + 1 else v (j + 1)) + 1
    rw [if_neg (show ¬ j + 1 = 0 by omega)]; split
    · rename_i e; subst e; rw [h1 hj]; omega
    · exact d2
  · have hi2 : i < min 60 (v (j + 1)) := hi
    show 4 * ((v (j + 1) - i) % 100) + t < _ ∨ _
    omega
theorem bookW_lo {bl g got : Nat} {br joy : Int32} {w : Nat → Int32} {k : Nat} (hk : k < 28) : bookW bl g got br joy w k = w k := by
  unfold bookW rowW
  split
  · rw [pk_un (by omega), pk_un (by omega), pk_un (by omega), pk_un (by omega), pk_un (by omega), pk_un (by omega)]
    unfold shf; rw [if_neg (by omega)]
  · rw [pk_un (by omega), pk_un (by omega), pk_un (by omega), pk_un (by omega), pk_un (by omega)]
/-- an act of a visit: kept, then visited, a line written -/
theorem Inv.actV {V V' : Nat} {z y z' y' : St} (h : Inv V z y) (hV : V + 1 ≤ V') (hVb : V < 2 ^ 29) {nd ng mo wg : Nat} {q : Nat → Nat} {lk : Nat → Int32} {lw : Option ((Nat → Int32) → Int32)} (hC : CZ nd ng mo wg q lk lw z) (hl : Lim nd ng mo wg q) {a n v mood got g : Nat} {br : Option Nat} (hg : g < ng) (hgot : got < nd) (hm : mood ≤ 9) (ha : gI z 25 = nI a) (h4 : a ≤ 40) (hn : gI z 24 = nI n) (hn4 : n < 40) (e3 : gA z 23 3 = nI v) (hv : v < 2 ^ 29) (hbr : ∀ b, br = some b → b < nd ∧ gA z 23 (22 + b) ≤ gA z 23 (4 + g))
    (hz : Fr XS (23 :: 26 :: XA) (keepX a n z) z') (hy : Fr MS (113 :: MA) (remY a y) y') (e23 : gA z' 23 = visC q mo (lk g) br mood got g (gA z 23)) (e26 : gA z' 26 = lineL (v + 1) (nI g) (nI got) (enc br) (nI (joyN q mo (lk g) got)) (gA z 26)) (e113 : gA y' 113 = bookW (min 60 v) g got (enc br) (nI (joyN q mo (lk g) got)) (visW q mo (lk g) br mood got g (gA y 113))) : Inv V' z' y' := by
  have h6 := hl.1
  have g6 := hl.2.1
  have fy : Fr ([119] ++ MS) ([113, 115] ++ MA) y (remY a y) := (Fr.rf.sF (by decide)).sI (by decide)
  refine h.u_act (show V ≤ V' by omega) (fr_keep.tr (hz.wk (fun k hk => List.mem_append_right _ hk) (fun k hk => ?_))) (fy.tr (hy.wk (fun k hk => List.mem_append_right _ hk) (fun k hk => ?_))) ?_
  · rcases List.mem_cons.mp hk with e | e
    · subst e; decide
    · rcases List.mem_cons.mp e with e | e
      · subst e; decide
      · exact List.mem_append_right _ e
  · rcases List.mem_cons.mp hk with e | e
    · subst e; decide
    · exact List.mem_append_right _ e
  · intro nd' ng' vv a' n' hH hTa hP
    have ea : a' = a := (nI_eq (by have := hP.2.2.1; omega) (by omega)).mp (hP.1.symm.trans ha)
    have en : n' = n := (nI_eq (by have := hP.2.2.2.2.1; omega) (by omega)).mp (hP.2.2.2.1.symm.trans hn)
    have end' : nd' = nd := (nI_eq (by have := hH.2.2.2.2.1; omega) (by omega)).mp (hH.1.symm.trans hC.1)
    subst ea en end'
    have evv : vv 0 = v := (nI_eq (by have := hTa.2.2.2.1; omega) (by omega)).mp (hTa.2.2.1.symm.trans e3)
    have hP1 := (hP.keep hTa).line (L' := gA z' 26) (fun _ => rfl) (fun k hk => by rw [e26]; exact lineL_out (by rw [← evv]; exact hk))
    have hvV := hTa.2.2.2.1
    refine ⟨fun j => if j = 0 then vv 0 + 1 else vv (j - 1), min 40 (a' + 1), (n' + 1) % 40, ?_, ?_⟩
    · show TaI V' nd' (vv 0 + 1) _ _ _
      rw [e23, e26, e113, evv]
      have tr := vis_TR hTa.1 (q := q) (mo := mo) (l := lk g) (br := br) (mood := mood) (got := got) (show g < 6 by omega) (fun b hb => by have := hbr b hb; omega)
      have tb := vis_TB hTa.2.1 (v := v) (by omega) e3 (q := q) (mo := mo) (l := lk g) (br := br) (mood := mood) (got := got) (show g < 6 by omega) hm (joyN_le hl hgot) (fun b hb => ⟨by have := hbr b hb; omega, (hbr b hb).1, (hbr b hb).2⟩)
      refine ⟨tr.cg (fun k hk => bookW_lo hk) (fun _ _ => rfl), tb.mono hV, ?_, by omega, ?_⟩
      · rw [visC_3, e3, nI_1]
      · have hb := hTa.2.2.2.2
        rw [evv] at hb
        exact hb.vis (fun k hk _ => visW_hi (by omega) hk) hgot
    · rw [show gI z' 25 = nI (min 40 (a' + 1)) from hz.1 25 (by decide), show gI z' 24 = nI ((n' + 1) % 40) from hz.1 24 (by decide), show gA z' 25 = va_cpy (gA z 23) (gA z 25) 0 (28 * n') 28 from hz.2.1 25 (by decide), show gI y' 119 = nI (min 40 (a' + 1)) from hy.1 119 (by decide), show gA y' 115 = remR a' (gA y 113) (gA y 115) from hy.2.1 115 (by decide)]
      exact hP1.mono (show V ≤ V' by omega)
theorem q_actG {post : Int32 → St → Prop} {nd ng mo wg : Nat} {q : Nat → Nat} {lk : Nat → Int32} {lw : Option ((Nat → Int32) → Int32)} {z : St} (hC : CZ nd ng mo wg q lk lw z) (hl : Lim nd ng mo wg q) {mood got g a n v : Nat} (hg : g < ng) (hgot : got < nd) (eg : gA z 23 0 = nI got) (hm : mood ≤ 9) (em : gA z 23 (10 + g) = nI mood) (ha : gI z 25 = nI a) (h4 : a ≤ 40) (hn : gI z 24 = nI n) (hn4 : n < 40) (e3 : gA z 23 3 = nI v) (hv : v < 2 ^ 29)
    (h : ∀ (br : Option Nat) (z' : St), br = bringN nd q mo (fun d => gA z 23 (22 + d)) lw (lk g) mood (gA z 23 (4 + g)) (gA z 23 3) got → Fr XS (23 :: 26 :: XA) (keepX a n z) z' → gA z' 23 = visC q mo (lk g) br mood got g (gA z 23) → gA z' 26 = lineL (v + 1) (nI g) (nI got) (enc br) (nI (joyN q mo (lk g) got)) (gA z 26) → post 1 z') : S_B_act post (0 : Int32) (nI g) z := by
  have h6 := hl.1
  have g6 := hl.2.1
  unfold S_B_act S_Table_canBe_8
  refine pp_y rfl (q_House_hasGuest_y hC.2.1 hl.2.1 hg ⟨.inr rfl, r11 (q_keep ha h4 hn hn4 (pp_y rfl ?_))⟩)
  have hK : CZ nd ng mo wg q lk lw (keepX a n z) := hC.fr fr_keep (by decide) (by decide)
  unfold S_Table_bottle_8 S_Table_gladness_8
  show vp_in (nI g) 6 ∧ S_House_joyBy _ (gA (keepX a n z) 19 (nI g).toNatClampNeg) (gA (keepX a n z) 23 0) (keepX a n z)
  rw [show gA (keepX a n z) 23 0 = nI got from eg, nI_clamp (by omega), hK.2.2.2.2.2.1 g hg]
  refine ⟨(vp_in_nI (by omega) (by omega)), q_joyX hK hl hgot (q_receive8 hK hl hg hgot eg hm em (fun z' hf ec => ?_))⟩
  unfold S_Table_visits_8
  have e4 : gA z' 23 3 = nI (v + 1) := by rw [ec, visC_3, show gA (keepX a n z) 23 3 = nI v from e3, nI_1]
  rw [e4]
  refine q_write (by omega) (h _ _ rfl ((hf.wk (by decide) (by decide)).sF (by decide)) ec ?_)
  rw [gA_sF, if_pos rfl, show gA z' 26 = gA z 26 from hf.2.1 26 (by decide)]
  rfl
/-! months -/
def payR (pos : Nat → Nat) (wg : Nat) : Nat → (Nat → Int32) → (Nat → Int32)
  | 0, c => c
  | k + 1, c => upd (payR pos wg k c) (pos k) (nI (min 99 ((payR pos wg k c (pos k)).toNatClampNeg + wg)))
theorem payR_out {pos : Nat → Nat} {wg i : Nat} {c : Nat → Int32} : ∀ k, (∀ j, j < k → pos j ≠ i) → payR pos wg k c i = c i
  | 0, _ => rfl
  | k + 1, h => by
    show upd _ (pos k) _ i = _
    rw [pk_un (fun e => h k (by omega) e.symm)]
    exact payR_out k (fun j hj => h j (by omega))
/-- the reference's cells behind a month, and the class's -/
def monW (ng wg : Nat) (w : Nat → Int32) : Nat → Int32 := upd (upd (payR (fun k => 3 * k) wg ng w) 26 0) 25 (w 25 + 1)
def monC (ng wg : Nat) (c : Nat → Int32) : Nat → Int32 := payR (fun k => 4 + k) wg ng (upd (upd c 1 (c 1 + 1)) 2 0)
theorem mon_TR {w c : Nat → Int32} (h : TR w c) {ng wg : Nat} (hg : ng ≤ 6) : TR (monW ng wg w) (monC ng wg c) := by
  unfold monW monC
  have hi : ∀ k, k ≤ 6 → TR (upd (upd (payR (fun k => 3 * k) wg k w) 26 0) 25 (w 25 + 1)) (payR (fun k => 4 + k) wg k (upd (upd c 1 (c 1 + 1)) 2 0)) := by
    intro k
    induction k with
    | zero =>
      intro _
      show TR (upd (upd w 26 0) 25 (w 25 + 1)) (upd (upd c 1 (c 1 + 1)) 2 0)
      rw [fa_upd_swap c (show 1 ≠ 2 by decide), h.b.2.1]
      exact (h.up (by omega) (show 2 = pi 26 by decide) _).up (by omega) (show 1 = pi 25 by decide) _
    | succ k ih =>
      intro hk
      have t := ih (by omega)
      have e := (t.g (show k < 6 by omega)).1
      rw [pk_un (by omega), pk_un (by omega)] at e
      show TR (upd (upd (upd (payR (fun k => 3 * k) wg k w) (3 * k) (nI (min 99 ((payR (fun k => 3 * k) wg k w (3 * k)).toNatClampNeg + wg)))) 26 0) 25 (w 25 + 1)) (upd (payR (fun k => 4 + k) wg k (upd (upd c 1 (c 1 + 1)) 2 0)) (4 + k) (nI (min 99 ((payR (fun k => 4 + k) wg k (upd (upd c 1 (c 1 + 1)) 2 0) (4 + k)).toNatClampNeg + wg))))
      rw [fa_upd_swap _ (show 3 * k ≠ 26 by omega), fa_upd_swap _ (show 3 * k ≠ 25 by omega), e]
      exact t.up (by omega) (pi_m (by omega)) _
  exact hi ng hg
theorem pay_TB {V nd wg : Nat} {c : Nat → Int32} (h : TB V nd c) : ∀ k, k ≤ 6 → TB V nd (payR (fun k => 4 + k) wg k c)
  | 0, _ => h
  | k + 1, hk => (pay_TB h k (by omega)).money (by omega) (by omega)
theorem mon_TB {V nd ng wg m : Nat} {c : Nat → Int32} (h : TB V nd c) (hg : ng ≤ 6) (em : c 1 = nI m) (hm : m < 999) : TB V nd (monC ng wg c) := by
  unfold monC
  refine pay_TB ?_ ng hg
  rw [em, nI_1]
  exact (h.month (by omega)).put (.inl rfl)
theorem q_give8 {post : St → Prop} {z : St} {g m wg : Nat} (hg : g < 6) (hm : m ≤ 99) (hw : wg ≤ 99) (e : gA z 23 (4 + g) = nI m) (h : post (sF z 23 (upd (gA z 23) (4 + g) (nI (min 99 ((gA z 23 (4 + g)).toNatClampNeg + wg)))))) : S_Table_give_8 post (nI g) (nI wg) z := by
  unfold S_Table_give_8 S_Math_min_7cf53_X
  rw [e, nI_clamp (by omega)] at h
  rw [k4, nI_add, nI_clamp (by omega), e, nI_add, k99, nI_ltI (by omega) (by omega)]
  refine ⟨(vp_in_nI (by omega) (by omega)), fun c => ⟨(vp_in_nI (by omega) (by omega)), ev ?_⟩, fun c => ⟨(vp_in_nI (by omega) (by omega)), ev ?_⟩⟩
  · rw [show min 99 (m + wg) = m + wg by omega] at h; exact h
  · rw [show min 99 (m + wg) = 99 by omega] at h; exact h
theorem q_month8 {post : St → Prop} {nd ng mo wg : Nat} {q : Nat → Nat} {lk : Nat → Int32} {lw : Option ((Nat → Int32) → Int32)} {z : St} (hC : CZ nd ng mo wg q lk lw z) (hl : Lim nd ng mo wg q) {V nd' : Nat} (tb : TB V nd' (gA z 23)) {m : Nat} (em : gA z 23 1 = nI m) (hm : m < 999) (h : post (sF z 23 (monC ng wg (gA z 23)))) : S_Table_passMonth_8 post z := by
  have g6 := hl.2.1
  have hw := hl.2.2.2.1
  have tb2 : TB V nd' (upd (upd (gA z 23) 1 (gA z 23 1 + 1)) 2 0) := by rw [em, nI_1]; exact (tb.month (by omega)).put (.inl rfl)
  unfold S_Table_passMonth_8
  refine ev (ev ?_)
  show ∃ n, L_Table_passMonth_8_19 post n (0 : Int32) (sA (sF z 23 (upd (gA z 23) 1 (gA z 23 1 + 1))) 23 2 0)
  rw [sA_sF]
  refine lp_up (fun n i => L_Table_passMonth_8_19 post n (nI i) (sF z 23 (payR (fun k => 4 + k) wg i (upd (upd (gA z 23) 1 (gA z 23 1 + 1)) 2 0)))) ng ?_ ?_
  · intro n i hi ih
    show B_Table_passMonth_8_19 post _ _ _
    unfold B_Table_passMonth_8_19
    obtain ⟨mm, hmm, emm⟩ := (pay_TB tb2 i (by omega)).2.2.2.2.1 i (by omega)
    rw [show gI (sF z 23 (payR (fun k => 4 + k) wg i (upd (upd (gA z 23) 1 (gA z 23 1 + 1)) 2 0))) 27 = nI ng from hC.2.1, show gI (sF z 23 (payR (fun k => 4 + k) wg i (upd (upd (gA z 23) 1 (gA z 23 1 + 1)) 2 0))) 28 = nI wg from hC.2.2.1]
    refine pp_n (nI_ge hi (by omega)) (q_give8 (m := mm) (by omega) hmm (by omega) ?_ (ev ?_))
    · rw [gA_sF, if_pos rfl]; exact emm
    · rw [sF_sF, gA_sF, if_pos rfl, nI_1]; exact ih
  · show B_Table_passMonth_8_19 post _ _ _
    unfold B_Table_passMonth_8_19
    rw [show gI (sF z 23 (payR (fun k => 4 + k) wg ng (upd (upd (gA z 23) 1 (gA z 23 1 + 1)) 2 0))) 27 = nI ng from hC.2.1]
    exact pp_y (nI_le (Nat.le_refl _) (by omega)) h
theorem q_monthM113 {post : St → Prop} {nd ng mo wg : Nat} {q : Nat → Nat} {lk : Nat → Int32} {lw : Option ((Nat → Int32) → Int32)} {y : St} (hC : CY nd ng mo wg q lk lw y) (hl : Lim nd ng mo wg q) (hb : ∀ k, k ≤ ng → ∀ g, g < ng → ∃ m, m ≤ 99 ∧ payR (fun k => 3 * k) wg k (gA y 113) (3 * g) = nI m) (h : post (sF y 113 (monW ng wg (gA y 113)))) : S_M_goMonth_r113 post y := by
  have g6 := hl.2.1
  have hw := hl.2.2.2.1
  unfold S_M_goMonth_r113
  have h0 : y = sF y 113 (payR (fun k => 3 * k) wg 0 (gA y 113)) := by show y = sF y 113 (gA y 113); rw [sF_id]
  rw [h0]
  refine lp_up (fun n i => L_M_goMonth_r113_2 post n (nI i) (sF y 113 (payR (fun k => 3 * k) wg i (gA y 113)))) ng ?_ ?_
  · intro n i hi ih
    show B_M_goMonth_r113_2 post _ _ _
    unfold B_M_goMonth_r113_2 S_Math_min_7cf53_M
    obtain ⟨m, hm, em⟩ := hb i (by omega) i hi
    rw [show gI (sF y 113 (payR (fun k => 3 * k) wg i (gA y 113))) 112 = nI ng from hC.2.1, show gA (sF y 113 (payR (fun k => 3 * k) wg i (gA y 113))) 105 1 = nI wg from hC.2.2.1, k3, pk_mul, show nI (3 * i) + 0 = nI (3 * i) from nI_add _ 0, nI_clamp (by omega), gA_sF, if_pos rfl, em, nI_add, k99, nI_ltI (by omega) (by omega), nI_1]
    have ih2 : L_M_goMonth_r113_2 post n (nI (i + 1)) (sF y 113 (upd (payR (fun k => 3 * k) wg i (gA y 113)) (3 * i) (nI (min 99 (m + wg))))) := by
      have e : payR (fun k => 3 * k) wg (i + 1) (gA y 113) = upd (payR (fun k => 3 * k) wg i (gA y 113)) (3 * i) (nI (min 99 (m + wg))) := by
        show upd _ (3 * i) (nI (min 99 ((payR (fun k => 3 * k) wg i (gA y 113) (3 * i)).toNatClampNeg + wg))) = _
        rw [em, nI_clamp (by omega)]
      rw [← e]; exact ih
    refine pp_n (nI_ge hi (by omega)) ⟨(vp_in_nI (by omega) (by omega)), fun c => ⟨(vp_in_nI (by omega) (by omega)), ev (ev ?_)⟩, fun c => ⟨(vp_in_nI (by omega) (by omega)), ev (ev ?_)⟩⟩
    · rw [sA_sF]; rw [show min 99 (m + wg) = m + wg by omega] at ih2; exact ih2
    · rw [sA_sF]; rw [show min 99 (m + wg) = 99 by omega] at ih2; exact ih2
  · show B_M_goMonth_r113_2 post _ _ _
    unfold B_M_goMonth_r113_2
    rw [show gI (sF y 113 (payR (fun k => 3 * k) wg ng (gA y 113))) 112 = nI ng from hC.2.1]
    refine pp_y (nI_le (Nat.le_refl _) (by omega)) (ev (ev ?_))
    rw [sA_sF, sA_sF, gA_sF, if_pos rfl, pk_un (by decide), payR_out ng (fun j hj => by omega)]
    exact h
theorem q_give9 {post : St → Prop} {z : St} {g m wg : Nat} (hg : g < 6) (hm : m ≤ 99) (hw : wg ≤ 99) (e : gA z 24 (4 + g) = nI m) (h : post (sF z 24 (upd (gA z 24) (4 + g) (nI (min 99 ((gA z 24 (4 + g)).toNatClampNeg + wg)))))) : S_Table_give_9 post (nI g) (nI wg) z := by
  unfold S_Table_give_9 S_Math_min_7cf53_X
  rw [e, nI_clamp (by omega)] at h
  rw [k4, nI_add, nI_clamp (by omega), e, nI_add, k99, nI_ltI (by omega) (by omega)]
  refine ⟨(vp_in_nI (by omega) (by omega)), fun c => ⟨(vp_in_nI (by omega) (by omega)), ev ?_⟩, fun c => ⟨(vp_in_nI (by omega) (by omega)), ev ?_⟩⟩
  · rw [show min 99 (m + wg) = m + wg by omega] at h; exact h
  · rw [show min 99 (m + wg) = 99 by omega] at h; exact h
theorem q_month9 {post : St → Prop} {nd ng mo wg : Nat} {q : Nat → Nat} {lk : Nat → Int32} {lw : Option ((Nat → Int32) → Int32)} {z : St} (hC : CZ nd ng mo wg q lk lw z) (hl : Lim nd ng mo wg q) {V nd' : Nat} (tb : TB V nd' (gA z 24)) {m : Nat} (em : gA z 24 1 = nI m) (hm : m < 999) (h : post (sF z 24 (monC ng wg (gA z 24)))) : S_Table_passMonth_9 post z := by
  have g6 := hl.2.1
  have hw := hl.2.2.2.1
  have tb2 : TB V nd' (upd (upd (gA z 24) 1 (gA z 24 1 + 1)) 2 0) := by rw [em, nI_1]; exact (tb.month (by omega)).put (.inl rfl)
  unfold S_Table_passMonth_9
  refine ev (ev ?_)
  show ∃ n, L_Table_passMonth_9_19 post n (0 : Int32) (sA (sF z 24 (upd (gA z 24) 1 (gA z 24 1 + 1))) 24 2 0)
  rw [sA_sF]
  refine lp_up (fun n i => L_Table_passMonth_9_19 post n (nI i) (sF z 24 (payR (fun k => 4 + k) wg i (upd (upd (gA z 24) 1 (gA z 24 1 + 1)) 2 0)))) ng ?_ ?_
  · intro n i hi ih
    show B_Table_passMonth_9_19 post _ _ _
    unfold B_Table_passMonth_9_19
    obtain ⟨mm, hmm, emm⟩ := (pay_TB tb2 i (by omega)).2.2.2.2.1 i (by omega)
    rw [show gI (sF z 24 (payR (fun k => 4 + k) wg i (upd (upd (gA z 24) 1 (gA z 24 1 + 1)) 2 0))) 27 = nI ng from hC.2.1, show gI (sF z 24 (payR (fun k => 4 + k) wg i (upd (upd (gA z 24) 1 (gA z 24 1 + 1)) 2 0))) 28 = nI wg from hC.2.2.1]
    refine pp_n (nI_ge hi (by omega)) (q_give9 (m := mm) (by omega) hmm (by omega) ?_ (ev ?_))
    · rw [gA_sF, if_pos rfl]; exact emm
    · rw [sF_sF, gA_sF, if_pos rfl, nI_1]; exact ih
  · show B_Table_passMonth_9_19 post _ _ _
    unfold B_Table_passMonth_9_19
    rw [show gI (sF z 24 (payR (fun k => 4 + k) wg ng (upd (upd (gA z 24) 1 (gA z 24 1 + 1)) 2 0))) 27 = nI ng from hC.2.1]
    exact pp_y (nI_le (Nat.le_refl _) (by omega)) h
theorem q_monthM114 {post : St → Prop} {nd ng mo wg : Nat} {q : Nat → Nat} {lk : Nat → Int32} {lw : Option ((Nat → Int32) → Int32)} {y : St} (hC : CY nd ng mo wg q lk lw y) (hl : Lim nd ng mo wg q) (hb : ∀ k, k ≤ ng → ∀ g, g < ng → ∃ m, m ≤ 99 ∧ payR (fun k => 3 * k) wg k (gA y 114) (3 * g) = nI m) (h : post (sF y 114 (monW ng wg (gA y 114)))) : S_M_goMonth_r114 post y := by
  have g6 := hl.2.1
  have hw := hl.2.2.2.1
  unfold S_M_goMonth_r114
  have h0 : y = sF y 114 (payR (fun k => 3 * k) wg 0 (gA y 114)) := by show y = sF y 114 (gA y 114); rw [sF_id]
  rw [h0]
  refine lp_up (fun n i => L_M_goMonth_r114_2 post n (nI i) (sF y 114 (payR (fun k => 3 * k) wg i (gA y 114)))) ng ?_ ?_
  · intro n i hi ih
    show B_M_goMonth_r114_2 post _ _ _
    unfold B_M_goMonth_r114_2 S_Math_min_7cf53_M
    obtain ⟨m, hm, em⟩ := hb i (by omega) i hi
    rw [show gI (sF y 114 (payR (fun k => 3 * k) wg i (gA y 114))) 112 = nI ng from hC.2.1, show gA (sF y 114 (payR (fun k => 3 * k) wg i (gA y 114))) 105 1 = nI wg from hC.2.2.1, k3, pk_mul, show nI (3 * i) + 0 = nI (3 * i) from nI_add _ 0, nI_clamp (by omega), gA_sF, if_pos rfl, em, nI_add, k99, nI_ltI (by omega) (by omega), nI_1]
    have ih2 : L_M_goMonth_r114_2 post n (nI (i + 1)) (sF y 114 (upd (payR (fun k => 3 * k) wg i (gA y 114)) (3 * i) (nI (min 99 (m + wg))))) := by
      have e : payR (fun k => 3 * k) wg (i + 1) (gA y 114) = upd (payR (fun k => 3 * k) wg i (gA y 114)) (3 * i) (nI (min 99 (m + wg))) := by
        show upd _ (3 * i) (nI (min 99 ((payR (fun k => 3 * k) wg i (gA y 114) (3 * i)).toNatClampNeg + wg))) = _
        rw [em, nI_clamp (by omega)]
      rw [← e]; exact ih
    refine pp_n (nI_ge hi (by omega)) ⟨(vp_in_nI (by omega) (by omega)), fun c => ⟨(vp_in_nI (by omega) (by omega)), ev (ev ?_)⟩, fun c => ⟨(vp_in_nI (by omega) (by omega)), ev (ev ?_)⟩⟩
    · rw [sA_sF]; rw [show min 99 (m + wg) = m + wg by omega] at ih2; exact ih2
    · rw [sA_sF]; rw [show min 99 (m + wg) = 99 by omega] at ih2; exact ih2
  · show B_M_goMonth_r114_2 post _ _ _
    unfold B_M_goMonth_r114_2
    rw [show gI (sF y 114 (payR (fun k => 3 * k) wg ng (gA y 114))) 112 = nI ng from hC.2.1]
    refine pp_y (nI_le (Nat.le_refl _) (by omega)) (ev (ev ?_))
    rw [sA_sF, sA_sF, gA_sF, if_pos rfl, pk_un (by decide), payR_out ng (fun j hj => by omega)]
    exact h
