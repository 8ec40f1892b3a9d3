theorem q_receive8 {post : Int32 → St → Prop} {nd ng mo wg : Nat} {q : Nat → Nat} {lk : Nat → Int32} {lw : Option ((Nat → Int32) → Int32)} {z : St} (hC : CZ nd ng mo wg q lk lw z) (hl : Lim nd ng mo wg q) {mood got g : Nat} (hg : g < ng) (hgot : got < nd) (eg : gA z 23 0 = nI got) (hm : mood ≤ 9) (em : gA z 23 (10 + g) = nI mood)
    (h : ∀ z', Fr [] [21, 22, 23] z z' → gA z' 23 = visC q mo (lk g) (bringN nd q mo (fun d => gA z 23 (22 + d)) lw (lk g) mood (gA z 23 (4 + g)) (gA z 23 3) got) mood got g (gA z 23) → post (enc (bringN nd q mo (fun d => gA z 23 (22 + d)) lw (lk g) mood (gA z 23 (4 + g)) (gA z 23 3) got)) z') : S_Table_receive_8 post (nI g) z := by
  have h6 := hl.1
  have g6 := hl.2.1
  unfold S_Table_receive_8
  rw [nI_clamp (by omega), k10, k4, k16, nI_add, nI_add, nI_add, nI_clamp (by omega), nI_clamp (by omega), nI_clamp (by omega), em, eg, hC.2.2.2.2.2.1 g hg]
  refine ⟨vp_in_nI (by omega) (by omega), ev ⟨vp_in_nI (by omega) (by omega), ev (q_joyX hC hl hgot ⟨vp_in_nI (by omega) (by omega), ?_⟩)⟩⟩
  rw [eg]
  refine q_brings8 hC hl hgot hm (fun z' hf => q_moodX hm (joyN_le hl hgot) ⟨vp_in_nI (by omega) (by omega), ev ⟨vp_in_nI (by omega) (by omega), vp_in_nI (by omega) (by omega), ev (ev ?_)⟩⟩)
  have ea : gA z' 23 = gA z 23 := hf.2.1 23 (by decide)
  have hf2 : Fr [] [21, 22, 23] z z' := hf.wk (by decide) (by decide)
  have n1 : (16 + g = 10 + g) = False := eq_false (by omega)
  have n2 : (3 = 16 + g) = False := eq_false (by omega)
  have n3 : (3 = 10 + g) = False := eq_false (by omega)
  cases hb : bringN nd q mo (fun d => gA z 23 (22 + d)) lw (lk g) mood (gA z 23 (4 + g)) (gA z 23 3) got with
  | none =>
    rw [hb] at h
    refine pp_y rfl (h _ (((hf2.sA (by decide)).sA (by decide)).sA (by decide)) ?_)
    simp only [gA_sA, if_true, ea, visC, upd, n1, n2, n3, if_false]
  | some b =>
    have hbl := (bring_lt hb).1
    rw [hb] at h
    refine pp_n (fun e => (nI_m1 (by omega)).mp e) ⟨vp_in_nI (by omega) (by omega), ?_⟩
    show vp_in ((22 : Int32) + nI b) 28 ∧ _
    rw [k22, show enc (some b) = nI b from rfl, nI_add, nI_clamp (by omega)]
    refine ⟨vp_in_nI (by omega) (by omega), vp_in_nI (by omega) (by omega), ev (ev (h _ (((((hf2.sA (by decide)).sA (by decide)).sA (by decide)).sA (by decide)).sA (by decide)) ?_))⟩
    have m1 : (4 + g = 3) = False := eq_false (by omega)
    have m2 : (4 + g = 16 + g) = False := eq_false (by omega)
    have m3 : (4 + g = 10 + g) = False := eq_false (by omega)
    have m4 : (22 + b = 3) = False := eq_false (by omega)
    have m5 : (22 + b = 16 + g) = False := eq_false (by omega)
    have m6 : (22 + b = 10 + g) = False := eq_false (by omega)
    simp only [gA_sA, if_true, ea, visC, upd, n1, n2, n3, m1, m2, m3, m4, m5, m6, if_false]
theorem q_receive9 {post : Int32 → St → Prop} {nd ng mo wg : Nat} {q : Nat → Nat} {lk : Nat → Int32} {lw : Option ((Nat → Int32) → Int32)} {z : St} (hC : CZ nd ng mo wg q lk lw z) (hl : Lim nd ng mo wg q) {mood got g : Nat} (hg : g < ng) (hgot : got < nd) (eg : gA z 24 0 = nI got) (hm : mood ≤ 9) (em : gA z 24 (10 + g) = nI mood)
    (h : ∀ z', Fr [] [21, 22, 24] z z' → gA z' 24 = visC q mo (lk g) (bringN nd q mo (fun d => gA z 24 (22 + d)) lw (lk g) mood (gA z 24 (4 + g)) (gA z 24 3) got) mood got g (gA z 24) → post (enc (bringN nd q mo (fun d => gA z 24 (22 + d)) lw (lk g) mood (gA z 24 (4 + g)) (gA z 24 3) got)) z') : S_Table_receive_9 post (nI g) z := by
  have h6 := hl.1
  have g6 := hl.2.1
  unfold S_Table_receive_9
  rw [nI_clamp (by omega), k10, k4, k16, nI_add, nI_add, nI_add, nI_clamp (by omega), nI_clamp (by omega), nI_clamp (by omega), em, eg, hC.2.2.2.2.2.1 g hg]
  refine ⟨vp_in_nI (by omega) (by omega), ev ⟨vp_in_nI (by omega) (by omega), ev (q_joyX hC hl hgot ⟨vp_in_nI (by omega) (by omega), ?_⟩)⟩⟩
  rw [eg]
  refine q_brings9 hC hl hgot hm (fun z' hf => q_moodX hm (joyN_le hl hgot) ⟨vp_in_nI (by omega) (by omega), ev ⟨vp_in_nI (by omega) (by omega), vp_in_nI (by omega) (by omega), ev (ev ?_)⟩⟩)
  have ea : gA z' 24 = gA z 24 := hf.2.1 24 (by decide)
  have hf2 : Fr [] [21, 22, 24] z z' := hf.wk (by decide) (by decide)
  have n1 : (16 + g = 10 + g) = False := eq_false (by omega)
  have n2 : (3 = 16 + g) = False := eq_false (by omega)
  have n3 : (3 = 10 + g) = False := eq_false (by omega)
  cases hb : bringN nd q mo (fun d => gA z 24 (22 + d)) lw (lk g) mood (gA z 24 (4 + g)) (gA z 24 3) got with
  | none =>
    rw [hb] at h
    refine pp_y rfl (h _ (((hf2.sA (by decide)).sA (by decide)).sA (by decide)) ?_)
    simp only [gA_sA, if_true, ea, visC, upd, n1, n2, n3, if_false]
  | some b =>
    have hbl := (bring_lt hb).1
    rw [hb] at h
    refine pp_n (fun e => (nI_m1 (by omega)).mp e) ⟨vp_in_nI (by omega) (by omega), ?_⟩
    show vp_in ((22 : Int32) + nI b) 28 ∧ _
    rw [k22, show enc (some b) = nI b from rfl, nI_add, nI_clamp (by omega)]
    refine ⟨vp_in_nI (by omega) (by omega), vp_in_nI (by omega) (by omega), ev (ev (h _ (((((hf2.sA (by decide)).sA (by decide)).sA (by decide)).sA (by decide)).sA (by decide)) ?_))⟩
    have m1 : (4 + g = 3) = False := eq_false (by omega)
    have m2 : (4 + g = 16 + g) = False := eq_false (by omega)
    have m3 : (4 + g = 10 + g) = False := eq_false (by omega)
    have m4 : (22 + b = 3) = False := eq_false (by omega)
    have m5 : (22 + b = 16 + g) = False := eq_false (by omega)
    have m6 : (22 + b = 10 + g) = False := eq_false (by omega)
    simp only [gA_sA, if_true, ea, visC, upd, n1, n2, n3, m1, m2, m3, m4, m5, m6, if_false]
