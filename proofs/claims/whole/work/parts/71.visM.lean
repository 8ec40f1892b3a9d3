/-- the reference's cells behind a visit -/
def visW (q : Nat → Nat) (mo : Nat) (l : Int32) (br : Option Nat) (mood got : Nat) (g : Nat) (w : Nat → Int32) : Nat → Int32 :=
  let w1 := upd (upd w (3 * g + 1) (nI (moodN mood (joyN q mo l got)))) (3 * g + 2) (w (3 * g + 2) + nI (joyN q mo l got))
  let w2 := match br with
    | none => w1
    | some b => upd (upd w1 (3 * g) (w (3 * g) - w (18 + b))) 24 (nI b)
  upd w2 27 (w 27 + 1)
def shf (w : Nat → Int32) (i : Nat) : Nat → Int32 := fun j => if 29 ≤ j ∧ j < 29 + i then w (j + 4) else w j
theorem shf_0 (w : Nat → Int32) : shf w 0 = w := by funext j; unfold shf; rw [if_neg (by omega)]
theorem shf_succ (w : Nat → Int32) (i : Nat) : upd (shf w i) (29 + i) (w (29 + i + 4)) = shf w (i + 1) := by
  funext j
  unfold upd shf
  by_cases e : j = 29 + i
  · subst e; rw [if_pos rfl, if_pos (by omega)]
  · rw [if_neg e]
    by_cases e2 : 29 ≤ j ∧ j < 29 + i
    · rw [if_pos e2, if_pos (by omega)]
    · rw [if_neg e2, if_neg (by omega)]
def rowW (bl g got : Nat) (br joy : Int32) (w : Nat → Int32) : Nat → Int32 :=
  upd (upd (upd (upd (upd w (29 + 4 * bl) (nI g)) (29 + 4 * bl + 1) (nI got)) (29 + 4 * bl + 2) br) (29 + 4 * bl + 3) joy) 28 (nI (bl + 1))
def bookW (bl g got : Nat) (br joy : Int32) (w : Nat → Int32) : Nat → Int32 :=
  if bl = 60 then rowW 59 g got br joy (upd (shf w 236) 28 (nI 59)) else rowW bl g got br joy w
theorem q_row113 {post : Int32 → St → Prop} {y : St} {g got bl : Nat} {br joy : Int32} (hb : gA y 113 28 = nI bl) (h60 : bl < 60) (h : post joy (sF y 113 (rowW bl g got br joy (gA y 113)))) : B_M_visits_r113_170 post (nI g) (nI got) joy br y := by
  unfold B_M_visits_r113_170
  rw [hb]
  refine ev ?_
  rw [k4, k29, pk_mul, nI_add, k1, k2, k3, nI_add, nI_add, nI_add, nI_clamp (by omega), nI_clamp (by omega), nI_clamp (by omega), nI_clamp (by omega)]
  refine ⟨vp_in_nI (by omega) (by omega), ev ⟨vp_in_nI (by omega) (by omega), ev ⟨vp_in_nI (by omega) (by omega), ev ⟨vp_in_nI (by omega) (by omega), ev (ev ?_)⟩⟩⟩⟩
  have e1 : ∀ (σ : St) (i : Nat) (v : Int32) (f : Nat → Int32), σ = sF y 113 f → sA σ 113 i v = sF y 113 (upd f i v) := fun σ i v f e => by rw [e, sA_sF]
  have e2 := e1 (sA (sA (sA (sA y 113 (29 + 4 * bl) (nI g)) 113 (29 + 4 * bl + 1) (nI got)) 113 (29 + 4 * bl + 2) br) 113 (29 + 4 * bl + 3) joy) 28 (gA (sA (sA (sA (sA y 113 (29 + 4 * bl) (nI g)) 113 (29 + 4 * bl + 1) (nI got)) 113 (29 + 4 * bl + 2) br) 113 (29 + 4 * bl + 3) joy) 113 28 + nI 1) _ (e1 _ _ _ _ (e1 _ _ _ _ (e1 _ _ _ _ rfl)))
  rw [e2]
  have e3 : gA (sA (sA (sA (sA y 113 (29 + 4 * bl) (nI g)) 113 (29 + 4 * bl + 1) (nI got)) 113 (29 + 4 * bl + 2) br) 113 (29 + 4 * bl + 3) joy) 113 28 = nI bl := by
    rw [gA_sA, if_pos rfl, pk_un (by omega), gA_sA, if_pos rfl, pk_un (by omega), gA_sA, if_pos rfl, pk_un (by omega), gA_sA, if_pos rfl, pk_un (by omega)]; exact hb
  rw [e3, nI_add]
  exact h
theorem q_book113 {post : Int32 → St → Prop} {y : St} {g got bl : Nat} {br joy : Int32} (hb : gA y 113 28 = nI bl) (h60 : bl ≤ 60) (h : post joy (sF y 113 (bookW bl g got br joy (upd (gA y 113) 27 (gA y 113 27 + 1))))) : B_M_visits_r113_112 post (nI g) (nI got) joy br y := by
  unfold B_M_visits_r113_112
  refine ev ?_
  have hb1 : gA (sA y 113 27 (gA y 113 27 + 1)) 113 28 = nI bl := by rw [gA_sA, if_pos rfl, pk_un (by decide)]; exact hb
  rw [hb1]
  unfold bookW at h
  by_cases c : bl = 60
  · subst c
    refine pp_y rfl ?_
    rw [if_pos rfl] at h
    have h0 : sA y 113 27 (gA y 113 27 + 1) = sF y 113 (shf (upd (gA y 113) 27 (gA y 113 27 + 1)) 0) := by rw [shf_0]; rfl
    rw [h0]
    refine lp_up (fun n i => L_M_visits_r113_132 post n (nI g) (nI got) joy br (nI (1 + i)) (sF y 113 (shf (upd (gA y 113) 27 (gA y 113 27 + 1)) i))) 236 ?_ ?_
    · intro n i hi ih
      show B_M_visits_r113_132 post _ _ _ _ _ _ _
      unfold B_M_visits_r113_132
      rw [k236, k28, k4, nI_1 (1 + i), nI_add, nI_add, nI_clamp (by omega), nI_clamp (by omega), nI_ltI (by omega) (by omega)]
      refine pp_n (by omega) ⟨vp_in_nI (by omega) (by omega), vp_in_nI (by omega) (by omega), ev (ev ?_)⟩
      rw [sA_sF, gA_sF, if_pos rfl]
      have e1 : shf (upd (gA y 113) 27 (gA y 113 27 + 1)) i (28 + (1 + i) + 4) = (upd (gA y 113) 27 (gA y 113 27 + 1)) (29 + i + 4) := by
        unfold shf; rw [if_neg (by omega), show 28 + (1 + i) + 4 = 29 + i + 4 by omega]
      rw [e1, show 28 + (1 + i) = 29 + i by omega, shf_succ]
      exact ih
    · show B_M_visits_r113_132 post _ _ _ _ _ _ _
      unfold B_M_visits_r113_132
      refine pp_y (by decide) (ev ?_)
      have e2 : gA (sF y 113 (shf (upd (gA y 113) 27 (gA y 113 27 + 1)) 236)) 113 28 = nI 60 := by
        rw [gA_sF, if_pos rfl]; unfold shf; rw [if_neg (by omega), pk_un (by decide)]; exact hb
      rw [e2, show (nI 60 - 1 : Int32) = nI 59 by decide, sA_sF]
      refine q_row113 (bl := 59) ?_ (by omega) ?_
      · rw [gA_sF, if_pos rfl, pk_us]
      · rw [sF_sF, gA_sF, if_pos rfl]; exact h
  · refine pp_n (by rw [k60, nI_eq (by omega) (by omega)]; exact c) (q_row113 hb1 (by omega) ?_)
    rw [if_neg c] at h
    rw [show sA y 113 27 (gA y 113 27 + 1) = sF y 113 (upd (gA y 113) 27 (gA y 113 27 + 1)) from rfl, sF_sF, gA_sF, if_pos rfl]
    exact h
theorem q_visM113 {post : Int32 → St → Prop} {nd ng mo wg : Nat} {q : Nat → Nat} {lk : Nat → Int32} {lw : Option ((Nat → Int32) → Int32)} {y : St} (hC : CY nd ng mo wg q lk lw y) (hl : Lim nd ng mo wg q) {mood got g bl : Nat} (hg : g < ng) (hgot : got < nd) (eg : gA y 113 24 = nI got) (hm : mood ≤ 9) (em : gA y 113 (3 * g + 1) = nI mood) (hb : gA y 113 28 = nI bl) (h60 : bl ≤ 60) (m3 : gA y 113 (3 * g) ≠ Int32.minValue) (n3 : gA y 113 27 ≠ Int32.minValue) (p3 : gA y 113 (18 + got) ≠ Int32.minValue)
    (h : ∀ (br : Option Nat) (y' : St), br = bringN nd q mo (fun d => gA y 113 (18 + d)) lw (lk g) mood (gA y 113 (3 * g)) (gA y 113 27) got → Fr RD [104, 113] y y' → gA y' 113 = bookW bl g got (enc br) (nI (joyN q mo (lk g) got)) (visW q mo (lk g) br mood got g (gA y 113)) → post (nI (joyN q mo (lk g) got)) y') : S_M_visits_r113 post (nI g) y := by
  have h6 := hl.1
  have g6 := hl.2.1
  unfold S_M_visits_r113
  rw [eg, k3, pk_mul, k1, k2, nI_add, nI_add, show nI (3 * g) + 0 = nI (3 * g) from nI_add _ 0, nI_clamp (by omega), nI_clamp (by omega), nI_clamp (by omega), hC.2.2.2.2.2.1 g hg]
  refine ev ⟨vp_in_nI (by omega) (by omega), ev (q_joyM hC hl hgot ⟨vp_in_nI (by omega) (by omega), vp_in_nI (by omega) (by omega), ?_⟩)⟩
  rw [em]
  refine q_makesOf113 hC hl hgot hm m3 n3 p3 (fun y' hf => ⟨vp_in_nI (by omega) (by omega), ?_⟩)
  have ea : gA y' 113 = gA y 113 := hf.2.1 113 (by decide)
  rw [ea, em]
  refine q_moodM hm (joyN_le hl hgot) ⟨vp_in_nI (by omega) (by omega), ev ⟨vp_in_nI (by omega) (by omega), vp_in_nI (by omega) (by omega), ev ?_⟩⟩
  have hf2 : Fr RD [104, 113] y y' := hf.wk (by decide) (by decide)
  have n1 : (3 * g + 2 = 3 * g + 1) = False := eq_false (by omega)
  have b1 : (28 = 3 * g + 2) = False := eq_false (by omega)
  have b2 : (28 = 3 * g + 1) = False := eq_false (by omega)
  have b3 : (28 = 3 * g) = False := eq_false (by omega)
  have c1 : (27 = 3 * g + 2) = False := eq_false (by omega)
  have c2 : (27 = 3 * g + 1) = False := eq_false (by omega)
  have c3 : (27 = 3 * g) = False := eq_false (by omega)
  have h := fun y' => h _ y' rfl
  cases hb2 : bringN nd q mo (fun d => gA y 113 (18 + d)) lw (lk g) mood (gA y 113 (3 * g)) (gA y 113 27) got with
  | none =>
    rw [hb2] at h
    refine pp_y rfl (q_book113 (bl := bl) ?_ h60 ?_)
    · simp only [gA_sA, if_true, upd, b1, b2, if_false, ea]; exact hb
    · refine h _ (((hf2.sA (by decide)).sA (by decide)).sF (by decide)) ?_
      rw [gA_sF, if_pos rfl]
      congr 1
      simp only [gA_sA, if_true, visW, upd, n1, c1, c2, if_false, ea]
  | some b =>
    have hbl := (bring_lt hb2).1
    rw [hb2] at h
    refine pp_n (fun e => (nI_m1 (by omega)).mp e) ⟨vp_in_nI (by omega) (by omega), ?_⟩
    show vp_in ((18 : Int32) + nI b) 269 ∧ _
    have m2 : (3 * g = 3 * g + 2) = False := eq_false (by omega)
    have m3 : (3 * g = 3 * g + 1) = False := eq_false (by omega)
    have m5 : (18 + b = 3 * g + 2) = False := eq_false (by omega)
    have m6 : (18 + b = 3 * g + 1) = False := eq_false (by omega)
    rw [k18, show enc (some b) = nI b from rfl, nI_add, nI_clamp (by omega)]
    refine ⟨vp_in_nI (by omega) (by omega), vp_in_nI (by omega) (by omega), ev (ev (q_book113 (bl := bl) ?_ h60 ?_))⟩
    · simp only [gA_sA, if_true, upd, b1, b2, b3, if_false, ea, show (28 = 24) = False from eq_false (by decide)]; exact hb
    · refine h _ (((((hf2.sA (by decide)).sA (by decide)).sA (by decide)).sA (by decide)).sF (by decide)) ?_
      rw [gA_sF, if_pos rfl]
      congr 1
      simp only [gA_sA, if_true, visW, upd, n1, c1, c2, c3, m2, m3, m5, m6, if_false, ea, show (27 = 24) = False from eq_false (by decide)]
theorem q_row114 {post : Int32 → St → Prop} {y : St} {g got bl : Nat} {br joy : Int32} (hb : gA y 114 28 = nI bl) (h60 : bl < 60) (h : post joy (sF y 114 (rowW bl g got br joy (gA y 114)))) : B_M_visits_r114_170 post (nI g) (nI got) joy br y := by
  unfold B_M_visits_r114_170
  rw [hb]
  refine ev ?_
  rw [k4, k29, pk_mul, nI_add, k1, k2, k3, nI_add, nI_add, nI_add, nI_clamp (by omega), nI_clamp (by omega), nI_clamp (by omega), nI_clamp (by omega)]
  refine ⟨vp_in_nI (by omega) (by omega), ev ⟨vp_in_nI (by omega) (by omega), ev ⟨vp_in_nI (by omega) (by omega), ev ⟨vp_in_nI (by omega) (by omega), ev (ev ?_)⟩⟩⟩⟩
  have e1 : ∀ (σ : St) (i : Nat) (v : Int32) (f : Nat → Int32), σ = sF y 114 f → sA σ 114 i v = sF y 114 (upd f i v) := fun σ i v f e => by rw [e, sA_sF]
  have e2 := e1 (sA (sA (sA (sA y 114 (29 + 4 * bl) (nI g)) 114 (29 + 4 * bl + 1) (nI got)) 114 (29 + 4 * bl + 2) br) 114 (29 + 4 * bl + 3) joy) 28 (gA (sA (sA (sA (sA y 114 (29 + 4 * bl) (nI g)) 114 (29 + 4 * bl + 1) (nI got)) 114 (29 + 4 * bl + 2) br) 114 (29 + 4 * bl + 3) joy) 114 28 + nI 1) _ (e1 _ _ _ _ (e1 _ _ _ _ (e1 _ _ _ _ rfl)))
  rw [e2]
  have e3 : gA (sA (sA (sA (sA y 114 (29 + 4 * bl) (nI g)) 114 (29 + 4 * bl + 1) (nI got)) 114 (29 + 4 * bl + 2) br) 114 (29 + 4 * bl + 3) joy) 114 28 = nI bl := by
    rw [gA_sA, if_pos rfl, pk_un (by omega), gA_sA, if_pos rfl, pk_un (by omega), gA_sA, if_pos rfl, pk_un (by omega), gA_sA, if_pos rfl, pk_un (by omega)]; exact hb
  rw [e3, nI_add]
  exact h
theorem q_book114 {post : Int32 → St → Prop} {y : St} {g got bl : Nat} {br joy : Int32} (hb : gA y 114 28 = nI bl) (h60 : bl ≤ 60) (h : post joy (sF y 114 (bookW bl g got br joy (upd (gA y 114) 27 (gA y 114 27 + 1))))) : B_M_visits_r114_112 post (nI g) (nI got) joy br y := by
  unfold B_M_visits_r114_112
  refine ev ?_
  have hb1 : gA (sA y 114 27 (gA y 114 27 + 1)) 114 28 = nI bl := by rw [gA_sA, if_pos rfl, pk_un (by decide)]; exact hb
  rw [hb1]
  unfold bookW at h
  by_cases c : bl = 60
  · subst c
    refine pp_y rfl ?_
    rw [if_pos rfl] at h
    have h0 : sA y 114 27 (gA y 114 27 + 1) = sF y 114 (shf (upd (gA y 114) 27 (gA y 114 27 + 1)) 0) := by rw [shf_0]; rfl
    rw [h0]
    refine lp_up (fun n i => L_M_visits_r114_132 post n (nI g) (nI got) joy br (nI (1 + i)) (sF y 114 (shf (upd (gA y 114) 27 (gA y 114 27 + 1)) i))) 236 ?_ ?_
    · intro n i hi ih
      show B_M_visits_r114_132 post _ _ _ _ _ _ _
      unfold B_M_visits_r114_132
      rw [k236, k28, k4, nI_1 (1 + i), nI_add, nI_add, nI_clamp (by omega), nI_clamp (by omega), nI_ltI (by omega) (by omega)]
      refine pp_n (by omega) ⟨vp_in_nI (by omega) (by omega), vp_in_nI (by omega) (by omega), ev (ev ?_)⟩
      rw [sA_sF, gA_sF, if_pos rfl]
      have e1 : shf (upd (gA y 114) 27 (gA y 114 27 + 1)) i (28 + (1 + i) + 4) = (upd (gA y 114) 27 (gA y 114 27 + 1)) (29 + i + 4) := by
        unfold shf; rw [if_neg (by omega), show 28 + (1 + i) + 4 = 29 + i + 4 by omega]
      rw [e1, show 28 + (1 + i) = 29 + i by omega, shf_succ]
      exact ih
    · show B_M_visits_r114_132 post _ _ _ _ _ _ _
      unfold B_M_visits_r114_132
      refine pp_y (by decide) (ev ?_)
      have e2 : gA (sF y 114 (shf (upd (gA y 114) 27 (gA y 114 27 + 1)) 236)) 114 28 = nI 60 := by
        rw [gA_sF, if_pos rfl]; unfold shf; rw [if_neg (by omega), pk_un (by decide)]; exact hb
      rw [e2, show (nI 60 - 1 : Int32) = nI 59 by decide, sA_sF]
      refine q_row114 (bl := 59) ?_ (by omega) ?_
      · rw [gA_sF, if_pos rfl, pk_us]
      · rw [sF_sF, gA_sF, if_pos rfl]; exact h
  · refine pp_n (by rw [k60, nI_eq (by omega) (by omega)]; exact c) (q_row114 hb1 (by omega) ?_)
    rw [if_neg c] at h
    rw [show sA y 114 27 (gA y 114 27 + 1) = sF y 114 (upd (gA y 114) 27 (gA y 114 27 + 1)) from rfl, sF_sF, gA_sF, if_pos rfl]
    exact h
theorem q_visM114 {post : Int32 → St → Prop} {nd ng mo wg : Nat} {q : Nat → Nat} {lk : Nat → Int32} {lw : Option ((Nat → Int32) → Int32)} {y : St} (hC : CY nd ng mo wg q lk lw y) (hl : Lim nd ng mo wg q) {mood got g bl : Nat} (hg : g < ng) (hgot : got < nd) (eg : gA y 114 24 = nI got) (hm : mood ≤ 9) (em : gA y 114 (3 * g + 1) = nI mood) (hb : gA y 114 28 = nI bl) (h60 : bl ≤ 60) (m3 : gA y 114 (3 * g) ≠ Int32.minValue) (n3 : gA y 114 27 ≠ Int32.minValue) (p3 : gA y 114 (18 + got) ≠ Int32.minValue)
    (h : ∀ (br : Option Nat) (y' : St), br = bringN nd q mo (fun d => gA y 114 (18 + d)) lw (lk g) mood (gA y 114 (3 * g)) (gA y 114 27) got → Fr RD [104, 114] y y' → gA y' 114 = bookW bl g got (enc br) (nI (joyN q mo (lk g) got)) (visW q mo (lk g) br mood got g (gA y 114)) → post (nI (joyN q mo (lk g) got)) y') : S_M_visits_r114 post (nI g) y := by
  have h6 := hl.1
  have g6 := hl.2.1
  unfold S_M_visits_r114
  rw [eg, k3, pk_mul, k1, k2, nI_add, nI_add, show nI (3 * g) + 0 = nI (3 * g) from nI_add _ 0, nI_clamp (by omega), nI_clamp (by omega), nI_clamp (by omega), hC.2.2.2.2.2.1 g hg]
  refine ev ⟨vp_in_nI (by omega) (by omega), ev (q_joyM hC hl hgot ⟨vp_in_nI (by omega) (by omega), vp_in_nI (by omega) (by omega), ?_⟩)⟩
  rw [em]
  refine q_makesOf114 hC hl hgot hm m3 n3 p3 (fun y' hf => ⟨vp_in_nI (by omega) (by omega), ?_⟩)
  have ea : gA y' 114 = gA y 114 := hf.2.1 114 (by decide)
  rw [ea, em]
  refine q_moodM hm (joyN_le hl hgot) ⟨vp_in_nI (by omega) (by omega), ev ⟨vp_in_nI (by omega) (by omega), vp_in_nI (by omega) (by omega), ev ?_⟩⟩
  have hf2 : Fr RD [104, 114] y y' := hf.wk (by decide) (by decide)
  have n1 : (3 * g + 2 = 3 * g + 1) = False := eq_false (by omega)
  have b1 : (28 = 3 * g + 2) = False := eq_false (by omega)
  have b2 : (28 = 3 * g + 1) = False := eq_false (by omega)
  have b3 : (28 = 3 * g) = False := eq_false (by omega)
  have c1 : (27 = 3 * g + 2) = False := eq_false (by omega)
  have c2 : (27 = 3 * g + 1) = False := eq_false (by omega)
  have c3 : (27 = 3 * g) = False := eq_false (by omega)
  have h := fun y' => h _ y' rfl
  cases hb2 : bringN nd q mo (fun d => gA y 114 (18 + d)) lw (lk g) mood (gA y 114 (3 * g)) (gA y 114 27) got with
  | none =>
    rw [hb2] at h
    refine pp_y rfl (q_book114 (bl := bl) ?_ h60 ?_)
    · simp only [gA_sA, if_true, upd, b1, b2, if_false, ea]; exact hb
    · refine h _ (((hf2.sA (by decide)).sA (by decide)).sF (by decide)) ?_
      rw [gA_sF, if_pos rfl]
      congr 1
      simp only [gA_sA, if_true, visW, upd, n1, c1, c2, if_false, ea]
  | some b =>
    have hbl := (bring_lt hb2).1
    rw [hb2] at h
    refine pp_n (fun e => (nI_m1 (by omega)).mp e) ⟨vp_in_nI (by omega) (by omega), ?_⟩
    show vp_in ((18 : Int32) + nI b) 269 ∧ _
    have m2 : (3 * g = 3 * g + 2) = False := eq_false (by omega)
    have m3 : (3 * g = 3 * g + 1) = False := eq_false (by omega)
    have m5 : (18 + b = 3 * g + 2) = False := eq_false (by omega)
    have m6 : (18 + b = 3 * g + 1) = False := eq_false (by omega)
    rw [k18, show enc (some b) = nI b from rfl, nI_add, nI_clamp (by omega)]
    refine ⟨vp_in_nI (by omega) (by omega), vp_in_nI (by omega) (by omega), ev (ev (q_book114 (bl := bl) ?_ h60 ?_))⟩
    · simp only [gA_sA, if_true, upd, b1, b2, b3, if_false, ea, show (28 = 24) = False from eq_false (by decide)]; exact hb
    · refine h _ (((((hf2.sA (by decide)).sA (by decide)).sA (by decide)).sA (by decide)).sF (by decide)) ?_
      rw [gA_sF, if_pos rfl]
      congr 1
      simp only [gA_sA, if_true, visW, upd, n1, c1, c2, c3, m2, m3, m5, m6, if_false, ea, show (27 = 24) = False from eq_false (by decide)]
