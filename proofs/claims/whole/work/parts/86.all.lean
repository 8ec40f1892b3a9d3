/-! looks at the house -/
def pick (bt : Nat → Nat → Bool) : Nat → Nat
  | 0 => 0
  | n + 1 => if bt (n + 1) (pick bt n) = true then n + 1 else pick bt n
theorem pick_le {bt : Nat → Nat → Bool} : ∀ n, pick bt n ≤ n
  | 0 => Nat.le_refl _
  | n + 1 => by
    have := pick_le (bt := bt) n
    show (if bt (n + 1) (pick bt n) = true then n + 1 else pick bt n) ≤ n + 1
    split <;> omega
theorem q_sourest {post : Int32 → St → Prop} {z : St} {ng : Nat} {f : Nat → Nat} (hn : gI z 27 = nI ng) (h0 : 0 < ng) (g6 : ng ≤ 6) (hv : ∀ g, g < ng → gA z 23 (10 + g) = nI (f g)) (hf : ∀ g, g < ng → f g < 2 ^ 30) (hp : post (nI (pick (fun g c => decide (f g < f c)) (ng - 1))) z) : S_Table_sourest_8 post z := by
  refine lp_up (fun n i => L_Table_sourest_8_4 post n (nI (pick (fun g c => decide (f g < f c)) i)) (nI (1 + i)) z) (ng - 1) ?_ ?_
  · intro n i hi ih
    have hpk := pick_le (bt := fun g c => decide (f g < f c)) i
    have b1 := hf (1 + i) (by omega)
    have b2 := hf (pick (fun g c => decide (f g < f c)) i) (by omega)
    show B_Table_sourest_8_4 post _ _ _ z
    unfold B_Table_sourest_8_4 B_Table_sourest_8_38
    rw [hn, k10, nI_add, nI_add, nI_clamp (by omega), nI_clamp (by omega), hv _ (by omega), hv _ (by omega), nI_leI (by omega) (by omega), nI_leI (by omega) (by omega), nI_1]
    have e : pick (fun g c => decide (f g < f c)) (i + 1) = if decide (f (i + 1) < f (pick (fun g c => decide (f g < f c)) i)) = true then i + 1 else pick (fun g c => decide (f g < f c)) i := rfl
    rw [e] at ih
    refine pp_n (by omega) ⟨(vp_in_nI (by omega) (by omega)), (vp_in_nI (by omega) (by omega)), fun c => ev ?_, fun c => ev ?_⟩
    · rw [if_neg (by rw [decide_eq_true_iff, Nat.add_comm i 1]; omega), show 1 + (i + 1) = 1 + i + 1 by omega] at ih; exact ih
    · rw [if_pos (by rw [decide_eq_true_iff, Nat.add_comm i 1]; omega), show 1 + (i + 1) = 1 + i + 1 by omega, Nat.add_comm i 1] at ih; exact ih
  · show B_Table_sourest_8_4 post _ _ _ z
    unfold B_Table_sourest_8_4
    rw [hn]
    exact pp_y (nI_le (by omega) (by omega)) hp
theorem q_most {post : Int32 → St → Prop} {z : St} {ng first : Nat} {f : Nat → Nat} (hn : gI z 27 = nI ng) (h0 : 0 < ng) (g6 : ng ≤ 6) (h28 : first + 6 ≤ 28) (hv : ∀ g, g < ng → gA z 23 (first + g) = nI (f g)) (hf : ∀ g, g < ng → f g < 2 ^ 30) (hp : post (nI (pick (fun g c => decide (f c < f g)) (ng - 1))) z) : S_Table_guestWithMost_8 post (nI first) z := by
  refine lp_up (fun n i => L_Table_guestWithMost_8_4 post n (nI first) (nI (pick (fun g c => decide (f c < f g)) i)) (nI (1 + i)) z) (ng - 1) ?_ ?_
  · intro n i hi ih
    have hpk := pick_le (bt := fun g c => decide (f c < f g)) i
    have b1 := hf (1 + i) (by omega)
    have b2 := hf (pick (fun g c => decide (f c < f g)) i) (by omega)
    show B_Table_guestWithMost_8_4 post _ _ _ _ z
    unfold B_Table_guestWithMost_8_4 B_Table_guestWithMost_8_36
    rw [hn, nI_add, nI_add, nI_clamp (by omega), nI_clamp (by omega), hv _ (by omega), hv _ (by omega), nI_leI (by omega) (by omega), nI_leI (by omega) (by omega), nI_1]
    have e : pick (fun g c => decide (f c < f g)) (i + 1) = if decide (f (pick (fun g c => decide (f c < f g)) i) < f (i + 1)) = true then i + 1 else pick (fun g c => decide (f c < f g)) i := rfl
    rw [e] at ih
    refine pp_n (by omega) ⟨(vp_in_nI (by omega) (by omega)), (vp_in_nI (by omega) (by omega)), fun c => ev ?_, fun c => ev ?_⟩
    · rw [if_neg (by rw [decide_eq_true_iff, Nat.add_comm i 1]; omega), show 1 + (i + 1) = 1 + i + 1 by omega] at ih; exact ih
    · rw [if_pos (by rw [decide_eq_true_iff, Nat.add_comm i 1]; omega), show 1 + (i + 1) = 1 + i + 1 by omega, Nat.add_comm i 1] at ih; exact ih
  · show B_Table_guestWithMost_8_4 post _ _ _ _ z
    unfold B_Table_guestWithMost_8_4
    rw [hn]
    exact pp_y (nI_le (by omega) (by omega)) hp
theorem sub_le0 {a b : Nat} (ha : a < 2 ^ 30) (hb : b < 2 ^ 30) : nI a - nI b ≤ 0 ↔ a ≤ b := by
  rw [fa_le, pk_sub_toInt ha hb, ti0]; omega
theorem sub_ge0 {a b : Nat} (ha : a < 2 ^ 30) (hb : b < 2 ^ 30) : 0 ≤ nI a - nI b ↔ b ≤ a := by
  rw [fa_le, pk_sub_toInt ha hb, ti0]; omega
theorem q_greatest {post : Int32 → St → Prop} {y : St} {ng what : Nat} {f : Nat → Nat} (hn : gI y 112 = nI ng) (h0 : 0 < ng) (g6 : ng ≤ 6) (hw : what < 3) (hv : ∀ g, g < ng → gA y 113 (3 * g + what) = nI (f g)) (hf : ∀ g, g < ng → f g < 2 ^ 30) (hp : post (nI (pick (fun g c => if what = 1 then decide (f g < f c) else decide (f c < f g)) (ng - 1))) y) : S_M_greatest post (nI what) y := by
  refine lp_up (fun n i => L_M_greatest_4 post n (nI what) (nI (pick (fun g c => if what = 1 then decide (f g < f c) else decide (f c < f g)) i)) (nI (1 + i)) y) (ng - 1) ?_ ?_
  · intro n i hi ih
    have hpk := pick_le (bt := fun g c => if what = 1 then decide (f g < f c) else decide (f c < f g)) i
    have b1 := hf (1 + i) (by omega)
    have b2 := hf (pick (fun g c => if what = 1 then decide (f g < f c) else decide (f c < f g)) i) (by omega)
    show B_M_greatest_4 post _ _ _ _ y
    unfold B_M_greatest_4 B_M_greatest_53 B_M_greatest_55
    rw [hn, k3, pk_mul, pk_mul, nI_add, nI_add, nI_clamp (by omega), nI_clamp (by omega), hv _ (by omega), hv _ (by omega), nI_1]
    have e : pick (fun g c => if what = 1 then decide (f g < f c) else decide (f c < f g)) (i + 1) = if (if what = 1 then decide (f (i + 1) < f (pick (fun g c => if what = 1 then decide (f g < f c) else decide (f c < f g)) i)) else decide (f (pick (fun g c => if what = 1 then decide (f g < f c) else decide (f c < f g)) i) < f (i + 1))) = true then i + 1 else pick (fun g c => if what = 1 then decide (f g < f c) else decide (f c < f g)) i := rfl
    rw [e] at ih
    refine pp_n (nI_ge (by omega) (by omega)) ⟨(vp_in_nI (by omega) (by omega)), (vp_in_nI (by omega) (by omega)), ev ?_⟩
    rw [sub_ge0 b1 b2, sub_le0 b1 b2, k1, nI_eq (by omega) (by omega)]
    refine ⟨fun c1 => ?_, fun c1 => ?_⟩
    · rw [if_pos c1] at ih
      refine ⟨fun c => ev ?_, fun c => ev ?_⟩
      · rw [if_neg (by rw [decide_eq_true_iff, Nat.add_comm i 1]; omega), show 1 + (i + 1) = 1 + i + 1 by omega] at ih; exact ih
      · rw [if_pos (by rw [decide_eq_true_iff, Nat.add_comm i 1]; omega), show 1 + (i + 1) = 1 + i + 1 by omega, Nat.add_comm i 1] at ih; exact ih
    · rw [if_neg c1] at ih
      refine ⟨fun c => ev ?_, fun c => ev ?_⟩
      · rw [if_neg (by rw [decide_eq_true_iff, Nat.add_comm i 1]; omega), show 1 + (i + 1) = 1 + i + 1 by omega] at ih; exact ih
      · rw [if_pos (by rw [decide_eq_true_iff, Nat.add_comm i 1]; omega), show 1 + (i + 1) = 1 + i + 1 by omega, Nat.add_comm i 1] at ih; exact ih
  · show B_M_greatest_4 post _ _ _ _ y
    unfold B_M_greatest_4
    rw [hn]
    exact pp_y (nI_le (by omega) (by omega)) hp
/-! the drink that most like -/
def lovN (ng : Nat) (lk : Nat → Int32) (d : Nat) : Nat := fb_ct (fun g => decide (lk g = nI d)) ng
theorem lik_in {nd ng mo wg : Nat} {q : Nat → Nat} {lk : Nat → Int32} {lw : Option ((Nat → Int32) → Int32)} (hl : Lim nd ng mo wg q) {z : St} (hz : CZ nd ng mo wg q lk lw z) {d : Nat} {x1 x2 : Int32} {post : Int32 → St → Prop} {ih6 : Int32 → Int32 → Int32 → St → Prop} (hp : (nI (lovN ng lk d) ≤ x1 → ih6 x1 x2 (nI (d + 1)) z) ∧ (¬ nI (lovN ng lk d) ≤ x1 → ih6 (nI (lovN ng lk d)) (nI d) (nI (d + 1)) z)) : ∃ n, L_House_mostLiked_20 post ih6 n x1 x2 (nI d) (0 : Int32) (0 : Int32) z := by
  have g6 := hl.2.1
  refine lp_up (fun n i => L_House_mostLiked_20 post ih6 n x1 x2 (nI d) (nI (fb_ct (fun g => decide (lk g = nI d)) i)) (nI i) z) ng ?_ ?_
  · intro n i hi ih
    show B_House_mostLiked_20 post ih6 _ _ _ _ _ _ z
    unfold B_House_mostLiked_20 B_House_mostLiked_43
    rw [show gI z 27 = nI ng from hz.2.1, nI_clamp (by omega), hz.2.2.2.2.2.1 i hi, nI_1 i, nI_1]
    have e := fb_ct_succ (fun g => decide (lk g = nI d)) i
    refine pp_n (nI_ge hi (by omega)) ⟨(vp_in_nI (by omega) (by omega)), fun c => ev (ev ?_), fun c => ev ?_⟩
    · rw [e, if_pos (decide_eq_true c)] at ih; exact ih
    · rw [e, if_neg (by rw [decide_eq_true_iff]; exact c), Nat.add_zero] at ih; exact ih
  · show B_House_mostLiked_20 post ih6 _ _ _ _ _ _ z
    unfold B_House_mostLiked_20 B_House_mostLiked_60
    rw [show gI z 27 = nI ng from hz.2.1, nI_1]
    exact pp_y (nI_le (Nat.le_refl _) (by omega)) ⟨fun c => ev (hp.1 c), fun c => ev (hp.2 c)⟩
theorem lov_le {ng : Nat} {lk : Nat → Int32} {d : Nat} : lovN ng lk d ≤ ng := fb_ct_le _ _
theorem q_liked {post : Int32 → St → Prop} {nd ng mo wg : Nat} {q : Nat → Nat} {lk : Nat → Int32} {lw : Option ((Nat → Int32) → Int32)} (hl : Lim nd ng mo wg q) {z : St} (hz : CZ nd ng mo wg q lk lw z) (h2 : 2 ≤ nd) (hp : post (nI (pick (fun d c => decide (lovN ng lk c < lovN ng lk d)) (nd - 1))) z) : S_House_mostLiked post z := by
  have h6 := hl.1
  have g6 := hl.2.1
  have lp : ∃ n, L_House_mostLiked_6 post n (nI (lovN ng lk 0)) (nI 0) (nI 1) z := by
    refine lp_up (fun n i => L_House_mostLiked_6 post n (nI (lovN ng lk (pick (fun d c => decide (lovN ng lk c < lovN ng lk d)) i))) (nI (pick (fun d c => decide (lovN ng lk c < lovN ng lk d)) i)) (nI (1 + i)) z) (nd - 1) ?_ ?_
    · intro n i hi ih
      have b1 := lov_le (ng := ng) (lk := lk) (d := 1 + i)
      have b2 := lov_le (ng := ng) (lk := lk) (d := pick (fun d c => decide (lovN ng lk c < lovN ng lk d)) i)
      show B_House_mostLiked_6 post _ _ _ _ z
      unfold B_House_mostLiked_6
      rw [show gI z 26 = nI nd from hz.1]
      refine pp_n (nI_ge (by omega) (by omega)) (lik_in hl hz ?_)
      rw [nI_leI (by omega) (by omega)]
      have e : pick (fun d c => decide (lovN ng lk c < lovN ng lk d)) (i + 1) = if decide (lovN ng lk (pick (fun d c => decide (lovN ng lk c < lovN ng lk d)) i) < lovN ng lk (i + 1)) = true then i + 1 else pick (fun d c => decide (lovN ng lk c < lovN ng lk d)) i := rfl
      rw [e] at ih
      refine ⟨fun c => ?_, fun c => ?_⟩
      · rw [if_neg (by rw [decide_eq_true_iff, Nat.add_comm i 1]; omega), show 1 + (i + 1) = 1 + i + 1 by omega] at ih; exact ih
      · rw [if_pos (by rw [decide_eq_true_iff, Nat.add_comm i 1]; omega), show 1 + (i + 1) = 1 + i + 1 by omega, Nat.add_comm i 1] at ih; exact ih
    · show B_House_mostLiked_6 post _ _ _ _ z
      unfold B_House_mostLiked_6
      rw [show gI z 26 = nI nd from hz.1]
      exact pp_y (nI_le (by omega) (by omega)) hp
  obtain ⟨n, hn⟩ := lp
  refine ⟨n + 1, ?_⟩
  have b0 := lov_le (ng := ng) (lk := lk) (d := 0)
  show B_House_mostLiked_6 post _ _ _ _ z
  unfold B_House_mostLiked_6
  rw [show gI z 26 = nI nd from hz.1]
  refine pp_n (show ¬ nI nd ≤ nI 0 from nI_ge (by omega) (by omega)) (lik_in hl hz (d := 0) (pp_n (fun q => fa_of_lt_le q (m1_lt (by omega))) hn))
theorem q_lovers {post : Int32 → St → Prop} {nd ng mo wg : Nat} {q : Nat → Nat} {lk : Nat → Int32} {lw : Option ((Nat → Int32) → Int32)} (hl : Lim nd ng mo wg q) {y : St} (hy : CY nd ng mo wg q lk lw y) {d : Nat} (hp : post (nI (lovN ng lk d)) y) : S_M_lovers post (nI d) y := by
  have g6 := hl.2.1
  refine lp_up (fun n i => L_M_lovers_4 post n (nI d) (nI (fb_ct (fun g => decide (lk g = nI d)) i)) (nI i) y) ng ?_ ?_
  · intro n i hi ih
    show B_M_lovers_4 post _ _ _ _ y
    unfold B_M_lovers_4 B_M_lovers_30
    rw [show gI y 112 = nI ng from hy.2.1, k3, pk_mul, nI_clamp (by omega), hy.2.2.2.2.2.1 i hi, nI_1 i, k1, nI_add]
    have e := fb_ct_succ (fun g => decide (lk g = nI d)) i
    refine pp_n (nI_ge hi (by omega)) ⟨(vp_in_nI (by omega) (by omega)), fun c => ev (ev ?_), fun c => ev (ev ?_)⟩
    · rw [e, if_pos (decide_eq_true c)] at ih; exact ih
    · rw [e, if_neg (by rw [decide_eq_true_iff]; exact c), Nat.add_zero] at ih
      rw [Int32.add_zero]; exact ih
  · show B_M_lovers_4 post _ _ _ _ y
    unfold B_M_lovers_4
    rw [show gI y 112 = nI ng from hy.2.1]
    exact pp_y (nI_le (Nat.le_refl _) (by omega)) hp
theorem q_loved {post : Int32 → St → Prop} {nd ng mo wg : Nat} {q : Nat → Nat} {lk : Nat → Int32} {lw : Option ((Nat → Int32) → Int32)} (hl : Lim nd ng mo wg q) {y : St} (hy : CY nd ng mo wg q lk lw y) (h2 : 2 ≤ nd) (hp : post (nI (pick (fun d c => decide (lovN ng lk c < lovN ng lk d)) (nd - 1))) y) : S_M_loved post y := by
  have h6 := hl.1
  have g6 := hl.2.1
  refine lp_up (fun n i => L_M_loved_4 post n (nI (pick (fun d c => decide (lovN ng lk c < lovN ng lk d)) i)) (nI (1 + i)) y) (nd - 1) ?_ ?_
  · intro n i hi ih
    have b1 := lov_le (ng := ng) (lk := lk) (d := 1 + i)
    have b2 := lov_le (ng := ng) (lk := lk) (d := pick (fun d c => decide (lovN ng lk c < lovN ng lk d)) i)
    show B_M_loved_4 post _ _ _ y
    unfold B_M_loved_4 B_M_loved_30
    rw [show gI y 111 = nI nd from hy.1, nI_1]
    refine pp_n (nI_ge (by omega) (by omega)) (q_lovers hl hy (q_lovers hl hy ?_))
    rw [nI_leI (by omega) (by omega)]
    have e : pick (fun d c => decide (lovN ng lk c < lovN ng lk d)) (i + 1) = if decide (lovN ng lk (pick (fun d c => decide (lovN ng lk c < lovN ng lk d)) i) < lovN ng lk (i + 1)) = true then i + 1 else pick (fun d c => decide (lovN ng lk c < lovN ng lk d)) i := rfl
    rw [e] at ih
    refine ⟨fun c => ev ?_, fun c => ev ?_⟩
    · rw [if_neg (by rw [decide_eq_true_iff, Nat.add_comm i 1]; omega), show 1 + (i + 1) = 1 + i + 1 by omega] at ih; exact ih
    · rw [if_pos (by rw [decide_eq_true_iff, Nat.add_comm i 1]; omega), show 1 + (i + 1) = 1 + i + 1 by omega, Nat.add_comm i 1] at ih; exact ih
  · show B_M_loved_4 post _ _ _ y
    unfold B_M_loved_4
    rw [show gI y 111 = nI nd from hy.1]
    exact pp_y (nI_le (by omega) (by omega)) hp
/-! the book -/
theorem sumI_l (f : Nat → Int32) : ∀ n, sumI f (n + 1) = f 0 + sumI (fun k => f (k + 1)) n
  | 0 => by show (0 : Int32) + f 0 = f 0 + 0; rw [Int32.zero_add, Int32.add_zero]
  | n + 1 => by
    show sumI f (n + 1) + f (n + 1) = f 0 + (sumI (fun k => f (k + 1)) n + f (n + 1))
    rw [sumI_l f n, Int32.add_assoc]
theorem sumI_rev (f : Nat → Int32) : ∀ n, sumI (fun i => f (n - 1 - i)) n = sumI f n
  | 0 => rfl
  | n + 1 => by
    rw [sumI_l]
    show f (n + 1 - 1 - 0) + sumI (fun k => f (n + 1 - 1 - (k + 1))) n = sumI f n + f n
    rw [sumI_cg (f := fun k => f (n + 1 - 1 - (k + 1))) (g := fun i => f (n - 1 - i)) (fun k hk => by congr 1; omega), sumI_rev f n, Int32.add_comm]
    congr 1
theorem q_page {post : Int32 → St → Prop} {y : St} {i t : Nat} (hi : i < 60) (ht : t < 4) (hp : post (gA y 113 (29 + 4 * i + t)) y) : S_M_page post (nI i) (nI t) y := by
  unfold S_M_page
  rw [k29, k4, pk_mul, nI_add, nI_add, nI_clamp (by omega)]
  exact ⟨(vp_in_nI (by omega) (by omega)), hp⟩
theorem q_times {post : Int32 → St → Prop} {z : St} {v : Nat} {x : Int32} (hv : v < 2 ^ 29) (hp : post (sumI (fun i => if gA z 26 (4 * ((v - i) % 100) + 2) = x then 1 else 0) (min 60 v)) z) : S_Memory_timesBrought post (nI v) x z := by
  refine lp_up (fun n i => L_Memory_timesBrought_5 post n (nI v) x (sumI (fun i => if gA z 26 (4 * ((v - i) % 100) + 2) = x then 1 else 0) i) (nI i) z) (min 60 v) ?_ ?_
  · intro n i hi ih
    show B_Memory_timesBrought_5 post _ _ _ _ _ z
    unfold B_Memory_timesBrought_5 B_Memory_timesBrought_30
    refine q_bookLen (by omega) (pp_n (nI_ge hi (by omega)) ?_)
    rw [pk_sub (by omega), k2, nI_1]
    refine q_line (by omega) (by omega) ⟨fun c => ev (ev ?_), fun c => ev ?_⟩
    · have e : sumI (fun i => if gA z 26 (4 * ((v - i) % 100) + 2) = x then 1 else 0) (i + 1) = sumI (fun i => if gA z 26 (4 * ((v - i) % 100) + 2) = x then 1 else 0) i + 1 := by
        show _ + (if gA z 26 (4 * ((v - i) % 100) + 2) = x then 1 else 0) = _
        rw [if_pos c]
      rw [e] at ih; exact ih
    · have e : sumI (fun i => if gA z 26 (4 * ((v - i) % 100) + 2) = x then 1 else 0) (i + 1) = sumI (fun i => if gA z 26 (4 * ((v - i) % 100) + 2) = x then 1 else 0) i := by
        show _ + (if gA z 26 (4 * ((v - i) % 100) + 2) = x then 1 else 0) = _
        rw [if_neg c, Int32.add_zero]
      rw [e] at ih; exact ih
  · show B_Memory_timesBrought_5 post _ _ _ _ _ z
    unfold B_Memory_timesBrought_5
    exact q_bookLen (by omega) (pp_y (nI_le (Nat.le_refl _) (by omega)) hp)
theorem q_pagesOf {post : Int32 → St → Prop} {y : St} {n : Nat} {x : Int32} (hb : gA y 113 28 = nI n) (h60 : n ≤ 60) (hp : post (sumI (fun i => if gA y 113 (29 + 4 * i + 2) = x then 1 else 0) n) y) : S_M_pagesOf post x y := by
  refine lp_up (fun k i => L_M_pagesOf_4 post k x (sumI (fun i => if gA y 113 (29 + 4 * i + 2) = x then 1 else 0) i) (nI i) y) n ?_ ?_
  · intro k i hi ih
    show B_M_pagesOf_4 post _ _ _ _ y
    unfold B_M_pagesOf_4 B_M_pagesOf_31
    rw [hb, k2, nI_1]
    refine pp_n (nI_ge hi (by omega)) (q_page (by omega) (by omega) ⟨fun c => ev (ev ?_), fun c => ev (ev ?_)⟩)
    · have e : sumI (fun i => if gA y 113 (29 + 4 * i + 2) = x then 1 else 0) (i + 1) = sumI (fun i => if gA y 113 (29 + 4 * i + 2) = x then 1 else 0) i + 1 := by
        show _ + (if gA y 113 (29 + 4 * i + 2) = x then 1 else 0) = _
        rw [if_pos c]
      rw [e] at ih; exact ih
    · have e : sumI (fun i => if gA y 113 (29 + 4 * i + 2) = x then 1 else 0) (i + 1) = sumI (fun i => if gA y 113 (29 + 4 * i + 2) = x then 1 else 0) i + 0 := by
        show _ + (if gA y 113 (29 + 4 * i + 2) = x then 1 else 0) = _
        rw [if_neg c]
      rw [e] at ih; exact ih
  · show B_M_pagesOf_4 post _ _ _ _ y
    unfold B_M_pagesOf_4
    rw [hb]
    exact pp_y (nI_le (Nat.le_refl _) (by omega)) hp
theorem pages_eq {nd v : Nat} {w L : Nat → Int32} (h : BK nd v w L) {x : Int32} : sumI (fun i => if w (29 + 4 * i + 2) = x then 1 else 0) (min 60 v) = sumI (fun i => if L (4 * ((v - i) % 100) + 2) = x then 1 else 0) (min 60 v) := by
  rw [← sumI_rev (fun i => if w (29 + 4 * i + 2) = x then 1 else 0)]
  refine sumI_cg (fun i hi => ?_)
  show (if w (29 + 4 * (min 60 v - 1 - i) + 2) = x then (1 : Int32) else 0) = _
  rw [h.2.1 i 2 hi (by omega)]
theorem q_middle {post : Int32 → St → Prop} {nd ng mo wg : Nat} {q : Nat → Nat} {lk : Nat → Int32} {lw : Option ((Nat → Int32) → Int32)} (hl : Lim nd ng mo wg q) {z : St} (hz : CZ nd ng mo wg q lk lw z) {v : Nat} (hv : v < 2 ^ 29) {d : Nat → Nat} (hd : ∀ i, i < min 60 v → d i < nd ∧ gA z 26 (4 * ((v - i) % 100) + 1) = nI (d i)) (hp : post (if min 60 v = 0 then 0 else sumI (fun i => nI (q (d i))) (min 60 v) / nI (min 60 v)) z) : S_Memory_middle_r6 post (nI v) z := by
  have h6 := hl.1
  unfold S_Memory_middle_r6
  refine q_bookLen (by omega) (lp_up (fun n i => L_Memory_middle_r6_11 post n (nI v) (nI (min 60 v)) (sumI (fun i => nI (q (d i))) i) (nI i) z) (min 60 v) ?_ ?_)
  · intro n i hi ih
    obtain ⟨h1, h2⟩ := hd i hi
    show B_Memory_middle_r6_11 post _ _ _ _ _ z
    unfold B_Memory_middle_r6_11
    rw [pk_sub (by omega), nI_1, k1]
    refine pp_n (nI_ge hi (by omega)) (q_line (by omega) (by omega) ?_)
    rw [h2, nI_clamp (by omega), hz.2.2.2.2.1 _ h1]
    exact ⟨(vp_in_nI (by omega) (by omega)), ev (ev ih)⟩
  · show B_Memory_middle_r6_11 post _ _ _ _ _ z
    unfold B_Memory_middle_r6_11
    refine pp_y (nI_le (Nat.le_refl _) (by omega)) ?_
    rw [k1, nI_leI (by omega) (by omega)]
    refine ⟨fun c => ?_, fun c => ?_⟩
    · rw [if_neg (by omega)] at hp
      exact ⟨nI_ne0 (by omega) (by omega), hp⟩
    · rw [if_pos (by omega)] at hp
      exact hp
theorem q_quality {post : Int32 → St → Prop} {nd ng mo wg : Nat} {q : Nat → Nat} {lk : Nat → Int32} {lw : Option ((Nat → Int32) → Int32)} (hl : Lim nd ng mo wg q) {y : St} (hy : CY nd ng mo wg q lk lw y) {d : Nat} (hd : d < nd) (hp : post (nI (q d)) y) : S_M_quality post (nI d) y := by
  have h6 := hl.1
  unfold S_M_quality
  rw [k2, pk_mul, nI_clamp (by omega), hy.2.2.2.2.1 d hd]
  exact ⟨(vp_in_nI (by omega) (by omega)), hp⟩
theorem q_middleM {post : Int32 → St → Prop} {nd ng mo wg : Nat} {q : Nat → Nat} {lk : Nat → Int32} {lw : Option ((Nat → Int32) → Int32)} (hl : Lim nd ng mo wg q) {y : St} (hy : CY nd ng mo wg q lk lw y) {n : Nat} (hb : gA y 113 28 = nI n) (h60 : n ≤ 60) {d : Nat → Nat} (hd : ∀ i, i < n → d i < nd ∧ gA y 113 (29 + 4 * i + 1) = nI (d i)) (hp : post (if n = 0 then 0 else sumI (fun i => nI (q (d i))) n / nI n) y) : S_M_middle post y := by
  refine lp_up (fun k i => L_M_middle_4 post k (sumI (fun i => nI (q (d i))) i) (nI i) y) n ?_ ?_
  · intro k i hi ih
    obtain ⟨h1, h2⟩ := hd i hi
    show B_M_middle_4 post _ _ _ y
    unfold B_M_middle_4
    rw [hb, nI_1, k1]
    refine pp_n (nI_ge hi (by omega)) (q_page (by omega) (by omega) ?_)
    rw [h2]
    exact q_quality hl hy h1 (ev (ev ih))
  · show B_M_middle_4 post _ _ _ y
    unfold B_M_middle_4
    rw [hb, nI_eq0 (by omega)]
    refine pp_y (nI_le (Nat.le_refl _) (by omega)) ⟨fun c => ?_, fun c => ?_⟩
    · rw [if_pos c] at hp; exact hp
    · rw [if_neg c] at hp
      exact ⟨c, hp⟩
/-! the least price -/
def mnR (f : Nat → Nat) : Nat → Nat
  | 0 => f 0
  | n + 1 => min (mnR f n) (f (n + 1))
theorem mn_le {f : Nat → Nat} : ∀ n, mnR f n ≤ f 0
  | 0 => Nat.le_refl _
  | n + 1 => Nat.le_trans (Nat.min_le_left _ _) (mn_le n)
theorem q_minX {post : Int32 → St → Prop} {z : St} {a b : Nat} (ha : a < 2 ^ 31) (hb : b < 2 ^ 31) (h : post (nI (min a b)) z) : S_Math_min_7cf53_X post (nI a) (nI b) z := by
  unfold S_Math_min_7cf53_X
  rw [nI_ltI hb ha]
  refine ⟨fun c => ?_, fun c => ?_⟩
  · rw [show min a b = b by omega] at h; exact h
  · rw [show min a b = a by omega] at h; exact h
theorem q_minM {post : Int32 → St → Prop} {z : St} {a b : Nat} (ha : a < 2 ^ 31) (hb : b < 2 ^ 31) (h : post (nI (min a b)) z) : S_Math_min_7cf53_M post (nI a) (nI b) z := by
  unfold S_Math_min_7cf53_M
  rw [nI_ltI hb ha]
  refine ⟨fun c => ?_, fun c => ?_⟩
  · rw [show min a b = b by omega] at h; exact h
  · rw [show min a b = a by omega] at h; exact h
theorem q_least {post : Int32 → St → Prop} {z : St} {nd : Nat} {f : Nat → Nat} (hn : gI z 26 = nI nd) (h2 : 2 ≤ nd) (h6 : nd ≤ 6) (hv : ∀ d, d < nd → gA z 23 (22 + d) = nI (f d) ∧ f d ≤ 60) (hp : post (nI (mnR f (nd - 1))) z) : S_Table_leastPrice_8 post z := by
  have lp : ∃ n, L_Table_leastPrice_8_5 post n (nI (f 0)) (nI 1) z := by
    refine lp_up (fun n i => L_Table_leastPrice_8_5 post n (nI (mnR f i)) (nI (1 + i)) z) (nd - 1) ?_ ?_
    · intro n i hi ih
      have b1 := mn_le (f := f) i
      have b0 := (hv 0 (by omega)).2
      have b2 := hv (1 + i) (by omega)
      show B_Table_leastPrice_8_5 post _ _ _ z
      unfold B_Table_leastPrice_8_5
      rw [hn, k22, nI_add, nI_clamp (by omega), b2.1, nI_1]
      refine pp_n (nI_ge (by omega) (by omega)) ⟨(vp_in_nI (by omega) (by omega)), q_minX (by omega) (by omega) (ev ?_)⟩
      have e : mnR f (i + 1) = min (mnR f i) (f (1 + i)) := by rw [Nat.add_comm 1 i]; rfl
      rw [e, show 1 + (i + 1) = 1 + i + 1 by omega] at ih
      exact ih
    · show B_Table_leastPrice_8_5 post _ _ _ z
      unfold B_Table_leastPrice_8_5
      rw [hn]
      exact pp_y (nI_le (by omega) (by omega)) hp
  obtain ⟨n, hn'⟩ := lp
  have b0 := hv 0 (by omega)
  refine ⟨n + 1, ?_⟩
  show B_Table_leastPrice_8_5 post _ (nI 60) (nI 0) z
  unfold B_Table_leastPrice_8_5
  rw [hn, k22, nI_add, nI_clamp (by omega), b0.1, nI_1]
  refine pp_n (nI_ge (by omega) (by omega)) ⟨(vp_in_nI (by omega) (by omega)), q_minX (by omega) (by omega) (ev ?_)⟩
  rw [show min 60 (f 0) = f 0 by omega]
  exact hn'
theorem q_poorest {post : Int32 → St → Prop} {y : St} {nd : Nat} {f : Nat → Nat} (hn : gI y 111 = nI nd) (h2 : 2 ≤ nd) (h6 : nd ≤ 6) (hv : ∀ d, d < nd → gA y 113 (18 + d) = nI (f d) ∧ f d ≤ 60) (hp : post (nI (mnR f (nd - 1))) y) : S_M_poorest post y := by
  unfold S_M_poorest
  have b0 := hv 0 (by omega)
  refine ev ?_
  rw [show gA y 113 18 = nI (f 0) from b0.1]
  refine lp_up (fun n i => L_M_poorest_10 post n (nI (mnR f i)) (nI (1 + i)) y) (nd - 1) ?_ ?_
  · intro n i hi ih
    have b1 := mn_le (f := f) i
    have b2 := hv (1 + i) (by omega)
    show B_M_poorest_10 post _ _ _ y
    unfold B_M_poorest_10
    rw [hn, k18, nI_add, nI_clamp (by omega), b2.1, nI_1]
    refine pp_n (nI_ge (by omega) (by omega)) ⟨(vp_in_nI (by omega) (by omega)), q_minM (by omega) (by omega) (ev ?_)⟩
    have e : mnR f (i + 1) = min (mnR f i) (f (1 + i)) := by rw [Nat.add_comm 1 i]; rfl
    rw [e, show 1 + (i + 1) = 1 + i + 1 by omega] at ih
    exact ih
  · show B_M_poorest_10 post _ _ _ y
    unfold B_M_poorest_10
    rw [hn]
    exact pp_y (nI_le (by omega) (by omega)) hp
