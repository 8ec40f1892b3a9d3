def hearZ (a b c d e f : Int32) (z : St) : St := sA (sA (sA (sA (sA (sA z 21 0 a) 21 1 b) 21 2 c) 21 3 d) 21 4 e) 21 5 f
theorem cut6_ext {f g : Nat → Int32} (h0 : f 0 = g 0) (h1 : f 1 = g 1) (h2 : f 2 = g 2) (h3 : f 3 = g 3) (h4 : f 4 = g 4) (h5 : f 5 = g 5) : cut6 f = cut6 g := by
  funext i
  unfold cut6
  by_cases h : i < 6
  · rw [if_pos h, if_pos h]
    have : i = 0 ∨ i = 1 ∨ i = 2 ∨ i = 3 ∨ i = 4 ∨ i = 5 := by omega
    rcases this with rfl | rfl | rfl | rfl | rfl | rfl <;> assumption
  · rw [if_neg h, if_neg h]
theorem hear_six (a b c d e f : Int32) (z : St) : cut6 (gA (hearZ a b c d e f z) 21) = six a b c d e f := by
  unfold six
  refine cut6_ext ?_ ?_ ?_ ?_ ?_ ?_ <;> simp [hearZ, gA_sA, upd]
theorem hear_fr {a b c d e f : Int32} {z : St} : Fr [] [21, 22] z (hearZ a b c d e f z) := (((((Fr.rf.sA (by decide)).sA (by decide)).sA (by decide)).sA (by decide)).sA (by decide)).sA (by decide)
theorem q_hear {post : St → Prop} {a b c d e f : Int32} {z : St} (h : post (hearZ a b c d e f z)) : S_Laws_hear post a b c d e f z := by
  unfold S_Laws_hear
  exact ev (ev (ev (ev (ev (ev h)))))
theorem nI_min {x : Nat} (h : x < 2 ^ 31) : nI x ≠ Int32.minValue := fun q => by
  have := nI_toInt h
  rw [q, show Int32.minValue.toInt = -2147483648 by decide] at this
  omega
theorem TB.p_min {V nd : Nat} {c : Nat → Int32} (h : TB V nd c) {d : Nat} (hd : d < 6) : c (22 + d) ≠ Int32.minValue := by
  obtain ⟨x, hx, e⟩ := h.2.2.2.2.2.2.2 d hd
  rw [e]; exact nI_min (by omega)
theorem TB.m_min {V nd : Nat} {c : Nat → Int32} (h : TB V nd c) {g : Nat} (hg : g < 6) : c (4 + g) ≠ Int32.minValue := by
  obtain ⟨x, hx, e⟩ := h.2.2.2.2.1 g hg
  rw [e]; exact nI_min (by omega)
theorem TB.n_min {V nd : Nat} {c : Nat → Int32} (h : TB V nd c) (hV : V < 2 ^ 31) : c 3 ≠ Int32.minValue := by
  obtain ⟨x, hx, e⟩ := h.2.2.2.1
  rw [e]; exact nI_min (by omega)
theorem lets_ne {f : Nat → Int32} (h0 : f 113 ≠ Int32.minValue) (h1 : f 104 ≠ Int32.minValue) (h2 : f 108 ≠ Int32.minValue) (h3 : f 109 ≠ Int32.minValue) (h4 : f 110 ≠ Int32.minValue) (h5 : f 112 ≠ Int32.minValue) : ∀ i, i < 6 → lets f i ≠ Int32.minValue := fun i hi => by
  unfold lets cut6
  rw [if_pos hi]
  have : i = 0 ∨ i = 1 ∨ i = 2 ∨ i = 3 ∨ i = 4 ∨ i = 5 := by omega
  rcases this with rfl | rfl | rfl | rfl | rfl | rfl <;> assumption
theorem cl9_nI {w : Nat} (h : w ≤ 9) : cl9 (nI w) = w := by
  unfold cl9
  rw [if_neg (nI_pos (by omega)), if_neg (by rw [k9, nI_ltI (by omega) (by omega)]; omega), nI_clamp (by omega)]

theorem q_brings8 {post : Int32 → St → Prop} {nd ng mo wg : Nat} {q : Nat → Nat} {lk : Nat → Int32} {lw : Option ((Nat → Int32) → Int32)} {z : St} (hC : CZ nd ng mo wg q lk lw z) (hl : Lim nd ng mo wg q) {l m n : Int32} {mood got : Nat} (hg : got < nd) (hm : mood ≤ 9) (h : ∀ z', Fr [] [21, 22] z z' → post (enc (bringN nd q mo (fun d => gA z 23 (22 + d)) lw l mood m n got)) z') : S_Table_brings_8 post l (nI mood) m n (nI got) z := by
  have h6 := hl.1
  have hq9 := hl.2.2.2.2.1
  have hq := hC.2.2.2.2.1
  have hj := joyN_le hl (l := l) hg
  have hmd := moodN_le (j := joyN q mo l got) hm
  have hqg := hq9 got hg
  unfold S_Table_brings_8
  rw [nI_clamp (by omega), hq got hg]
  refine ⟨vp_in_nI (by omega) (by omega), ev (q_joyX hC hl hg (q_moodX hm hj ?_))⟩
  have near : ∀ (w : Nat) (z' : St), Fr [] [21, 22] z z' → w = wishN lw q (fun d => gA z 23 (22 + d)) l (moodN mood (joyN q mo l got)) m n got → S_Table_nearest_8 (fun r z3 => post r z3) (nI w) m z' := fun w z' hf hw => by
    have hC' := hC.fr hf (by decide) (by decide)
    refine q_near8 (p := fun d => gA z 23 (22 + d)) hC'.1 h6 hC'.2.2.2.2.1 hq9 (fun d _ => by rw [hf.2.1 23 (by decide)]) (by rw [hw]; exact wishN_le hqg hmd) ?_
    subst hw
    exact h z' hf
  rcases hC.2.2.2.2.2.2 with ⟨e1, e2⟩ | ⟨hh, evf, h4, e1, e2, e3, e4⟩
  · rw [e1]
    refine pp_y rfl ?_
    rw [nI_add, k2, pk_div (by omega) (by omega) (by omega)]
    refine near _ z Fr.rf ?_
    subst e2; rfl
  · refine pp_n (by rw [e1]; exact fun q => (nI_m1 (by omega)).mp q) ?_
    have go : ∀ b : Int32, b = (if l = nI got then 1 else 0) → B_Table_brings_8_71 post m n (nI got) b (nI (moodN mood (joyN q mo l got))) (nI (q got)) z := fun b hb => by
      unfold B_Table_brings_8_71
      rw [k22, nI_add, nI_clamp (by omega)]
      refine ⟨vp_in_nI (by omega) (by omega), q_hear ?_⟩
      refine e3 _ hh _ h4 ?_ ?_ e1 e2 (fun f => q_cl9X (near _ _ (Fr.sF hear_fr (by decide)) ?_))
      · exact hear_fr.2.1 _ (by simp; omega)
      · rw [show gZ (hearZ (nI (q got)) (nI (moodN mood (joyN q mo l got))) b m n (gA z 23 (22 + got)) z) = gZ z from hear_fr.2.2.1]
      · rw [hear_six]; subst e4; rw [hb]; rfl
    exact ⟨fun c => go 1 (by rw [if_pos c]), fun c => go 0 (by rw [if_neg c])⟩
theorem q_brings9 {post : Int32 → St → Prop} {nd ng mo wg : Nat} {q : Nat → Nat} {lk : Nat → Int32} {lw : Option ((Nat → Int32) → Int32)} {z : St} (hC : CZ nd ng mo wg q lk lw z) (hl : Lim nd ng mo wg q) {l m n : Int32} {mood got : Nat} (hg : got < nd) (hm : mood ≤ 9) (h : ∀ z', Fr [] [21, 22] z z' → post (enc (bringN nd q mo (fun d => gA z 24 (22 + d)) lw l mood m n got)) z') : S_Table_brings_9 post l (nI mood) m n (nI got) z := by
  have h6 := hl.1
  have hq9 := hl.2.2.2.2.1
  have hq := hC.2.2.2.2.1
  have hj := joyN_le hl (l := l) hg
  have hmd := moodN_le (j := joyN q mo l got) hm
  have hqg := hq9 got hg
  unfold S_Table_brings_9
  rw [nI_clamp (by omega), hq got hg]
  refine ⟨vp_in_nI (by omega) (by omega), ev (q_joyX hC hl hg (q_moodX hm hj ?_))⟩
  have near : ∀ (w : Nat) (z' : St), Fr [] [21, 22] z z' → w = wishN lw q (fun d => gA z 24 (22 + d)) l (moodN mood (joyN q mo l got)) m n got → S_Table_nearest_9 (fun r z3 => post r z3) (nI w) m z' := fun w z' hf hw => by
    have hC' := hC.fr hf (by decide) (by decide)
    refine q_near9 (p := fun d => gA z 24 (22 + d)) hC'.1 h6 hC'.2.2.2.2.1 hq9 (fun d _ => by rw [hf.2.1 24 (by decide)]) (by rw [hw]; exact wishN_le hqg hmd) ?_
    subst hw
    exact h z' hf
  rcases hC.2.2.2.2.2.2 with ⟨e1, e2⟩ | ⟨hh, evf, h4, e1, e2, e3, e4⟩
  · rw [e1]
    refine pp_y rfl ?_
    rw [nI_add, k2, pk_div (by omega) (by omega) (by omega)]
    refine near _ z Fr.rf ?_
    subst e2; rfl
  · refine pp_n (by rw [e1]; exact fun q => (nI_m1 (by omega)).mp q) ?_
    have go : ∀ b : Int32, b = (if l = nI got then 1 else 0) → B_Table_brings_9_71 post m n (nI got) b (nI (moodN mood (joyN q mo l got))) (nI (q got)) z := fun b hb => by
      unfold B_Table_brings_9_71
      rw [k22, nI_add, nI_clamp (by omega)]
      refine ⟨vp_in_nI (by omega) (by omega), q_hear ?_⟩
      refine e3 _ hh _ h4 ?_ ?_ e1 e2 (fun f => q_cl9X (near _ _ (Fr.sF hear_fr (by decide)) ?_))
      · exact hear_fr.2.1 _ (by simp; omega)
      · rw [show gZ (hearZ (nI (q got)) (nI (moodN mood (joyN q mo l got))) b m n (gA z 24 (22 + got)) z) = gZ z from hear_fr.2.2.1]
      · rw [hear_six]; subst e4; rw [hb]; rfl
    exact ⟨fun c => go 1 (by rw [if_pos c]), fun c => go 0 (by rw [if_neg c])⟩
theorem q_bringsM113 {post : Int32 → St → Prop} {nd ng mo wg : Nat} {q : Nat → Nat} {lk : Nat → Int32} {lw : Option ((Nat → Int32) → Int32)} {y : St} (hC : CY nd ng mo wg q lk lw y) (hl : Lim nd ng mo wg q) {l m n : Int32} {mood got : Nat} (hg : got < nd) (hm : mood ≤ 9) (m3 : m ≠ Int32.minValue) (n3 : n ≠ Int32.minValue) (p3 : gA y 113 (18 + got) ≠ Int32.minValue) (h : ∀ y', Fr RD [104] y y' → post (enc (nearR q (fun d => gA y 113 (18 + d)) (wishN lw q (fun d => gA y 113 (18 + d)) l mood m n got) m nd)) y') : S_M_brings_r113 post l (nI mood) m (nI got) n y := by
  have h6 := hl.1
  have hq9 := hl.2.2.2.2.1
  have hq := hC.2.2.2.2.1
  have hqg := hq9 got hg
  unfold S_M_brings_r113
  refine q_qual (by omega) ?_
  rw [hq got hg]
  have near : ∀ (x : Int32) (y' : St), Fr RD [104] y y' → cl9 x = wishN lw q (fun d => gA y 113 (18 + d)) l mood m n got → B_M_brings_r113_122 post m x y' := fun x y' hf hw => by
    have hC' := hC.fr hf (by decide) (by decide)
    unfold B_M_brings_r113_122
    refine q_cl9M (q_nearM113 (p := fun d => gA y 113 (18 + d)) hC'.1 h6 hC'.2.2.2.2.1 hq9 (fun d _ => by rw [hf.2.1 113 (by decide)]) cl9_le ?_)
    rw [hw]
    exact h y' hf
  refine ev ?_
  rcases hC.2.2.2.2.2.2 with ⟨e1, e2⟩ | ⟨hh, evf, k, h4, hk, e1, e2, e3, e4⟩
  · rw [e1]
    refine pp_y rfl ?_
    rw [nI_add, k2, pk_div (by omega) (by omega) (by omega)]
    refine near _ y Fr.rf ?_
    rw [cl9_nI (by omega)]
    subst e2; rfl
  · refine pp_n (by rw [e1]; exact fun q => (nI_m1 (by omega)).mp q) (q_qual (by omega) ?_)
    rw [hq got hg]
    refine ev (ev ?_)
    have go : ∀ b : Int32, b = (if l = nI got then 1 else 0) → B_M_brings_r113_58 post m (nI got) n b (108 : Int32) (sA (sA y 104 113 (nI (q got))) 104 104 (nI mood)) := fun b hb => by
      unfold B_M_brings_r113_58
      rw [k108, k18, nI_add, nI_clamp (by omega), nI_clamp (by omega)]
      refine ⟨vp_in_nI (by omega) (by omega), ev (ev (ev ⟨vp_in_nI (by omega) (by omega), ev ?_⟩))⟩
      have fr : Fr RD [104] y (sA (sA (sA (sA (sA (sA y 104 113 (nI (q got))) 104 104 (nI mood)) 104 108 b) 104 109 m) 104 110 n) 104 112 (gA (sA (sA (sA (sA (sA y 104 113 (nI (q got))) 104 104 (nI mood)) 104 108 b) 104 109 m) 104 110 n) 113 (18 + got))) := (((((Fr.rf.sA (by decide)).sA (by decide)).sA (by decide)).sA (by decide)).sA (by decide)).sA (by decide)
      rw [fr.1 117 (by decide), e1, nI_clamp (by omega), fr.2.1 103 (by decide), e2]
      refine ⟨vp_in_nI (by omega) (by omega), e3 _ hh _ h4 ?_ ?_ (fun y' hf hv => ev (near _ y' (fr.tr (hf.wk (fun _ q => q) (fun _ q => absurd q (by simp)))) ?_))⟩
      · intro i hi; rw [fr.2.1 102 (by decide)]
      · refine lets_ne (show nI (q got) ≠ Int32.minValue from nI_min (by omega)) (show nI mood ≠ Int32.minValue from nI_min (by omega)) (show b ≠ Int32.minValue from ?_) m3 n3 p3
        rw [hb]; split <;> decide
      · rw [hv]; subst e4
        show cl9 (evf _) = cl9 (evf _)
        congr 2
        unfold lets six
        refine cut6_ext ?_ ?_ ?_ ?_ ?_ ?_ <;> simp [gA_sA, upd, hb]
    exact ⟨fun c => go 1 (by rw [if_pos c]), fun c => go 0 (by rw [if_neg c])⟩
theorem q_makesOf113 {post : Int32 → St → Prop} {nd ng mo wg : Nat} {q : Nat → Nat} {lk : Nat → Int32} {lw : Option ((Nat → Int32) → Int32)} {y : St} (hC : CY nd ng mo wg q lk lw y) (hl : Lim nd ng mo wg q) {l m n : Int32} {mood got : Nat} (hg : got < nd) (hm : mood ≤ 9) (m3 : m ≠ Int32.minValue) (n3 : n ≠ Int32.minValue) (p3 : gA y 113 (18 + got) ≠ Int32.minValue) (h : ∀ y', Fr RD [104] y y' → post (enc (bringN nd q mo (fun d => gA y 113 (18 + d)) lw l mood m n got)) y') : S_M_makesOf_r113 post l (nI mood) m (nI got) n y := by
  unfold S_M_makesOf_r113
  exact q_joyM hC hl hg (q_moodM hm (joyN_le hl hg) (q_bringsM113 hC hl hg (moodN_le hm) m3 n3 p3 h))
theorem q_bringsM114 {post : Int32 → St → Prop} {nd ng mo wg : Nat} {q : Nat → Nat} {lk : Nat → Int32} {lw : Option ((Nat → Int32) → Int32)} {y : St} (hC : CY nd ng mo wg q lk lw y) (hl : Lim nd ng mo wg q) {l m n : Int32} {mood got : Nat} (hg : got < nd) (hm : mood ≤ 9) (m3 : m ≠ Int32.minValue) (n3 : n ≠ Int32.minValue) (p3 : gA y 114 (18 + got) ≠ Int32.minValue) (h : ∀ y', Fr RD [104] y y' → post (enc (nearR q (fun d => gA y 114 (18 + d)) (wishN lw q (fun d => gA y 114 (18 + d)) l mood m n got) m nd)) y') : S_M_brings_r114 post l (nI mood) m (nI got) n y := by
  have h6 := hl.1
  have hq9 := hl.2.2.2.2.1
  have hq := hC.2.2.2.2.1
  have hqg := hq9 got hg
  unfold S_M_brings_r114
  refine q_qual (by omega) ?_
  rw [hq got hg]
  have near : ∀ (x : Int32) (y' : St), Fr RD [104] y y' → cl9 x = wishN lw q (fun d => gA y 114 (18 + d)) l mood m n got → B_M_brings_r114_122 post m x y' := fun x y' hf hw => by
    have hC' := hC.fr hf (by decide) (by decide)
    unfold B_M_brings_r114_122
    refine q_cl9M (q_nearM114 (p := fun d => gA y 114 (18 + d)) hC'.1 h6 hC'.2.2.2.2.1 hq9 (fun d _ => by rw [hf.2.1 114 (by decide)]) cl9_le ?_)
    rw [hw]
    exact h y' hf
  refine ev ?_
  rcases hC.2.2.2.2.2.2 with ⟨e1, e2⟩ | ⟨hh, evf, k, h4, hk, e1, e2, e3, e4⟩
  · rw [e1]
    refine pp_y rfl ?_
    rw [nI_add, k2, pk_div (by omega) (by omega) (by omega)]
    refine near _ y Fr.rf ?_
    rw [cl9_nI (by omega)]
    subst e2; rfl
  · refine pp_n (by rw [e1]; exact fun q => (nI_m1 (by omega)).mp q) (q_qual (by omega) ?_)
    rw [hq got hg]
    refine ev (ev ?_)
    have go : ∀ b : Int32, b = (if l = nI got then 1 else 0) → B_M_brings_r114_58 post m (nI got) n b (108 : Int32) (sA (sA y 104 113 (nI (q got))) 104 104 (nI mood)) := fun b hb => by
      unfold B_M_brings_r114_58
      rw [k108, k18, nI_add, nI_clamp (by omega), nI_clamp (by omega)]
      refine ⟨vp_in_nI (by omega) (by omega), ev (ev (ev ⟨vp_in_nI (by omega) (by omega), ev ?_⟩))⟩
      have fr : Fr RD [104] y (sA (sA (sA (sA (sA (sA y 104 113 (nI (q got))) 104 104 (nI mood)) 104 108 b) 104 109 m) 104 110 n) 104 112 (gA (sA (sA (sA (sA (sA y 104 113 (nI (q got))) 104 104 (nI mood)) 104 108 b) 104 109 m) 104 110 n) 114 (18 + got))) := (((((Fr.rf.sA (by decide)).sA (by decide)).sA (by decide)).sA (by decide)).sA (by decide)).sA (by decide)
      rw [fr.1 117 (by decide), e1, nI_clamp (by omega), fr.2.1 103 (by decide), e2]
      refine ⟨vp_in_nI (by omega) (by omega), e3 _ hh _ h4 ?_ ?_ (fun y' hf hv => ev (near _ y' (fr.tr (hf.wk (fun _ q => q) (fun _ q => absurd q (by simp)))) ?_))⟩
      · intro i hi; rw [fr.2.1 102 (by decide)]
      · refine lets_ne (show nI (q got) ≠ Int32.minValue from nI_min (by omega)) (show nI mood ≠ Int32.minValue from nI_min (by omega)) (show b ≠ Int32.minValue from ?_) m3 n3 p3
        rw [hb]; split <;> decide
      · rw [hv]; subst e4
        show cl9 (evf _) = cl9 (evf _)
        congr 2
        unfold lets six
        refine cut6_ext ?_ ?_ ?_ ?_ ?_ ?_ <;> simp [gA_sA, upd, hb]
    exact ⟨fun c => go 1 (by rw [if_pos c]), fun c => go 0 (by rw [if_neg c])⟩
theorem q_makesOf114 {post : Int32 → St → Prop} {nd ng mo wg : Nat} {q : Nat → Nat} {lk : Nat → Int32} {lw : Option ((Nat → Int32) → Int32)} {y : St} (hC : CY nd ng mo wg q lk lw y) (hl : Lim nd ng mo wg q) {l m n : Int32} {mood got : Nat} (hg : got < nd) (hm : mood ≤ 9) (m3 : m ≠ Int32.minValue) (n3 : n ≠ Int32.minValue) (p3 : gA y 114 (18 + got) ≠ Int32.minValue) (h : ∀ y', Fr RD [104] y y' → post (enc (bringN nd q mo (fun d => gA y 114 (18 + d)) lw l mood m n got)) y') : S_M_makesOf_r114 post l (nI mood) m (nI got) n y := by
  unfold S_M_makesOf_r114
  exact q_joyM hC hl hg (q_moodM hm (joyN_le hl hg) (q_bringsM114 hC hl hg (moodN_le hm) m3 n3 p3 h))
