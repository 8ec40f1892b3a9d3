/-! houses read: the reference's clauses -/
theorem vb_no {f : Nat → Int32} {v : Nat → Nat} {kd c base i j : Nat} (hc : cn kd = c) (h : f i = nI (v j) ∧ v j ≤ 99) (hj : ¬ (base ≤ j ∧ j < base + c)) : f i = nI (begV kd base v j) ∧ begV kd base v j ≤ 99 := by
  unfold begV; rw [hc, if_neg hj]; exact h
theorem vb_go {f : Nat → Int32} {v : Nat → Nat} {kd c base a i j : Nat} (hc : cn kd = c) (hk : fi kd + c ≤ 8) (h : ¬ (base ≤ j ∧ j < base + c) → f i = nI (v j) ∧ v j ≤ 99) (h1 : (a ≤ i ∧ i < a + c) ↔ (base ≤ j ∧ j < base + c)) (h2 : base ≤ j → j < base + c → i - a = j - base) : fb_put f (fun l => nI (usN (fi kd + l))) a c i = nI (begV kd base v j) ∧ begV kd base v j ≤ 99 := by
  unfold begV; rw [hc]
  by_cases q : base ≤ j ∧ j < base + c
  · rw [if_pos q, fb_put_in (h1.mpr q).1 (h1.mpr q).2, h2 q.1 q.2]; exact ⟨rfl, Nat.le_trans (us_mo _ (by omega)) (mo_le _)⟩
  · have q2 : ¬ (a ≤ i ∧ i < a + c) := fun p => q (h1.mp p)
    rw [if_neg q, fb_put_out (by omega)]; exact h q
theorem VY.b0 {v : Nat → Nat} {dt gt d0 g0 : Nat} {y : St} (h : VY v d0 g0 y) (hd : 0 = 1 → 0 < dt) (hg : 0 = 2 → 0 < gt) (e1 : d0 = if 0 = 1 then dt - 1 else dt) (e2 : g0 = if 0 = 2 then gt - 1 else gt) (hd6 : dt ≤ 6) : VY (begV 0 0 v) dt gt (sF y 106 (fb_put (gA y 106) (fun l => nI (usN (fi 0 + l))) 0 3)) := by
  obtain ⟨h1, h2, h3⟩ := h
  have := hd
  have := hg
  simp at e1 e2
  refine ⟨fun j hj => ?_, fun d hd' l hl' => ?_, fun g hg' l hl' => ?_⟩
  · first | exact vb_no (c := 3) rfl (h1 j hj) (by omega) | exact vb_go rfl (by decide) (fun q => h1 j hj) (by omega) (by omega)
  · first | exact vb_no (c := 3) rfl (h2 d (by omega) l hl') (by omega) | exact vb_go rfl (by decide) (fun q => h2 d (by omega) l hl') (by omega) (by omega)
  · first | exact vb_no (c := 3) rfl (h3 g (by omega) l hl') (by omega) | exact vb_go rfl (by decide) (fun q => h3 g (by omega) l hl') (by omega) (by omega)
theorem q_readItems0 {T : Nat → Nat} {n B r : Nat} {y0 : St} {post : St → Prop} {rt dt gt d0 g0 : Nat} (hd : 0 = 1 → 0 < dt) (hg : 0 = 2 → 0 < gt) (e1 : d0 = if 0 = 1 then dt - 1 else dt) (e2 : g0 = if 0 = 2 then gt - 1 else gt) (hd6 : dt ≤ 6) (hg6 : gt ≤ 6) {y : St} {p le nu : Nat} {v : Nat → Nat} (hR : RX T n B r y) (h105 : gI y 105 = nI p) (hpn : p ≤ n) (h106 : gI y 106 = -1) (hV : VY v d0 g0 y) (hF : Fr FHI FHA y0 y)
    (hy : ∀ p2 le' di' nu' us' v' y', p2 ≤ n → (p2 < n → T p2 ≠ 32) → RN T n (stepH T n) clH p (mkH 1 0 0 le 0 nu rt dt gt (begV 0 0 v)) = RN T n (stepH T n) clH p2 (mkH 1 0 us' le' di' nu' rt dt gt v') → spt 2 (atS T n p2) = none → noD T n p2 di' → VY v' dt gt y' → RX T n B r y' → gI y' 105 = nI p2 → gI y' 106 = -1 → Fr FHI FHA y0 y' → gI y' 113 = gI y 113 → gI y' 114 = gI y 114 → gI y' 116 = gI y 116 → post y')
    (hn : ∀ f y', f ≤ n → (RN T n (stepH T n) clH p (mkH 1 0 0 le 0 nu rt dt gt (begV 0 0 v))).1 = some f → gI y' 106 = nI f → Fr FHI FHA y0 y' → post y') :
    S_M_readItems_r106 post (115 : Int32) (nI 0) 2 y := by
  have hV2 := hV.b0 hd hg e1 e2 hd6
  have R2 : RX T n B r (sF y 106 (fb_put (gA y 106) (fun l => nI (usN (fi 0 + l))) 0 3)) := hR.sF (by decide) (by decide)
  have F2 : Fr FHI FHA y0 (sF y 106 (fb_put (gA y 106) (fun l => nI (usN (fi 0 + l))) 0 3)) := hF.sF (by decide)
  unfold S_M_readItems_r106
  have h0 : y = sF y 106 (fb_put (gA y 106) (fun l => nI (usN (fi 0 + l))) 0 0) := by rw [fb_put_0, sF_id]
  rw [h0]
  have := hd
  have := hg
  refine lp_up (fun m i => L_M_readItems_r106_3 post m (115 : Int32) (nI 0) 2 (nI i) (sF y 106 (fb_put (gA y 106) (fun l => nI (usN (fi 0 + l))) 0 i))) 3 ?_ ?_
  · intro m i hi ih
    show B_M_readItems_r106_3 post _ _ _ _ _ _
    unfold B_M_readItems_r106_3
    refine ⟨by decide, q_lenM (by decide) (pp_n (show ¬ nI 3 ≤ nI i from nI_ge hi (by omega)) (q_usual0 hi ?_))⟩
    rw [nI_add, nI_clamp (by omega), nI_1]
    refine ⟨(vp_in_nI (by omega) (by omega)), ev (ev ?_)⟩
    have e := fb_put_succ (gA y 106) (fun l => nI (usN (fi 0 + l))) 0 i
    rw [sA_sF, e]
    exact ih
  · show B_M_readItems_r106_3 post _ _ _ _ _ _
    unfold B_M_readItems_r106_3
    refine ⟨by decide, q_lenM (by decide) (pp_y (show nI 3 ≤ nI 3 from nI_le (Nat.le_refl _) (by decide)) ?_)⟩
    refine q_look R2 (p := p) h105 hpn (fun p3 hb3 => q_spotOf (by decide) ⟨n - p3 + 2, ?_⟩)
    have hRN := RN_bl (step := stepH T n) (cl := clH) (s := mkH 1 0 0 le 0 nu rt dt gt (begV 0 0 v)) hb3
    rw [hRN] at hy hn
    show L_M_readItems_r106_45 post _ _ _ _ (nI 0) (enc (spt 2 (atS T n p3))) _
    exact items0 hd hg hd6 hg6 (n - p3) p3 (Nat.le_refl _) (sI (sF y 106 (fb_put (gA y 106) (fun l => nI (usN (fi 0 + l))) 0 3)) 105 (nI p3)) 0 le 0 nu _ (R2.sI (by decide) (by decide)) rfl hb3.2.1 hb3.2.2.2 h106 (by decide) (fun _ _ q => absurd q.2 (by decide)) (hV2.fr rfl rfl rfl) (F2.sI (by decide)) hy hn _ (Nat.le_refl _)
theorem VY.b1 {v : Nat → Nat} {dt gt d0 g0 : Nat} {y : St} (h : VY v d0 g0 y) (hd : 1 = 1 → 0 < dt) (hg : 1 = 2 → 0 < gt) (e1 : d0 = if 1 = 1 then dt - 1 else dt) (e2 : g0 = if 1 = 2 then gt - 1 else gt) (hd6 : dt ≤ 6) : VY (begV 1 (3 + 2 * (dt - 1)) v) dt gt (sF y 108 (fb_put (gA y 108) (fun l => nI (usN (fi 1 + l))) (2 * (dt - 1)) 2)) := by
  obtain ⟨h1, h2, h3⟩ := h
  have := hd
  have := hg
  simp at e1 e2
  refine ⟨fun j hj => ?_, fun d hd' l hl' => ?_, fun g hg' l hl' => ?_⟩
  · first | exact vb_no (c := 2) rfl (h1 j hj) (by omega) | exact vb_go rfl (by decide) (fun q => h1 j hj) (by omega) (by omega)
  · first | exact vb_no (c := 2) rfl (h2 d (by omega) l hl') (by omega) | exact vb_go rfl (by decide) (fun q => h2 d (by omega) l hl') (by omega) (by omega)
  · first | exact vb_no (c := 2) rfl (h3 g (by omega) l hl') (by omega) | exact vb_go rfl (by decide) (fun q => h3 g (by omega) l hl') (by omega) (by omega)
theorem q_readItems1 {T : Nat → Nat} {n B r : Nat} {y0 : St} {post : St → Prop} {rt dt gt d0 g0 : Nat} (hd : 1 = 1 → 0 < dt) (hg : 1 = 2 → 0 < gt) (e1 : d0 = if 1 = 1 then dt - 1 else dt) (e2 : g0 = if 1 = 2 then gt - 1 else gt) (hd6 : dt ≤ 6) (hg6 : gt ≤ 6) {y : St} {p le nu : Nat} {v : Nat → Nat} (hR : RX T n B r y) (h105 : gI y 105 = nI p) (hpn : p ≤ n) (h106 : gI y 106 = -1) (hV : VY v d0 g0 y) (hF : Fr FHI FHA y0 y)
    (hy : ∀ p2 le' di' nu' us' v' y', p2 ≤ n → (p2 < n → T p2 ≠ 32) → RN T n (stepH T n) clH p (mkH 1 1 0 le 0 nu rt dt gt (begV 1 (3 + 2 * (dt - 1)) v)) = RN T n (stepH T n) clH p2 (mkH 1 1 us' le' di' nu' rt dt gt v') → spt 3 (atS T n p2) = none → noD T n p2 di' → VY v' dt gt y' → RX T n B r y' → gI y' 105 = nI p2 → gI y' 106 = -1 → Fr FHI FHA y0 y' → gI y' 113 = gI y 113 → gI y' 114 = gI y 114 → gI y' 116 = gI y 116 → post y')
    (hn : ∀ f y', f ≤ n → (RN T n (stepH T n) clH p (mkH 1 1 0 le 0 nu rt dt gt (begV 1 (3 + 2 * (dt - 1)) v))).1 = some f → gI y' 106 = nI f → Fr FHI FHA y0 y' → post y') :
    S_M_readItems_r108 post (100 : Int32) (nI (2 * (dt - 1))) 3 y := by
  have hV2 := hV.b1 hd hg e1 e2 hd6
  have R2 : RX T n B r (sF y 108 (fb_put (gA y 108) (fun l => nI (usN (fi 1 + l))) (2 * (dt - 1)) 2)) := hR.sF (by decide) (by decide)
  have F2 : Fr FHI FHA y0 (sF y 108 (fb_put (gA y 108) (fun l => nI (usN (fi 1 + l))) (2 * (dt - 1)) 2)) := hF.sF (by decide)
  unfold S_M_readItems_r108
  have h0 : y = sF y 108 (fb_put (gA y 108) (fun l => nI (usN (fi 1 + l))) (2 * (dt - 1)) 0) := by rw [fb_put_0, sF_id]
  rw [h0]
  have := hd
  have := hg
  refine lp_up (fun m i => L_M_readItems_r108_3 post m (100 : Int32) (nI (2 * (dt - 1))) 3 (nI i) (sF y 108 (fb_put (gA y 108) (fun l => nI (usN (fi 1 + l))) (2 * (dt - 1)) i))) 2 ?_ ?_
  · intro m i hi ih
    show B_M_readItems_r108_3 post _ _ _ _ _ _
    unfold B_M_readItems_r108_3
    refine ⟨by decide, q_lenM (by decide) (pp_n (show ¬ nI 2 ≤ nI i from nI_ge hi (by omega)) (q_usual1 hi ?_))⟩
    rw [nI_add, nI_clamp (by omega), nI_1]
    refine ⟨(vp_in_nI (by omega) (by omega)), ev (ev ?_)⟩
    have e := fb_put_succ (gA y 108) (fun l => nI (usN (fi 1 + l))) (2 * (dt - 1)) i
    rw [sA_sF, e]
    exact ih
  · show B_M_readItems_r108_3 post _ _ _ _ _ _
    unfold B_M_readItems_r108_3
    refine ⟨by decide, q_lenM (by decide) (pp_y (show nI 2 ≤ nI 2 from nI_le (Nat.le_refl _) (by decide)) ?_)⟩
    refine q_look R2 (p := p) h105 hpn (fun p3 hb3 => q_spotOf (by decide) ⟨n - p3 + 2, ?_⟩)
    have hRN := RN_bl (step := stepH T n) (cl := clH) (s := mkH 1 1 0 le 0 nu rt dt gt (begV 1 (3 + 2 * (dt - 1)) v)) hb3
    rw [hRN] at hy hn
    show L_M_readItems_r108_45 post _ _ _ _ (nI 0) (enc (spt 3 (atS T n p3))) _
    exact items1 hd hg hd6 hg6 (n - p3) p3 (Nat.le_refl _) (sI (sF y 108 (fb_put (gA y 108) (fun l => nI (usN (fi 1 + l))) (2 * (dt - 1)) 2)) 105 (nI p3)) 0 le 0 nu _ (R2.sI (by decide) (by decide)) rfl hb3.2.1 hb3.2.2.2 h106 (by decide) (fun _ _ q => absurd q.2 (by decide)) (hV2.fr rfl rfl rfl) (F2.sI (by decide)) hy hn _ (Nat.le_refl _)
theorem VY.b2 {v : Nat → Nat} {dt gt d0 g0 : Nat} {y : St} (h : VY v d0 g0 y) (hd : 2 = 1 → 0 < dt) (hg : 2 = 2 → 0 < gt) (e1 : d0 = if 2 = 1 then dt - 1 else dt) (e2 : g0 = if 2 = 2 then gt - 1 else gt) (hd6 : dt ≤ 6) : VY (begV 2 (15 + 3 * (gt - 1)) v) dt gt (sF y 110 (fb_put (gA y 110) (fun l => nI (usN (fi 2 + l))) (3 * (gt - 1)) 3)) := by
  obtain ⟨h1, h2, h3⟩ := h
  have := hd
  have := hg
  simp at e1 e2
  refine ⟨fun j hj => ?_, fun d hd' l hl' => ?_, fun g hg' l hl' => ?_⟩
  · first | exact vb_no (c := 3) rfl (h1 j hj) (by omega) | exact vb_go rfl (by decide) (fun q => h1 j hj) (by omega) (by omega)
  · first | exact vb_no (c := 3) rfl (h2 d (by omega) l hl') (by omega) | exact vb_go rfl (by decide) (fun q => h2 d (by omega) l hl') (by omega) (by omega)
  · first | exact vb_no (c := 3) rfl (h3 g (by omega) l hl') (by omega) | exact vb_go rfl (by decide) (fun q => h3 g (by omega) l hl') (by omega) (by omega)
theorem q_readItems2 {T : Nat → Nat} {n B r : Nat} {y0 : St} {post : St → Prop} {rt dt gt d0 g0 : Nat} (hd : 2 = 1 → 0 < dt) (hg : 2 = 2 → 0 < gt) (e1 : d0 = if 2 = 1 then dt - 1 else dt) (e2 : g0 = if 2 = 2 then gt - 1 else gt) (hd6 : dt ≤ 6) (hg6 : gt ≤ 6) {y : St} {p le nu : Nat} {v : Nat → Nat} (hR : RX T n B r y) (h105 : gI y 105 = nI p) (hpn : p ≤ n) (h106 : gI y 106 = -1) (hV : VY v d0 g0 y) (hF : Fr FHI FHA y0 y)
    (hy : ∀ p2 le' di' nu' us' v' y', p2 ≤ n → (p2 < n → T p2 ≠ 32) → RN T n (stepH T n) clH p (mkH 1 2 0 le 0 nu rt dt gt (begV 2 (15 + 3 * (gt - 1)) v)) = RN T n (stepH T n) clH p2 (mkH 1 2 us' le' di' nu' rt dt gt v') → spt 4 (atS T n p2) = none → noD T n p2 di' → VY v' dt gt y' → RX T n B r y' → gI y' 105 = nI p2 → gI y' 106 = -1 → Fr FHI FHA y0 y' → gI y' 113 = gI y 113 → gI y' 114 = gI y 114 → gI y' 116 = gI y 116 → post y')
    (hn : ∀ f y', f ≤ n → (RN T n (stepH T n) clH p (mkH 1 2 0 le 0 nu rt dt gt (begV 2 (15 + 3 * (gt - 1)) v))).1 = some f → gI y' 106 = nI f → Fr FHI FHA y0 y' → post y') :
    S_M_readItems_r110 post (103 : Int32) (nI (3 * (gt - 1))) 4 y := by
  have hV2 := hV.b2 hd hg e1 e2 hd6
  have R2 : RX T n B r (sF y 110 (fb_put (gA y 110) (fun l => nI (usN (fi 2 + l))) (3 * (gt - 1)) 3)) := hR.sF (by decide) (by decide)
  have F2 : Fr FHI FHA y0 (sF y 110 (fb_put (gA y 110) (fun l => nI (usN (fi 2 + l))) (3 * (gt - 1)) 3)) := hF.sF (by decide)
  unfold S_M_readItems_r110
  have h0 : y = sF y 110 (fb_put (gA y 110) (fun l => nI (usN (fi 2 + l))) (3 * (gt - 1)) 0) := by rw [fb_put_0, sF_id]
  rw [h0]
  have := hd
  have := hg
  refine lp_up (fun m i => L_M_readItems_r110_3 post m (103 : Int32) (nI (3 * (gt - 1))) 4 (nI i) (sF y 110 (fb_put (gA y 110) (fun l => nI (usN (fi 2 + l))) (3 * (gt - 1)) i))) 3 ?_ ?_
  · intro m i hi ih
    show B_M_readItems_r110_3 post _ _ _ _ _ _
    unfold B_M_readItems_r110_3
    refine ⟨by decide, q_lenM (by decide) (pp_n (show ¬ nI 3 ≤ nI i from nI_ge hi (by omega)) (q_usual2 hi ?_))⟩
    rw [nI_add, nI_clamp (by omega), nI_1]
    refine ⟨(vp_in_nI (by omega) (by omega)), ev (ev ?_)⟩
    have e := fb_put_succ (gA y 110) (fun l => nI (usN (fi 2 + l))) (3 * (gt - 1)) i
    rw [sA_sF, e]
    exact ih
  · show B_M_readItems_r110_3 post _ _ _ _ _ _
    unfold B_M_readItems_r110_3
    refine ⟨by decide, q_lenM (by decide) (pp_y (show nI 3 ≤ nI 3 from nI_le (Nat.le_refl _) (by decide)) ?_)⟩
    refine q_look R2 (p := p) h105 hpn (fun p3 hb3 => q_spotOf (by decide) ⟨n - p3 + 2, ?_⟩)
    have hRN := RN_bl (step := stepH T n) (cl := clH) (s := mkH 1 2 0 le 0 nu rt dt gt (begV 2 (15 + 3 * (gt - 1)) v)) hb3
    rw [hRN] at hy hn
    show L_M_readItems_r110_45 post _ _ _ _ (nI 0) (enc (spt 4 (atS T n p3))) _
    exact items2 hd hg hd6 hg6 (n - p3) p3 (Nat.le_refl _) (sI (sF y 110 (fb_put (gA y 110) (fun l => nI (usN (fi 2 + l))) (3 * (gt - 1)) 3)) 105 (nI p3)) 0 le 0 nu _ (R2.sI (by decide) (by decide)) rfl hb3.2.1 hb3.2.2.2 h106 (by decide) (fun _ _ q => absurd q.2 (by decide)) (hV2.fr rfl rfl rfl) (F2.sI (by decide)) hy hn _ (Nat.le_refl _)
theorem q_whole {post : Int32 → St → Prop} {y : St} {dt gt : Nat} {v : Nat → Nat} (hd : gI y 113 = nI dt) (hg : gI y 114 = nI gt) (hd6 : dt ≤ 6) (hg6 : gt ≤ 6) (hV : VY v dt gt y) (h1 : wholeH dt gt v = true → post 1 y) (h0 : ¬ wholeH dt gt v = true → post 0 y) : S_M_isWhole post y := by
  have lp : ∀ m g, g + m = gt → (allF (fun g => decide (v (15 + 3 * g) < dt)) m g = true → (2 ≤ dt ∧ 1 ≤ gt ∧ v 0 < dt) → post 1 y) → (¬ (allF (fun g => decide (v (15 + 3 * g) < dt)) m g = true ∧ (2 ≤ dt ∧ 1 ≤ gt ∧ v 0 < dt)) → post 0 y) → ∀ k, m + 1 ≤ k → L_M_isWhole_2 post k (nI g) y := by
    intro m
    induction m with
    | zero =>
      intro g hgm a1 a0 k hk
      obtain ⟨k, rfl⟩ : ∃ j, k = j + 1 := ⟨k - 1, by omega⟩
      have b0 := hV.1 0 (by omega)
      show B_M_isWhole_2 post _ _ y
      unfold B_M_isWhole_2
      rw [hg, hd, b0.1, k1, nI_leI (show dt < 2 ^ 31 by omega) (show 1 < 2 ^ 31 by omega), nI_le0 (show gt < 2 ^ 31 by omega), nI_leI (show dt < 2 ^ 31 by omega) (show v 0 < 2 ^ 31 by omega)]
      refine pp_y (nI_le (by omega) (by omega)) ⟨fun c => a0 (fun q => by omega), fun c => ⟨fun c2 => a0 (fun q => by omega), fun c2 => ⟨fun c3 => a0 (fun q => by omega), fun c3 => a1 rfl ⟨by omega, by omega, by omega⟩⟩⟩⟩
    | succ m ih =>
      intro g hgm a1 a0 k hk
      obtain ⟨k, rfl⟩ : ∃ j, k = j + 1 := ⟨k - 1, by omega⟩
      have bg := hV.2.2 g (by omega) 0 (by omega)
      show B_M_isWhole_2 post _ _ y
      unfold B_M_isWhole_2
      rw [hg, hd, k3, pk_mul, nI_clamp (by omega), nI_1 g]
      refine pp_n (nI_ge (by omega) (by omega)) ⟨(vp_in_nI (by omega) (by omega)), ?_⟩
      rw [show gA y 110 (3 * g) = nI (v (15 + 3 * g)) from bg.1, nI_ltI (by have := bg.2; show v (15 + 3 * g + 0) < _; omega) (by omega)]
      rw [allF] at a1 a0
      refine ⟨fun c => ev (ih (g + 1) (by omega) (fun q => a1 ?_) (fun q => a0 (fun p => q ⟨?_, p.2⟩)) k (by omega)), fun c => a0 (fun p => ?_)⟩
      · rw [decide_eq_true c, Bool.true_and]; exact q
      · have := p.1
        rw [decide_eq_true c, Bool.true_and] at this; exact this
      · have := p.1
        rw [decide_eq_false c, Bool.false_and] at this; exact absurd this (by decide)
  have hw : wholeH dt gt v = true ↔ (allF (fun g => decide (v (15 + 3 * g) < dt)) gt 0 = true ∧ (2 ≤ dt ∧ 1 ≤ gt ∧ v 0 < dt)) := by
    unfold wholeH
    rw [Bool.and_eq_true_iff, Bool.and_eq_true_iff, Bool.and_eq_true_iff, decide_eq_true_iff, decide_eq_true_iff, decide_eq_true_iff]
    exact ⟨fun q => ⟨q.2, q.1.1.1, q.1.1.2, q.1.2⟩, fun q => ⟨⟨⟨q.2.1, q.2.2.1⟩, q.2.2.2⟩, q.1⟩⟩
  rw [hw] at h1 h0
  exact ⟨_, lp gt 0 (by omega) (fun a b => h1 ⟨a, b⟩) h0 _ (Nat.le_refl _)⟩
def stepA (T : Nat → Nat) (i kd us le di nu rt dt gt : Nat) (v : Nat → Nat) : Option SH :=
  (if T i = 115 ∧ rt < 1 then some (mkH 1 0 0 le 0 nu (rt + 1) dt gt (begV 0 0 v))
      else if T i = 100 ∧ dt < 6 then some (mkH 1 1 0 le 0 nu rt (dt + 1) gt (begV 1 (3 + 2 * dt) v))
      else if T i = 103 ∧ gt < 6 then some (mkH 1 2 0 le 0 nu rt dt (gt + 1) (begV 2 (15 + 3 * gt) v))
      else none)
theorem stepA_eq {T : Nat → Nat} {n i kd us le di nu rt dt gt : Nat} {v : Nat → Nat} : stepH T n i (mkH 0 kd us le di nu rt dt gt v) = stepA T i kd us le di nu rt dt gt v := by
  unfold stepH mkH
  exact if_pos rfl
/-- a clause is read -/
theorem q_clauseM {post : St → Prop} {T : Nat → Nat} {n B r : Nat} {y y0 : St} {p kd us le di nu rt dt gt : Nat} {v : Nat → Nat} (hR : RX T n B r y) (h105 : gI y 105 = nI p) (hpn : p ≤ n) (h106 : gI y 106 = -1) (h113 : gI y 113 = nI dt) (h114 : gI y 114 = nI gt) (h116 : gI y 116 = nI rt) (hr1 : rt ≤ 1) (hd6 : dt ≤ 6) (hg6 : gt ≤ 6) (hV : VY v dt gt y) (hF : Fr FHI FHA y0 y)
    (hy : ∀ p2 kd' le' di' nu' us' rt' dt' gt' v' y', kd' ≤ 2 → rt' + dt' + gt' = rt + dt + gt + 1 → p2 ≤ n → (p2 < n → T p2 ≠ 32) → RN T n (stepH T n) clH p (mkH 0 kd us le di nu rt dt gt v) = RN T n (stepH T n) clH p2 (mkH 1 kd' us' le' di' nu' rt' dt' gt' v') → spt (2 + kd') (atS T n p2) = none → noD T n p2 di' → VY v' dt' gt' y' → RX T n B r y' → gI y' 105 = nI p2 → gI y' 106 = -1 → Fr FHI FHA y0 y' → gI y' 113 = nI dt' → gI y' 114 = nI gt' → gI y' 116 = nI rt' → rt' ≤ 1 → dt' ≤ 6 → gt' ≤ 6 → post y')
    (hn : ∀ f y', f ≤ n → (RN T n (stepH T n) clH p (mkH 0 kd us le di nu rt dt gt v)).1 = some f → gI y' 106 = nI f → Fr FHI FHA y0 y' → post y') : S_M_readClause post y := by
  have h960 := hR.n_le
  unfold S_M_readClause
  refine q_look hR h105 hpn (fun p1 hb => ?_)
  have hb1 := hb.1
  have hb2 := hb.2.1
  have hRN := RN_bl (step := stepH T n) (cl := clH) (s := mkH 0 kd us le di nu rt dt gt v) hb
  rw [hRN] at hy hn
  have R1 := hR.sI (k := 105) (v := nI p1) (by decide) (by decide)
  have F1 := hF.sI (k := 105) (v := nI p1) (by decide)
  have bad : (RN T n (stepH T n) clH p1 (mkH 0 kd us le di nu rt dt gt v)).1 = some p1 → ∀ x, B_M_readClause_52 post x (sI y 105 (nI p1)) := fun e x => by
    unfold B_M_readClause_52 B_M_readClause_53
    exact pp_y rfl (q_fails_1 (p := p1) rfl h106 (hn p1 _ hb2 e rfl (F1.sI (by decide))))
  by_cases c : p1 < n
  · rw [if_pos c]
    have hT := (R1.at c).2.2
    have hs := stepA_eq (T := T) (n := n) (i := p1) (kd := kd) (us := us) (le := le) (di := di) (nu := nu) (rt := rt) (dt := dt) (gt := gt) (v := v)
    unfold stepA at hs
    have b33 : ¬ (T p1 = 115 ∧ rt < 1) → ¬ (T p1 = 100 ∧ dt < 6) → B_M_readClause_33 post (nI (T p1)) (sI y 105 (nI p1)) := fun n1 n2 => by
      rw [if_neg n1, if_neg n2] at hs
      unfold B_M_readClause_33
      rw [show gI (sI y 105 (nI p1)) 114 = nI gt from h114, k103, k6, nI_eq (by omega) (by omega), nI_leI (by omega) (by omega)]
      have no : ¬ (T p1 = 103 ∧ gt < 6) → B_M_readClause_52 post (nI (T p1)) (sI y 105 (nI p1)) := fun q => by
        rw [if_neg q] at hs
        exact bad (by rw [RN_no c (hb.2.2.2 c) hs]) _
      refine ⟨fun c1 => ⟨fun c2 => no (fun q => by omega), fun c2 => ?_⟩, fun c1 => no (fun q => c1 q.1)⟩
      rw [if_pos ⟨c1, by omega⟩] at hs
      have hR2 := RN_yes (cl := clH) c (hb.2.2.2 c) hs
      rw [hR2] at hy hn
      unfold B_M_readClause_48 B_M_readClause_53
      refine pp_n (by decide) (ev ?_)
      rw [c1, show gI (sI y 105 (nI p1)) 105 = nI p1 from rfl, nI_1, sI_sI]
      refine pp_n (by decide) (pp_n (by decide) (ev ?_))
      rw [show gI (sI y 105 (nI (p1 + 1))) 114 = nI gt from h114, nI_1, show gI (sI (sI y 105 (nI (p1 + 1))) 114 (nI (gt + 1))) 114 = nI (gt + 1) from rfl, nI_pred, k3, pk_mul]
      show S_M_readItems_r110 _ 103 (nI (3 * (gt + 1 - 1))) 4 _
      refine q_readItems2 (y := sI (sI y 105 (nI (p1 + 1))) 114 (nI (gt + 1))) (y0 := y0) (n := n) (T := T) (rt := rt) (dt := dt) (gt := gt + 1) (d0 := dt) (g0 := gt) (le := le) (nu := nu) (v := v) (fun q => absurd q (by decide)) (fun _ => by omega) rfl rfl hd6 (by omega) ((hR.sI (by decide) (by decide)).sI (by decide) (by decide)) (p := p1 + 1) rfl (by omega) h106 (hV.fr rfl rfl rfl) ((hF.sI (by decide)).sI (by decide)) (fun p2 le' di' nu' us' v' y' a1 a2 a3 a4 a5 a6 a7 a8 a9 a10 a11 a12 a13 => ?_) (fun f y' a1 a2 a3 a4 => hn f y' a1 a2 a3 a4)
      exact hy p2 2 le' di' nu' us' rt dt (gt + 1) v' y' (by omega) (by omega) a1 a2 a3 a4 a5 a6 a7 a8 a9 a10 (a11.trans h113) a12 (a13.trans h116) hr1 hd6 (by omega)
    have b18 : ¬ (T p1 = 115 ∧ rt < 1) → B_M_readClause_18 post (nI (T p1)) (sI y 105 (nI p1)) := fun n1 => by
      unfold B_M_readClause_18
      rw [show gI (sI y 105 (nI p1)) 113 = nI dt from h113, k100, k6, nI_eq (by omega) (by omega), nI_ltI (by omega) (by omega)]
      refine ⟨fun c1 => ⟨fun c2 => ?_, fun c2 => b33 n1 (fun q => c2 q.2)⟩, fun c1 => b33 n1 (fun q => c1 q.1)⟩
      rw [if_neg n1, if_pos ⟨c1, c2⟩] at hs
      have hR2 := RN_yes (cl := clH) c (hb.2.2.2 c) hs
      rw [hR2] at hy hn
      unfold B_M_readClause_48 B_M_readClause_53
      refine pp_n (by decide) (ev ?_)
      rw [c1, show gI (sI y 105 (nI p1)) 105 = nI p1 from rfl, nI_1, sI_sI]
      refine pp_n (by decide) (pp_y (by decide) (ev ?_))
      rw [show gI (sI y 105 (nI (p1 + 1))) 113 = nI dt from h113, nI_1, show gI (sI (sI y 105 (nI (p1 + 1))) 113 (nI (dt + 1))) 113 = nI (dt + 1) from rfl, nI_pred, k2, pk_mul]
      show S_M_readItems_r108 _ 100 (nI (2 * (dt + 1 - 1))) 3 _
      refine q_readItems1 (y := sI (sI y 105 (nI (p1 + 1))) 113 (nI (dt + 1))) (y0 := y0) (n := n) (T := T) (rt := rt) (dt := dt + 1) (gt := gt) (d0 := dt) (g0 := gt) (le := le) (nu := nu) (v := v) (fun _ => by omega) (fun q => absurd q (by decide)) rfl rfl (by omega) hg6 ((hR.sI (by decide) (by decide)).sI (by decide) (by decide)) (p := p1 + 1) rfl (by omega) h106 (hV.fr rfl rfl rfl) ((hF.sI (by decide)).sI (by decide)) (fun p2 le' di' nu' us' v' y' a1 a2 a3 a4 a5 a6 a7 a8 a9 a10 a11 a12 a13 => ?_) (fun f y' a1 a2 a3 a4 => hn f y' a1 a2 a3 a4)
      exact hy p2 1 le' di' nu' us' rt (dt + 1) gt v' y' (by omega) (by omega) a1 a2 a3 a4 a5 a6 a7 a8 a9 a10 a11 (a12.trans h114) (a13.trans h116) hr1 (by omega) hg6
    rw [show (115 : Int32) = nI 115 from rfl, nI_eq (by omega) (by omega), show gI (sI y 105 (nI p1)) 116 = nI rt from h116, nI_eq0 (by omega)]
    refine ⟨fun c1 => ⟨fun c2 => ?_, fun c2 => b18 (fun q => by omega)⟩, fun c1 => b18 (fun q => c1 q.1)⟩
    rw [if_pos ⟨c1, by omega⟩] at hs
    have hR2 := RN_yes (cl := clH) c (hb.2.2.2 c) hs
    rw [hR2] at hy hn
    unfold B_M_readClause_48 B_M_readClause_53
    refine pp_n (by decide) (ev ?_)
    rw [c1, show gI (sI y 105 (nI p1)) 105 = nI p1 from rfl, nI_1, sI_sI]
    refine pp_y (by decide) (ev ?_)
    show S_M_readItems_r106 _ 115 (nI 0) 2 _
    subst c2
    refine q_readItems0 (y := sI (sI y 105 (nI (p1 + 1))) 116 1) (y0 := y0) (n := n) (T := T) (rt := 0 + 1) (dt := dt) (gt := gt) (d0 := dt) (g0 := gt) (le := le) (nu := nu) (v := v) (fun q => absurd q (by decide)) (fun q => absurd q (by decide)) rfl rfl hd6 hg6 ((hR.sI (by decide) (by decide)).sI (by decide) (by decide)) (p := p1 + 1) rfl (by omega) h106 (hV.fr rfl rfl rfl) ((hF.sI (by decide)).sI (by decide)) (fun p2 le' di' nu' us' v' y' a1 a2 a3 a4 a5 a6 a7 a8 a9 a10 a11 a12 a13 => ?_) (fun f y' a1 a2 a3 a4 => hn f y' a1 a2 a3 a4)
    exact hy p2 0 le' di' nu' us' (0 + 1) dt gt v' y' (by omega) (by omega) a1 a2 a3 a4 a5 a6 a7 a8 a9 a10 (a11.trans h113) (a12.trans h114) a13 (by omega) hd6 hg6
  · rw [if_neg c]
    have e : p1 = n := by omega
    subst e
    have b := bad (by rw [RN_end]; rfl) (-1)
    refine pp_n (by decide) ?_
    unfold B_M_readClause_18 B_M_readClause_33
    exact pp_n (by decide) (pp_n (by decide) b)
/-- what the machine says at the end of a clause where no further letter stands -/
theorem H_stop {T : Nat → Nat} {n p kd us le di nu rt dt gt : Nat} {v : Nat → Nat} (c : p < n) (h32 : T p ≠ 32) (hs : spt (2 + kd) (atS T n p) = none) (hD : noD T n p di) (h59 : T p ≠ 59) : (RN T n (stepH T n) clH p (mkH 1 kd us le di nu rt dt gt v)).1 = some p := by
  have e : stepH T n p (mkH 1 kd us le di nu rt dt gt v) = none := by
    unfold atS at hs
    rw [if_pos c] at hs
    unfold stepH mkH
    show (if (1 : Nat) = 0 then _ else if dg (T p) = true then (if (1 : Nat) = 2 ∨ (jn T p = true ∧ di = 1) then _ else none) else if (1 : Nat) = 2 then _ else if T p = 59 then _ else match spt (2 + kd) (nI (T p)) with | none => none | some l => if us.testBit l = true then none else some (mkH 2 kd (us ||| 2 ^ l) l 0 0 rt dt gt v)) = _
    by_cases cd : dg (T p) = true
    · rw [if_neg (by decide), if_pos cd, if_neg (fun q => q.elim (by decide) (hD c cd))]
    · rw [if_neg (by decide), if_neg cd, if_neg (by decide), if_neg h59, hs]
  rw [RN_no c h32 e]
theorem H_next {T : Nat → Nat} {n p kd us le di nu rt dt gt : Nat} {v : Nat → Nat} (c : p < n) (h59 : T p = 59) : RN T n (stepH T n) clH p (mkH 1 kd us le di nu rt dt gt v) = RN T n (stepH T n) clH (p + 1) (mkH 0 kd us le di nu rt dt gt v) := by
  refine RN_yes c (by omega) ?_
  unfold stepH mkH
  show (if (1 : Nat) = 0 then _ else if dg (T p) = true then _ else if (1 : Nat) = 2 then _ else if T p = 59 then _ else _) = _
  rw [if_neg (by decide), if_neg (by rw [h59]; decide), if_neg (by decide), if_pos h59]
def endH (y0 y' : St) (res : Option Nat × SH) : Prop := Fr FHI FHA y0 y' ∧ gI y' 106 = faI res.1 ∧ (res.1 = none → gI y' 113 = nI res.2.2.1.2.1 ∧ gI y' 114 = nI res.2.2.1.2.2 ∧ VY res.2.2.2 res.2.2.1.2.1 res.2.2.1.2.2 y')
theorem house_M {T : Nat → Nat} {n B r : Nat} {y0 : St} {post : St → Prop} : ∀ m (y : St) (p kd us le di nu rt dt gt : Nat) (v : Nat → Nat), 13 - (rt + dt + gt) ≤ m → RX T n B r y → gI y 105 = nI p → p ≤ n → gI y 106 = -1 → gI y 113 = nI dt → gI y 114 = nI gt → gI y 116 = nI rt → rt ≤ 1 → dt ≤ 6 → gt ≤ 6 → VY v dt gt y → Fr FHI FHA y0 y →
    (∀ y', endH y0 y' (RN T n (stepH T n) clH p (mkH 0 kd us le di nu rt dt gt v)) → post y') → ∀ k, m + 2 ≤ k → L_M_readHouse_55 post k 1 y := by
  intro m
  induction m using Nat.strongRecOn with
  | ind m ih =>
    intro y p kd us le di nu rt dt gt v hm hR h105 hpn h106 h113 h114 h116 hr1 hd6 hg6 hV hF hp k hk
    have h960 := hR.n_le
    obtain ⟨k, rfl⟩ : ∃ j, k = j + 1 := ⟨k - 1, by omega⟩
    show B_M_readHouse_55 post _ _ y
    unfold B_M_readHouse_55
    refine pp_n (by decide) (pp_y h106 (q_clauseM (kd := kd) (us := us) (le := le) (di := di) (nu := nu) hR h105 hpn h106 h113 h114 h116 hr1 hd6 hg6 hV hF (fun p2 kd' le' di' nu' us' rt' dt' gt' v' y' hk2 hsum hp2 h32 hRN hsp hD hV' hR' e105 e106 hF' e113 e114 e116 hr1' hd6' hg6' => ?_) (fun f y' hf hRN e106 hF' => ?_)))
    · rw [hRN] at hp
      refine pp_y e106 (q_look hR' e105 hp2 (fun p3 hb => ?_))
      have e3 : p3 = p2 := by
        rcases Nat.lt_or_ge p2 p3 with q | q
        · have := hb.2.1
          exact absurd (hb.2.2.1 p2 (Nat.le_refl _) q) (h32 (by omega))
        · have := hb.1; omega
      subst e3
      rw [sI_id e105]
      have stop : (RN T n (stepH T n) clH p3 (mkH 1 kd' us' le' di' nu' rt' dt' gt' v')).1 = some p3 → B_M_readHouse_134 post y' := fun e => by
        unfold B_M_readHouse_134
        exact q_fails_1 e105 e106 (hp _ ⟨hF'.sI (by decide), by rw [e]; rfl, fun q => by rw [e] at q; cases q⟩)
      by_cases c : p3 < n
      · have hT := (hR'.at c).2.2
        rw [if_pos c, k59, nI_eq (by omega) (by omega)]
        refine ⟨fun c1 => ?_, fun c1 => ?_⟩
        · unfold B_M_readHouse_93
          refine pp_n (by decide) (ev ?_)
          rw [e105, nI_1]
          rw [H_next c c1] at hp
          exact ih (m - 1) (by omega) (sI y' 105 (nI (p3 + 1))) (p3 + 1) kd' us' le' di' nu' rt' dt' gt' v' (by omega) (hR'.sI (by decide) (by decide)) rfl (by omega) e106 e113 e114 e116 hr1' hd6' hg6' (hV'.fr rfl rfl rfl) (hF'.sI (by decide)) hp k (by omega)
        · unfold B_M_readHouse_92 B_M_readHouse_93
          refine pp_y rfl ?_
          obtain ⟨k, rfl⟩ : ∃ j, k = j + 1 := ⟨k - 1, by omega⟩
          show B_M_readHouse_55 post _ _ y'
          unfold B_M_readHouse_55 B_M_readHouse_111
          refine pp_y rfl (pp_y e106 (q_look hR' e105 hp2 (fun p4 hb4 => ?_)))
          have e4 : p4 = p3 := by
            rcases Nat.lt_or_ge p3 p4 with q | q
            · exact absurd (hb4.2.2.1 p3 (Nat.le_refl _) q) (h32 (by omega))
            · have := hb4.1; omega
          subst e4
          rw [sI_id e105, if_pos c]
          exact pp_n (fun q => (nI_m1 (by omega)).mp q) (stop (H_stop c (h32 c) hsp hD c1))
      · rw [if_neg c]
        have en : p3 = n := by omega
        subst en
        refine pp_n (by decide) ?_
        unfold B_M_readHouse_92 B_M_readHouse_93
        refine pp_y rfl ?_
        obtain ⟨k, rfl⟩ : ∃ j, k = j + 1 := ⟨k - 1, by omega⟩
        show B_M_readHouse_55 post _ _ y'
        unfold B_M_readHouse_55 B_M_readHouse_111
        refine pp_y rfl (pp_y e106 (q_look hR' e105 hp2 (fun p4 hb4 => ?_)))
        have e4 : p4 = p3 := by have := hb4.1; have := hb4.2.1; omega
        subst e4
        rw [sI_id e105, if_neg c]
        have hcl : clH (mkH 1 kd' us' le' di' nu' rt' dt' gt' v') = if (1 : Nat) = 1 ∧ wholeH dt' gt' v' = true then some (mkH 1 kd' us' le' di' nu' rt' dt' gt' v') else none := rfl
        refine pp_y rfl (q_whole e113 e114 hd6' hg6' hV' (fun cw => r11 ?_) (fun cw => r01 (stop ?_)))
        · rw [if_pos ⟨rfl, cw⟩] at hcl
          rw [RN_end, hcl] at hp
          exact hp y' ⟨hF', e106, fun _ => ⟨e113, e114, hV'⟩⟩
        · rw [if_neg (fun q => cw q.2)] at hcl
          rw [RN_end, hcl]
    · have n106 : ¬ gI y' 106 = -1 := by rw [e106]; exact fun q => (nI_m1 (by omega)).mp q
      refine pp_n n106 ?_
      unfold B_M_readHouse_92 B_M_readHouse_93
      refine pp_y rfl ?_
      obtain ⟨k, rfl⟩ : ∃ j, k = j + 1 := ⟨k - 1, by omega⟩
      show B_M_readHouse_55 post _ _ y'
      unfold B_M_readHouse_55 B_M_readHouse_111
      exact pp_y rfl (pp_n n106 (hp y' ⟨hF', by rw [hRN]; exact e106, fun q => by rw [hRN] at q; cases q⟩))
