/-! houses read: the class -/
abbrev SH : Type := (Nat × Nat × Nat × Nat × Nat × Nat) × (Nat × Nat × Nat) × (Nat → Nat)
def mkH (aw kd us le di nu rt dt gt : Nat) (v : Nat → Nat) : SH := ((aw, kd, us, le, di, nu), (rt, dt, gt), v)
def fi (kd : Nat) : Nat := if kd = 0 then 0 else if kd = 1 then 3 else 5
def cn (kd : Nat) : Nat := if kd = 1 then 2 else 3
def fv (kd dt gt : Nat) : Nat := if kd = 0 then 0 else if kd = 1 then 3 + 2 * (dt - 1) else 15 + 3 * (gt - 1)
def usN (i : Nat) : Nat := [0, 5, 3, 5, 5, 0, 20, 5].getD i 0
def moN (i : Nat) : Nat := [5, 30, 9, 9, 60, 5, 99, 9].getD i 0
def begV (kd base : Nat) (v : Nat → Nat) : Nat → Nat := fun j => if base ≤ j ∧ j < base + cn kd then usN (fi kd + (j - base)) else v j
def jn (T : Nat → Nat) (i : Nat) : Bool := if i = 0 then false else decide (T (i - 1) ≠ 32)
def dgn (T : Nat → Nat) (n i : Nat) : Bool := decide (i < n) && dg (T i)
def stepH (T : Nat → Nat) (n i : Nat) : SH → Option SH
  | ((aw, kd, us, le, di, nu), (rt, dt, gt), v) =>
    if aw = 0 then
      (if T i = 115 ∧ rt < 1 then some (mkH 1 0 0 le 0 nu (rt + 1) dt gt (begV 0 0 v))
      else if T i = 100 ∧ dt < 6 then some (mkH 1 1 0 le 0 nu rt (dt + 1) gt (begV 1 (3 + 2 * dt) v))
      else if T i = 103 ∧ gt < 6 then some (mkH 1 2 0 le 0 nu rt dt (gt + 1) (begV 2 (15 + 3 * gt) v))
      else none)
    else if dg (T i) = true then
      (if aw = 2 ∨ (jn T i = true ∧ di = 1) then
        (if dgn T n (i + 1) = true then some (mkH 1 kd us le (di + 1) (nu * 10 + (T i - 48)) rt dt gt v)
        else if nu * 10 + (T i - 48) ≤ moN (fi kd + le) then some (mkH 1 kd us le (di + 1) (nu * 10 + (T i - 48)) rt dt gt (fun j => if j = fv kd dt gt + le then nu * 10 + (T i - 48) else v j))
        else none)
      else none)
    else if aw = 2 then none
    else if T i = 59 then some (mkH 0 kd us le di nu rt dt gt v)
    else match spt (2 + kd) (nI (T i)) with
      | none => none
      | some l => if us.testBit l = true then none else some (mkH 2 kd (us ||| 2 ^ l) l 0 0 rt dt gt v)
def wholeH (dt gt : Nat) (v : Nat → Nat) : Bool := decide (2 ≤ dt) && decide (1 ≤ gt) && decide (v 0 < dt) && allF (fun g => decide (v (15 + 3 * g) < dt)) gt 0
def clH : SH → Option SH
  | ((aw, kd, us, le, di, nu), (rt, dt, gt), v) => if aw = 1 ∧ wholeH dt gt v = true then some (mkH aw kd us le di nu rt dt gt v) else none
def VZ (v : Nat → Nat) (dt gt : Nat) (f : Nat → Int32) : Prop :=
  (∀ j, j < 3 → f j = nI (v j) ∧ v j ≤ moN j) ∧ (∀ d, d < dt → ∀ l, l < 2 → f (3 + 2 * d + l) = nI (v (3 + 2 * d + l)) ∧ v (3 + 2 * d + l) ≤ moN (3 + l)) ∧ (∀ g, g < gt → ∀ l, l < 3 → f (15 + 3 * g + l) = nI (v (15 + 3 * g + l)) ∧ v (15 + 3 * g + l) ≤ moN (5 + l))
def HZ (z : St) : SH → Prop
  | ((aw, kd, us, le, di, nu), (rt, dt, gt), v) =>
    gI z 3 = nI aw ∧ aw ≤ 2 ∧ gI z 4 = nI rt ∧ rt ≤ 1 ∧ gI z 5 = nI dt ∧ dt ≤ 6 ∧ gI z 6 = nI gt ∧ gt ≤ 6 ∧
    (aw ≠ 0 → gT z 0 = 2 + kd ∧ kd ≤ 2 ∧ (kd = 1 → 0 < dt) ∧ (kd = 2 → 0 < gt) ∧ gI z 7 = nI (fi kd) ∧ gI z 8 = nI (fv kd dt gt) ∧ gI z 9 = nI us ∧ us < 8 ∧ gI z 11 = nI di ∧ di ≤ 2 ∧
      ((aw = 2 ∨ di = 1) → gI z 10 = nI le ∧ le < cn kd ∧ gI z 12 = nI nu ∧ nu ≤ 9 ∧ (aw = 2 → nu = 0 ∧ di = 0))) ∧ VZ v dt gt (gA z 13)
def HF : List Nat := [3, 4, 5, 6, 7, 8, 9, 10, 11, 12]
theorem us_st : ∀ i, i < 8 → st50.getD i 0 = nI (usN i) := by decide
theorem mo_st : ∀ i, i < 8 → st51.getD i 0 = nI (moN i) := by decide
theorem us_mo : ∀ i, i < 8 → usN i ≤ moN i := by decide
theorem mo_le : ∀ i, moN i ≤ 99 := fun i => by
  by_cases h : i < 8
  · exact (by decide : ∀ i, i < 8 → moN i ≤ 99) i h
  · unfold moN; rw [List.getD_eq_getElem?_getD, List.getElem?_eq_none (by simp; omega)]; decide
theorem fi_cn {kd : Nat} (h : kd ≤ 2) : fi kd + cn kd ≤ 8 := by
  have : kd = 0 ∨ kd = 1 ∨ kd = 2 := by omega
  rcases this with rfl | rfl | rfl <;> decide
theorem cn_le {kd : Nat} : 2 ≤ cn kd ∧ cn kd ≤ 3 := by unfold cn; split <;> omega
theorem sl_cn {kd : Nat} (h : kd ≤ 2) : slen.getD (2 + kd) 0 = cn kd := by
  have : kd = 0 ∨ kd = 1 ∨ kd = 2 := by omega
  rcases this with rfl | rfl | rfl <;> decide
theorem q_begin {post : St → Prop} {z : St} {kd base : Nat} (hk : kd ≤ 2) (hb : base + cn kd ≤ 33) (hp : ∀ z', Fr HF [13] z z' → gI z' 4 = gI z 4 → gI z' 5 = gI z 5 → gI z' 6 = gI z 6 → gT z' 0 = 2 + kd → gI z' 3 = 1 → gI z' 7 = nI (fi kd) → gI z' 8 = nI base → gI z' 9 = 0 → gI z' 11 = 0 → (∀ j, gA z' 13 j = if base ≤ j ∧ j < base + cn kd then nI (usN (fi kd + (j - base))) else gA z 13 j) → post z') : S_HouseReader_begin post (2 + kd) (nI (fi kd)) (nI base) z := by
  have c3 := cn_le (kd := kd)
  have f8 := fi_cn hk
  unfold S_HouseReader_begin
  refine ev (ev (ev (ev (ev (ev ?_)))))
  generalize hz1 : sI (sI (sI (sI (sI (sT z 0 (2 + kd)) 7 (nI (fi kd))) 8 (nI base)) 9 0) 11 0) 3 1 = z1
  have fz : Fr HF [13] z z1 := by rw [← hz1]; exact ((((Fr.rf.sT.sI (by decide)).sI (by decide)).sI (by decide)).sI (by decide)).sI (by decide)
  have h0 : z1 = sF z1 13 (fb_put (gA z1 13) (fun i => st50.getD (fi kd + i) 0) base 0) := by rw [fb_put_0, sF_id]
  rw [h0]
  refine lp_up (fun m i => L_HouseReader_begin_33 post m (2 + kd) (nI (fi kd)) (nI base) (nI i) (sF z1 13 (fb_put (gA z1 13) (fun i => st50.getD (fi kd + i) 0) base i))) (cn kd) ?_ ?_
  · intro m i hi ih
    show B_HouseReader_begin_33 post _ _ _ _ _ _
    unfold B_HouseReader_begin_33
    refine ⟨by omega, q_lenX (by omega) ?_⟩
    rw [sl_cn hk, nI_add, nI_add, nI_clamp (by omega), nI_clamp (by omega), nI_1]
    refine pp_n (nI_ge hi (by omega)) ⟨(vp_in_nI (by omega) (by omega)), (vp_in_nI (by omega) (by omega)), ev (ev ?_)⟩
    have e := fb_put_succ (gA z1 13) (fun i => st50.getD (fi kd + i) 0) base i
    rw [sA_sF, e]
    exact ih
  · show B_HouseReader_begin_33 post _ _ _ _ _ _
    unfold B_HouseReader_begin_33
    refine ⟨by omega, q_lenX (by omega) ?_⟩
    rw [sl_cn hk]
    refine pp_y (nI_le (Nat.le_refl _) (by omega)) (hp _ (fz.sF (by decide)) ?_ ?_ ?_ ?_ ?_ ?_ ?_ ?_ ?_ (fun j => ?_))
    all_goals try (rw [← hz1]; rfl)
    rw [gA_sF, if_pos rfl]
    unfold fb_put
    by_cases c : base ≤ j ∧ j < base + cn kd
    · rw [if_pos c, if_pos c]; exact us_st _ (by omega)
    · rw [if_neg c, if_neg c, ← hz1]; rfl
theorem VZ.beg {v : Nat → Nat} {dt gt kd base : Nat} {f f' : Nat → Int32} (h : VZ v dt gt f) (hk : kd ≤ 2) (hf : ∀ j, f' j = if base ≤ j ∧ j < base + cn kd then nI (usN (fi kd + (j - base))) else f j) (hb : (kd = 0 ∧ base = 0) ∨ (kd = 1 ∧ base = 3 + 2 * dt ∧ dt < 6) ∨ (kd = 2 ∧ base = 15 + 3 * gt)) (hdt : dt ≤ 6) : VZ (begV kd base v) (if kd = 1 then dt + 1 else dt) (if kd = 2 then gt + 1 else gt) f' := by
  obtain ⟨h1, h2, h3⟩ := h
  have c3 := cn_le (kd := kd)
  have f8 := fi_cn hk
  have inn : ∀ j, base ≤ j → j < base + cn kd → f' j = nI (begV kd base v j) ∧ begV kd base v j ≤ moN (fi kd + (j - base)) := fun j a b => by
    unfold begV
    rw [hf j, if_pos ⟨a, b⟩, if_pos ⟨a, b⟩]
    exact ⟨rfl, us_mo _ (by omega)⟩
  have out : ∀ j, ¬ (base ≤ j ∧ j < base + cn kd) → f' j = f j ∧ begV kd base v j = v j := fun j a => by
    unfold begV
    rw [hf j, if_neg a, if_neg a]; exact ⟨rfl, rfl⟩
  rcases hb with ⟨rfl, rfl⟩ | ⟨rfl, rfl, hd⟩ | ⟨rfl, rfl⟩
  · refine ⟨fun j hj => ?_, fun d hd l hl => ?_, fun g hg l hl => ?_⟩
    · have := inn j (by omega) (by show j < 0 + 3; omega)
      rw [show fi 0 + (j - 0) = j by show 0 + (j - 0) = j; omega] at this; exact this
    · have o := out (3 + 2 * d + l) (by show ¬ (0 ≤ _ ∧ _ < 0 + 3); omega)
      rw [o.1, o.2]; exact h2 d hd l hl
    · have o := out (15 + 3 * g + l) (by show ¬ (0 ≤ _ ∧ _ < 0 + 3); omega)
      rw [o.1, o.2]; exact h3 g hg l hl
  · refine ⟨fun j hj => ?_, fun d hd' l hl => ?_, fun g hg l hl => ?_⟩
    · have o := out j (by omega)
      rw [o.1, o.2]; exact h1 j hj
    · have hd' : d < dt + 1 := hd'
      by_cases e : d = dt
      · subst e
        have := inn (3 + 2 * d + l) (by omega) (by show _ < 3 + 2 * d + 2; omega)
        rw [show fi 1 + (3 + 2 * d + l - (3 + 2 * d)) = 3 + l by show 3 + _ = _; omega] at this; exact this
      · have o := out (3 + 2 * d + l) (by omega)
        rw [o.1, o.2]; exact h2 d (by omega) l hl
    · have o := out (15 + 3 * g + l) (by show ¬ (_ ∧ _ < 3 + 2 * dt + 2); omega)
      rw [o.1, o.2]; exact h3 g hg l hl
  · refine ⟨fun j hj => ?_, fun d hd' l hl => ?_, fun g hg l hl => ?_⟩
    · have o := out j (by omega)
      rw [o.1, o.2]; exact h1 j hj
    · have hd' : d < dt := hd'
      have o := out (3 + 2 * d + l) (by omega)
      rw [o.1, o.2]; exact h2 d hd' l hl
    · have hg : g < gt + 1 := hg
      by_cases e : g = gt
      · subst e
        have := inn (15 + 3 * g + l) (by omega) (by show _ < 15 + 3 * g + 3; omega)
        rw [show fi 2 + (15 + 3 * g + l - (15 + 3 * g)) = 5 + l by show 5 + _ = _; omega] at this; exact this
      · have o := out (15 + 3 * g + l) (by omega)
        rw [o.1, o.2]; exact h3 g (by omega) l hl
/-- a number is written where the clause has its letter -/
theorem VZ.put {v : Nat → Nat} {dt gt kd le x : Nat} {f : Nat → Int32} (h : VZ v dt gt f) (hk : kd ≤ 2) (hl : le < cn kd) (hd : kd = 1 → 0 < dt) (hg : kd = 2 → 0 < gt) (hdt : dt ≤ 6) (hx : x ≤ moN (fi kd + le)) : VZ (fun j => if j = fv kd dt gt + le then x else v j) dt gt (upd f (fv kd dt gt + le) (nI x)) := by
  obtain ⟨h1, h2, h3⟩ := h
  have c3 := cn_le (kd := kd)
  have at' : ∀ j, upd f (fv kd dt gt + le) (nI x) j = if j = fv kd dt gt + le then nI x else f j := fun j => rfl
  have go : ∀ (j m : Nat), (f j = nI (v j) ∧ v j ≤ moN m) → (j = fv kd dt gt + le → m = fi kd + le) → upd f (fv kd dt gt + le) (nI x) j = nI (if j = fv kd dt gt + le then x else v j) ∧ (if j = fv kd dt gt + le then x else v j) ≤ moN m := fun j m a b => by
    rw [at']
    by_cases e : j = fv kd dt gt + le
    · rw [if_pos e, if_pos e, b e]; exact ⟨rfl, hx⟩
    · rw [if_neg e, if_neg e]; exact a
  have : kd = 0 ∨ kd = 1 ∨ kd = 2 := by omega
  refine ⟨fun j hj => go j j (h1 j hj) (fun e => ?_), fun d hd' l hl' => go _ _ (h2 d hd' l hl') (fun e => ?_), fun g hg' l hl' => go _ _ (h3 g hg' l hl') (fun e => ?_)⟩
  all_goals
    rcases this with rfl | rfl | rfl
    · have c : le < 3 := hl
      simp only [fv, fi] at e ⊢
      simp at e ⊢
      omega
    · have c : le < 2 := hl
      have := hd rfl
      simp only [fv, fi] at e ⊢
      simp at e ⊢
      omega
    · have c : le < 3 := hl
      have := hg rfl
      simp only [fv, fi] at e ⊢
      simp at e ⊢
      omega
