/-! code that pushes a value; stacks of waiting signs -/
def rnL (T : Nat → Nat) (n p : Nat) (s : SL) : Option Nat × SL := RN T n (stepL T) clL p s
def cO : List Nat → Nat
  | [] => 0
  | x :: W => cO W + (if x = 33 ∨ x = 40 ∨ x = 91 then 1 else 0)
def mkW (aw st cm di : Int32) (W : List Nat) (CR : List Int32) : SL := mkL aw st cm di (nI (cO W)) W CR
def tpR : List Nat → Nat
  | [] => 0
  | x :: _ => rkN x
def flush : List Nat → List Int32 → List Int32
  | [], CR => CR
  | x :: P, CR => flush P (-(nI x) :: CR)
theorem flush_app : ∀ (P Q : List Nat) (CR : List Int32), flush (P ++ Q) CR = flush Q (flush P CR)
  | [], _, _ => rfl
  | x :: P, Q, CR => flush_app P Q (-(nI x) :: CR)
theorem flush_len : ∀ (P : List Nat) (CR : List Int32), (flush P CR).length = CR.length + P.length
  | [], _ => rfl
  | x :: P, CR => by rw [flush, flush_len P]; show CR.length + 1 + P.length = CR.length + (P.length + 1); omega
theorem rk_40 : rkN 40 = 0 ∧ rkN 91 = 0 ∧ rkN 33 = 3 := ⟨rfl, rfl, rfl⟩
theorem poL_fl {r : Nat} {W : List Nat} (hr : 1 ≤ r) (hW : tpR W < r) : ∀ (P : List Nat) (CR : List Int32), (∀ x, x ∈ P → r ≤ rkN x) → CR.length + P.length ≤ 241 → poL r (P ++ W) CR (nI (cO (P ++ W))) = (W, flush P CR, nI (cO W))
  | [], CR, _, _ => by
    cases W with
    | nil => rfl
    | cons x W =>
      have hW : rkN x < r := hW
      show poL r (x :: W) CR _ = _
      rw [poL, if_pos hW]; rfl
  | x :: P, CR, hP, hl => by
    have hl : CR.length + (P.length + 1) ≤ 241 := hl
    have hx := hP x (List.mem_cons_self ..)
    have n40 : x ≠ 40 := fun q => by rw [q, rk_40.1] at hx; omega
    have n91 : x ≠ 91 := fun q => by rw [q, rk_40.2.1] at hx; omega
    show poL r (x :: (P ++ W)) CR (nI (cO (P ++ W) + (if x = 33 ∨ x = 40 ∨ x = 91 then 1 else 0))) = _
    rw [poL, if_neg (by omega)]
    have ih := poL_fl hr hW P (-(nI x) :: CR) (fun y hy => hP y (List.mem_cons_of_mem _ hy)) (by show CR.length + 1 + P.length ≤ 241; omega)
    have ew : wrL (-(nI x)) CR = -(nI x) :: CR := if_neg (by omega)
    rw [ew, flush]
    by_cases c : x = 33
    · rw [if_pos c, if_pos (.inl c), show (nI (cO (P ++ W) + 1) - 1 : Int32) = nI (cO (P ++ W)) from nI_pred _]; exact ih
    · rw [if_neg c, if_neg (fun q => by omega)]; exact ih
theorem enL_app {W : List Nat} : ∀ (P : List Nat), (∀ x, x ∈ P → 1 ≤ rkN x) → enL (P ++ W) = enL W
  | [], _ => rfl
  | x :: P, h => by
    have hx := h x (List.mem_cons_self ..)
    have n40 : x ≠ 40 := fun q => by rw [q, rk_40.1] at hx; omega
    have n91 : x ≠ 91 := fun q => by rw [q, rk_40.2.1] at hx; omega
    show enL (x :: (P ++ W)) = _
    rw [enL, if_neg n40, if_neg n91]
    exact enL_app P (fun y hy => h y (List.mem_cons_of_mem _ hy))
def noM (L : Nat → Int32) : Prop := ∀ i, i < 6 → L i ≠ Int32.minValue
def Ev (L : Nat → Int32) (E : List Int32) (k : Nat) (v : Int32) : Prop := ∀ (st c : List Int32), st.length + k ≤ 64 → wrt L (E.reverse ++ c) st false = wrt L c (v :: st) false
def EV (L : Nat → Int32) (E : List Int32) (k : Nat) (v : Int32) : Prop := (∀ w, w ∈ E → w ≠ -59) ∧ (noM L → Ev L E k v ∧ v ≠ Int32.minValue)
theorem EV.mono {L : Nat → Int32} {E : List Int32} {k k' : Nat} {v : Int32} (h : EV L E k v) (hk : k ≤ k') : EV L E k' v := ⟨h.1, fun q => ⟨fun st c hs => (h.2 q).1 st c (by omega), (h.2 q).2⟩⟩
theorem w_small : ∀ l, l < 6 → ¬ (-1 - nI l : Int32) < -6 ∧ (-1 - nI l : Int32) < 0 ∧ ((-1 : Int32) - (-1 - nI l)).toNatClampNeg = l ∧ (-1 - nI l : Int32) ≠ -59 := by decide
theorem EV.letter {L : Nat → Int32} {l k : Nat} (hl : l < 6) (hk : 1 ≤ k) : EV L [-1 - nI l] k (L l) := by
  obtain ⟨h1, h2, h3, h4⟩ := w_small l hl
  refine ⟨fun w hw => by rw [List.mem_singleton] at hw; rw [hw]; exact h4, fun q => ⟨fun st c hs => ?_, q l hl⟩⟩
  show wrt L ((-1 - nI l) :: c) st false = _
  rw [wrt_f, if_neg h1, if_neg (by omega)]
  unfold lv
  rw [if_pos h2, h3]
theorem EV.num {L : Nat → Int32} {x k : Nat} (hx : x < 2 ^ 31) (hk : 1 ≤ k) : EV L [nI x] k (nI x) := by
  have h1 : ¬ nI x < -6 := by rw [fa_lt, nI_toInt hx, show (-6 : Int32).toInt = -6 by decide]; omega
  have h2 := nI_pos hx
  refine ⟨fun w hw q => ?_, fun q => ⟨fun st c hs => ?_, fun q => ?_⟩⟩
  · rw [List.mem_singleton] at hw
    rw [← hw, q] at h2; exact h2 (by decide)
  · show wrt L (nI x :: c) st false = _
    rw [wrt_f, if_neg h1, if_neg (by omega)]
    unfold lv
    rw [if_neg h2]
  · rw [q] at h2; exact h2 (by decide)
def isOp (b : Nat) : Prop := b = 38 ∨ b = 42 ∨ b = 43 ∨ b = 45 ∨ b = 47 ∨ b = 60 ∨ b = 61 ∨ b = 62 ∨ b = 124
theorem op_w {b : Nat} (h : isOp b) : (-(nI b) : Int32) < -6 ∧ (-(nI b) : Int32) ≠ -59 ∧ (-(nI b) : Int32) ≠ -33 ∧ (-(nI b) : Int32) ≠ -63 ∧ -(-(nI b) : Int32) = nI b := by
  rcases h with rfl | rfl | rfl | rfl | rfl | rfl | rfl | rfl | rfl <;> decide
theorem cv_min (x : Int64) : cv x ≠ Int32.minValue := by
  unfold cv
  by_cases c : 1000000 < x
  · rw [if_pos c]; decide
  · rw [if_neg c]
    by_cases c2 : x < -1000000
    · rw [if_pos c2]; decide
    · rw [if_neg c2]
      intro q
      rw [l6_lt] at c c2
      rw [show (1000000 : Int64).toInt = 1000000 by decide] at c
      rw [show (-1000000 : Int64).toInt = -1000000 by decide] at c2
      have e : x.toInt32.toInt = Int32.minValue.toInt := by rw [q]
      rw [Int64.toInt_toInt32, show Int32.minValue.toInt = -2147483648 by decide, Int.bmod_def] at e
      omega
theorem EV.bin {L : Nat → Int32} {Ea Eb : List Int32} {ka kb k b : Nat} {x y v : Int32} (ha : EV L Ea ka x) (hb : EV L Eb kb y) (ho : isOp b) (h1 : ka ≤ k) (h2 : kb + 1 ≤ k) (hv : x ≠ Int32.minValue → cv (jw (nI b) x y) = v) (hm : v ≠ Int32.minValue) : EV L (-(nI b) :: (Eb ++ Ea)) k v := by
  obtain ⟨o1, o2, o3, o4, o5⟩ := op_w ho
  refine ⟨fun w hw => ?_, fun q => ⟨fun st c hs => ?_, hm⟩⟩
  · rcases List.mem_cons.mp hw with e | e
    · rw [e]; exact o2
    · rcases List.mem_append.mp e with e | e
      · exact hb.1 w e
      · exact ha.1 w e
  · rw [List.reverse_cons, List.reverse_append, List.append_assoc, List.append_assoc, (ha.2 q).1 st _ (by omega), (hb.2 q).1 (x :: st) _ (by show st.length + 1 + kb ≤ 64; omega)]
    show wrt L (-(nI b) :: c) (y :: x :: st) false = _
    rw [wrt_f, if_pos o1, if_neg o2]
    show (if -(nI b) = (-33 : Int32) then _ else if -(nI b) = (-63 : Int32) then _ else wrt L c (cv (jw (-(-(nI b))) x y) :: st) false) = _
    rw [if_neg o3, if_neg o4, o5, hv (ha.2 q).2]
theorem EV.not {L : Nat → Int32} {E : List Int32} {k : Nat} {v u : Int32} (h : EV L E k v) (hu : u = 1 - v) (hm : u ≠ Int32.minValue) : EV L (-(nI 33) :: E) k u := by
  refine ⟨fun w hw => ?_, fun q => ⟨fun st c hs => ?_, hm⟩⟩
  · rcases List.mem_cons.mp hw with e | e
    · rw [e]; decide
    · exact h.1 w e
  · rw [List.reverse_cons, List.append_assoc, (h.2 q).1 st _ hs]
    show wrt L ((-33) :: c) (v :: st) false = _
    rw [wrt_f, if_pos (by decide), if_neg (by decide)]
    show (if (-33 : Int32) = -33 then wrt L c ((1 - v) :: st) false else _) = _
    rw [if_pos rfl, hu]
theorem q_within {post : Int32 → St → Prop} {x : Int64} {y : St} (h : post (cv x) y) : S_M_within post x y := by
  have lg0 : ∀ a b : Int64, 0 < lg_cmp a b ↔ b < a := fun a b => by
    unfold lg_cmp
    by_cases c : a > b
    · rw [if_pos c]; exact ⟨fun _ => c, fun _ => by decide⟩
    · rw [if_neg c]
      exact ⟨fun q => absurd q (by split <;> decide), fun q => absurd q c⟩
  have lg1 : ∀ a b : Int64, lg_cmp a b < 0 ↔ a < b := fun a b => by
    have := lg_ge0 a b
    refine ⟨fun q => Classical.not_not.mp (fun w => ?_), fun q => ?_⟩
    · have := this.mpr w
      rw [fa_lt] at q; rw [fa_le] at this; omega
    · have w : ¬ 0 ≤ lg_cmp a b := fun w => this.mp w q
      rw [fa_le] at w; rw [fa_lt]; omega
  unfold S_M_within S_Math_min_f86c9_M S_Math_max_f86c9_M
  show (0 < lg_cmp 1000000 x → (lg_cmp (-1000000) x < 0 → post x.toInt32 y) ∧ (¬ lg_cmp (-1000000) x < 0 → post (-1000000 : Int64).toInt32 y)) ∧ (¬ 0 < lg_cmp 1000000 x → (lg_cmp (-1000000) 1000000 < 0 → post (1000000 : Int64).toInt32 y) ∧ (¬ lg_cmp (-1000000) 1000000 < 0 → post (-1000000 : Int64).toInt32 y))
  rw [lg0, lg1, lg1]
  unfold cv at h
  refine ⟨fun c => ⟨fun c2 => ?_, fun c2 => ?_⟩, fun c => ⟨fun c2 => ?_, fun c2 => absurd (by decide) c2⟩⟩
  · have n1 : ¬ 1000000 < x := fun q => by rw [l6_lt] at c q; omega
    have n2 : ¬ x < -1000000 := fun q => by rw [l6_lt] at c2 q; omega
    rw [if_neg n1, if_neg n2] at h; exact h
  · have n1 : ¬ 1000000 < x := fun q => by rw [l6_lt] at c q; omega
    rw [if_neg n1] at h
    by_cases e : x < -1000000
    · rw [if_pos e] at h; exact h
    · rw [if_neg e] at h
      have : x = -1000000 := Int64.toInt_inj.mp (by rw [l6_lt] at c2 e; omega)
      rw [this] at h; exact h
  · by_cases e : 1000000 < x
    · rw [if_pos e] at h; exact h
    · rw [if_neg e] at h
      have : x = 1000000 := Int64.toInt_inj.mp (by rw [l6_lt] at c e; omega)
      rw [this, if_neg (by decide)] at h
      exact h
theorem div_64 {x y : Int32} (h : x ≠ Int32.minValue) : (x / y).toInt64 = x.toInt64 / y.toInt64 := Int32.toInt64_div_of_ne_left x y h
