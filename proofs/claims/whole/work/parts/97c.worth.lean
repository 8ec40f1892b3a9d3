/-! a law's worth: the class -/
def cv (x : Int64) : Int32 := if 1000000 < x then 1000000 else if x < -1000000 then -1000000 else x.toInt32
def jw (s x y : Int32) : Int64 :=
  if s = 38 then (x &&& y).toInt64 else if s = 42 then x.toInt64 * y.toInt64 else if s = 43 then x.toInt64 + y.toInt64 else if s = 45 then x.toInt64 - y.toInt64
  else if s = 47 then (if y = 0 then 0 else (x / y).toInt64) else if s = 60 then (if y ≤ x then 0 else 1) else if s = 61 then (if x = y then 1 else 0) else if s = 62 then (if x ≤ y then 0 else 1) else (x ||| y).toInt64
def lv (L : Nat → Int32) (w : Int32) : Int32 := if w < 0 then L ((-1 : Int32) - w).toNatClampNeg else w
def wrt (L : Nat → Int32) : List Int32 → List Int32 → Bool → Int32
  | [], _, _ => 0
  | w :: c, st, true => wrt L c st (decide (w ≠ -59))
  | w :: c, st, false => if w < -6 then (if w = -59 then st.headD 0 else match st with
      | [] => 0
      | a :: r => if w = -33 then wrt L c ((1 - a) :: r) false else if w = -63 then wrt L c r (decide (a = 0)) else match r with
        | [] => wrt L c [a] false
        | b :: r' => wrt L c (cv (jw (-w) b a) :: r') false)
    else if 64 ≤ st.length then wrt L c st false else wrt L c (lv L w :: st) false
theorem wrt_f {L : Nat → Int32} {w : Int32} {c st : List Int32} : wrt L (w :: c) st false = if w < -6 then (if w = -59 then st.headD 0 else match st with
      | [] => 0
      | a :: r => if w = -33 then wrt L c ((1 - a) :: r) false else if w = -63 then wrt L c r (decide (a = 0)) else match r with
        | [] => wrt L c [a] false
        | b :: r' => wrt L c (cv (jw (-w) b a) :: r') false)
    else if 64 ≤ st.length then wrt L c st false else wrt L c (lv L w :: st) false := rfl
theorem l6_lt (x y : Int64) : x < y ↔ x.toInt < y.toInt := Int64.lt_iff_toInt_lt
theorem lg_le0 (x y : Int64) : lg_cmp x y ≤ 0 ↔ ¬ y < x := by
  unfold lg_cmp
  by_cases c : x > y
  · rw [if_pos c]; exact ⟨fun q => absurd q (by decide), fun q => absurd c q⟩
  · rw [if_neg c]
    refine ⟨fun _ => c, fun _ => ?_⟩
    split <;> decide
theorem lg_ge0 (x y : Int64) : 0 ≤ lg_cmp x y ↔ ¬ x < y := by
  unfold lg_cmp
  by_cases c : x > y
  · rw [if_pos c]
    refine ⟨fun _ q => ?_, fun _ => by decide⟩
    have c : y < x := c
    rw [l6_lt] at c q; omega
  · rw [if_neg c]
    by_cases e : x = y
    · rw [if_pos e]; exact ⟨fun _ q => by rw [e, l6_lt] at q; omega, fun _ => by decide⟩
    · rw [if_neg e]
      refine ⟨fun q => absurd q (by decide), fun q => absurd ?_ q⟩
      have c : ¬ y < x := c
      rw [l6_lt] at c ⊢
      have : x.toInt ≠ y.toInt := fun h => e (Int64.toInt_inj.mp h)
      omega
theorem q_joined {post : Int32 → St → Prop} {s x y : Int32} {z : St} (h : post (cv (jw s x y)) z) : S_Laws_joined post s x y z := by
  have b : ∀ w : Int64, w = jw s x y → B_Laws_joined_214 post w z := fun w e => by
    unfold B_Laws_joined_214
    rw [lg_le0, lg_ge0]
    rw [← e] at h
    unfold cv at h
    refine ⟨fun c => ⟨fun c2 => ?_, fun c2 => ?_⟩, fun c => ?_⟩
    · rw [if_neg c, if_neg c2] at h; exact h
    · rw [if_neg c, if_pos (Classical.not_not.mp c2)] at h; exact h
    · rw [if_pos (Classical.not_not.mp c)] at h; exact h
  have o : ∀ k : Int32, s = k → jw k x y = (x ||| y).toInt64 → ∀ v : Int64, v = (x ||| y).toInt64 → B_Laws_joined_214 post v z := fun k c e v hv => b v (by rw [c, e]; exact hv)
  unfold S_Laws_joined B_Laws_joined_155 B_Laws_joined_169 B_Laws_joined_183 B_Laws_joined_197
  refine ⟨fun c => ev (b _ (by subst c; rfl)), fun n38 => ⟨fun c => o 39 c rfl, fun _ => ⟨fun c => o 40 c rfl, fun _ => ⟨fun c => o 41 c rfl, fun _ => ⟨fun c => ev (b _ (by subst c; rfl)), fun n42 => ⟨fun c => ev (b _ (by subst c; rfl)), fun n43 => ⟨fun c => o 44 c rfl, fun _ => ⟨fun c => ev (b _ (by subst c; rfl)), fun n45 => ⟨fun c => o 46 c rfl, fun _ => ⟨fun c => ⟨fun c0 => b _ ?_, fun c0 => ⟨c0, b _ ?_⟩⟩, fun n47 => ⟨fun c => o 48 c rfl, fun _ => ⟨fun c => o 49 c rfl, fun _ => ⟨fun c => o 50 c rfl, fun _ => ⟨fun c => o 51 c rfl, fun _ => ⟨fun c => o 52 c rfl, fun _ => ⟨fun c => o 53 c rfl, fun _ => ⟨fun c => o 54 c rfl, fun _ => ⟨fun c => o 55 c rfl, fun _ => ⟨fun c => o 56 c rfl, fun _ => ⟨fun c => o 57 c rfl, fun _ => ⟨fun c => o 58 c rfl, fun _ => ⟨fun c => o 59 c rfl, fun _ => ⟨fun c => ⟨fun c0 => b _ ?_, fun c0 => b _ ?_⟩, fun n60 => ⟨fun c => ⟨fun c0 => b _ ?_, fun c0 => b _ ?_⟩, fun n61 => ⟨fun c => ⟨fun c0 => b _ ?_, fun c0 => b _ ?_⟩, fun n62 => ev (b _ ?_)⟩⟩⟩⟩⟩⟩⟩⟩⟩⟩⟩⟩⟩⟩⟩⟩⟩⟩⟩⟩⟩⟩⟩⟩⟩
  · subst c; show 0 = (if y = 0 then 0 else _); rw [if_pos c0]
  · subst c; show _ = (if y = 0 then 0 else _); rw [if_neg c0]
  · subst c; show 0 = (if y ≤ x then 0 else 1); rw [if_pos c0]
  · subst c; show 1 = (if y ≤ x then 0 else 1); rw [if_neg c0]
  · subst c; show 1 = (if x = y then 1 else 0); rw [if_pos c0]
  · subst c; show 0 = (if x = y then 1 else 0); rw [if_neg c0]
  · subst c; show 0 = (if x ≤ y then 0 else 1); rw [if_pos c0]
  · subst c; show 1 = (if x ≤ y then 0 else 1); rw [if_neg c0]
  · unfold jw; rw [if_neg n38, if_neg n42, if_neg n43, if_neg n45, if_neg n47, if_neg n60, if_neg n61, if_neg n62]
theorem w_six {w : Int32} (h1 : w < 0) (h2 : ¬ w < -6) : w = -1 ∨ w = -2 ∨ w = -3 ∨ w = -4 ∨ w = -5 ∨ w = -6 := by
  rw [fa_lt] at h1 h2
  rw [show (0 : Int32).toInt = 0 by decide] at h1
  rw [show (-6 : Int32).toInt = -6 by decide] at h2
  have : w.toInt = -1 ∨ w.toInt = -2 ∨ w.toInt = -3 ∨ w.toInt = -4 ∨ w.toInt = -5 ∨ w.toInt = -6 := by omega
  rcases this with q | q | q | q | q | q
  · exact .inl (Int32.toInt_inj.mp (q.trans (by decide)))
  · exact .inr (.inl (Int32.toInt_inj.mp (q.trans (by decide))))
  · exact .inr (.inr (.inl (Int32.toInt_inj.mp (q.trans (by decide)))))
  · exact .inr (.inr (.inr (.inl (Int32.toInt_inj.mp (q.trans (by decide))))))
  · exact .inr (.inr (.inr (.inr (.inl (Int32.toInt_inj.mp (q.trans (by decide)))))))
  · exact .inr (.inr (.inr (.inr (.inr (Int32.toInt_inj.mp (q.trans (by decide)))))))
/-- the stack in the array -/
def SK (st : List Int32) (f : Nat → Int32) : Prop := st.length ≤ 64 ∧ ∀ i, i < st.length → f i = st.getD (st.length - 1 - i) 0
theorem SK.push {st : List Int32} {f : Nat → Int32} {v : Int32} (h : SK st f) (h64 : st.length < 64) : SK (v :: st) (upd f st.length v) := by
  refine ⟨by show st.length + 1 ≤ 64; omega, fun i hi => ?_⟩
  have hi : i < st.length + 1 := hi
  show _ = (v :: st).getD (st.length + 1 - 1 - i) 0
  by_cases e : i = st.length
  · rw [e, pk_us, show st.length + 1 - 1 - st.length = 0 by omega]; rfl
  · rw [pk_un e, h.2 i (by omega), show st.length + 1 - 1 - i = (st.length - 1 - i) + 1 by omega]; rfl
theorem SK.pop {st : List Int32} {f : Nat → Int32} {a : Int32} (h : SK (a :: st) f) : SK st f := by
  have h1 : st.length + 1 ≤ 64 := h.1
  refine ⟨by omega, fun i hi => ?_⟩
  rw [h.2 i (by show i < st.length + 1; omega), show (a :: st).length - 1 - i = (st.length - 1 - i) + 1 by show st.length + 1 - 1 - i = _; omega]; rfl
theorem SK.top {st : List Int32} {f : Nat → Int32} {a : Int32} (h : SK (a :: st) f) : f st.length = a := by
  rw [h.2 st.length (by show st.length < st.length + 1; omega), show (a :: st).length - 1 - st.length = 0 by show st.length + 1 - 1 - st.length = 0; omega]; rfl
theorem SK.set {st : List Int32} {f : Nat → Int32} {v : Int32} (h : SK st f) (h64 : st.length < 64) : SK (v :: st) (upd f st.length v) := h.push h64
theorem worth_lp {post : Int32 → St → Prop} {C : Nat → Int32} {N h a1 : Nat} {z : St} (h4 : h < 4) (hC : gA z (32 + (4 + h)) = C) (hN : gZ z (8 + (4 + h)) = N) (hA : a1 = gZ z (4 + h)) (hN2 : N ≤ 241) : ∀ (rest : List Int32) (i : Nat) (st : List Int32) (po : Bool) (f : Nat → Int32), i + rest.length = N → (∀ j, j < rest.length → C (i + j) = rest.getD j 0) → SK st f → (∀ f, post (wrt (cut6 (gA z 21)) rest st po) (sF z 22 f)) → ∀ k, rest.length + 1 ≤ k → L_Laws_worth_37 post k a1 (nI h) (nI st.length) (if po then 1 else 0) (nI i) (sF z 22 f) := by
  intro rest
  induction rest with
  | nil =>
    intro i st po f hi hw hS hp k hk
    obtain ⟨k, rfl⟩ : ∃ j, k = j + 1 := ⟨k - 1, by simp at hk; omega⟩
    have hi : i = N := hi
    show B_Laws_worth_37 post _ _ _ _ _ _ _
    unfold B_Laws_worth_37
    rw [nI_clamp (n := h) (by omega)]
    refine ⟨(vp_in_nI (by omega) (by omega)), hA, pp_y ?_ (hp f)⟩
    show nI (gZ z (8 + (4 + h))) ≤ nI i
    rw [hN]; exact nI_le (by omega) (by omega)
  | cons w c ih =>
    intro i st po f hi hw hS hp k hk
    obtain ⟨k, rfl⟩ : ∃ j, k = j + 1 := ⟨k - 1, by simp at hk; omega⟩
    have hk : c.length + 1 + 1 ≤ k + 1 := hk
    have hi : i + (c.length + 1) = N := hi
    have ew : C i = w := hw 0 (by show 0 < c.length + 1; omega)
    have hw' : ∀ j, j < c.length → C (i + 1 + j) = c.getD j 0 := fun j hj => by
      have := hw (j + 1) (by show j + 1 < c.length + 1; omega)
      rw [show i + 1 + j = i + (j + 1) by omega]; exact this
    have hS64 := hS.1
    have next : ∀ (st' : List Int32) (po' : Bool) (f' : Nat → Int32), SK st' f' → (∀ f, post (wrt (cut6 (gA z 21)) c st' po') (sF z 22 f)) → B_Laws_worth_240 post (L_Laws_worth_37 post k) a1 (nI h) (nI st'.length) (if po' then 1 else 0) (nI i) (sF z 22 f') := fun st' po' f' h1 h2 => by
      unfold B_Laws_worth_240
      rw [nI_1 i]
      exact ev (ih (i + 1) st' po' f' (by omega) hw' h1 h2 k (by omega))
    show B_Laws_worth_37 post _ _ _ _ _ _ _
    unfold B_Laws_worth_37 B_Laws_worth_66 B_Laws_worth_200 B_Laws_worth_111
    rw [nI_clamp (n := h) (by omega), nI_clamp (n := i) (by omega)]
    refine ⟨(vp_in_nI (by omega) (by omega)), hA, pp_n ?_ ⟨(vp_in_nI (by omega) (by omega)), hA, ?_, ev ?_⟩⟩
    · show ¬ nI (gZ z (8 + (4 + h))) ≤ nI i
      rw [hN]; exact nI_ge (by omega) (by omega)
    · show vp_in (nI i) (gZ z (8 + (4 + h)))
      rw [hN]; exact (vp_in_nI (by omega) (by omega))
    rw [show gA (sF z 22 f) (32 + (4 + h)) i = w from by rw [gA_sF, if_neg (by omega), hC]; exact ew]
    cases po with
    | true =>
      have hp : ∀ f, post (wrt (cut6 (gA z 21)) c st (decide (w ≠ -59))) (sF z 22 f) := hp
      refine pp_n (by decide) ⟨fun e => ?_, fun e => ?_⟩
      · rw [decide_eq_false (fun q => q e)] at hp
        exact next st false f hS hp
      · rw [decide_eq_true e] at hp
        exact next st true f hS hp
    | false =>
      refine pp_y rfl ⟨fun c6 => ?_, fun c6 => ?_⟩
      · have hp : ∀ f, post (if w = -59 then st.headD 0 else match st with
            | [] => 0
            | a :: r => if w = -33 then wrt (cut6 (gA z 21)) c ((1 - a) :: r) false else if w = -63 then wrt (cut6 (gA z 21)) c r (decide (a = 0)) else match r with
              | [] => wrt (cut6 (gA z 21)) c [a] false
              | b :: r' => wrt (cut6 (gA z 21)) c (cv (jw (-w) b a) :: r') false) (sF z 22 f) := fun f => by
          have := hp f
          rw [wrt_f, if_pos c6] at this
          exact this
        have b130 : (∀ f, post (st.headD 0) (sF z 22 f)) → B_Laws_worth_130 post (nI st.length) (sF z 22 f) := fun hq => by
          unfold B_Laws_worth_130
          rw [k1, nI_leI (by omega) (by omega)]
          cases st with
          | nil => exact pp_n (by show ¬ 1 ≤ 0; omega) (hq f)
          | cons a r =>
            refine pp_y (by show 1 ≤ r.length + 1; omega) ?_
            have l1 : r.length + 1 ≤ 64 := hS64
            rw [show (nI (a :: r).length - nI 1 : Int32) = nI r.length from nI_pred r.length, nI_clamp (by omega)]
            refine ⟨(vp_in_nI (by omega) (by omega)), ?_⟩
            rw [show gA (sF z 22 f) 22 r.length = a from hS.top]
            exact hq f
        refine ⟨fun c59 => ?_, fun c59 => ?_⟩
        · rw [if_pos c59] at hp
          exact b130 hp
        · rw [if_neg c59] at hp
          rw [show ((1 : Int32) ≤ nI st.length) = (1 ≤ st.length) from propext (nI_leI (a := 1) (by omega) (by omega))]
          cases st with
          | nil => exact pp_n (by show ¬ 1 ≤ 0; omega) (b130 hp)
          | cons a r =>
            have l1 : r.length + 1 ≤ 64 := hS64
            have hp : ∀ f, post (if w = -33 then wrt (cut6 (gA z 21)) c ((1 - a) :: r) false else if w = -63 then wrt (cut6 (gA z 21)) c r (decide (a = 0)) else match r with
              | [] => wrt (cut6 (gA z 21)) c [a] false
              | b :: r' => wrt (cut6 (gA z 21)) c (cv (jw (-w) b a) :: r') false) (sF z 22 f) := hp
            rw [show (nI (a :: r).length - (1 : Int32)) = nI r.length from nI_pred r.length, show (nI (a :: r).length + (-1 : Int32)) = nI r.length from (Int32.sub_eq_add_neg _ 1).symm.trans (nI_pred r.length), nI_clamp (n := r.length) (by omega)]
            refine pp_y (by show 1 ≤ r.length + 1; omega) ⟨fun c33 => ⟨(vp_in_nI (by omega) (by omega)), (vp_in_nI (by omega) (by omega)), ev ?_⟩, fun c33 => ⟨fun c63 => ev ?_, fun c63 => ?_⟩⟩
            · rw [if_pos c33] at hp
              rw [show gA (sF z 22 f) 22 r.length = a from hS.top, sA_sF]
              exact next ((1 - a) :: r) false _ (hS.pop.push (by omega)) hp
            · rw [if_neg c33, if_pos c63] at hp
              rw [nI_clamp (by omega), show gA (sF z 22 f) 22 r.length = a from hS.top]
              refine ⟨(vp_in_nI (by omega) (by omega)), fun e => ?_, fun e => ?_⟩
              · rw [decide_eq_true e] at hp
                exact next r true f hS.pop hp
              · rw [decide_eq_false e] at hp
                exact next r false f hS.pop hp
            · rw [if_neg c33, if_neg c63] at hp
              rw [show (nI (a :: r).length ≤ (1 : Int32)) = ((a :: r).length ≤ 1) from propext (nI_leI (b := 1) (by show r.length + 1 < _; omega) (by omega))]
              cases r with
              | nil => exact pp_y (by show 0 + 1 ≤ 1; omega) (next [a] false f hS hp)
              | cons b r2 =>
                have l2 : r2.length + 1 + 1 ≤ 64 := l1
                refine pp_n (by show ¬ r2.length + 1 + 1 ≤ 1; omega) (ev ?_)
                rw [show (nI (b :: r2).length - (1 : Int32)) = nI r2.length from nI_pred r2.length, nI_clamp (n := r2.length) (by omega), nI_clamp (n := (b :: r2).length) (by show r2.length + 1 < _; omega)]
                refine ⟨(vp_in_nI (by omega) (by omega)), vp_in_nI (by show r2.length + 1 < 64; omega) (by omega), ?_⟩
                rw [show gA (sF z 22 f) 22 r2.length = b from hS.pop.top, show gA (sF z 22 f) 22 (b :: r2).length = a from hS.top]
                refine q_joined ⟨(vp_in_nI (by omega) (by omega)), ev ?_⟩
                rw [sA_sF]
                exact next (cv (jw (-w) b a) :: r2) false _ (hS.pop.pop.push (by omega)) hp
      · rw [show ((64 : Int32) ≤ nI st.length) = (64 ≤ st.length) from propext (nI_leI (a := 64) (by omega) (by omega))]
        refine ⟨fun c64 => ?_, fun c64 => ?_⟩
        · have hp : ∀ f, post (wrt (cut6 (gA z 21)) c st false) (sF z 22 f) := fun f => by
            have := hp f
            rw [wrt_f, if_neg c6, if_pos c64] at this; exact this
          exact next st false f hS hp
        · have hp : ∀ f, post (wrt (cut6 (gA z 21)) c (lv (cut6 (gA z 21)) w :: st) false) (sF z 22 f) := fun f => by
            have := hp f
            rw [wrt_f, if_neg c6, if_neg c64] at this; exact this
          have put : ∀ v, v = lv (cut6 (gA z 21)) w → vp_in (nI st.length) 64 ∧ (∀ z1 : St, z1 = sA (sF z 22 f) 22 (nI st.length).toNatClampNeg v → (∀ v1 : Int32, v1 = nI st.length + (1 : Int32) → B_Laws_worth_240 post (L_Laws_worth_37 post k) a1 (nI h) v1 (if false = true then 1 else 0) (nI i) z1)) := fun v hv => by
            rw [nI_clamp (by omega), sA_sF, nI_1, hv]
            refine ⟨(vp_in_nI (by omega) (by omega)), ev (ev ?_)⟩
            exact next (lv (cut6 (gA z 21)) w :: st) false _ (hS.push (by omega)) hp
          refine ⟨fun c0 => ?_, fun c0 => put w ?_⟩
          · have e6 := w_six c0 c6
            have hin : vp_in (-1 - w) 6 ∧ (-1 - w).toNatClampNeg < 6 := by
              rcases e6 with rfl | rfl | rfl | rfl | rfl | rfl
              · exact ⟨show vp_in (nI 0) 6 from vp_in_nI (by omega) (by omega), by decide⟩
              · exact ⟨show vp_in (nI 1) 6 from vp_in_nI (by omega) (by omega), by decide⟩
              · exact ⟨show vp_in (nI 2) 6 from vp_in_nI (by omega) (by omega), by decide⟩
              · exact ⟨show vp_in (nI 3) 6 from vp_in_nI (by omega) (by omega), by decide⟩
              · exact ⟨show vp_in (nI 4) 6 from vp_in_nI (by omega) (by omega), by decide⟩
              · exact ⟨show vp_in (nI 5) 6 from vp_in_nI (by omega) (by omega), by decide⟩
            refine ⟨hin.1, put _ ?_⟩
            unfold lv cut6
            rw [if_pos c0, if_pos hin.2]; rfl
          · unfold lv; rw [if_neg c0]
theorem LawC_of {C : Nat → Int32} {code : List Int32} (h241 : code.length ≤ 241) (hw : ∀ j, j < code.length → C j = code.getD j 0) : LawC C code.length (fun L => wrt L code [] false) := by
  intro z h post h4 hC hN e31 hlt hp
  unfold S_Laws_worth
  rw [e31] at hlt ⊢
  refine pp_n (nI_pos (by omega)) (pp_y hlt ?_)
  rw [nI_clamp (n := h) (by omega)]
  refine ⟨(vp_in_nI (by omega) (by omega)), fun a3 ha => ⟨code.length + 1, ?_⟩⟩
  have := worth_lp (post := post) h4 hC hN ha h241 code 0 [] false (gA z 22) (by omega) (fun j hj => by rw [Nat.zero_add]; exact hw j hj) ⟨by show 0 ≤ 64; omega, fun i hi => absurd hi (Nat.not_lt_zero _)⟩ hp _ (Nat.le_refl _)
  rw [sF_id] at this
  exact this
