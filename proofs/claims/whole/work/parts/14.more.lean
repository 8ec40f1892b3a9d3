/-! Rows of my own beside the kit's: arrays of arrays, the reference's text, copying. -/
section MORE
variable {p : Program} {l : Launch} {e : Env} {R : Room} {s : State} {m : MethodId} {args : Array Value} {below : List Frame} {meth : Method} {c : Code} {H : Heap} {locs : List Loc} {Q : State → Prop}
variable {cc : ByteArray} {nL : Nat} {own : String} {rest : List Value} {pc : Nat} {ls : Array Slot} {G : GX} {A : Nat → Prop} {σ : St} {cells slots : Nat}
theorem va_aldA {D : va_G} {cl : List vw_C} {tys : List (ClassId × FieldType)} {ws : va_W} {a : Nat} (hexec : p.tables.exec = Jvm.exec) (hb : c.code = cc) (hK : va_K D cl tys s) (hP : va_P D cl ws H) (q0 t0 : Nat) {cA : ClassId} {n : Nat} {f : Nat → Option Nat} (ha : ws[q0]? = some (a, .inl (cA, n, .inr (.inr (.inr (.inr f)))))) (ht : tys[t0]? = some (cA, .array .int)) {i : Int32} (hin : vp_in i n) (hdg : decode cc pc = .ok (.aaload, 1))
    (kk : W p l e R s m args below meth c H locs cells slots Q (F0 m (pc + 1) ls (va_rf (f i.toNatClampNeg) :: rest))) : W p l e R s m args below meth c H locs cells slots Q (F0 m pc ls (.int i :: .ref a :: rest)) := by
  have hlt : i.toNatClampNeg < n := Nat.not_le.mp fun q => hin (Or.inr q)
  exact W.aald (v := va_rf (f i.toNatClampNeg)) (ty := .array .int) hexec hb (hP q0 _ ha) ((hK.2 t0 _ ht).1 n (fun j => va_rf (f j))) rfl (fun q => by cases q) (by show ¬ (i < 0 ∨ (arrV _ _ _).slots.size ≤ _); rw [arrV_size]; exact hin) (by show (arrV _ _ _).slots[_]? = _; rw [arrV_read _ _ hlt]) rfl rfl hdg kk
theorem vin_lt {i : Int32} {n : Nat} (h : vp_in i n) : i.toNatClampNeg < n := Nat.not_le.mp fun q => h (Or.inr q)
theorem xXo_17 (S : CallFix p m c cc nL s args GW own) (hE : env G A s s.heap) (hP : va_P G.1 classes (wX G σ) H) {i : Int32} (hin : vp_in i 4) (hdg : decode cc pc = .ok (.aaload, 1)) (kk : W p l e R s m args below meth c H locs cells slots Q (F0 m (pc + 1) ls (.ref (gZ σ (0 + i.toNatClampNeg)) :: rest))) : W p l e R s m args below meth c H locs cells slots Q (F0 m pc ls (.int i :: .ref (ad G 17) :: rest)) := by
  refine va_aldA S.1 S.2.1 hE.1 hP 17 2 rfl rfl hin hdg ?_
  have h := vin_lt hin
  simp only [h, if_true]
  exact kk
theorem xXo_20 (S : CallFix p m c cc nL s args GW own) (hE : env G A s s.heap) (hP : va_P G.1 classes (wX G σ) H) {i : Int32} (hin : vp_in i 4) (hdg : decode cc pc = .ok (.aaload, 1)) (kk : W p l e R s m args below meth c H locs cells slots Q (F0 m (pc + 1) ls (.ref (gZ σ (4 + i.toNatClampNeg)) :: rest))) : W p l e R s m args below meth c H locs cells slots Q (F0 m pc ls (.int i :: .ref (ad G 20) :: rest)) := by
  refine va_aldA S.1 S.2.1 hE.1 hP 20 2 rfl rfl hin hdg ?_
  have h := vin_lt hin
  simp only [h, if_true]
  exact kk
theorem dyn_at (j : Nat) (hj : j < 8) : (wX G σ)[32 + j]? = some (gZ σ j, .inl (cy G 0, gZ σ (8 + j), .inl (gA σ (32 + j)))) := by
  match j, hj with
  | 0, _ => rfl
  | 1, _ => rfl
  | 2, _ => rfl
  | 3, _ => rfl
  | 4, _ => rfl
  | 5, _ => rfl
  | 6, _ => rfl
  | 7, _ => rfl
/-- a load from one of the arrays that are replaced, by its number j -/
theorem xXd (S : CallFix p m c cc nL s args GW own) (hE : env G A s s.heap) (hP : va_P G.1 classes (wX G σ) H) {a j : Nat} (hj : j < 8) (ha : a = gZ σ j) {i : Int32} (hin : vp_in i (gZ σ (8 + j))) (hdg : decode cc pc = .ok (.iaload, 1)) (kk : W p l e R s m args below meth c H locs cells slots Q (F0 m (pc + 1) ls (.int (gA σ (32 + j) i.toNatClampNeg) :: rest))) : W p l e R s m args below meth c H locs cells slots Q (F0 m pc ls (.int i :: .ref a :: rest)) := by
  subst ha
  exact va_iald S.1 S.2.1 hE.1 hP (32 + j) 0 (dyn_at j hj) rfl hin hdg kk
theorem xXdn (S : CallFix p m c cc nL s args GW own) (hE : env G A s s.heap) (hP : va_P G.1 classes (wX G σ) H) {a j : Nat} (hj : j < 8) (ha : a = gZ σ j) (hdg : decode cc pc = .ok (.arraylength, 1)) (kk : W p l e R s m args below meth c H locs cells slots Q (F0 m (pc + 1) ls (.int (Int32.ofNat (gZ σ (8 + j))) :: rest))) : W p l e R s m args below meth c H locs cells slots Q (F0 m pc ls (.ref a :: rest)) := by
  subst ha
  exact va_alen S.1 S.2.1 hE.1 hP (32 + j) 0 (dyn_at j hj) rfl rfl hdg kk
/-- the text that is read: the tape (cell 101) or the laws' (cell 102) -/
def txIn (σ : St) (i : Int32) : Prop := (gT σ 1 = 101 ∧ vp_in i 240) ∨ (gT σ 1 = 102 ∧ vp_in i 960)
theorem xMt (S : CallFix p m c cc nL s args GW own) (hE : env G A s s.heap) (hP : va_P G.1 classes (wM G σ) H) {i : Int32} (hin : txIn σ i) (hdg : decode cc pc = .ok (.baload, 1)) (kk : W p l e R s m args below meth c H locs cells slots Q (F0 m (pc + 1) ls (.int (gA σ (gT σ 1) i.toNatClampNeg) :: rest))) : W p l e R s m args below meth c H locs cells slots Q (F0 m pc ls (.int i :: .ref (ad G (gT σ 1)) :: rest)) := by
  rcases hin with ⟨h, hin⟩ | ⟨h, hin⟩
  · rw [h] at kk ⊢
    exact va_bald S.1 S.2.1 hE.1 hP 1 1 rfl rfl hin hdg kk
  · rw [h] at kk ⊢
    exact va_bald S.1 S.2.1 hE.1 hP 2 1 rfl rfl hin hdg kk
/-- a contract over what can't be -/
theorem Met.never {y : MethodName} {ws ws' : List Cond} {rm : Room} {Pc : Array Value → State → Prop} {Qc : Array Value → State → Outcome → State → Prop} {mc ms : Nat} {free : Addr → Prop} {bc : ByteArray} {maxL : Nat} {ret : Option FieldType} (hy : plainName y.cls = true) (hw : ws = Cond.code y bc maxL ret :: ws') (h : ∀ a U, ¬ Pc a U) : Met l y ws rm Pc Qc mc ms free :=
  Met.ofW hy hw (fun _ _ _ _ _ _ _ _ _ _ _ hv => absurd hv (h _ _))
/-- Met.ofW for a method that no native row stands for, whatever its class -/
theorem Met.ofWF {y : MethodName} {ws ws' : List Cond} {rm : Room} {Pc : Array Value → State → Prop} {Qc : Array Value → State → Outcome → State → Prop} {mc ms : Nat} {free : Addr → Prop} {cc : ByteArray} {maxL : Nat} {ret : Option FieldType}
    (hy : plainFor y = true) (hw : ws = Cond.code y cc maxL ret :: ws')
    (body : ∀ p e s m args below meth c s₁, BodyLoose p l y (headSpec ws rm) cc maxL ret e s m args below meth c s₁ → c.maxLocals = maxL → Pc args s →
      W p l e (headSpec ws rm).room s m args below meth c s.heap [] 0 0 (MQ below Qc args s mc ms free) (entryFrame m args maxL)) : Met l y ws rm Pc Qc mc ms free := by
  refine MetFree.of_bodySF (code := cc) (maxLocals := maxL) (ret := ret) hy ?_ ?_
  · intro args s m h hn
    obtain ⟨meth, c, h1, h2, h3, h4, h5, h6, -, -⟩ := Cond.code_spec hn (atoms_spec (ws := ws) h _ (by rw [hw]; exact List.mem_cons_self))
    exact ⟨meth, c, h1, h2, h3, h4, h5, h6⟩
  · intro p e s m args below meth c s₁ B hml hP _
    have hh0 : s₁.heap = s.heap := by rw [B.state]; rfl
    obtain ⟨t, a1, o, b1, b2, b3⟩ := body p e s m args below meth c s₁ B hml hP s₁ hh0 (Stand.of_body B)
    exact ⟨t, o, a1, b1, b2, ⟨b3.1, b3.2⟩⟩
end MORE
