/-! New int arrays that replace others: Arrays.copyOf, and the store into an array of arrays. -/
section ALLOC
variable {p : Program} {l : Launch} {e : Env} {R : Room} {s : State} {m : MethodId} {args : Array Value} {below : List Frame} {meth : Method} {c : Code} {H : Heap} {locs : List Loc} {Q : State → Prop}
variable {cc : ByteArray} {nL : Nat} {own : String} {rest : List Value} {pc : Nat} {ls : Array Slot} {G : GX} {A : Nat → Prop} {σ : St} {cells slots : Nat}
theorem vp_cell_cls (cA : ClassId) (x : vp_A) : (vp_cell cA x).cls = cA ∧ (vp_cell cA x).vm.isStatics = false := by
  obtain ⟨n, x⟩ := x
  rcases x with f | f | f | f | f <;> exact ⟨rfl, rfl⟩
theorem va_astI {D : va_G} {cl : List vw_C} {ws : va_W} {a : Nat} {H0 : Heap} (hexec : p.tables.exec = Jvm.exec) (hb : c.code = cc) (hP : va_P D cl ws H) (hD : va_D A ws) (hS : va_S A H0 H locs) (q0 : Nat) {cR cA : ClassId} {n v : Nat} {f : Nat → Option Nat} (ha : ws[q0]? = some (a, .inl (cA, n, .inr (.inr (.inr (.inr f)))))) (hAA : ∃ kA : Class, s.vm.classes[cA]? = some kA ∧ kA.kind = .array cR (.array .int)) (hR : ∃ kE : Class, s.vm.classes[cR]? = some kE) (qv : Nat) {x : vp_A} (hv : ws[qv]? = some (v, .inl (cR, x))) {i : Int32} (hin : vp_in i n) (hdg : decode cc pc = .ok (.aastore, 1))
    (kk : ∀ (H1 : Heap) (locs1 : List Loc), va_P D cl (ws.set q0 (a, .inl (cA, n, .inr (.inr (.inr (.inr (va_up f i.toNatClampNeg (some v)))))))) H1 → va_D A (ws.set q0 (a, .inl (cA, n, .inr (.inr (.inr (.inr (va_up f i.toNatClampNeg (some v)))))))) → va_S A H0 H1 locs1 → W p l e R s m args below meth c H1 locs1 cells slots Q (F0 m (pc + 1) ls rest)) : W p l e R s m args below meth c H locs cells slots Q (F0 m pc ls (.ref v :: .int i :: .ref a :: rest)) := by
  have hlt : i.toNatClampNeg < n := Nat.not_le.mp fun q => hin (Or.inr q)
  have h0 : ¬ i < 0 := fun q => hin (Or.inl q)
  obtain ⟨kA, k1, k2⟩ := hAA
  obtain ⟨kE, hkE⟩ := hR
  have g1 : H[v]? = some (vp_cell cR x) := hP qv _ hv
  obtain ⟨g2, g3⟩ := vp_cell_cls cR x
  have hkC : s.vm.classes[(vp_cell cR x).cls]? = some kE := by rw [g2]; exact hkE
  refine W.aast hexec hb (hP q0 _ ha) (fun q h => by cases h) (fun h => by cases h) k1 k2 rfl hkE ⟨h0, by show _ < (arrV _ _ _).slots.size; rw [arrV_size]; exact hlt⟩ g1 (fun q h => by rw [h] at g3; cases g3) hkC (by rw [g2]; exact va_asg _ _) rfl rfl hdg fun H1 e z oq => ?_
  refine kk H1 _ (hP.set hD ha ?_ oq) (hD.set ha) (hS.put z oq (hD.2 q0 _ ha))
  show H1[a]? = some (vp_cell _ _)
  rw [e]
  rw [vp_cell_q, vp_cell_q, arrV_store]
  congr 2
  funext q
  by_cases hq : q = i.toNatClampNeg
  · subst hq
    simp [updV, va_up, va_rf]
  · simp [updV, va_up, hq]
theorem env.ints (hE : env G A s s.heap) : s.vm.findClass "[I" = some (cy G 0) := (hE.1.2 0 _ rfl).2
theorem env.intk (hE : env G A s s.heap) : ∃ kE : Class, s.vm.classes[cy G 0]? = some kE := by
  obtain ⟨kE, h, -⟩ := Vm.findClass_spec hE.ints
  exact ⟨kE, h⟩
/-- the state behind 'outer[j] = q', an array of N ints f; b: 0 the winters, 4 the laws -/
def sNew (σ : St) (b j q N : Nat) (f : Nat → Int32) : St := sF (sZ (sZ σ (b + j) q) (8 + (b + j)) N) (32 + (b + j)) f
theorem sNew_out {σ : St} {b j q N : Nat} {f : Nat → Int32} (hb : b = 0 ∨ b = 4) (hj : j < 4) : va_up (fun k => if k < 4 then some (gZ σ (b + k)) else none) j (some q) = fun k => if k < 4 then some (gZ (sNew σ b j q N f) (b + k)) else none := by
  funext k
  simp only [va_up, sNew, gZ_sF, gZ_sZ]
  by_cases h : k = j
  · subst h
    have h1 : ¬ b + k = 8 + (b + k) := by omega
    simp [hj, h1]
  · have h1 : ¬ b + k = b + j := by omega
    by_cases h2 : k < 4
    · have h3 : ¬ b + k = 8 + (b + j) := by omega
      simp [h, h2, h1, h3]
    · simp [h, h2]
theorem sNew_oth4 {σ : St} {j q N : Nat} {f : Nat → Int32} (hj : j < 4) : (fun k => if k < 4 then some (gZ σ (0 + k)) else none) = fun k => if k < 4 then some (gZ (sNew σ 4 j q N f) (0 + k)) else none := by
  funext k
  simp only [sNew, gZ_sF, gZ_sZ]
  by_cases h : k < 4
  · have h1 : ¬ 0 + k = 4 + j := by omega
    have h2 : ¬ 0 + k = 8 + (4 + j) := by omega
    rw [if_pos h, if_pos h, if_neg h2, if_neg h1]
  · simp [h]
theorem sNew_oth0 {σ : St} {j q N : Nat} {f : Nat → Int32} (hj : j < 4) : (fun k => if k < 4 then some (gZ σ (4 + k)) else none) = fun k => if k < 4 then some (gZ (sNew σ 0 j q N f) (4 + k)) else none := by
  funext k
  simp only [sNew, gZ_sF, gZ_sZ]
  by_cases h : k < 4
  · have h1 : ¬ 4 + k = 0 + j := by omega
    have h2 : ¬ 4 + k = 8 + (0 + j) := by omega
    rw [if_pos h, if_pos h, if_neg h2, if_neg h1]
  · simp [h]
theorem xXa_20 (S : CallFix p m c cc nL s args GW own) (hE : env G A s s.heap) {q N : Nat} {f : Nat → Int32} (hP : va_P G.1 classes (wX G σ ++ [(q, .inl (cy G 0, N, .inl f))]) H) (hD : va_D A (wX G σ ++ [(q, .inl (cy G 0, N, .inl f))])) (hS : va_S A s.heap H locs) {i : Int32} (j : Nat) (hj : i.toNatClampNeg = j) (hin : vp_in i 4) (hdg : decode cc pc = .ok (.aastore, 1))
    (kk : ∀ (H1 : Heap) (locs1 : List Loc), va_P G.1 classes (wX G (sNew σ 4 j q N f)) H1 → va_D A (wX G (sNew σ 4 j q N f)) → va_S A s.heap H1 locs1 → W p l e R s m args below meth c H1 locs1 cells slots Q (F0 m (pc + 1) ls rest)) : W p l e R s m args below meth c H locs cells slots Q (F0 m pc ls (.ref q :: .int i :: .ref (ad G 20) :: rest)) := by
  have hlt : j < 4 := by rw [← hj]; exact vin_lt hin
  have hset : (wX G (sNew σ 4 j q N f)).set 17 (ad G 17, .inl (cy G 2, 4, .inr (.inr (.inr (.inr (fun k => if k < 4 then some (gZ σ (0 + k)) else none)))))) = wX G (sNew σ 4 j q N f) := by
    rw [sNew_oth4 (σ := σ) (q := q) (N := N) (f := f) hlt]
    rfl
  refine va_astI S.1 S.2.1 hP hD hS 20 rfl (e_AA hE.2) hE.intk 40 rfl hin hdg (fun H1 locs1 hP1 hD1 hS1 => kk H1 locs1 ?_ ?_ hS1)
  · rw [hj, sNew_out (σ := σ) (N := N) (f := f) (Or.inr rfl) hlt] at hP1
    rw [← hset]
    match j, hlt with
    | 0, _ => exact hP1.sub [0, 1, 2, 3, 4, 5, 6, 7, 8, 9, 10, 11, 12, 13, 14, 15, 16, 17, 18, 19, 20, 21, 22, 23, 24, 25, 26, 27, 28, 29, 30, 31, 32, 33, 34, 35, 40, 37, 38, 39] rfl
    | 1, _ => exact hP1.sub [0, 1, 2, 3, 4, 5, 6, 7, 8, 9, 10, 11, 12, 13, 14, 15, 16, 17, 18, 19, 20, 21, 22, 23, 24, 25, 26, 27, 28, 29, 30, 31, 32, 33, 34, 35, 36, 40, 38, 39] rfl
    | 2, _ => exact hP1.sub [0, 1, 2, 3, 4, 5, 6, 7, 8, 9, 10, 11, 12, 13, 14, 15, 16, 17, 18, 19, 20, 21, 22, 23, 24, 25, 26, 27, 28, 29, 30, 31, 32, 33, 34, 35, 36, 37, 40, 39] rfl
    | 3, _ => exact hP1.sub [0, 1, 2, 3, 4, 5, 6, 7, 8, 9, 10, 11, 12, 13, 14, 15, 16, 17, 18, 19, 20, 21, 22, 23, 24, 25, 26, 27, 28, 29, 30, 31, 32, 33, 34, 35, 36, 37, 38, 40] rfl
  · rw [hj, sNew_out (σ := σ) (N := N) (f := f) (Or.inr rfl) hlt] at hD1
    rw [← hset]
    match j, hlt with
    | 0, _ => exact hD1.sub [0, 1, 2, 3, 4, 5, 6, 7, 8, 9, 10, 11, 12, 13, 14, 15, 16, 17, 18, 19, 20, 21, 22, 23, 24, 25, 26, 27, 28, 29, 30, 31, 32, 33, 34, 35, 40, 37, 38, 39] (by decide) rfl
    | 1, _ => exact hD1.sub [0, 1, 2, 3, 4, 5, 6, 7, 8, 9, 10, 11, 12, 13, 14, 15, 16, 17, 18, 19, 20, 21, 22, 23, 24, 25, 26, 27, 28, 29, 30, 31, 32, 33, 34, 35, 36, 40, 38, 39] (by decide) rfl
    | 2, _ => exact hD1.sub [0, 1, 2, 3, 4, 5, 6, 7, 8, 9, 10, 11, 12, 13, 14, 15, 16, 17, 18, 19, 20, 21, 22, 23, 24, 25, 26, 27, 28, 29, 30, 31, 32, 33, 34, 35, 36, 37, 40, 39] (by decide) rfl
    | 3, _ => exact hD1.sub [0, 1, 2, 3, 4, 5, 6, 7, 8, 9, 10, 11, 12, 13, 14, 15, 16, 17, 18, 19, 20, 21, 22, 23, 24, 25, 26, 27, 28, 29, 30, 31, 32, 33, 34, 35, 36, 37, 38, 40] (by decide) rfl
theorem xXa_17 (S : CallFix p m c cc nL s args GW own) (hE : env G A s s.heap) {q N : Nat} {f : Nat → Int32} (hP : va_P G.1 classes (wX G σ ++ [(q, .inl (cy G 0, N, .inl f))]) H) (hD : va_D A (wX G σ ++ [(q, .inl (cy G 0, N, .inl f))])) (hS : va_S A s.heap H locs) {i : Int32} (j : Nat) (hj : i.toNatClampNeg = j) (hin : vp_in i 4) (hdg : decode cc pc = .ok (.aastore, 1))
    (kk : ∀ (H1 : Heap) (locs1 : List Loc), va_P G.1 classes (wX G (sNew σ 0 j q N f)) H1 → va_D A (wX G (sNew σ 0 j q N f)) → va_S A s.heap H1 locs1 → W p l e R s m args below meth c H1 locs1 cells slots Q (F0 m (pc + 1) ls rest)) : W p l e R s m args below meth c H locs cells slots Q (F0 m pc ls (.ref q :: .int i :: .ref (ad G 17) :: rest)) := by
  have hlt : j < 4 := by rw [← hj]; exact vin_lt hin
  have hset : (wX G (sNew σ 0 j q N f)).set 20 (ad G 20, .inl (cy G 2, 4, .inr (.inr (.inr (.inr (fun k => if k < 4 then some (gZ σ (4 + k)) else none)))))) = wX G (sNew σ 0 j q N f) := by
    rw [sNew_oth0 (σ := σ) (q := q) (N := N) (f := f) hlt]
    rfl
  refine va_astI S.1 S.2.1 hP hD hS 17 rfl (e_AA hE.2) hE.intk 40 rfl hin hdg (fun H1 locs1 hP1 hD1 hS1 => kk H1 locs1 ?_ ?_ hS1)
  · rw [hj, sNew_out (σ := σ) (N := N) (f := f) (Or.inl rfl) hlt] at hP1
    rw [← hset]
    match j, hlt with
    | 0, _ => exact hP1.sub [0, 1, 2, 3, 4, 5, 6, 7, 8, 9, 10, 11, 12, 13, 14, 15, 16, 17, 18, 19, 20, 21, 22, 23, 24, 25, 26, 27, 28, 29, 30, 31, 40, 33, 34, 35, 36, 37, 38, 39] rfl
    | 1, _ => exact hP1.sub [0, 1, 2, 3, 4, 5, 6, 7, 8, 9, 10, 11, 12, 13, 14, 15, 16, 17, 18, 19, 20, 21, 22, 23, 24, 25, 26, 27, 28, 29, 30, 31, 32, 40, 34, 35, 36, 37, 38, 39] rfl
    | 2, _ => exact hP1.sub [0, 1, 2, 3, 4, 5, 6, 7, 8, 9, 10, 11, 12, 13, 14, 15, 16, 17, 18, 19, 20, 21, 22, 23, 24, 25, 26, 27, 28, 29, 30, 31, 32, 33, 40, 35, 36, 37, 38, 39] rfl
    | 3, _ => exact hP1.sub [0, 1, 2, 3, 4, 5, 6, 7, 8, 9, 10, 11, 12, 13, 14, 15, 16, 17, 18, 19, 20, 21, 22, 23, 24, 25, 26, 27, 28, 29, 30, 31, 32, 33, 34, 40, 36, 37, 38, 39] rfl
  · rw [hj, sNew_out (σ := σ) (N := N) (f := f) (Or.inl rfl) hlt] at hD1
    rw [← hset]
    match j, hlt with
    | 0, _ => exact hD1.sub [0, 1, 2, 3, 4, 5, 6, 7, 8, 9, 10, 11, 12, 13, 14, 15, 16, 17, 18, 19, 20, 21, 22, 23, 24, 25, 26, 27, 28, 29, 30, 31, 40, 33, 34, 35, 36, 37, 38, 39] (by decide) rfl
    | 1, _ => exact hD1.sub [0, 1, 2, 3, 4, 5, 6, 7, 8, 9, 10, 11, 12, 13, 14, 15, 16, 17, 18, 19, 20, 21, 22, 23, 24, 25, 26, 27, 28, 29, 30, 31, 32, 40, 34, 35, 36, 37, 38, 39] (by decide) rfl
    | 2, _ => exact hD1.sub [0, 1, 2, 3, 4, 5, 6, 7, 8, 9, 10, 11, 12, 13, 14, 15, 16, 17, 18, 19, 20, 21, 22, 23, 24, 25, 26, 27, 28, 29, 30, 31, 32, 33, 40, 35, 36, 37, 38, 39] (by decide) rfl
    | 3, _ => exact hD1.sub [0, 1, 2, 3, 4, 5, 6, 7, 8, 9, 10, 11, 12, 13, 14, 15, 16, 17, 18, 19, 20, 21, 22, 23, 24, 25, 26, 27, 28, 29, 30, 31, 32, 33, 34, 40, 36, 37, 38, 39] (by decide) rfl
end ALLOC
