
/-! THE CLAIM OUT OF ONE WALK OF THE LAW'S BODY. Your part is whole_start (and what it stands on); all else here is the same for every law, but numbers. -/
def R_law : String := "BottleBeforeLaw"
def lw_P (b : Addr) (xs : List Int32) (args : Array Value) (s : State) : Prop := args = #[.ref b] ∧ s.IntsAt b xs ∧ xs.length ≤ 3072 ∧ (Jvm.Cond.and given_1 narrow_1).before args s = true
def lw_Q (_ : Array Value) (s : State) (o : Outcome) (t : State) : Prop := o = .returned (some (.int 1)) ∧ Framed s o t [] 601024 7293034
def lw_Z (below : List Frame) (a : Array Value) (s : State) : State → Prop := fun t => ∃ o, t.status = .running ∧ Ended t below o ∧ lw_Q a s o t
/-- the law's own end, with 1 on the stack, nothing written that was there before, its room as the claim has it -/
theorem lw_ret {p : Program} {l : Launch} {e : Env} {s : State} {m : MethodId} {below : List Frame} {meth : Method} {c : Code} {b : Nat} (hx : p.tables.exec = Jvm.exec) (hb : c.code = code) (hr : meth.sig.returnType = ret) (hlocks : meth.locks = false) {pc : Nat} {H : Heap} {ls : Array Slot} (hdg : decode code pc = .ok (.ireturn, 1)) : W p l e room_1 s m #[Value.ref b] below meth c H [] 601024 7293034 (lw_Z below #[Value.ref b] s) (F0 m pc ls [.int 1]) := by
  intro T hT X
  obtain ⟨fs, hret, hrun, hended, hW, hframe⟩ := X.leave (v := some (.int 1)) (hlocks := hlocks) (fun h => by rw [hr] at h; cases h)
  have hmeth' : T.vm.method? m = some meth := X.method'
  refine ⟨T.setFrames fs, ?_, .returned (some (.int 1)), hrun, hended, rfl, ⟨_, rfl⟩, hW, hframe⟩
  jvm_step X.here [X.here.top, hx, hb, hdg, hmeth', hr, ret, narrow_b1]
  (try refine ⟨rfl, ?_⟩); (try refine ⟨rfl, ?_⟩)
  first | (intro acts; rw [hret _ acts rfl rfl rfl]) | rw [hret _ _ rfl rfl rfl]
  exact Steps.refl _
/-- what holds at the law's entry: the machine, the code, the tables' words (any of lw_tbl by 'hts w (by decide +kernel)'), the script of L ints xs at the cell b, what the Statement gives of the start (any of its parts by flat_of_before) -/
def lw_At (p : Program) (s : State) (m : MethodId) (meth : Method) (c : Code) (b L : Nat) (xs : Nat → Int32) : Prop :=
  p.tables.exec = Jvm.exec ∧ c.code = code ∧ meth.sig.returnType = ret ∧ c.maxLocals = 7 ∧ s.vm.findClass R_law = some m.cls ∧ (∀ w ∈ lw_tbl, w.before #[Value.ref b] s = true) ∧ va_X b L xs s s.heap ∧ b < s.heap.size ∧ meth.locks = false ∧ (Jvm.Cond.and given_1 narrow_1).before #[Value.ref b] s = true
section YCALL
variable {p : Program} {l : Launch} {e : Env} {R : Room} {s : State} {m : MethodId} {args : Array Value} {below : List Frame} {meth : Method} {c : Code} {H : Heap} {locs : List Loc} {Q : State → Prop}
variable {y : MethodName} {bytes cc : ByteArray} {maxL nL n index : Nat} {ret : Option FieldType} {rm : Room} {own C : String} {b : Addr} {rest st0 : List Value} {pc : Nat} {ls : Array Slot} {w : Wd} {G : GX} {A : Nat → Prop} {σ : St} {Sp : Prop} {cells slots : Nat}
theorem ySp {D : va_G} {cl : List vw_C} {a b : va_W} {H : Heap} (h : va_P D cl (a ++ b) H) : va_P D cl a H ∧ va_P D cl b H := by
  refine ⟨fun k q hq => h k q (by rw [List.getElem?_append_left (List.getElem?_eq_some_iff.mp hq).1]; exact hq), fun k q hq => h (a.length + k) q (by rw [List.getElem?_append_right (Nat.le_add_right _ _), Nat.add_sub_cancel_left]; exact hq)⟩
/-- a virtual call that answers an int, over a part of the world; the rest stays -/
theorem yVi {post : Int32 → St → Prop} {kc ks : Nat} {wr : va_W} (As : List Value) (S : CallFix p m c cc nL s args GW own) (hE : env G A s s.heap) (hA : ∀ q, s.heap.size ≤ q → A q) (hP : va_P G.1 classes (w G σ) H) (hR : va_P G.1 classes wr H) (hD : va_D A (w G σ ++ wr)) (hS : va_S A s.heap H locs)
    (hM : MetJ kc ks l w y bytes maxL ret rm (Value.ref b :: As) G σ H.size Sp post) (hB : Sp) (hlm : ∀ x ∈ wsV own index C y (Cond.code y bytes maxL ret :: GW), x ∈ GW)
    (hd : y.cls = C ∧ y.cls ≠ "java/lang/invoke/MethodHandle" ∧ y.cls ≠ "java/lang/invoke/VarHandle" ∧ (parseMethodDescriptor y.desc).map (fun d => d.parameters.length) = some n) (hrc : rm.cells = kc) (hrs : rm.slots = ks) (hRf : rm.frames + 1 ≤ R.frames) (hRl : 8 + (maxL + 11) + rm.locals ≤ R.locals) (hc : cells + kc ≤ R.cells ∧ slots + ks ≤ R.slots)
    (hrv : ∃ cell : Cell, H[b]? = some cell ∧ cell.vm.isStatics = false ∧ s.vm.findClass C = some cell.cls) (hn : As.length = n) (hsz : ls.size = nL) (hst : st0 = As.reverse ++ .ref b :: rest) (hW : (rest.map fun v => v.category).sum ≤ 8) (hdg : decode cc pc = .ok (.invokevirtual index, 3))
    (kk : ∀ (r : Int32) (σ1 : St) (H1 : Heap) (locs1 : List Loc), post r σ1 → va_P G.1 classes (w G σ1) H1 → va_P G.1 classes wr H1 → va_D A (w G σ1 ++ wr) → va_S A s.heap H1 locs1 → W p l e R s m args below meth c H1 locs1 (cells + kc) (slots + ks) Q (F0 m (pc + 3) ls (.int r :: rest))) : W p l e R s m args below meth c H locs cells slots Q (F0 m pc ls st0) := by
  have hF := yA hD hS hA
  refine va_calli (va_runV (As := As) (rest := rest) (R := R) S hM (cwV n S.2.2.2.2 (gw_in hlm) rfl hrc hrs hd ⟨hRf, hRl⟩) ⟨WPre.blind _, hrv, fun U hU hW => ⟨rfl, xpre hE hP (ysplit hD).1 hS hA hB hU hW⟩⟩ rfl hn hsz hst (lv_room hW) hdg hc) hS (fun q _ h => hF q h) hF (fun r u t H1 locs1 ht hvm hw hB1 hz1 hk1 hS1 => ?_)
  obtain ⟨hP1, hD1⟩ := hB1
  rw [ht] at hP1
  obtain ⟨hR1, hDn⟩ := yfr hR hD hk1 hF hD1
  exact kk r u H1 locs1 hw hP1 hR1 hDn hS1
end YCALL
theorem vp_updL_self (f : Nat → Int64) (j : Nat) (x : Int64) : vp_updL f j x j = x := by simp [vp_updL]
def GPP (Inv : St → St → Prop) (a1 a2 : Int32) (y : St) (k : Int32) (u : St × (Nat → Int64)) : Prop := S_M_guest (fun r1 y1 => S_M_thrown (fun r2 y2 => r2 = k ∧ (k = 0 → u.2 (0 : Int32).toNatClampNeg = r1.toInt64) ∧ Inv u.1 y2) y1) a1 a2 y
theorem ycmp (x : Int64) : lg_cmp x x = 0 := by simp [lg_cmp]
theorem hq_X11_feed : yX11_feed.cls = RX11 ∧ yX11_feed.cls ≠ "java/lang/invoke/MethodHandle" ∧ yX11_feed.cls ≠ "java/lang/invoke/VarHandle" ∧ (parseMethodDescriptor yX11_feed.desc).map (fun d => d.parameters.length) = some 5 := by decide +kernel
theorem hq_X12_feed : yX12_feed.cls = RX12 ∧ yX12_feed.cls ≠ "java/lang/invoke/MethodHandle" ∧ yX12_feed.cls ≠ "java/lang/invoke/VarHandle" ∧ (parseMethodDescriptor yX12_feed.desc).map (fun d => d.parameters.length) = some 5 := by decide +kernel
theorem hq_X11_end : yX11_end.cls = RX11 ∧ yX11_end.cls ≠ "java/lang/invoke/MethodHandle" ∧ yX11_end.cls ≠ "java/lang/invoke/VarHandle" ∧ (parseMethodDescriptor yX11_end.desc).map (fun d => d.parameters.length) = some 1 := by decide +kernel
theorem hq_X12_end : yX12_end.cls = RX12 ∧ yX12_end.cls ≠ "java/lang/invoke/MethodHandle" ∧ yX12_end.cls ≠ "java/lang/invoke/VarHandle" ∧ (parseMethodDescriptor yX12_end.desc).map (fun d => d.parameters.length) = some 1 := by decide +kernel
theorem hq_X11_fault : yX11_fault.cls = RX11 ∧ yX11_fault.cls ≠ "java/lang/invoke/MethodHandle" ∧ yX11_fault.cls ≠ "java/lang/invoke/VarHandle" ∧ (parseMethodDescriptor yX11_fault.desc).map (fun d => d.parameters.length) = some 1 := by decide +kernel
theorem hq_X12_fault : yX12_fault.cls = RX12 ∧ yX12_fault.cls ≠ "java/lang/invoke/MethodHandle" ∧ yX12_fault.cls ≠ "java/lang/invoke/VarHandle" ∧ (parseMethodDescriptor yX12_fault.desc).map (fun d => d.parameters.length) = some 1 := by decide +kernel
theorem hq_X11_text : yX11_text.cls = RX11 ∧ yX11_text.cls ≠ "java/lang/invoke/MethodHandle" ∧ yX11_text.cls ≠ "java/lang/invoke/VarHandle" ∧ (parseMethodDescriptor yX11_text.desc).map (fun d => d.parameters.length) = some 1 := by decide +kernel
theorem hq_X12_text : yX12_text.cls = RX12 ∧ yX12_text.cls ≠ "java/lang/invoke/MethodHandle" ∧ yX12_text.cls ≠ "java/lang/invoke/VarHandle" ∧ (parseMethodDescriptor yX12_text.desc).map (fun d => d.parameters.length) = some 1 := by decide +kernel
theorem hq_X11_rule : yX11_rule.cls = RX11 ∧ yX11_rule.cls ≠ "java/lang/invoke/MethodHandle" ∧ yX11_rule.cls ≠ "java/lang/invoke/VarHandle" ∧ (parseMethodDescriptor yX11_rule.desc).map (fun d => d.parameters.length) = some 1 := by decide +kernel
theorem hq_X12_rule : yX12_rule.cls = RX12 ∧ yX12_rule.cls ≠ "java/lang/invoke/MethodHandle" ∧ yX12_rule.cls ≠ "java/lang/invoke/VarHandle" ∧ (parseMethodDescriptor yX12_rule.desc).map (fun d => d.parameters.length) = some 1 := by decide +kernel
theorem hq_X11_drink : yX11_drink.cls = RX11 ∧ yX11_drink.cls ≠ "java/lang/invoke/MethodHandle" ∧ yX11_drink.cls ≠ "java/lang/invoke/VarHandle" ∧ (parseMethodDescriptor yX11_drink.desc).map (fun d => d.parameters.length) = some 2 := by decide +kernel
theorem hq_X12_drink : yX12_drink.cls = RX12 ∧ yX12_drink.cls ≠ "java/lang/invoke/MethodHandle" ∧ yX12_drink.cls ≠ "java/lang/invoke/VarHandle" ∧ (parseMethodDescriptor yX12_drink.desc).map (fun d => d.parameters.length) = some 2 := by decide +kernel
theorem hq_X12_guest : yX12_guest.cls = RX12 ∧ yX12_guest.cls ≠ "java/lang/invoke/MethodHandle" ∧ yX12_guest.cls ≠ "java/lang/invoke/VarHandle" ∧ (parseMethodDescriptor yX12_guest.desc).map (fun d => d.parameters.length) = some 2 := by decide +kernel
theorem hq_X12_thrown : yX12_thrown.cls = RX12 ∧ yX12_thrown.cls ≠ "java/lang/invoke/MethodHandle" ∧ yX12_thrown.cls ≠ "java/lang/invoke/VarHandle" ∧ (parseMethodDescriptor yX12_thrown.desc).map (fun d => d.parameters.length) = some 0 := by decide +kernel
theorem hq_X11_law : yX11_law.cls = RX11 ∧ yX11_law.cls ≠ "java/lang/invoke/MethodHandle" ∧ yX11_law.cls ≠ "java/lang/invoke/VarHandle" ∧ (parseMethodDescriptor yX11_law.desc).map (fun d => d.parameters.length) = some 1 := by decide +kernel
theorem hq_X12_law : yX12_law.cls = RX12 ∧ yX12_law.cls ≠ "java/lang/invoke/MethodHandle" ∧ yX12_law.cls ≠ "java/lang/invoke/VarHandle" ∧ (parseMethodDescriptor yX12_law.desc).map (fun d => d.parameters.length) = some 1 := by decide +kernel
theorem hq_X11_snow : yX11_snow.cls = RX11 ∧ yX11_snow.cls ≠ "java/lang/invoke/MethodHandle" ∧ yX11_snow.cls ≠ "java/lang/invoke/VarHandle" ∧ (parseMethodDescriptor yX11_snow.desc).map (fun d => d.parameters.length) = some 1 := by decide +kernel
theorem hq_X12_snow : yX12_snow.cls = RX12 ∧ yX12_snow.cls ≠ "java/lang/invoke/MethodHandle" ∧ yX12_snow.cls ≠ "java/lang/invoke/VarHandle" ∧ (parseMethodDescriptor yX12_snow.desc).map (fun d => d.parameters.length) = some 1 := by decide +kernel
theorem hq_X11_visit : yX11_visit.cls = RX11 ∧ yX11_visit.cls ≠ "java/lang/invoke/MethodHandle" ∧ yX11_visit.cls ≠ "java/lang/invoke/VarHandle" ∧ (parseMethodDescriptor yX11_visit.desc).map (fun d => d.parameters.length) = some 1 := by decide +kernel
theorem hq_X12_visit : yX12_visit.cls = RX12 ∧ yX12_visit.cls ≠ "java/lang/invoke/MethodHandle" ∧ yX12_visit.cls ≠ "java/lang/invoke/VarHandle" ∧ (parseMethodDescriptor yX12_visit.desc).map (fun d => d.parameters.length) = some 1 := by decide +kernel
theorem hq_X11_month : yX11_month.cls = RX11 ∧ yX11_month.cls ≠ "java/lang/invoke/MethodHandle" ∧ yX11_month.cls ≠ "java/lang/invoke/VarHandle" ∧ (parseMethodDescriptor yX11_month.desc).map (fun d => d.parameters.length) = some 0 := by decide +kernel
theorem hq_X12_month : yX12_month.cls = RX12 ∧ yX12_month.cls ≠ "java/lang/invoke/MethodHandle" ∧ yX12_month.cls ≠ "java/lang/invoke/VarHandle" ∧ (parseMethodDescriptor yX12_month.desc).map (fun d => d.parameters.length) = some 0 := by decide +kernel
theorem hq_X11_host : yX11_host.cls = RX11 ∧ yX11_host.cls ≠ "java/lang/invoke/MethodHandle" ∧ yX11_host.cls ≠ "java/lang/invoke/VarHandle" ∧ (parseMethodDescriptor yX11_host.desc).map (fun d => d.parameters.length) = some 1 := by decide +kernel
theorem hq_X12_host : yX12_host.cls = RX12 ∧ yX12_host.cls ≠ "java/lang/invoke/MethodHandle" ∧ yX12_host.cls ≠ "java/lang/invoke/VarHandle" ∧ (parseMethodDescriptor yX12_host.desc).map (fun d => d.parameters.length) = some 1 := by decide +kernel
theorem hq_X11_pay : yX11_pay.cls = RX11 ∧ yX11_pay.cls ≠ "java/lang/invoke/MethodHandle" ∧ yX11_pay.cls ≠ "java/lang/invoke/VarHandle" ∧ (parseMethodDescriptor yX11_pay.desc).map (fun d => d.parameters.length) = some 2 := by decide +kernel
theorem hq_X12_pay : yX12_pay.cls = RX12 ∧ yX12_pay.cls ≠ "java/lang/invoke/MethodHandle" ∧ yX12_pay.cls ≠ "java/lang/invoke/VarHandle" ∧ (parseMethodDescriptor yX12_pay.desc).map (fun d => d.parameters.length) = some 2 := by decide +kernel
theorem hq_X11_price : yX11_price.cls = RX11 ∧ yX11_price.cls ≠ "java/lang/invoke/MethodHandle" ∧ yX11_price.cls ≠ "java/lang/invoke/VarHandle" ∧ (parseMethodDescriptor yX11_price.desc).map (fun d => d.parameters.length) = some 2 := by decide +kernel
theorem hq_X12_price : yX12_price.cls = RX12 ∧ yX12_price.cls ≠ "java/lang/invoke/MethodHandle" ∧ yX12_price.cls ≠ "java/lang/invoke/VarHandle" ∧ (parseMethodDescriptor yX12_price.desc).map (fun d => d.parameters.length) = some 2 := by decide +kernel
theorem hq_X11_years : yX11_years.cls = RX11 ∧ yX11_years.cls ≠ "java/lang/invoke/MethodHandle" ∧ yX11_years.cls ≠ "java/lang/invoke/VarHandle" ∧ (parseMethodDescriptor yX11_years.desc).map (fun d => d.parameters.length) = some 2 := by decide +kernel
theorem hq_X12_years : yX12_years.cls = RX12 ∧ yX12_years.cls ≠ "java/lang/invoke/MethodHandle" ∧ yX12_years.cls ≠ "java/lang/invoke/VarHandle" ∧ (parseMethodDescriptor yX12_years.desc).map (fun d => d.parameters.length) = some 2 := by decide +kernel
theorem hq_X11_undo : yX11_undo.cls = RX11 ∧ yX11_undo.cls ≠ "java/lang/invoke/MethodHandle" ∧ yX11_undo.cls ≠ "java/lang/invoke/VarHandle" ∧ (parseMethodDescriptor yX11_undo.desc).map (fun d => d.parameters.length) = some 0 := by decide +kernel
theorem hq_X12_undo : yX12_undo.cls = RX12 ∧ yX12_undo.cls ≠ "java/lang/invoke/MethodHandle" ∧ yX12_undo.cls ≠ "java/lang/invoke/VarHandle" ∧ (parseMethodDescriptor yX12_undo.desc).map (fun d => d.parameters.length) = some 0 := by decide +kernel
theorem hq_X11_book : yX11_book.cls = RX11 ∧ yX11_book.cls ≠ "java/lang/invoke/MethodHandle" ∧ yX11_book.cls ≠ "java/lang/invoke/VarHandle" ∧ (parseMethodDescriptor yX11_book.desc).map (fun d => d.parameters.length) = some 2 := by decide +kernel
theorem hq_X12_book : yX12_book.cls = RX12 ∧ yX12_book.cls ≠ "java/lang/invoke/MethodHandle" ∧ yX12_book.cls ≠ "java/lang/invoke/VarHandle" ∧ (parseMethodDescriptor yX12_book.desc).map (fun d => d.parameters.length) = some 2 := by decide +kernel
theorem hq_X11_step : yX11_step.cls = RX11 ∧ yX11_step.cls ≠ "java/lang/invoke/MethodHandle" ∧ yX11_step.cls ≠ "java/lang/invoke/VarHandle" ∧ (parseMethodDescriptor yX11_step.desc).map (fun d => d.parameters.length) = some 3 := by decide +kernel
theorem hq_X12_step : yX12_step.cls = RX12 ∧ yX12_step.cls ≠ "java/lang/invoke/MethodHandle" ∧ yX12_step.cls ≠ "java/lang/invoke/VarHandle" ∧ (parseMethodDescriptor yX12_step.desc).map (fun d => d.parameters.length) = some 3 := by decide +kernel
theorem hq_X11_run : yX11_run.cls = RX11 ∧ yX11_run.cls ≠ "java/lang/invoke/MethodHandle" ∧ yX11_run.cls ≠ "java/lang/invoke/VarHandle" ∧ (parseMethodDescriptor yX11_run.desc).map (fun d => d.parameters.length) = some 2 := by decide +kernel
theorem hq_X12_run : yX12_run.cls = RX12 ∧ yX12_run.cls ≠ "java/lang/invoke/MethodHandle" ∧ yX12_run.cls ≠ "java/lang/invoke/VarHandle" ∧ (parseMethodDescriptor yX12_run.desc).map (fun d => d.parameters.length) = some 2 := by decide +kernel
theorem hq_X11_perform : yX11_perform.cls = RX11 ∧ yX11_perform.cls ≠ "java/lang/invoke/MethodHandle" ∧ yX11_perform.cls ≠ "java/lang/invoke/VarHandle" ∧ (parseMethodDescriptor yX11_perform.desc).map (fun d => d.parameters.length) = some 1 := by decide +kernel
theorem hq_X12_perform : yX12_perform.cls = RX12 ∧ yX12_perform.cls ≠ "java/lang/invoke/MethodHandle" ∧ yX12_perform.cls ≠ "java/lang/invoke/VarHandle" ∧ (parseMethodDescriptor yX12_perform.desc).map (fun d => d.parameters.length) = some 1 := by decide +kernel
theorem hq_X11_best : yX11_best.cls = RX11 ∧ yX11_best.cls ≠ "java/lang/invoke/MethodHandle" ∧ yX11_best.cls ≠ "java/lang/invoke/VarHandle" ∧ (parseMethodDescriptor yX11_best.desc).map (fun d => d.parameters.length) = some 1 := by decide +kernel
theorem hq_X12_best : yX12_best.cls = RX12 ∧ yX12_best.cls ≠ "java/lang/invoke/MethodHandle" ∧ yX12_best.cls ≠ "java/lang/invoke/VarHandle" ∧ (parseMethodDescriptor yX12_best.desc).map (fun d => d.parameters.length) = some 1 := by decide +kernel
theorem hq_X11_comes : yX11_comes.cls = RX11 ∧ yX11_comes.cls ≠ "java/lang/invoke/MethodHandle" ∧ yX11_comes.cls ≠ "java/lang/invoke/VarHandle" ∧ (parseMethodDescriptor yX11_comes.desc).map (fun d => d.parameters.length) = some 2 := by decide +kernel
theorem hq_X12_comes : yX12_comes.cls = RX12 ∧ yX12_comes.cls ≠ "java/lang/invoke/MethodHandle" ∧ yX12_comes.cls ≠ "java/lang/invoke/VarHandle" ∧ (parseMethodDescriptor yX12_comes.desc).map (fun d => d.parameters.length) = some 2 := by decide +kernel
theorem hq_X11_soonest : yX11_soonest.cls = RX11 ∧ yX11_soonest.cls ≠ "java/lang/invoke/MethodHandle" ∧ yX11_soonest.cls ≠ "java/lang/invoke/VarHandle" ∧ (parseMethodDescriptor yX11_soonest.desc).map (fun d => d.parameters.length) = some 2 := by decide +kernel
theorem hq_X12_soonest : yX12_soonest.cls = RX12 ∧ yX12_soonest.cls ≠ "java/lang/invoke/MethodHandle" ∧ yX12_soonest.cls ≠ "java/lang/invoke/VarHandle" ∧ (parseMethodDescriptor yX12_soonest.desc).map (fun d => d.parameters.length) = some 2 := by decide +kernel
theorem hq_X11_ends : yX11_ends.cls = RX11 ∧ yX11_ends.cls ≠ "java/lang/invoke/MethodHandle" ∧ yX11_ends.cls ≠ "java/lang/invoke/VarHandle" ∧ (parseMethodDescriptor yX11_ends.desc).map (fun d => d.parameters.length) = some 1 := by decide +kernel
theorem hq_X12_ends : yX12_ends.cls = RX12 ∧ yX12_ends.cls ≠ "java/lang/invoke/MethodHandle" ∧ yX12_ends.cls ≠ "java/lang/invoke/VarHandle" ∧ (parseMethodDescriptor yX12_ends.desc).map (fun d => d.parameters.length) = some 1 := by decide +kernel
theorem hq_X11_round : yX11_round.cls = RX11 ∧ yX11_round.cls ≠ "java/lang/invoke/MethodHandle" ∧ yX11_round.cls ≠ "java/lang/invoke/VarHandle" ∧ (parseMethodDescriptor yX11_round.desc).map (fun d => d.parameters.length) = some 1 := by decide +kernel
theorem hq_X12_round : yX12_round.cls = RX12 ∧ yX12_round.cls ≠ "java/lang/invoke/MethodHandle" ∧ yX12_round.cls ≠ "java/lang/invoke/VarHandle" ∧ (parseMethodDescriptor yX12_round.desc).map (fun d => d.parameters.length) = some 1 := by decide +kernel
theorem hq_X11_seen : yX11_seen.cls = RX11 ∧ yX11_seen.cls ≠ "java/lang/invoke/MethodHandle" ∧ yX11_seen.cls ≠ "java/lang/invoke/VarHandle" ∧ (parseMethodDescriptor yX11_seen.desc).map (fun d => d.parameters.length) = some 4 := by decide +kernel
theorem hq_X12_seen : yX12_seen.cls = RX12 ∧ yX12_seen.cls ≠ "java/lang/invoke/MethodHandle" ∧ yX12_seen.cls ≠ "java/lang/invoke/VarHandle" ∧ (parseMethodDescriptor yX12_seen.desc).map (fun d => d.parameters.length) = some 4 := by decide +kernel
theorem hq_X11_fits : yX11_fits.cls = RX11 ∧ yX11_fits.cls ≠ "java/lang/invoke/MethodHandle" ∧ yX11_fits.cls ≠ "java/lang/invoke/VarHandle" ∧ (parseMethodDescriptor yX11_fits.desc).map (fun d => d.parameters.length) = some 2 := by decide +kernel
theorem hq_X12_fits : yX12_fits.cls = RX12 ∧ yX12_fits.cls ≠ "java/lang/invoke/MethodHandle" ∧ yX12_fits.cls ≠ "java/lang/invoke/VarHandle" ∧ (parseMethodDescriptor yX12_fits.desc).map (fun d => d.parameters.length) = some 2 := by decide +kernel
theorem hq_X11_serve : yX11_serve.cls = RX11 ∧ yX11_serve.cls ≠ "java/lang/invoke/MethodHandle" ∧ yX11_serve.cls ≠ "java/lang/invoke/VarHandle" ∧ (parseMethodDescriptor yX11_serve.desc).map (fun d => d.parameters.length) = some 2 := by decide +kernel
theorem hq_X12_serve : yX12_serve.cls = RX12 ∧ yX12_serve.cls ≠ "java/lang/invoke/MethodHandle" ∧ yX12_serve.cls ≠ "java/lang/invoke/VarHandle" ∧ (parseMethodDescriptor yX12_serve.desc).map (fun d => d.parameters.length) = some 2 := by decide +kernel
theorem hq_X11_who : yX11_who.cls = RX11 ∧ yX11_who.cls ≠ "java/lang/invoke/MethodHandle" ∧ yX11_who.cls ≠ "java/lang/invoke/VarHandle" ∧ (parseMethodDescriptor yX11_who.desc).map (fun d => d.parameters.length) = some 3 := by decide +kernel
theorem hq_X12_who : yX12_who.cls = RX12 ∧ yX12_who.cls ≠ "java/lang/invoke/MethodHandle" ∧ yX12_who.cls ≠ "java/lang/invoke/VarHandle" ∧ (parseMethodDescriptor yX12_who.desc).map (fun d => d.parameters.length) = some 3 := by decide +kernel
theorem hq_X11_game : yX11_game.cls = RX11 ∧ yX11_game.cls ≠ "java/lang/invoke/MethodHandle" ∧ yX11_game.cls ≠ "java/lang/invoke/VarHandle" ∧ (parseMethodDescriptor yX11_game.desc).map (fun d => d.parameters.length) = some 5 := by decide +kernel
theorem hq_X12_game : yX12_game.cls = RX12 ∧ yX12_game.cls ≠ "java/lang/invoke/MethodHandle" ∧ yX12_game.cls ≠ "java/lang/invoke/VarHandle" ∧ (parseMethodDescriptor yX12_game.desc).map (fun d => d.parameters.length) = some 5 := by decide +kernel
theorem hq_X11_rests : yX11_rests.cls = RX11 ∧ yX11_rests.cls ≠ "java/lang/invoke/MethodHandle" ∧ yX11_rests.cls ≠ "java/lang/invoke/VarHandle" ∧ (parseMethodDescriptor yX11_rests.desc).map (fun d => d.parameters.length) = some 3 := by decide +kernel
theorem hq_X12_rests : yX12_rests.cls = RX12 ∧ yX12_rests.cls ≠ "java/lang/invoke/MethodHandle" ∧ yX12_rests.cls ≠ "java/lang/invoke/VarHandle" ∧ (parseMethodDescriptor yX12_rests.desc).map (fun d => d.parameters.length) = some 3 := by decide +kernel
theorem hq_X11_dealt : yX11_dealt.cls = RX11 ∧ yX11_dealt.cls ≠ "java/lang/invoke/MethodHandle" ∧ yX11_dealt.cls ≠ "java/lang/invoke/VarHandle" ∧ (parseMethodDescriptor yX11_dealt.desc).map (fun d => d.parameters.length) = some 1 := by decide +kernel
theorem hq_X12_dealt : yX12_dealt.cls = RX12 ∧ yX12_dealt.cls ≠ "java/lang/invoke/MethodHandle" ∧ yX12_dealt.cls ≠ "java/lang/invoke/VarHandle" ∧ (parseMethodDescriptor yX12_dealt.desc).map (fun d => d.parameters.length) = some 1 := by decide +kernel
theorem hq_X11_odds : yX11_odds.cls = RX11 ∧ yX11_odds.cls ≠ "java/lang/invoke/MethodHandle" ∧ yX11_odds.cls ≠ "java/lang/invoke/VarHandle" ∧ (parseMethodDescriptor yX11_odds.desc).map (fun d => d.parameters.length) = some 2 := by decide +kernel
theorem hq_X12_odds : yX12_odds.cls = RX12 ∧ yX12_odds.cls ≠ "java/lang/invoke/MethodHandle" ∧ yX12_odds.cls ≠ "java/lang/invoke/VarHandle" ∧ (parseMethodDescriptor yX12_odds.desc).map (fun d => d.parameters.length) = some 2 := by decide +kernel
theorem hq_X11_makes : yX11_makes.cls = RX11 ∧ yX11_makes.cls ≠ "java/lang/invoke/MethodHandle" ∧ yX11_makes.cls ≠ "java/lang/invoke/VarHandle" ∧ (parseMethodDescriptor yX11_makes.desc).map (fun d => d.parameters.length) = some 2 := by decide +kernel
theorem hq_X12_makes : yX12_makes.cls = RX12 ∧ yX12_makes.cls ≠ "java/lang/invoke/MethodHandle" ∧ yX12_makes.cls ≠ "java/lang/invoke/VarHandle" ∧ (parseMethodDescriptor yX12_makes.desc).map (fun d => d.parameters.length) = some 2 := by decide +kernel
theorem hq_X11_glad : yX11_glad.cls = RX11 ∧ yX11_glad.cls ≠ "java/lang/invoke/MethodHandle" ∧ yX11_glad.cls ≠ "java/lang/invoke/VarHandle" ∧ (parseMethodDescriptor yX11_glad.desc).map (fun d => d.parameters.length) = some 1 := by decide +kernel
theorem hq_X12_glad : yX12_glad.cls = RX12 ∧ yX12_glad.cls ≠ "java/lang/invoke/MethodHandle" ∧ yX12_glad.cls ≠ "java/lang/invoke/VarHandle" ∧ (parseMethodDescriptor yX12_glad.desc).map (fun d => d.parameters.length) = some 1 := by decide +kernel
theorem hq_X11_all : yX11_all.cls = RX11 ∧ yX11_all.cls ≠ "java/lang/invoke/MethodHandle" ∧ yX11_all.cls ≠ "java/lang/invoke/VarHandle" ∧ (parseMethodDescriptor yX11_all.desc).map (fun d => d.parameters.length) = some 1 := by decide +kernel
theorem hq_X12_all : yX12_all.cls = RX12 ∧ yX12_all.cls ≠ "java/lang/invoke/MethodHandle" ∧ yX12_all.cls ≠ "java/lang/invoke/VarHandle" ∧ (parseMethodDescriptor yX12_all.desc).map (fun d => d.parameters.length) = some 1 := by decide +kernel
theorem hq_X11_affords : yX11_affords.cls = RX11 ∧ yX11_affords.cls ≠ "java/lang/invoke/MethodHandle" ∧ yX11_affords.cls ≠ "java/lang/invoke/VarHandle" ∧ (parseMethodDescriptor yX11_affords.desc).map (fun d => d.parameters.length) = some 1 := by decide +kernel
theorem hq_X12_affords : yX12_affords.cls = RX12 ∧ yX12_affords.cls ≠ "java/lang/invoke/MethodHandle" ∧ yX12_affords.cls ≠ "java/lang/invoke/VarHandle" ∧ (parseMethodDescriptor yX12_affords.desc).map (fun d => d.parameters.length) = some 1 := by decide +kernel
theorem hq_X11_brought : yX11_brought.cls = RX11 ∧ yX11_brought.cls ≠ "java/lang/invoke/MethodHandle" ∧ yX11_brought.cls ≠ "java/lang/invoke/VarHandle" ∧ (parseMethodDescriptor yX11_brought.desc).map (fun d => d.parameters.length) = some 1 := by decide +kernel
theorem hq_X12_brought : yX12_brought.cls = RX12 ∧ yX12_brought.cls ≠ "java/lang/invoke/MethodHandle" ∧ yX12_brought.cls ≠ "java/lang/invoke/VarHandle" ∧ (parseMethodDescriptor yX12_brought.desc).map (fun d => d.parameters.length) = some 1 := by decide +kernel
theorem hq_X11_saves : yX11_saves.cls = RX11 ∧ yX11_saves.cls ≠ "java/lang/invoke/MethodHandle" ∧ yX11_saves.cls ≠ "java/lang/invoke/VarHandle" ∧ (parseMethodDescriptor yX11_saves.desc).map (fun d => d.parameters.length) = some 2 := by decide +kernel
theorem hq_X12_saves : yX12_saves.cls = RX12 ∧ yX12_saves.cls ≠ "java/lang/invoke/MethodHandle" ∧ yX12_saves.cls ≠ "java/lang/invoke/VarHandle" ∧ (parseMethodDescriptor yX12_saves.desc).map (fun d => d.parameters.length) = some 2 := by decide +kernel
theorem hq_X11_image : yX11_image.cls = RX11 ∧ yX11_image.cls ≠ "java/lang/invoke/MethodHandle" ∧ yX11_image.cls ≠ "java/lang/invoke/VarHandle" ∧ (parseMethodDescriptor yX11_image.desc).map (fun d => d.parameters.length) = some 0 := by decide +kernel
theorem hq_X12_image : yX12_image.cls = RX12 ∧ yX12_image.cls ≠ "java/lang/invoke/MethodHandle" ∧ yX12_image.cls ≠ "java/lang/invoke/VarHandle" ∧ (parseMethodDescriptor yX12_image.desc).map (fun d => d.parameters.length) = some 0 := by decide +kernel
theorem hq_X11_back : yX11_back.cls = RX11 ∧ yX11_back.cls ≠ "java/lang/invoke/MethodHandle" ∧ yX11_back.cls ≠ "java/lang/invoke/VarHandle" ∧ (parseMethodDescriptor yX11_back.desc).map (fun d => d.parameters.length) = some 0 := by decide +kernel
theorem hq_X12_back : yX12_back.cls = RX12 ∧ yX12_back.cls ≠ "java/lang/invoke/MethodHandle" ∧ yX12_back.cls ≠ "java/lang/invoke/VarHandle" ∧ (parseMethodDescriptor yX12_back.desc).map (fun d => d.parameters.length) = some 0 := by decide +kernel
theorem hq_X11_count : yX11_count.cls = RX11 ∧ yX11_count.cls ≠ "java/lang/invoke/MethodHandle" ∧ yX11_count.cls ≠ "java/lang/invoke/VarHandle" ∧ (parseMethodDescriptor yX11_count.desc).map (fun d => d.parameters.length) = some 1 := by decide +kernel
theorem hq_X12_count : yX12_count.cls = RX12 ∧ yX12_count.cls ≠ "java/lang/invoke/MethodHandle" ∧ yX12_count.cls ≠ "java/lang/invoke/VarHandle" ∧ (parseMethodDescriptor yX12_count.desc).map (fun d => d.parameters.length) = some 1 := by decide +kernel
theorem hs_L_guest : yL_guest.cls ≠ "java/lang/invoke/MethodHandle" ∧ yL_guest.cls ≠ "java/lang/invoke/VarHandle" ∧ (parseMethodDescriptor yL_guest.desc).map (fun d => d.parameters.length) = some 4 := by decide +kernel
abbrev YK (p : Program) (l : Launch) (e : Env) (s : State) (m : MethodId) (below : List Frame) (meth : Method) (c : Code) (b L : Nat) (xs : Nat → Int32) (G : GX) (A : Nat → Prop) (cL : ClassId) (ao : Nat) (i : Int32) (Inv : St → St → Prop) (Q : State → Prop) (cells slots : Nat) : Prop :=
  ∀ (z y : St) (f : Nat → Int64) (H : Heap) (locs : List Loc) (ls : Array Slot), Inv z y → va_P G.1 classes (wX G z) H → va_P G.1 classes (wM G y) H → va_P G.1 classes (wO ao cL f) H → va_D A (wX G z ++ (wM G y ++ wO ao cL f)) → va_S A s.heap H locs → lv_has ls 7 [(4, .int i), (3, .ref ao), (2, .ref (ad G 100)), (1, .ref (ad G 0)), (0, .ref b)] → W p l e room_1 s m #[Value.ref b] below meth c H locs (cells + 1) (slots + 241) Q (F0 m 1661 ls [])
section LAWC
variable {p : Program} {l : Launch} {e : Env} {s : State} {m : MethodId} {below : List Frame} {meth : Method} {c : Code} {b L : Nat} {xs : Nat → Int32} {G : GX} {A : Nat → Prop} {cL : ClassId} {ao : Nat} {i : Int32} {Inv : St → St → Prop} {Q : State → Prop}
set_option maxHeartbeats 4000000 in
set_option maxRecDepth 100000 in
theorem lc_feed (S : CallFix p m c cL_law 7 s #[Value.ref b] GW RL) (hE : env G A s s.heap) (hA : ∀ q, s.heap.size ≤ q → A q) (hX : va_X b L xs s s.heap) (hbl : b < s.heap.size) (hbA : ¬ A b) {z y : St} {f : Nat → Int64} {H : Heap} {locs : List Loc} {ls : Array Slot} {cells slots : Nat} (hPX : va_P G.1 classes (wX G z) H) (hPM : va_P G.1 classes (wM G y) H) (hPO : va_P G.1 classes (wO ao cL f) H) (hD : va_D A (wX G z ++ (wM G y ++ wO ao cL f))) (hS : va_S A s.heap H locs) (hl : lv_has ls 7 [(4, .int i), (3, .ref ao), (2, .ref (ad G 100)), (1, .ref (ad G 0)), (0, .ref b)]) (hcs : cells + 1 ≤ 601024 ∧ slots + 241 ≤ 7293034) (h1 : vp_in (i + 1) L) (h2 : vp_in (i + 2) L) (h3 : vp_in (i + 3) L) (h4 : vp_in (i + 4) L) (h5 : vp_in (i + 5) L) (hB : S_B_feed (fun r z1 => S_M_feed (fun r1 y1 => r = r1 ∧ Inv z1 y1) ((xs (i + 1).toNatClampNeg)) ((xs (i + 2).toNatClampNeg)) ((xs (i + 3).toNatClampNeg)) ((xs (i + 4).toNatClampNeg)) ((xs (i + 5).toNatClampNeg)) y) ((xs (i + 1).toNatClampNeg)) ((xs (i + 2).toNatClampNeg)) ((xs (i + 3).toNatClampNeg)) ((xs (i + 4).toNatClampNeg)) ((xs (i + 5).toNatClampNeg)) z) (kk : YK p l e s m below meth c b L xs G A cL ao i Inv Q cells slots) : W p l e room_1 s m #[Value.ref b] below meth c H locs cells slots Q (F0 m 224 ls []) := by
  have hx := S.1
  have hb := S.2.1
  obtain ⟨hcs1, hcs2⟩ := hcs
  refine lv_aload_n hx hb dL_law_224 rfl (lv_at hl 3 rfl) ?_
  refine lv_aload_n hx hb dL_law_225 rfl (lv_at hl 4 rfl) ?_
  refine lv_iload hx hb dL_law_226 (lv_at hl 0 rfl) ?_
  refine lv_iconst (v := 1) hx hb dL_law_228 (by decide) ?_
  refine lv_iadd hx hb dL_law_229 ?_
  refine va_sld hx hb hX hbl hbA hS h1 dL_law_230 ?_
  refine lv_aload_n hx hb dL_law_231 rfl (lv_at hl 4 rfl) ?_
  refine lv_iload hx hb dL_law_232 (lv_at hl 0 rfl) ?_
  refine lv_iconst (v := 2) hx hb dL_law_234 (by decide) ?_
  refine lv_iadd hx hb dL_law_235 ?_
  refine va_sld hx hb hX hbl hbA hS h2 dL_law_236 ?_
  refine lv_aload_n hx hb dL_law_237 rfl (lv_at hl 4 rfl) ?_
  refine lv_iload hx hb dL_law_238 (lv_at hl 0 rfl) ?_
  refine lv_iconst (v := 3) hx hb dL_law_240 (by decide) ?_
  refine lv_iadd hx hb dL_law_241 ?_
  refine va_sld hx hb hX hbl hbA hS h3 dL_law_242 ?_
  refine lv_aload_n hx hb dL_law_243 rfl (lv_at hl 4 rfl) ?_
  refine lv_iload hx hb dL_law_244 (lv_at hl 0 rfl) ?_
  refine lv_iconst (v := 4) hx hb dL_law_246 (by decide) ?_
  refine lv_iadd hx hb dL_law_247 ?_
  refine va_sld hx hb hX hbl hbA hS h4 dL_law_248 ?_
  refine lv_aload_n hx hb dL_law_249 rfl (lv_at hl 4 rfl) ?_
  refine lv_iload hx hb dL_law_250 (lv_at hl 0 rfl) ?_
  refine lv_iconst (v := 5) hx hb dL_law_252 (by decide) ?_
  refine lv_iadd hx hb dL_law_253 ?_
  refine va_sld hx hb hX hbl hbA hS h5 dL_law_254 ?_
  refine yVi [.int (xs (i + 1).toNatClampNeg), .int (xs (i + 2).toNatClampNeg), .int (xs (i + 3).toNatClampNeg), .int (xs (i + 4).toNatClampNeg), .int (xs (i + 5).toNatClampNeg)] S hE hA hPX (hPM.app hPO) hD hS (c_B_feed l G z H.size ((xs (i + 1).toNatClampNeg)) ((xs (i + 2).toNatClampNeg)) ((xs (i + 3).toNatClampNeg)) ((xs (i + 4).toNatClampNeg)) ((xs (i + 5).toNatClampNeg)) _) hB (gw_c lk_L_19 (gw_c wi_X11_feed (gw_c we_X11_X11_feed_X11_feed (gw_c wn_X11 (gw_c wc_X11_feed (fun _ h9 => h9)))))) hq_X11_feed rfl rfl (Nat.le_of_ble_eq_true rfl) (Nat.le_of_ble_eq_true rfl) ⟨by show cells + 0 ≤ 601024; omega, by show slots + 0 ≤ 7293034; omega⟩ (va_recv hE.1 hPX (ci := 10) (q0 := 0) rfl rfl) rfl hl.1 rfl (Nat.le_of_ble_eq_true rfl) dL_law_255 (fun r255 z H locs hB hPX hPr hD hS => ?_)
  obtain ⟨hPM, hPO⟩ := ySp hPr
  refine lv_aload_n hx hb dL_law_258 rfl (lv_at hl 2 rfl) ?_
  refine lv_aload_n hx hb dL_law_259 rfl (lv_at hl 4 rfl) ?_
  refine lv_iload hx hb dL_law_260 (lv_at hl 0 rfl) ?_
  refine lv_iconst (v := 1) hx hb dL_law_262 (by decide) ?_
  refine lv_iadd hx hb dL_law_263 ?_
  refine va_sld hx hb hX hbl hbA hS h1 dL_law_264 ?_
  refine lv_aload_n hx hb dL_law_265 rfl (lv_at hl 4 rfl) ?_
  refine lv_iload hx hb dL_law_266 (lv_at hl 0 rfl) ?_
  refine lv_iconst (v := 2) hx hb dL_law_268 (by decide) ?_
  refine lv_iadd hx hb dL_law_269 ?_
  refine va_sld hx hb hX hbl hbA hS h2 dL_law_270 ?_
  refine lv_aload_n hx hb dL_law_271 rfl (lv_at hl 4 rfl) ?_
  refine lv_iload hx hb dL_law_272 (lv_at hl 0 rfl) ?_
  refine lv_iconst (v := 3) hx hb dL_law_274 (by decide) ?_
  refine lv_iadd hx hb dL_law_275 ?_
  refine va_sld hx hb hX hbl hbA hS h3 dL_law_276 ?_
  refine lv_aload_n hx hb dL_law_277 rfl (lv_at hl 4 rfl) ?_
  refine lv_iload hx hb dL_law_278 (lv_at hl 0 rfl) ?_
  refine lv_iconst (v := 4) hx hb dL_law_280 (by decide) ?_
  refine lv_iadd hx hb dL_law_281 ?_
  refine va_sld hx hb hX hbl hbA hS h4 dL_law_282 ?_
  refine lv_aload_n hx hb dL_law_283 rfl (lv_at hl 4 rfl) ?_
  refine lv_iload hx hb dL_law_284 (lv_at hl 0 rfl) ?_
  refine lv_iconst (v := 5) hx hb dL_law_286 (by decide) ?_
  refine lv_iadd hx hb dL_law_287 ?_
  refine va_sld hx hb hX hbl hbA hS h5 dL_law_288 ?_
  refine yVi [.int (xs (i + 1).toNatClampNeg), .int (xs (i + 2).toNatClampNeg), .int (xs (i + 3).toNatClampNeg), .int (xs (i + 4).toNatClampNeg), .int (xs (i + 5).toNatClampNeg)] S hE hA hPM (hPX.app hPO) (yD3 hD) hS (c_M_feed l G y H.size ((xs (i + 1).toNatClampNeg)) ((xs (i + 2).toNatClampNeg)) ((xs (i + 3).toNatClampNeg)) ((xs (i + 4).toNatClampNeg)) ((xs (i + 5).toNatClampNeg)) _) hB (gw_c lk_L_23 (gw_c wi_X12_feed (gw_c we_X12_X12_feed_X12_feed (gw_c wn_X12 (gw_c wc_X12_feed (fun _ h9 => h9)))))) hq_X12_feed rfl rfl (Nat.le_of_ble_eq_true rfl) (Nat.le_of_ble_eq_true rfl) ⟨by show cells + 0 + 0 ≤ 601024; omega, by show slots + 0 + 0 ≤ 7293034; omega⟩ (va_recv hE.1 hPM (ci := 11) (q0 := 0) rfl rfl) rfl hl.1 rfl (Nat.le_of_ble_eq_true rfl) dL_law_289 (fun r289 y H locs hB hPM hPr hD0 hS => ?_)
  obtain ⟨hPX, hPO⟩ := ySp hPr
  have hD := yD3 hD0
  refine lv_icmp_eq (tgt := 1661) hx hb dL_law_292 (by decide) (fun _ => ?_) (fun c9 => absurd hB.1 c9)
  refine W.widen (k := cells + 1) (n := slots + 241) (by omega) (by omega) ?_
  exact kk z y f H locs ls hB.2 hPX hPM hPO hD hS hl
set_option maxHeartbeats 4000000 in
set_option maxRecDepth 100000 in
theorem lc_end (S : CallFix p m c cL_law 7 s #[Value.ref b] GW RL) (hE : env G A s s.heap) (hA : ∀ q, s.heap.size ≤ q → A q) (hX : va_X b L xs s s.heap) (hbl : b < s.heap.size) (hbA : ¬ A b) {z y : St} {f : Nat → Int64} {H : Heap} {locs : List Loc} {ls : Array Slot} {cells slots : Nat} (hPX : va_P G.1 classes (wX G z) H) (hPM : va_P G.1 classes (wM G y) H) (hPO : va_P G.1 classes (wO ao cL f) H) (hD : va_D A (wX G z ++ (wM G y ++ wO ao cL f))) (hS : va_S A s.heap H locs) (hl : lv_has ls 7 [(4, .int i), (3, .ref ao), (2, .ref (ad G 100)), (1, .ref (ad G 0)), (0, .ref b)]) (hcs : cells + 1 ≤ 601024 ∧ slots + 241 ≤ 7293034) (h1 : vp_in (i + 1) L) (h2 : vp_in (i + 2) L) (h3 : vp_in (i + 3) L) (h4 : vp_in (i + 4) L) (h5 : vp_in (i + 5) L) (hB : S_B_end (fun r z1 => S_M_end (fun r1 y1 => r = r1 ∧ Inv z1 y1) ((xs (i + 1).toNatClampNeg)) y) ((xs (i + 1).toNatClampNeg)) z) (kk : YK p l e s m below meth c b L xs G A cL ao i Inv Q cells slots) : W p l e room_1 s m #[Value.ref b] below meth c H locs cells slots Q (F0 m 297 ls []) := by
  have hx := S.1
  have hb := S.2.1
  obtain ⟨hcs1, hcs2⟩ := hcs
  refine lv_aload_n hx hb dL_law_297 rfl (lv_at hl 3 rfl) ?_
  refine lv_aload_n hx hb dL_law_298 rfl (lv_at hl 4 rfl) ?_
  refine lv_iload hx hb dL_law_299 (lv_at hl 0 rfl) ?_
  refine lv_iconst (v := 1) hx hb dL_law_301 (by decide) ?_
  refine lv_iadd hx hb dL_law_302 ?_
  refine va_sld hx hb hX hbl hbA hS h1 dL_law_303 ?_
  refine yVi [.int (xs (i + 1).toNatClampNeg)] S hE hA hPX (hPM.app hPO) hD hS (c_B_end l G z H.size ((xs (i + 1).toNatClampNeg)) _) hB (gw_c lk_L_24 (gw_c wi_X11_end (gw_c we_X11_X11_end_X11_end (gw_c wn_X11 (gw_c wc_X11_end (fun _ h9 => h9)))))) hq_X11_end rfl rfl (Nat.le_of_ble_eq_true rfl) (Nat.le_of_ble_eq_true rfl) ⟨by show cells + 0 ≤ 601024; omega, by show slots + 0 ≤ 7293034; omega⟩ (va_recv hE.1 hPX (ci := 10) (q0 := 0) rfl rfl) rfl hl.1 rfl (Nat.le_of_ble_eq_true rfl) dL_law_304 (fun r304 z H locs hB hPX hPr hD hS => ?_)
  obtain ⟨hPM, hPO⟩ := ySp hPr
  refine lv_aload_n hx hb dL_law_307 rfl (lv_at hl 2 rfl) ?_
  refine lv_aload_n hx hb dL_law_308 rfl (lv_at hl 4 rfl) ?_
  refine lv_iload hx hb dL_law_309 (lv_at hl 0 rfl) ?_
  refine lv_iconst (v := 1) hx hb dL_law_311 (by decide) ?_
  refine lv_iadd hx hb dL_law_312 ?_
  refine va_sld hx hb hX hbl hbA hS h1 dL_law_313 ?_
  refine yVi [.int (xs (i + 1).toNatClampNeg)] S hE hA hPM (hPX.app hPO) (yD3 hD) hS (c_M_end l G y H.size ((xs (i + 1).toNatClampNeg)) _) hB (gw_c lk_L_28 (gw_c wi_X12_end (gw_c we_X12_X12_end_X12_end (gw_c wn_X12 (gw_c wc_X12_end (fun _ h9 => h9)))))) hq_X12_end rfl rfl (Nat.le_of_ble_eq_true rfl) (Nat.le_of_ble_eq_true rfl) ⟨by show cells + 0 + 0 ≤ 601024; omega, by show slots + 0 + 0 ≤ 7293034; omega⟩ (va_recv hE.1 hPM (ci := 11) (q0 := 0) rfl rfl) rfl hl.1 rfl (Nat.le_of_ble_eq_true rfl) dL_law_314 (fun r314 y H locs hB hPM hPr hD0 hS => ?_)
  obtain ⟨hPX, hPO⟩ := ySp hPr
  have hD := yD3 hD0
  refine lv_icmp_eq (tgt := 1661) hx hb dL_law_317 (by decide) (fun _ => ?_) (fun c9 => absurd hB.1 c9)
  refine W.widen (k := cells + 1) (n := slots + 241) (by omega) (by omega) ?_
  exact kk z y f H locs ls hB.2 hPX hPM hPO hD hS hl
set_option maxHeartbeats 4000000 in
set_option maxRecDepth 100000 in
theorem lc_fault_v0 (S : CallFix p m c cL_law 7 s #[Value.ref b] GW RL) (hE : env G A s s.heap) (hA : ∀ q, s.heap.size ≤ q → A q) (hX : va_X b L xs s s.heap) (hbl : b < s.heap.size) (hbA : ¬ A b) {z y : St} {f : Nat → Int64} {H : Heap} {locs : List Loc} {ls : Array Slot} {cells slots : Nat} (hPX : va_P G.1 classes (wX G z) H) (hPM : va_P G.1 classes (wM G y) H) (hPO : va_P G.1 classes (wO ao cL f) H) (hD : va_D A (wX G z ++ (wM G y ++ wO ao cL f))) (hS : va_S A s.heap H locs) (hl : lv_has ls 7 [(4, .int i), (3, .ref ao), (2, .ref (ad G 100)), (1, .ref (ad G 0)), (0, .ref b)]) (hcs : cells + 1 ≤ 601024 ∧ slots + 241 ≤ 7293034) (h1 : vp_in (i + 1) L) (h2 : vp_in (i + 2) L) (h3 : vp_in (i + 3) L) (h4 : vp_in (i + 4) L) (h5 : vp_in (i + 5) L) (hB : S_B_fault_v0 (fun r z1 => S_M_fault (fun r1 y1 => r = r1 ∧ Inv z1 y1) ((xs (i + 1).toNatClampNeg)) y) ((xs (i + 1).toNatClampNeg)) z) (kk : YK p l e s m below meth c b L xs G A cL ao i Inv Q cells slots) : W p l e room_1 s m #[Value.ref b] below meth c H locs cells slots Q (F0 m 322 ls []) := by
  have hx := S.1
  have hb := S.2.1
  obtain ⟨hcs1, hcs2⟩ := hcs
  refine lv_aload_n hx hb dL_law_322 rfl (lv_at hl 3 rfl) ?_
  refine lv_aload_n hx hb dL_law_323 rfl (lv_at hl 4 rfl) ?_
  refine lv_iload hx hb dL_law_324 (lv_at hl 0 rfl) ?_
  refine lv_iconst (v := 1) hx hb dL_law_326 (by decide) ?_
  refine lv_iadd hx hb dL_law_327 ?_
  refine va_sld hx hb hX hbl hbA hS h1 dL_law_328 ?_
  refine yVi [.int (xs (i + 1).toNatClampNeg)] S hE hA hPX (hPM.app hPO) hD hS (c_B_fault_v0 l G z H.size ((xs (i + 1).toNatClampNeg)) _) hB (gw_c lk_L_29 (gw_c wi_X11_fault (gw_c we_X11_X11_fault_X11_fault (gw_c wn_X11 (gw_c wc_X11_fault (fun _ h9 => h9)))))) hq_X11_fault rfl rfl (Nat.le_of_ble_eq_true rfl) (Nat.le_of_ble_eq_true rfl) ⟨by show cells + 0 ≤ 601024; omega, by show slots + 0 ≤ 7293034; omega⟩ (va_recv hE.1 hPX (ci := 10) (q0 := 0) rfl rfl) rfl hl.1 rfl (Nat.le_of_ble_eq_true rfl) dL_law_329 (fun r329 z H locs hB hPX hPr hD hS => ?_)
  obtain ⟨hPM, hPO⟩ := ySp hPr
  refine lv_aload_n hx hb dL_law_332 rfl (lv_at hl 2 rfl) ?_
  refine lv_aload_n hx hb dL_law_333 rfl (lv_at hl 4 rfl) ?_
  refine lv_iload hx hb dL_law_334 (lv_at hl 0 rfl) ?_
  refine lv_iconst (v := 1) hx hb dL_law_336 (by decide) ?_
  refine lv_iadd hx hb dL_law_337 ?_
  refine va_sld hx hb hX hbl hbA hS h1 dL_law_338 ?_
  refine yVi [.int (xs (i + 1).toNatClampNeg)] S hE hA hPM (hPX.app hPO) (yD3 hD) hS (c_M_fault l G y H.size ((xs (i + 1).toNatClampNeg)) _) hB (gw_c lk_L_33 (gw_c wi_X12_fault (gw_c we_X12_X12_fault_X12_fault (gw_c wn_X12 (gw_c wc_X12_fault (fun _ h9 => h9)))))) hq_X12_fault rfl rfl (Nat.le_of_ble_eq_true rfl) (Nat.le_of_ble_eq_true rfl) ⟨by show cells + 0 + 0 ≤ 601024; omega, by show slots + 0 + 0 ≤ 7293034; omega⟩ (va_recv hE.1 hPM (ci := 11) (q0 := 0) rfl rfl) rfl hl.1 rfl (Nat.le_of_ble_eq_true rfl) dL_law_339 (fun r339 y H locs hB hPM hPr hD0 hS => ?_)
  obtain ⟨hPX, hPO⟩ := ySp hPr
  have hD := yD3 hD0
  refine lv_icmp_eq (tgt := 1661) hx hb dL_law_342 (by decide) (fun _ => ?_) (fun c9 => absurd hB.1 c9)
  refine W.widen (k := cells + 1) (n := slots + 241) (by omega) (by omega) ?_
  exact kk z y f H locs ls hB.2 hPX hPM hPO hD hS hl
set_option maxHeartbeats 4000000 in
set_option maxRecDepth 100000 in
theorem lc_fault_v1 (S : CallFix p m c cL_law 7 s #[Value.ref b] GW RL) (hE : env G A s s.heap) (hA : ∀ q, s.heap.size ≤ q → A q) (hX : va_X b L xs s s.heap) (hbl : b < s.heap.size) (hbA : ¬ A b) {z y : St} {f : Nat → Int64} {H : Heap} {locs : List Loc} {ls : Array Slot} {cells slots : Nat} (hPX : va_P G.1 classes (wX G z) H) (hPM : va_P G.1 classes (wM G y) H) (hPO : va_P G.1 classes (wO ao cL f) H) (hD : va_D A (wX G z ++ (wM G y ++ wO ao cL f))) (hS : va_S A s.heap H locs) (hl : lv_has ls 7 [(4, .int i), (3, .ref ao), (2, .ref (ad G 100)), (1, .ref (ad G 0)), (0, .ref b)]) (hcs : cells + 1 ≤ 601024 ∧ slots + 241 ≤ 7293034) (h1 : vp_in (i + 1) L) (h2 : vp_in (i + 2) L) (h3 : vp_in (i + 3) L) (h4 : vp_in (i + 4) L) (h5 : vp_in (i + 5) L) (hB : S_B_fault_v1 (fun r z1 => S_M_fault (fun r1 y1 => r = r1 ∧ Inv z1 y1) ((xs (i + 1).toNatClampNeg)) y) ((xs (i + 1).toNatClampNeg)) z) (kk : YK p l e s m below meth c b L xs G A cL ao i Inv Q cells slots) : W p l e room_1 s m #[Value.ref b] below meth c H locs cells slots Q (F0 m 322 ls []) := by
  have hx := S.1
  have hb := S.2.1
  obtain ⟨hcs1, hcs2⟩ := hcs
  refine lv_aload_n hx hb dL_law_322 rfl (lv_at hl 3 rfl) ?_
  refine lv_aload_n hx hb dL_law_323 rfl (lv_at hl 4 rfl) ?_
  refine lv_iload hx hb dL_law_324 (lv_at hl 0 rfl) ?_
  refine lv_iconst (v := 1) hx hb dL_law_326 (by decide) ?_
  refine lv_iadd hx hb dL_law_327 ?_
  refine va_sld hx hb hX hbl hbA hS h1 dL_law_328 ?_
  refine yVi [.int (xs (i + 1).toNatClampNeg)] S hE hA hPX (hPM.app hPO) hD hS (c_B_fault_v1 l G z H.size ((xs (i + 1).toNatClampNeg)) _) hB (gw_c lk_L_29 (gw_c wi_X11_fault (gw_c we_X11_X11_fault_X11_fault (gw_c wn_X11 (gw_c wc_X11_fault (fun _ h9 => h9)))))) hq_X11_fault rfl rfl (Nat.le_of_ble_eq_true rfl) (Nat.le_of_ble_eq_true rfl) ⟨by show cells + 0 ≤ 601024; omega, by show slots + 0 ≤ 7293034; omega⟩ (va_recv hE.1 hPX (ci := 10) (q0 := 0) rfl rfl) rfl hl.1 rfl (Nat.le_of_ble_eq_true rfl) dL_law_329 (fun r329 z H locs hB hPX hPr hD hS => ?_)
  obtain ⟨hPM, hPO⟩ := ySp hPr
  refine lv_aload_n hx hb dL_law_332 rfl (lv_at hl 2 rfl) ?_
  refine lv_aload_n hx hb dL_law_333 rfl (lv_at hl 4 rfl) ?_
  refine lv_iload hx hb dL_law_334 (lv_at hl 0 rfl) ?_
  refine lv_iconst (v := 1) hx hb dL_law_336 (by decide) ?_
  refine lv_iadd hx hb dL_law_337 ?_
  refine va_sld hx hb hX hbl hbA hS h1 dL_law_338 ?_
  refine yVi [.int (xs (i + 1).toNatClampNeg)] S hE hA hPM (hPX.app hPO) (yD3 hD) hS (c_M_fault l G y H.size ((xs (i + 1).toNatClampNeg)) _) hB (gw_c lk_L_33 (gw_c wi_X12_fault (gw_c we_X12_X12_fault_X12_fault (gw_c wn_X12 (gw_c wc_X12_fault (fun _ h9 => h9)))))) hq_X12_fault rfl rfl (Nat.le_of_ble_eq_true rfl) (Nat.le_of_ble_eq_true rfl) ⟨by show cells + 0 + 0 ≤ 601024; omega, by show slots + 0 + 0 ≤ 7293034; omega⟩ (va_recv hE.1 hPM (ci := 11) (q0 := 0) rfl rfl) rfl hl.1 rfl (Nat.le_of_ble_eq_true rfl) dL_law_339 (fun r339 y H locs hB hPM hPr hD0 hS => ?_)
  obtain ⟨hPX, hPO⟩ := ySp hPr
  have hD := yD3 hD0
  refine lv_icmp_eq (tgt := 1661) hx hb dL_law_342 (by decide) (fun _ => ?_) (fun c9 => absurd hB.1 c9)
  refine W.widen (k := cells + 1) (n := slots + 241) (by omega) (by omega) ?_
  exact kk z y f H locs ls hB.2 hPX hPM hPO hD hS hl
set_option maxHeartbeats 4000000 in
set_option maxRecDepth 100000 in
theorem lc_fault_v2 (S : CallFix p m c cL_law 7 s #[Value.ref b] GW RL) (hE : env G A s s.heap) (hA : ∀ q, s.heap.size ≤ q → A q) (hX : va_X b L xs s s.heap) (hbl : b < s.heap.size) (hbA : ¬ A b) {z y : St} {f : Nat → Int64} {H : Heap} {locs : List Loc} {ls : Array Slot} {cells slots : Nat} (hPX : va_P G.1 classes (wX G z) H) (hPM : va_P G.1 classes (wM G y) H) (hPO : va_P G.1 classes (wO ao cL f) H) (hD : va_D A (wX G z ++ (wM G y ++ wO ao cL f))) (hS : va_S A s.heap H locs) (hl : lv_has ls 7 [(4, .int i), (3, .ref ao), (2, .ref (ad G 100)), (1, .ref (ad G 0)), (0, .ref b)]) (hcs : cells + 1 ≤ 601024 ∧ slots + 241 ≤ 7293034) (h1 : vp_in (i + 1) L) (h2 : vp_in (i + 2) L) (h3 : vp_in (i + 3) L) (h4 : vp_in (i + 4) L) (h5 : vp_in (i + 5) L) (hB : S_B_fault_v2 (fun r z1 => S_M_fault (fun r1 y1 => r = r1 ∧ Inv z1 y1) ((xs (i + 1).toNatClampNeg)) y) ((xs (i + 1).toNatClampNeg)) z) (kk : YK p l e s m below meth c b L xs G A cL ao i Inv Q cells slots) : W p l e room_1 s m #[Value.ref b] below meth c H locs cells slots Q (F0 m 322 ls []) := by
  have hx := S.1
  have hb := S.2.1
  obtain ⟨hcs1, hcs2⟩ := hcs
  refine lv_aload_n hx hb dL_law_322 rfl (lv_at hl 3 rfl) ?_
  refine lv_aload_n hx hb dL_law_323 rfl (lv_at hl 4 rfl) ?_
  refine lv_iload hx hb dL_law_324 (lv_at hl 0 rfl) ?_
  refine lv_iconst (v := 1) hx hb dL_law_326 (by decide) ?_
  refine lv_iadd hx hb dL_law_327 ?_
  refine va_sld hx hb hX hbl hbA hS h1 dL_law_328 ?_
  refine yVi [.int (xs (i + 1).toNatClampNeg)] S hE hA hPX (hPM.app hPO) hD hS (c_B_fault_v2 l G z H.size ((xs (i + 1).toNatClampNeg)) _) hB (gw_c lk_L_29 (gw_c wi_X11_fault (gw_c we_X11_X11_fault_X11_fault (gw_c wn_X11 (gw_c wc_X11_fault (fun _ h9 => h9)))))) hq_X11_fault rfl rfl (Nat.le_of_ble_eq_true rfl) (Nat.le_of_ble_eq_true rfl) ⟨by show cells + 0 ≤ 601024; omega, by show slots + 0 ≤ 7293034; omega⟩ (va_recv hE.1 hPX (ci := 10) (q0 := 0) rfl rfl) rfl hl.1 rfl (Nat.le_of_ble_eq_true rfl) dL_law_329 (fun r329 z H locs hB hPX hPr hD hS => ?_)
  obtain ⟨hPM, hPO⟩ := ySp hPr
  refine lv_aload_n hx hb dL_law_332 rfl (lv_at hl 2 rfl) ?_
  refine lv_aload_n hx hb dL_law_333 rfl (lv_at hl 4 rfl) ?_
  refine lv_iload hx hb dL_law_334 (lv_at hl 0 rfl) ?_
  refine lv_iconst (v := 1) hx hb dL_law_336 (by decide) ?_
  refine lv_iadd hx hb dL_law_337 ?_
  refine va_sld hx hb hX hbl hbA hS h1 dL_law_338 ?_
  refine yVi [.int (xs (i + 1).toNatClampNeg)] S hE hA hPM (hPX.app hPO) (yD3 hD) hS (c_M_fault l G y H.size ((xs (i + 1).toNatClampNeg)) _) hB (gw_c lk_L_33 (gw_c wi_X12_fault (gw_c we_X12_X12_fault_X12_fault (gw_c wn_X12 (gw_c wc_X12_fault (fun _ h9 => h9)))))) hq_X12_fault rfl rfl (Nat.le_of_ble_eq_true rfl) (Nat.le_of_ble_eq_true rfl) ⟨by show cells + 0 + 0 ≤ 601024; omega, by show slots + 0 + 0 ≤ 7293034; omega⟩ (va_recv hE.1 hPM (ci := 11) (q0 := 0) rfl rfl) rfl hl.1 rfl (Nat.le_of_ble_eq_true rfl) dL_law_339 (fun r339 y H locs hB hPM hPr hD0 hS => ?_)
  obtain ⟨hPX, hPO⟩ := ySp hPr
  have hD := yD3 hD0
  refine lv_icmp_eq (tgt := 1661) hx hb dL_law_342 (by decide) (fun _ => ?_) (fun c9 => absurd hB.1 c9)
  refine W.widen (k := cells + 1) (n := slots + 241) (by omega) (by omega) ?_
  exact kk z y f H locs ls hB.2 hPX hPM hPO hD hS hl
set_option maxHeartbeats 4000000 in
set_option maxRecDepth 100000 in
theorem lc_fault_vn (S : CallFix p m c cL_law 7 s #[Value.ref b] GW RL) (hE : env G A s s.heap) (hA : ∀ q, s.heap.size ≤ q → A q) (hX : va_X b L xs s s.heap) (hbl : b < s.heap.size) (hbA : ¬ A b) {z y : St} {f : Nat → Int64} {H : Heap} {locs : List Loc} {ls : Array Slot} {cells slots : Nat} (hPX : va_P G.1 classes (wX G z) H) (hPM : va_P G.1 classes (wM G y) H) (hPO : va_P G.1 classes (wO ao cL f) H) (hD : va_D A (wX G z ++ (wM G y ++ wO ao cL f))) (hS : va_S A s.heap H locs) (hl : lv_has ls 7 [(4, .int i), (3, .ref ao), (2, .ref (ad G 100)), (1, .ref (ad G 0)), (0, .ref b)]) (hcs : cells + 1 ≤ 601024 ∧ slots + 241 ≤ 7293034) (h1 : vp_in (i + 1) L) (h2 : vp_in (i + 2) L) (h3 : vp_in (i + 3) L) (h4 : vp_in (i + 4) L) (h5 : vp_in (i + 5) L) (hB : S_B_fault_vn (fun r z1 => S_M_fault (fun r1 y1 => r = r1 ∧ Inv z1 y1) ((xs (i + 1).toNatClampNeg)) y) ((xs (i + 1).toNatClampNeg)) z) (kk : YK p l e s m below meth c b L xs G A cL ao i Inv Q cells slots) : W p l e room_1 s m #[Value.ref b] below meth c H locs cells slots Q (F0 m 322 ls []) := by
  have hx := S.1
  have hb := S.2.1
  obtain ⟨hcs1, hcs2⟩ := hcs
  refine lv_aload_n hx hb dL_law_322 rfl (lv_at hl 3 rfl) ?_
  refine lv_aload_n hx hb dL_law_323 rfl (lv_at hl 4 rfl) ?_
  refine lv_iload hx hb dL_law_324 (lv_at hl 0 rfl) ?_
  refine lv_iconst (v := 1) hx hb dL_law_326 (by decide) ?_
  refine lv_iadd hx hb dL_law_327 ?_
  refine va_sld hx hb hX hbl hbA hS h1 dL_law_328 ?_
  refine yVi [.int (xs (i + 1).toNatClampNeg)] S hE hA hPX (hPM.app hPO) hD hS (c_B_fault_vn l G z H.size ((xs (i + 1).toNatClampNeg)) _) hB (gw_c lk_L_29 (gw_c wi_X11_fault (gw_c we_X11_X11_fault_X11_fault (gw_c wn_X11 (gw_c wc_X11_fault (fun _ h9 => h9)))))) hq_X11_fault rfl rfl (Nat.le_of_ble_eq_true rfl) (Nat.le_of_ble_eq_true rfl) ⟨by show cells + 0 ≤ 601024; omega, by show slots + 0 ≤ 7293034; omega⟩ (va_recv hE.1 hPX (ci := 10) (q0 := 0) rfl rfl) rfl hl.1 rfl (Nat.le_of_ble_eq_true rfl) dL_law_329 (fun r329 z H locs hB hPX hPr hD hS => ?_)
  obtain ⟨hPM, hPO⟩ := ySp hPr
  refine lv_aload_n hx hb dL_law_332 rfl (lv_at hl 2 rfl) ?_
  refine lv_aload_n hx hb dL_law_333 rfl (lv_at hl 4 rfl) ?_
  refine lv_iload hx hb dL_law_334 (lv_at hl 0 rfl) ?_
  refine lv_iconst (v := 1) hx hb dL_law_336 (by decide) ?_
  refine lv_iadd hx hb dL_law_337 ?_
  refine va_sld hx hb hX hbl hbA hS h1 dL_law_338 ?_
  refine yVi [.int (xs (i + 1).toNatClampNeg)] S hE hA hPM (hPX.app hPO) (yD3 hD) hS (c_M_fault l G y H.size ((xs (i + 1).toNatClampNeg)) _) hB (gw_c lk_L_33 (gw_c wi_X12_fault (gw_c we_X12_X12_fault_X12_fault (gw_c wn_X12 (gw_c wc_X12_fault (fun _ h9 => h9)))))) hq_X12_fault rfl rfl (Nat.le_of_ble_eq_true rfl) (Nat.le_of_ble_eq_true rfl) ⟨by show cells + 0 + 0 ≤ 601024; omega, by show slots + 0 + 0 ≤ 7293034; omega⟩ (va_recv hE.1 hPM (ci := 11) (q0 := 0) rfl rfl) rfl hl.1 rfl (Nat.le_of_ble_eq_true rfl) dL_law_339 (fun r339 y H locs hB hPM hPr hD0 hS => ?_)
  obtain ⟨hPX, hPO⟩ := ySp hPr
  have hD := yD3 hD0
  refine lv_icmp_eq (tgt := 1661) hx hb dL_law_342 (by decide) (fun _ => ?_) (fun c9 => absurd hB.1 c9)
  refine W.widen (k := cells + 1) (n := slots + 241) (by omega) (by omega) ?_
  exact kk z y f H locs ls hB.2 hPX hPM hPO hD hS hl
set_option maxHeartbeats 4000000 in
set_option maxRecDepth 100000 in
theorem lc_text_v0 (S : CallFix p m c cL_law 7 s #[Value.ref b] GW RL) (hE : env G A s s.heap) (hA : ∀ q, s.heap.size ≤ q → A q) (hX : va_X b L xs s s.heap) (hbl : b < s.heap.size) (hbA : ¬ A b) {z y : St} {f : Nat → Int64} {H : Heap} {locs : List Loc} {ls : Array Slot} {cells slots : Nat} (hPX : va_P G.1 classes (wX G z) H) (hPM : va_P G.1 classes (wM G y) H) (hPO : va_P G.1 classes (wO ao cL f) H) (hD : va_D A (wX G z ++ (wM G y ++ wO ao cL f))) (hS : va_S A s.heap H locs) (hl : lv_has ls 7 [(4, .int i), (3, .ref ao), (2, .ref (ad G 100)), (1, .ref (ad G 0)), (0, .ref b)]) (hcs : cells + 1 ≤ 601024 ∧ slots + 241 ≤ 7293034) (h1 : vp_in (i + 1) L) (h2 : vp_in (i + 2) L) (h3 : vp_in (i + 3) L) (h4 : vp_in (i + 4) L) (h5 : vp_in (i + 5) L) (hB : S_B_text_v0 (fun r z1 => S_M_text (fun r1 y1 => r = r1 ∧ Inv z1 y1) ((xs (i + 1).toNatClampNeg)) y) ((xs (i + 1).toNatClampNeg)) z) (kk : YK p l e s m below meth c b L xs G A cL ao i Inv Q cells slots) : W p l e room_1 s m #[Value.ref b] below meth c H locs cells slots Q (F0 m 347 ls []) := by
  have hx := S.1
  have hb := S.2.1
  obtain ⟨hcs1, hcs2⟩ := hcs
  refine lv_aload_n hx hb dL_law_347 rfl (lv_at hl 3 rfl) ?_
  refine lv_aload_n hx hb dL_law_348 rfl (lv_at hl 4 rfl) ?_
  refine lv_iload hx hb dL_law_349 (lv_at hl 0 rfl) ?_
  refine lv_iconst (v := 1) hx hb dL_law_351 (by decide) ?_
  refine lv_iadd hx hb dL_law_352 ?_
  refine va_sld hx hb hX hbl hbA hS h1 dL_law_353 ?_
  refine yVi [.int (xs (i + 1).toNatClampNeg)] S hE hA hPX (hPM.app hPO) hD hS (c_B_text_v0 l G z H.size ((xs (i + 1).toNatClampNeg)) _) hB (gw_c lk_L_34 (gw_c wi_X11_text (gw_c we_X11_X11_text_X11_text (gw_c wn_X11 (gw_c wc_X11_text (fun _ h9 => h9)))))) hq_X11_text rfl rfl (Nat.le_of_ble_eq_true rfl) (Nat.le_of_ble_eq_true rfl) ⟨by show cells + 0 ≤ 601024; omega, by show slots + 0 ≤ 7293034; omega⟩ (va_recv hE.1 hPX (ci := 10) (q0 := 0) rfl rfl) rfl hl.1 rfl (Nat.le_of_ble_eq_true rfl) dL_law_354 (fun r354 z H locs hB hPX hPr hD hS => ?_)
  obtain ⟨hPM, hPO⟩ := ySp hPr
  refine lv_aload_n hx hb dL_law_357 rfl (lv_at hl 2 rfl) ?_
  refine lv_aload_n hx hb dL_law_358 rfl (lv_at hl 4 rfl) ?_
  refine lv_iload hx hb dL_law_359 (lv_at hl 0 rfl) ?_
  refine lv_iconst (v := 1) hx hb dL_law_361 (by decide) ?_
  refine lv_iadd hx hb dL_law_362 ?_
  refine va_sld hx hb hX hbl hbA hS h1 dL_law_363 ?_
  refine yVi [.int (xs (i + 1).toNatClampNeg)] S hE hA hPM (hPX.app hPO) (yD3 hD) hS (c_M_text l G y H.size ((xs (i + 1).toNatClampNeg)) _) hB (gw_c lk_L_37 (gw_c wi_X12_text (gw_c we_X12_X12_text_X12_text (gw_c wn_X12 (gw_c wc_X12_text (fun _ h9 => h9)))))) hq_X12_text rfl rfl (Nat.le_of_ble_eq_true rfl) (Nat.le_of_ble_eq_true rfl) ⟨by show cells + 0 + 0 ≤ 601024; omega, by show slots + 0 + 0 ≤ 7293034; omega⟩ (va_recv hE.1 hPM (ci := 11) (q0 := 0) rfl rfl) rfl hl.1 rfl (Nat.le_of_ble_eq_true rfl) dL_law_364 (fun r364 y H locs hB hPM hPr hD0 hS => ?_)
  obtain ⟨hPX, hPO⟩ := ySp hPr
  have hD := yD3 hD0
  refine lv_icmp_eq (tgt := 1661) hx hb dL_law_367 (by decide) (fun _ => ?_) (fun c9 => absurd hB.1 c9)
  refine W.widen (k := cells + 1) (n := slots + 241) (by omega) (by omega) ?_
  exact kk z y f H locs ls hB.2 hPX hPM hPO hD hS hl
set_option maxHeartbeats 4000000 in
set_option maxRecDepth 100000 in
theorem lc_text_v1 (S : CallFix p m c cL_law 7 s #[Value.ref b] GW RL) (hE : env G A s s.heap) (hA : ∀ q, s.heap.size ≤ q → A q) (hX : va_X b L xs s s.heap) (hbl : b < s.heap.size) (hbA : ¬ A b) {z y : St} {f : Nat → Int64} {H : Heap} {locs : List Loc} {ls : Array Slot} {cells slots : Nat} (hPX : va_P G.1 classes (wX G z) H) (hPM : va_P G.1 classes (wM G y) H) (hPO : va_P G.1 classes (wO ao cL f) H) (hD : va_D A (wX G z ++ (wM G y ++ wO ao cL f))) (hS : va_S A s.heap H locs) (hl : lv_has ls 7 [(4, .int i), (3, .ref ao), (2, .ref (ad G 100)), (1, .ref (ad G 0)), (0, .ref b)]) (hcs : cells + 1 ≤ 601024 ∧ slots + 241 ≤ 7293034) (h1 : vp_in (i + 1) L) (h2 : vp_in (i + 2) L) (h3 : vp_in (i + 3) L) (h4 : vp_in (i + 4) L) (h5 : vp_in (i + 5) L) (hB : S_B_text_v1 (fun r z1 => S_M_text (fun r1 y1 => r = r1 ∧ Inv z1 y1) ((xs (i + 1).toNatClampNeg)) y) ((xs (i + 1).toNatClampNeg)) z) (kk : YK p l e s m below meth c b L xs G A cL ao i Inv Q cells slots) : W p l e room_1 s m #[Value.ref b] below meth c H locs cells slots Q (F0 m 347 ls []) := by
  have hx := S.1
  have hb := S.2.1
  obtain ⟨hcs1, hcs2⟩ := hcs
  refine lv_aload_n hx hb dL_law_347 rfl (lv_at hl 3 rfl) ?_
  refine lv_aload_n hx hb dL_law_348 rfl (lv_at hl 4 rfl) ?_
  refine lv_iload hx hb dL_law_349 (lv_at hl 0 rfl) ?_
  refine lv_iconst (v := 1) hx hb dL_law_351 (by decide) ?_
  refine lv_iadd hx hb dL_law_352 ?_
  refine va_sld hx hb hX hbl hbA hS h1 dL_law_353 ?_
  refine yVi [.int (xs (i + 1).toNatClampNeg)] S hE hA hPX (hPM.app hPO) hD hS (c_B_text_v1 l G z H.size ((xs (i + 1).toNatClampNeg)) _) hB (gw_c lk_L_34 (gw_c wi_X11_text (gw_c we_X11_X11_text_X11_text (gw_c wn_X11 (gw_c wc_X11_text (fun _ h9 => h9)))))) hq_X11_text rfl rfl (Nat.le_of_ble_eq_true rfl) (Nat.le_of_ble_eq_true rfl) ⟨by show cells + 1 ≤ 601024; omega, by show slots + 241 ≤ 7293034; omega⟩ (va_recv hE.1 hPX (ci := 10) (q0 := 0) rfl rfl) rfl hl.1 rfl (Nat.le_of_ble_eq_true rfl) dL_law_354 (fun r354 z H locs hB hPX hPr hD hS => ?_)
  obtain ⟨hPM, hPO⟩ := ySp hPr
  refine lv_aload_n hx hb dL_law_357 rfl (lv_at hl 2 rfl) ?_
  refine lv_aload_n hx hb dL_law_358 rfl (lv_at hl 4 rfl) ?_
  refine lv_iload hx hb dL_law_359 (lv_at hl 0 rfl) ?_
  refine lv_iconst (v := 1) hx hb dL_law_361 (by decide) ?_
  refine lv_iadd hx hb dL_law_362 ?_
  refine va_sld hx hb hX hbl hbA hS h1 dL_law_363 ?_
  refine yVi [.int (xs (i + 1).toNatClampNeg)] S hE hA hPM (hPX.app hPO) (yD3 hD) hS (c_M_text l G y H.size ((xs (i + 1).toNatClampNeg)) _) hB (gw_c lk_L_37 (gw_c wi_X12_text (gw_c we_X12_X12_text_X12_text (gw_c wn_X12 (gw_c wc_X12_text (fun _ h9 => h9)))))) hq_X12_text rfl rfl (Nat.le_of_ble_eq_true rfl) (Nat.le_of_ble_eq_true rfl) ⟨by show cells + 1 + 0 ≤ 601024; omega, by show slots + 241 + 0 ≤ 7293034; omega⟩ (va_recv hE.1 hPM (ci := 11) (q0 := 0) rfl rfl) rfl hl.1 rfl (Nat.le_of_ble_eq_true rfl) dL_law_364 (fun r364 y H locs hB hPM hPr hD0 hS => ?_)
  obtain ⟨hPX, hPO⟩ := ySp hPr
  have hD := yD3 hD0
  refine lv_icmp_eq (tgt := 1661) hx hb dL_law_367 (by decide) (fun _ => ?_) (fun c9 => absurd hB.1 c9)
  refine W.widen (k := cells + 1) (n := slots + 241) (by omega) (by omega) ?_
  exact kk z y f H locs ls hB.2 hPX hPM hPO hD hS hl
set_option maxHeartbeats 4000000 in
set_option maxRecDepth 100000 in
theorem lc_text_v2 (S : CallFix p m c cL_law 7 s #[Value.ref b] GW RL) (hE : env G A s s.heap) (hA : ∀ q, s.heap.size ≤ q → A q) (hX : va_X b L xs s s.heap) (hbl : b < s.heap.size) (hbA : ¬ A b) {z y : St} {f : Nat → Int64} {H : Heap} {locs : List Loc} {ls : Array Slot} {cells slots : Nat} (hPX : va_P G.1 classes (wX G z) H) (hPM : va_P G.1 classes (wM G y) H) (hPO : va_P G.1 classes (wO ao cL f) H) (hD : va_D A (wX G z ++ (wM G y ++ wO ao cL f))) (hS : va_S A s.heap H locs) (hl : lv_has ls 7 [(4, .int i), (3, .ref ao), (2, .ref (ad G 100)), (1, .ref (ad G 0)), (0, .ref b)]) (hcs : cells + 1 ≤ 601024 ∧ slots + 241 ≤ 7293034) (h1 : vp_in (i + 1) L) (h2 : vp_in (i + 2) L) (h3 : vp_in (i + 3) L) (h4 : vp_in (i + 4) L) (h5 : vp_in (i + 5) L) (hB : S_B_text_v2 (fun r z1 => S_M_text (fun r1 y1 => r = r1 ∧ Inv z1 y1) ((xs (i + 1).toNatClampNeg)) y) ((xs (i + 1).toNatClampNeg)) z) (kk : YK p l e s m below meth c b L xs G A cL ao i Inv Q cells slots) : W p l e room_1 s m #[Value.ref b] below meth c H locs cells slots Q (F0 m 347 ls []) := by
  have hx := S.1
  have hb := S.2.1
  obtain ⟨hcs1, hcs2⟩ := hcs
  refine lv_aload_n hx hb dL_law_347 rfl (lv_at hl 3 rfl) ?_
  refine lv_aload_n hx hb dL_law_348 rfl (lv_at hl 4 rfl) ?_
  refine lv_iload hx hb dL_law_349 (lv_at hl 0 rfl) ?_
  refine lv_iconst (v := 1) hx hb dL_law_351 (by decide) ?_
  refine lv_iadd hx hb dL_law_352 ?_
  refine va_sld hx hb hX hbl hbA hS h1 dL_law_353 ?_
  refine yVi [.int (xs (i + 1).toNatClampNeg)] S hE hA hPX (hPM.app hPO) hD hS (c_B_text_v2 l G z H.size ((xs (i + 1).toNatClampNeg)) _) hB (gw_c lk_L_34 (gw_c wi_X11_text (gw_c we_X11_X11_text_X11_text (gw_c wn_X11 (gw_c wc_X11_text (fun _ h9 => h9)))))) hq_X11_text rfl rfl (Nat.le_of_ble_eq_true rfl) (Nat.le_of_ble_eq_true rfl) ⟨by show cells + 1 ≤ 601024; omega, by show slots + 16 ≤ 7293034; omega⟩ (va_recv hE.1 hPX (ci := 10) (q0 := 0) rfl rfl) rfl hl.1 rfl (Nat.le_of_ble_eq_true rfl) dL_law_354 (fun r354 z H locs hB hPX hPr hD hS => ?_)
  obtain ⟨hPM, hPO⟩ := ySp hPr
  refine lv_aload_n hx hb dL_law_357 rfl (lv_at hl 2 rfl) ?_
  refine lv_aload_n hx hb dL_law_358 rfl (lv_at hl 4 rfl) ?_
  refine lv_iload hx hb dL_law_359 (lv_at hl 0 rfl) ?_
  refine lv_iconst (v := 1) hx hb dL_law_361 (by decide) ?_
  refine lv_iadd hx hb dL_law_362 ?_
  refine va_sld hx hb hX hbl hbA hS h1 dL_law_363 ?_
  refine yVi [.int (xs (i + 1).toNatClampNeg)] S hE hA hPM (hPX.app hPO) (yD3 hD) hS (c_M_text l G y H.size ((xs (i + 1).toNatClampNeg)) _) hB (gw_c lk_L_37 (gw_c wi_X12_text (gw_c we_X12_X12_text_X12_text (gw_c wn_X12 (gw_c wc_X12_text (fun _ h9 => h9)))))) hq_X12_text rfl rfl (Nat.le_of_ble_eq_true rfl) (Nat.le_of_ble_eq_true rfl) ⟨by show cells + 1 + 0 ≤ 601024; omega, by show slots + 16 + 0 ≤ 7293034; omega⟩ (va_recv hE.1 hPM (ci := 11) (q0 := 0) rfl rfl) rfl hl.1 rfl (Nat.le_of_ble_eq_true rfl) dL_law_364 (fun r364 y H locs hB hPM hPr hD0 hS => ?_)
  obtain ⟨hPX, hPO⟩ := ySp hPr
  have hD := yD3 hD0
  refine lv_icmp_eq (tgt := 1661) hx hb dL_law_367 (by decide) (fun _ => ?_) (fun c9 => absurd hB.1 c9)
  refine W.widen (k := cells + 1) (n := slots + 241) (by omega) (by omega) ?_
  exact kk z y f H locs ls hB.2 hPX hPM hPO hD hS hl
set_option maxHeartbeats 4000000 in
set_option maxRecDepth 100000 in
theorem lc_text_vn (S : CallFix p m c cL_law 7 s #[Value.ref b] GW RL) (hE : env G A s s.heap) (hA : ∀ q, s.heap.size ≤ q → A q) (hX : va_X b L xs s s.heap) (hbl : b < s.heap.size) (hbA : ¬ A b) {z y : St} {f : Nat → Int64} {H : Heap} {locs : List Loc} {ls : Array Slot} {cells slots : Nat} (hPX : va_P G.1 classes (wX G z) H) (hPM : va_P G.1 classes (wM G y) H) (hPO : va_P G.1 classes (wO ao cL f) H) (hD : va_D A (wX G z ++ (wM G y ++ wO ao cL f))) (hS : va_S A s.heap H locs) (hl : lv_has ls 7 [(4, .int i), (3, .ref ao), (2, .ref (ad G 100)), (1, .ref (ad G 0)), (0, .ref b)]) (hcs : cells + 1 ≤ 601024 ∧ slots + 241 ≤ 7293034) (h1 : vp_in (i + 1) L) (h2 : vp_in (i + 2) L) (h3 : vp_in (i + 3) L) (h4 : vp_in (i + 4) L) (h5 : vp_in (i + 5) L) (hB : S_B_text_vn (fun r z1 => S_M_text (fun r1 y1 => r = r1 ∧ Inv z1 y1) ((xs (i + 1).toNatClampNeg)) y) ((xs (i + 1).toNatClampNeg)) z) (kk : YK p l e s m below meth c b L xs G A cL ao i Inv Q cells slots) : W p l e room_1 s m #[Value.ref b] below meth c H locs cells slots Q (F0 m 347 ls []) := by
  have hx := S.1
  have hb := S.2.1
  obtain ⟨hcs1, hcs2⟩ := hcs
  refine lv_aload_n hx hb dL_law_347 rfl (lv_at hl 3 rfl) ?_
  refine lv_aload_n hx hb dL_law_348 rfl (lv_at hl 4 rfl) ?_
  refine lv_iload hx hb dL_law_349 (lv_at hl 0 rfl) ?_
  refine lv_iconst (v := 1) hx hb dL_law_351 (by decide) ?_
  refine lv_iadd hx hb dL_law_352 ?_
  refine va_sld hx hb hX hbl hbA hS h1 dL_law_353 ?_
  refine yVi [.int (xs (i + 1).toNatClampNeg)] S hE hA hPX (hPM.app hPO) hD hS (c_B_text_vn l G z H.size ((xs (i + 1).toNatClampNeg)) _) hB (gw_c lk_L_34 (gw_c wi_X11_text (gw_c we_X11_X11_text_X11_text (gw_c wn_X11 (gw_c wc_X11_text (fun _ h9 => h9)))))) hq_X11_text rfl rfl (Nat.le_of_ble_eq_true rfl) (Nat.le_of_ble_eq_true rfl) ⟨by show cells + 0 ≤ 601024; omega, by show slots + 0 ≤ 7293034; omega⟩ (va_recv hE.1 hPX (ci := 10) (q0 := 0) rfl rfl) rfl hl.1 rfl (Nat.le_of_ble_eq_true rfl) dL_law_354 (fun r354 z H locs hB hPX hPr hD hS => ?_)
  obtain ⟨hPM, hPO⟩ := ySp hPr
  refine lv_aload_n hx hb dL_law_357 rfl (lv_at hl 2 rfl) ?_
  refine lv_aload_n hx hb dL_law_358 rfl (lv_at hl 4 rfl) ?_
  refine lv_iload hx hb dL_law_359 (lv_at hl 0 rfl) ?_
  refine lv_iconst (v := 1) hx hb dL_law_361 (by decide) ?_
  refine lv_iadd hx hb dL_law_362 ?_
  refine va_sld hx hb hX hbl hbA hS h1 dL_law_363 ?_
  refine yVi [.int (xs (i + 1).toNatClampNeg)] S hE hA hPM (hPX.app hPO) (yD3 hD) hS (c_M_text l G y H.size ((xs (i + 1).toNatClampNeg)) _) hB (gw_c lk_L_37 (gw_c wi_X12_text (gw_c we_X12_X12_text_X12_text (gw_c wn_X12 (gw_c wc_X12_text (fun _ h9 => h9)))))) hq_X12_text rfl rfl (Nat.le_of_ble_eq_true rfl) (Nat.le_of_ble_eq_true rfl) ⟨by show cells + 0 + 0 ≤ 601024; omega, by show slots + 0 + 0 ≤ 7293034; omega⟩ (va_recv hE.1 hPM (ci := 11) (q0 := 0) rfl rfl) rfl hl.1 rfl (Nat.le_of_ble_eq_true rfl) dL_law_364 (fun r364 y H locs hB hPM hPr hD0 hS => ?_)
  obtain ⟨hPX, hPO⟩ := ySp hPr
  have hD := yD3 hD0
  refine lv_icmp_eq (tgt := 1661) hx hb dL_law_367 (by decide) (fun _ => ?_) (fun c9 => absurd hB.1 c9)
  refine W.widen (k := cells + 1) (n := slots + 241) (by omega) (by omega) ?_
  exact kk z y f H locs ls hB.2 hPX hPM hPO hD hS hl
set_option maxHeartbeats 4000000 in
set_option maxRecDepth 100000 in
theorem lc_rule (S : CallFix p m c cL_law 7 s #[Value.ref b] GW RL) (hE : env G A s s.heap) (hA : ∀ q, s.heap.size ≤ q → A q) (hX : va_X b L xs s s.heap) (hbl : b < s.heap.size) (hbA : ¬ A b) {z y : St} {f : Nat → Int64} {H : Heap} {locs : List Loc} {ls : Array Slot} {cells slots : Nat} (hPX : va_P G.1 classes (wX G z) H) (hPM : va_P G.1 classes (wM G y) H) (hPO : va_P G.1 classes (wO ao cL f) H) (hD : va_D A (wX G z ++ (wM G y ++ wO ao cL f))) (hS : va_S A s.heap H locs) (hl : lv_has ls 7 [(4, .int i), (3, .ref ao), (2, .ref (ad G 100)), (1, .ref (ad G 0)), (0, .ref b)]) (hcs : cells + 1 ≤ 601024 ∧ slots + 241 ≤ 7293034) (h1 : vp_in (i + 1) L) (h2 : vp_in (i + 2) L) (h3 : vp_in (i + 3) L) (h4 : vp_in (i + 4) L) (h5 : vp_in (i + 5) L) (hB : S_B_rule (fun r z1 => S_M_rule (fun r1 y1 => r = r1 ∧ Inv z1 y1) ((xs (i + 1).toNatClampNeg)) y) ((xs (i + 1).toNatClampNeg)) z) (kk : YK p l e s m below meth c b L xs G A cL ao i Inv Q cells slots) : W p l e room_1 s m #[Value.ref b] below meth c H locs cells slots Q (F0 m 372 ls []) := by
  have hx := S.1
  have hb := S.2.1
  obtain ⟨hcs1, hcs2⟩ := hcs
  refine lv_aload_n hx hb dL_law_372 rfl (lv_at hl 3 rfl) ?_
  refine lv_aload_n hx hb dL_law_373 rfl (lv_at hl 4 rfl) ?_
  refine lv_iload hx hb dL_law_374 (lv_at hl 0 rfl) ?_
  refine lv_iconst (v := 1) hx hb dL_law_376 (by decide) ?_
  refine lv_iadd hx hb dL_law_377 ?_
  refine va_sld hx hb hX hbl hbA hS h1 dL_law_378 ?_
  refine yVi [.int (xs (i + 1).toNatClampNeg)] S hE hA hPX (hPM.app hPO) hD hS (c_B_rule l G z H.size ((xs (i + 1).toNatClampNeg)) _) hB (gw_c lk_L_38 (gw_c wi_X11_rule (gw_c we_X11_X11_rule_X11_rule (gw_c wn_X11 (gw_c wc_X11_rule (fun _ h9 => h9)))))) hq_X11_rule rfl rfl (Nat.le_of_ble_eq_true rfl) (Nat.le_of_ble_eq_true rfl) ⟨by show cells + 0 ≤ 601024; omega, by show slots + 0 ≤ 7293034; omega⟩ (va_recv hE.1 hPX (ci := 10) (q0 := 0) rfl rfl) rfl hl.1 rfl (Nat.le_of_ble_eq_true rfl) dL_law_379 (fun r379 z H locs hB hPX hPr hD hS => ?_)
  obtain ⟨hPM, hPO⟩ := ySp hPr
  refine lv_aload_n hx hb dL_law_382 rfl (lv_at hl 2 rfl) ?_
  refine lv_aload_n hx hb dL_law_383 rfl (lv_at hl 4 rfl) ?_
  refine lv_iload hx hb dL_law_384 (lv_at hl 0 rfl) ?_
  refine lv_iconst (v := 1) hx hb dL_law_386 (by decide) ?_
  refine lv_iadd hx hb dL_law_387 ?_
  refine va_sld hx hb hX hbl hbA hS h1 dL_law_388 ?_
  refine yVi [.int (xs (i + 1).toNatClampNeg)] S hE hA hPM (hPX.app hPO) (yD3 hD) hS (c_M_rule l G y H.size ((xs (i + 1).toNatClampNeg)) _) hB (gw_c lk_L_41 (gw_c wi_X12_rule (gw_c we_X12_X12_rule_X12_rule (gw_c wn_X12 (gw_c wc_X12_rule (fun _ h9 => h9)))))) hq_X12_rule rfl rfl (Nat.le_of_ble_eq_true rfl) (Nat.le_of_ble_eq_true rfl) ⟨by show cells + 0 + 0 ≤ 601024; omega, by show slots + 0 + 0 ≤ 7293034; omega⟩ (va_recv hE.1 hPM (ci := 11) (q0 := 0) rfl rfl) rfl hl.1 rfl (Nat.le_of_ble_eq_true rfl) dL_law_389 (fun r389 y H locs hB hPM hPr hD0 hS => ?_)
  obtain ⟨hPX, hPO⟩ := ySp hPr
  have hD := yD3 hD0
  refine lv_icmp_eq (tgt := 1661) hx hb dL_law_392 (by decide) (fun _ => ?_) (fun c9 => absurd hB.1 c9)
  refine W.widen (k := cells + 1) (n := slots + 241) (by omega) (by omega) ?_
  exact kk z y f H locs ls hB.2 hPX hPM hPO hD hS hl
set_option maxHeartbeats 4000000 in
set_option maxRecDepth 100000 in
theorem lc_drink (S : CallFix p m c cL_law 7 s #[Value.ref b] GW RL) (hE : env G A s s.heap) (hA : ∀ q, s.heap.size ≤ q → A q) (hX : va_X b L xs s s.heap) (hbl : b < s.heap.size) (hbA : ¬ A b) {z y : St} {f : Nat → Int64} {H : Heap} {locs : List Loc} {ls : Array Slot} {cells slots : Nat} (hPX : va_P G.1 classes (wX G z) H) (hPM : va_P G.1 classes (wM G y) H) (hPO : va_P G.1 classes (wO ao cL f) H) (hD : va_D A (wX G z ++ (wM G y ++ wO ao cL f))) (hS : va_S A s.heap H locs) (hl : lv_has ls 7 [(4, .int i), (3, .ref ao), (2, .ref (ad G 100)), (1, .ref (ad G 0)), (0, .ref b)]) (hcs : cells + 1 ≤ 601024 ∧ slots + 241 ≤ 7293034) (h1 : vp_in (i + 1) L) (h2 : vp_in (i + 2) L) (h3 : vp_in (i + 3) L) (h4 : vp_in (i + 4) L) (h5 : vp_in (i + 5) L) (hB : S_B_drink (fun r z1 => S_M_drink (fun r1 y1 => r = r1 ∧ Inv z1 y1) ((xs (i + 1).toNatClampNeg)) ((xs (i + 2).toNatClampNeg)) y) ((xs (i + 1).toNatClampNeg)) ((xs (i + 2).toNatClampNeg)) z) (kk : YK p l e s m below meth c b L xs G A cL ao i Inv Q cells slots) : W p l e room_1 s m #[Value.ref b] below meth c H locs cells slots Q (F0 m 397 ls []) := by
  have hx := S.1
  have hb := S.2.1
  obtain ⟨hcs1, hcs2⟩ := hcs
  refine lv_aload_n hx hb dL_law_397 rfl (lv_at hl 3 rfl) ?_
  refine lv_aload_n hx hb dL_law_398 rfl (lv_at hl 4 rfl) ?_
  refine lv_iload hx hb dL_law_399 (lv_at hl 0 rfl) ?_
  refine lv_iconst (v := 1) hx hb dL_law_401 (by decide) ?_
  refine lv_iadd hx hb dL_law_402 ?_
  refine va_sld hx hb hX hbl hbA hS h1 dL_law_403 ?_
  refine lv_aload_n hx hb dL_law_404 rfl (lv_at hl 4 rfl) ?_
  refine lv_iload hx hb dL_law_405 (lv_at hl 0 rfl) ?_
  refine lv_iconst (v := 2) hx hb dL_law_407 (by decide) ?_
  refine lv_iadd hx hb dL_law_408 ?_
  refine va_sld hx hb hX hbl hbA hS h2 dL_law_409 ?_
  refine yVi [.int (xs (i + 1).toNatClampNeg), .int (xs (i + 2).toNatClampNeg)] S hE hA hPX (hPM.app hPO) hD hS (c_B_drink l G z H.size ((xs (i + 1).toNatClampNeg)) ((xs (i + 2).toNatClampNeg)) _) hB (gw_c lk_L_42 (gw_c wi_X11_drink (gw_c we_X11_X11_drink_X11_drink (gw_c wn_X11 (gw_c wc_X11_drink (fun _ h9 => h9)))))) hq_X11_drink rfl rfl (Nat.le_of_ble_eq_true rfl) (Nat.le_of_ble_eq_true rfl) ⟨by show cells + 0 ≤ 601024; omega, by show slots + 0 ≤ 7293034; omega⟩ (va_recv hE.1 hPX (ci := 10) (q0 := 0) rfl rfl) rfl hl.1 rfl (Nat.le_of_ble_eq_true rfl) dL_law_410 (fun r410 z H locs hB hPX hPr hD hS => ?_)
  obtain ⟨hPM, hPO⟩ := ySp hPr
  refine lv_aload_n hx hb dL_law_413 rfl (lv_at hl 2 rfl) ?_
  refine lv_aload_n hx hb dL_law_414 rfl (lv_at hl 4 rfl) ?_
  refine lv_iload hx hb dL_law_415 (lv_at hl 0 rfl) ?_
  refine lv_iconst (v := 1) hx hb dL_law_417 (by decide) ?_
  refine lv_iadd hx hb dL_law_418 ?_
  refine va_sld hx hb hX hbl hbA hS h1 dL_law_419 ?_
  refine lv_aload_n hx hb dL_law_420 rfl (lv_at hl 4 rfl) ?_
  refine lv_iload hx hb dL_law_421 (lv_at hl 0 rfl) ?_
  refine lv_iconst (v := 2) hx hb dL_law_423 (by decide) ?_
  refine lv_iadd hx hb dL_law_424 ?_
  refine va_sld hx hb hX hbl hbA hS h2 dL_law_425 ?_
  refine yVi [.int (xs (i + 1).toNatClampNeg), .int (xs (i + 2).toNatClampNeg)] S hE hA hPM (hPX.app hPO) (yD3 hD) hS (c_M_drink l G y H.size ((xs (i + 1).toNatClampNeg)) ((xs (i + 2).toNatClampNeg)) _) hB (gw_c lk_L_45 (gw_c wi_X12_drink (gw_c we_X12_X12_drink_X12_drink (gw_c wn_X12 (gw_c wc_X12_drink (fun _ h9 => h9)))))) hq_X12_drink rfl rfl (Nat.le_of_ble_eq_true rfl) (Nat.le_of_ble_eq_true rfl) ⟨by show cells + 0 + 0 ≤ 601024; omega, by show slots + 0 + 0 ≤ 7293034; omega⟩ (va_recv hE.1 hPM (ci := 11) (q0 := 0) rfl rfl) rfl hl.1 rfl (Nat.le_of_ble_eq_true rfl) dL_law_426 (fun r426 y H locs hB hPM hPr hD0 hS => ?_)
  obtain ⟨hPX, hPO⟩ := ySp hPr
  have hD := yD3 hD0
  refine lv_icmp_eq (tgt := 1661) hx hb dL_law_429 (by decide) (fun _ => ?_) (fun c9 => absurd hB.1 c9)
  refine W.widen (k := cells + 1) (n := slots + 241) (by omega) (by omega) ?_
  exact kk z y f H locs ls hB.2 hPX hPM hPO hD hS hl
set_option maxHeartbeats 4000000 in
set_option maxRecDepth 100000 in
theorem lc_guest (S : CallFix p m c cL_law 7 s #[Value.ref b] GW RL) (hE : env G A s s.heap) (hA : ∀ q, s.heap.size ≤ q → A q) (hX : va_X b L xs s s.heap) (hbl : b < s.heap.size) (hbA : ¬ A b) {z y : St} {f : Nat → Int64} {H : Heap} {locs : List Loc} {ls : Array Slot} {cells slots : Nat} (hPX : va_P G.1 classes (wX G z) H) (hPM : va_P G.1 classes (wM G y) H) (hPO : va_P G.1 classes (wO ao cL f) H) (hD : va_D A (wX G z ++ (wM G y ++ wO ao cL f))) (hS : va_S A s.heap H locs) (hl : lv_has ls 7 [(4, .int i), (3, .ref ao), (2, .ref (ad G 100)), (1, .ref (ad G 0)), (0, .ref b)]) (hcs : cells + 1 ≤ 601024 ∧ slots + 241 ≤ 7293034) (h1 : vp_in (i + 1) L) (h2 : vp_in (i + 2) L) (h3 : vp_in (i + 3) L) (h4 : vp_in (i + 4) L) (h5 : vp_in (i + 5) L) (hlt : l.stackTraces = false) (hKL : va_K G.1 classes [(cL, .long)] s) (hB : S_B_guest (fun r z1 => GPP Inv (xs (i + 1).toNatClampNeg) (xs (i + 2).toNatClampNeg) y 0 (z1, vp_updL f (0 : Int32).toNatClampNeg r.toInt64)) (fun z1 => GPP Inv (xs (i + 1).toNatClampNeg) (xs (i + 2).toNatClampNeg) y 1 (z1, f)) (xs (i + 1).toNatClampNeg) (xs (i + 2).toNatClampNeg) z) (kk : YK p l e s m below meth c b L xs G A cL ao i Inv Q cells slots) : W p l e room_1 s m #[Value.ref b] below meth c H locs cells slots Q (F0 m 434 ls []) := by
  have hx := S.1
  have hb := S.2.1
  obtain ⟨hcs1, hcs2⟩ := hcs
  refine lv_aload_n hx hb dL_law_434 rfl (lv_at hl 3 rfl) ?_
  refine lv_aload_n hx hb dL_law_435 rfl (lv_at hl 4 rfl) ?_
  refine lv_iload hx hb dL_law_436 (lv_at hl 0 rfl) ?_
  refine lv_iconst (v := 1) hx hb dL_law_438 (by decide) ?_
  refine lv_iadd hx hb dL_law_439 ?_
  refine va_sld hx hb hX hbl hbA hS h1 dL_law_440 ?_
  refine lv_aload_n hx hb dL_law_441 rfl (lv_at hl 4 rfl) ?_
  refine lv_iload hx hb dL_law_442 (lv_at hl 0 rfl) ?_
  refine lv_iconst (v := 2) hx hb dL_law_444 (by decide) ?_
  refine lv_iadd hx hb dL_law_445 ?_
  refine va_sld hx hb hX hbl hbA hS h2 dL_law_446 ?_
  refine lv_aload_n hx hb dL_law_447 rfl (lv_at hl 1 rfl) ?_
  have hDg : va_D A (wXO G z ao cL f ++ wM G y) := yD2 (yD3 hD)
  have hFg := yA hDg hS hA
  have hPg := hPX.app hPO
  refine va_calli (vx_runSW (As := [.ref (ad G 0), .int (xs (i + 1).toNatClampNeg), .int (xs (i + 2).toNatClampNeg), .ref ao]) (rest := []) S (c_L_guest l hlt G cL ao z f H.size (xs (i + 1).toNatClampNeg) (xs (i + 2).toNatClampNeg) (GPP Inv (xs (i + 1).toNatClampNeg) (xs (i + 2).toNatClampNeg) y)) (vx_cwSW 4 S.2.2.2.2 (gw_in (gw_c lk_L_46 (gw_c wt_L_guest (gw_c wn_L (gw_c wc_L_guest (fun _ h9 => h9)))))) rfl rfl rfl hs_L_guest ⟨(Nat.le_of_ble_eq_true rfl), (Nat.le_of_ble_eq_true rfl)⟩) ⟨GPre.blind _, fun U hU hW => ⟨rfl, by rw [hU], by rw [hU]; exact hPg, (ysplit hDg).1.weaken (fun _ _ _ _ => trivial), by rw [hU]; exact env.narrow (env.kept (env.warm hW hE) (fun a h1 h2 => hS.2.1 a h1 h2)) hFg, va_K.moved hW.alike hKL, hB⟩⟩ rfl rfl hl.1 rfl (lv_room (Nat.le_of_ble_eq_true rfl)) dL_law_448 ⟨by show cells + 1 ≤ 601024; omega, by show slots + 6 ≤ 7293034; omega⟩) hS (fun q _ h => hFg q h) hFg (fun r u t H1 locs1 ht hvm hw hBu hz1 hk1 hS => ?_)
  obtain ⟨z1, f1⟩ := u
  obtain ⟨hP1, hD1⟩ := hBu
  rw [ht] at hP1
  obtain ⟨hPM, hDn⟩ := yfr hPM hDg hk1 hFg hD1
  obtain ⟨hPX, hPO⟩ := ySp hP1
  have hD : va_D A (wX G z1 ++ (wM G y ++ wO ao cL f1)) := yD3 (yD2 hDn)
  refine lv_istore (lv' := [(5, .int r), (4, .int i), (3, .ref ao), (2, .ref (ad G 100)), (1, .ref (ad G 0)), (0, .ref b)]) hx hb dL_law_451 hl (by decide) rfl (fun ls hl => ?_)
  refine lv_aload_n hx hb dL_law_453 rfl (lv_at hl 3 rfl) ?_
  refine lv_aload_n hx hb dL_law_454 rfl (lv_at hl 5 rfl) ?_
  refine lv_iload hx hb dL_law_455 (lv_at hl 1 rfl) ?_
  refine lv_iconst (v := 1) hx hb dL_law_457 (by decide) ?_
  refine lv_iadd hx hb dL_law_458 ?_
  refine va_sld hx hb hX hbl hbA hS h1 dL_law_459 ?_
  refine lv_aload_n hx hb dL_law_460 rfl (lv_at hl 5 rfl) ?_
  refine lv_iload hx hb dL_law_461 (lv_at hl 1 rfl) ?_
  refine lv_iconst (v := 2) hx hb dL_law_463 (by decide) ?_
  refine lv_iadd hx hb dL_law_464 ?_
  refine va_sld hx hb hX hbl hbA hS h2 dL_law_465 ?_
  refine yVi [.int (xs (i + 1).toNatClampNeg), .int (xs (i + 2).toNatClampNeg)] S hE hA hPM (hPX.app hPO) (yD3 hD) hS (c_M_guest l G y H1.size (xs (i + 1).toNatClampNeg) (xs (i + 2).toNatClampNeg) _) hw (gw_c lk_L_51 (gw_c wi_X12_guest (gw_c we_X12_X12_guest_X12_guest (gw_c wn_X12 (gw_c wc_X12_guest (fun _ h9 => h9)))))) hq_X12_guest rfl rfl (Nat.le_of_ble_eq_true rfl) (Nat.le_of_ble_eq_true rfl) ⟨by show cells + 1 + 0 ≤ 601024; omega, by show slots + 6 + 0 ≤ 7293034; omega⟩ (va_recv hE.1 hPM (ci := 11) (q0 := 0) rfl rfl) rfl hl.1 rfl (Nat.le_of_ble_eq_true rfl) dL_law_466 (fun r1 y1 H locs hB hPM hPr hD0 hS => ?_)
  obtain ⟨hPX, hPO⟩ := ySp hPr
  have hD := yD3 hD0
  refine lv_istore (lv' := [(6, .int r1), (5, .int r), (4, .int i), (3, .ref ao), (2, .ref (ad G 100)), (1, .ref (ad G 0)), (0, .ref b)]) hx hb dL_law_469 hl (by decide) rfl (fun ls hl => ?_)
  refine lv_aload_n hx hb dL_law_471 rfl (lv_at hl 4 rfl) ?_
  refine yVi [] S hE hA hPM (hPX.app hPO) (yD3 hD) hS (c_M_thrown l G y1 H.size _) hB (gw_c lk_L_52 (gw_c wi_X12_thrown (gw_c we_X12_X12_thrown_X12_thrown (gw_c wn_X12 (gw_c wc_X12_thrown (fun _ h9 => h9)))))) hq_X12_thrown rfl rfl (Nat.le_of_ble_eq_true rfl) (Nat.le_of_ble_eq_true rfl) ⟨by show cells + 1 + 0 + 0 ≤ 601024; omega, by show slots + 6 + 0 + 0 ≤ 7293034; omega⟩ (va_recv hE.1 hPM (ci := 11) (q0 := 0) rfl rfl) rfl hl.1 rfl (Nat.le_of_ble_eq_true rfl) dL_law_472 (fun r2 y2 H locs hB hPM hPr hD0 hS => ?_)
  obtain ⟨hPX, hPO⟩ := ySp hPr
  have hD := yD3 hD0
  refine lv_iload hx hb dL_law_475 (lv_at hl 1 rfl) ?_
  refine lv_icmp_eq (tgt := 482) hx hb dL_law_477 (by decide) (fun _ => ?_) (fun c9 => absurd hB.1 c9)
  refine lv_iload hx hb dL_law_482 (lv_at hl 1 rfl) ?_
  have kk9 := kk z1 y2 f1 H locs ls hB.2.2 hPX hPM hPO hD hS (lv_sub hl [2, 3, 4, 5, 6] rfl)
  refine lv_if_ne (tgt := 499) hx hb dL_law_484 (by decide) (fun _ => ?_) (fun c9 => ?_)
  · refine lv_goto (tgt := 1661) hx hb dL_law_499 (by decide) ?_
    exact W.widen (k := cells + 1) (n := slots + 241) (by omega) (by omega) kk9
  · refine lv_aload_n hx hb dL_law_487 rfl (lv_at hl 3 rfl) ?_
    refine lv_iconst (v := 0) hx hb dL_law_488 (by decide) ?_
    refine va_lald hx hb hKL hPO 0 0 rfl rfl y01 dL_law_489 ?_
    refine lv_iload hx hb dL_law_490 (lv_at hl 0 rfl) ?_
    refine lv_i2l hx hb dL_law_492 rfl ?_
    refine W.lcmp hx hb dL_law_493 ?_
    refine lv_if_eq (tgt := 499) hx hb dL_law_494 (by decide) (fun _ => ?_) (fun c8 => absurd (by rw [hB.2.1 c9]; exact ycmp _) c8)
    refine lv_goto (tgt := 1661) hx hb dL_law_499 (by decide) ?_
    exact W.widen (k := cells + 1) (n := slots + 241) (by omega) (by omega) kk9
set_option maxHeartbeats 4000000 in
set_option maxRecDepth 100000 in
theorem lc_law (S : CallFix p m c cL_law 7 s #[Value.ref b] GW RL) (hE : env G A s s.heap) (hA : ∀ q, s.heap.size ≤ q → A q) (hX : va_X b L xs s s.heap) (hbl : b < s.heap.size) (hbA : ¬ A b) {z y : St} {f : Nat → Int64} {H : Heap} {locs : List Loc} {ls : Array Slot} {cells slots : Nat} (hPX : va_P G.1 classes (wX G z) H) (hPM : va_P G.1 classes (wM G y) H) (hPO : va_P G.1 classes (wO ao cL f) H) (hD : va_D A (wX G z ++ (wM G y ++ wO ao cL f))) (hS : va_S A s.heap H locs) (hl : lv_has ls 7 [(4, .int i), (3, .ref ao), (2, .ref (ad G 100)), (1, .ref (ad G 0)), (0, .ref b)]) (hcs : cells + 1 ≤ 601024 ∧ slots + 241 ≤ 7293034) (h1 : vp_in (i + 1) L) (h2 : vp_in (i + 2) L) (h3 : vp_in (i + 3) L) (h4 : vp_in (i + 4) L) (h5 : vp_in (i + 5) L) (hB : S_B_law (fun r z1 => S_M_law (fun r1 y1 => r = r1 ∧ Inv z1 y1) ((xs (i + 1).toNatClampNeg)) y) ((xs (i + 1).toNatClampNeg)) z) (kk : YK p l e s m below meth c b L xs G A cL ao i Inv Q cells slots) : W p l e room_1 s m #[Value.ref b] below meth c H locs cells slots Q (F0 m 502 ls []) := by
  have hx := S.1
  have hb := S.2.1
  obtain ⟨hcs1, hcs2⟩ := hcs
  refine lv_aload_n hx hb dL_law_502 rfl (lv_at hl 3 rfl) ?_
  refine lv_aload_n hx hb dL_law_503 rfl (lv_at hl 4 rfl) ?_
  refine lv_iload hx hb dL_law_504 (lv_at hl 0 rfl) ?_
  refine lv_iconst (v := 1) hx hb dL_law_506 (by decide) ?_
  refine lv_iadd hx hb dL_law_507 ?_
  refine va_sld hx hb hX hbl hbA hS h1 dL_law_508 ?_
  refine yVi [.int (xs (i + 1).toNatClampNeg)] S hE hA hPX (hPM.app hPO) hD hS (c_B_law l G z H.size ((xs (i + 1).toNatClampNeg)) _) hB (gw_c lk_L_56 (gw_c wi_X11_law (gw_c we_X11_X11_law_X11_law (gw_c wn_X11 (gw_c wc_X11_law (fun _ h9 => h9)))))) hq_X11_law rfl rfl (Nat.le_of_ble_eq_true rfl) (Nat.le_of_ble_eq_true rfl) ⟨by show cells + 0 ≤ 601024; omega, by show slots + 0 ≤ 7293034; omega⟩ (va_recv hE.1 hPX (ci := 10) (q0 := 0) rfl rfl) rfl hl.1 rfl (Nat.le_of_ble_eq_true rfl) dL_law_509 (fun r509 z H locs hB hPX hPr hD hS => ?_)
  obtain ⟨hPM, hPO⟩ := ySp hPr
  refine lv_aload_n hx hb dL_law_512 rfl (lv_at hl 2 rfl) ?_
  refine lv_aload_n hx hb dL_law_513 rfl (lv_at hl 4 rfl) ?_
  refine lv_iload hx hb dL_law_514 (lv_at hl 0 rfl) ?_
  refine lv_iconst (v := 1) hx hb dL_law_516 (by decide) ?_
  refine lv_iadd hx hb dL_law_517 ?_
  refine va_sld hx hb hX hbl hbA hS h1 dL_law_518 ?_
  refine yVi [.int (xs (i + 1).toNatClampNeg)] S hE hA hPM (hPX.app hPO) (yD3 hD) hS (c_M_law l G y H.size ((xs (i + 1).toNatClampNeg)) _) hB (gw_c lk_L_59 (gw_c wi_X12_law (gw_c we_X12_X12_law_X12_law (gw_c wn_X12 (gw_c wc_X12_law (fun _ h9 => h9)))))) hq_X12_law rfl rfl (Nat.le_of_ble_eq_true rfl) (Nat.le_of_ble_eq_true rfl) ⟨by show cells + 0 + 0 ≤ 601024; omega, by show slots + 0 + 0 ≤ 7293034; omega⟩ (va_recv hE.1 hPM (ci := 11) (q0 := 0) rfl rfl) rfl hl.1 rfl (Nat.le_of_ble_eq_true rfl) dL_law_519 (fun r519 y H locs hB hPM hPr hD0 hS => ?_)
  obtain ⟨hPX, hPO⟩ := ySp hPr
  have hD := yD3 hD0
  refine lv_icmp_eq (tgt := 1661) hx hb dL_law_522 (by decide) (fun _ => ?_) (fun c9 => absurd hB.1 c9)
  refine W.widen (k := cells + 1) (n := slots + 241) (by omega) (by omega) ?_
  exact kk z y f H locs ls hB.2 hPX hPM hPO hD hS hl
set_option maxHeartbeats 4000000 in
set_option maxRecDepth 100000 in
theorem lc_snow (S : CallFix p m c cL_law 7 s #[Value.ref b] GW RL) (hE : env G A s s.heap) (hA : ∀ q, s.heap.size ≤ q → A q) (hX : va_X b L xs s s.heap) (hbl : b < s.heap.size) (hbA : ¬ A b) {z y : St} {f : Nat → Int64} {H : Heap} {locs : List Loc} {ls : Array Slot} {cells slots : Nat} (hPX : va_P G.1 classes (wX G z) H) (hPM : va_P G.1 classes (wM G y) H) (hPO : va_P G.1 classes (wO ao cL f) H) (hD : va_D A (wX G z ++ (wM G y ++ wO ao cL f))) (hS : va_S A s.heap H locs) (hl : lv_has ls 7 [(4, .int i), (3, .ref ao), (2, .ref (ad G 100)), (1, .ref (ad G 0)), (0, .ref b)]) (hcs : cells + 1 ≤ 601024 ∧ slots + 241 ≤ 7293034) (h1 : vp_in (i + 1) L) (h2 : vp_in (i + 2) L) (h3 : vp_in (i + 3) L) (h4 : vp_in (i + 4) L) (h5 : vp_in (i + 5) L) (hB : S_B_snow (fun r z1 => S_M_snow (fun r1 y1 => r = r1 ∧ Inv z1 y1) ((xs (i + 1).toNatClampNeg)) y) ((xs (i + 1).toNatClampNeg)) z) (kk : YK p l e s m below meth c b L xs G A cL ao i Inv Q cells slots) : W p l e room_1 s m #[Value.ref b] below meth c H locs cells slots Q (F0 m 527 ls []) := by
  have hx := S.1
  have hb := S.2.1
  obtain ⟨hcs1, hcs2⟩ := hcs
  refine lv_aload_n hx hb dL_law_527 rfl (lv_at hl 3 rfl) ?_
  refine lv_aload_n hx hb dL_law_528 rfl (lv_at hl 4 rfl) ?_
  refine lv_iload hx hb dL_law_529 (lv_at hl 0 rfl) ?_
  refine lv_iconst (v := 1) hx hb dL_law_531 (by decide) ?_
  refine lv_iadd hx hb dL_law_532 ?_
  refine va_sld hx hb hX hbl hbA hS h1 dL_law_533 ?_
  refine yVi [.int (xs (i + 1).toNatClampNeg)] S hE hA hPX (hPM.app hPO) hD hS (c_B_snow l G z H.size ((xs (i + 1).toNatClampNeg)) _) hB (gw_c lk_L_60 (gw_c wi_X11_snow (gw_c we_X11_X11_snow_X11_snow (gw_c wn_X11 (gw_c wc_X11_snow (fun _ h9 => h9)))))) hq_X11_snow rfl rfl (Nat.le_of_ble_eq_true rfl) (Nat.le_of_ble_eq_true rfl) ⟨by show cells + 0 ≤ 601024; omega, by show slots + 0 ≤ 7293034; omega⟩ (va_recv hE.1 hPX (ci := 10) (q0 := 0) rfl rfl) rfl hl.1 rfl (Nat.le_of_ble_eq_true rfl) dL_law_534 (fun r534 z H locs hB hPX hPr hD hS => ?_)
  obtain ⟨hPM, hPO⟩ := ySp hPr
  refine lv_aload_n hx hb dL_law_537 rfl (lv_at hl 2 rfl) ?_
  refine lv_aload_n hx hb dL_law_538 rfl (lv_at hl 4 rfl) ?_
  refine lv_iload hx hb dL_law_539 (lv_at hl 0 rfl) ?_
  refine lv_iconst (v := 1) hx hb dL_law_541 (by decide) ?_
  refine lv_iadd hx hb dL_law_542 ?_
  refine va_sld hx hb hX hbl hbA hS h1 dL_law_543 ?_
  refine yVi [.int (xs (i + 1).toNatClampNeg)] S hE hA hPM (hPX.app hPO) (yD3 hD) hS (c_M_snow l G y H.size ((xs (i + 1).toNatClampNeg)) _) hB (gw_c lk_L_63 (gw_c wi_X12_snow (gw_c we_X12_X12_snow_X12_snow (gw_c wn_X12 (gw_c wc_X12_snow (fun _ h9 => h9)))))) hq_X12_snow rfl rfl (Nat.le_of_ble_eq_true rfl) (Nat.le_of_ble_eq_true rfl) ⟨by show cells + 0 + 0 ≤ 601024; omega, by show slots + 0 + 0 ≤ 7293034; omega⟩ (va_recv hE.1 hPM (ci := 11) (q0 := 0) rfl rfl) rfl hl.1 rfl (Nat.le_of_ble_eq_true rfl) dL_law_544 (fun r544 y H locs hB hPM hPr hD0 hS => ?_)
  obtain ⟨hPX, hPO⟩ := ySp hPr
  have hD := yD3 hD0
  refine lv_icmp_eq (tgt := 1661) hx hb dL_law_547 (by decide) (fun _ => ?_) (fun c9 => absurd hB.1 c9)
  refine W.widen (k := cells + 1) (n := slots + 241) (by omega) (by omega) ?_
  exact kk z y f H locs ls hB.2 hPX hPM hPO hD hS hl
set_option maxHeartbeats 4000000 in
set_option maxRecDepth 100000 in
theorem lc_visit (S : CallFix p m c cL_law 7 s #[Value.ref b] GW RL) (hE : env G A s s.heap) (hA : ∀ q, s.heap.size ≤ q → A q) (hX : va_X b L xs s s.heap) (hbl : b < s.heap.size) (hbA : ¬ A b) {z y : St} {f : Nat → Int64} {H : Heap} {locs : List Loc} {ls : Array Slot} {cells slots : Nat} (hPX : va_P G.1 classes (wX G z) H) (hPM : va_P G.1 classes (wM G y) H) (hPO : va_P G.1 classes (wO ao cL f) H) (hD : va_D A (wX G z ++ (wM G y ++ wO ao cL f))) (hS : va_S A s.heap H locs) (hl : lv_has ls 7 [(4, .int i), (3, .ref ao), (2, .ref (ad G 100)), (1, .ref (ad G 0)), (0, .ref b)]) (hcs : cells + 1 ≤ 601024 ∧ slots + 241 ≤ 7293034) (h1 : vp_in (i + 1) L) (h2 : vp_in (i + 2) L) (h3 : vp_in (i + 3) L) (h4 : vp_in (i + 4) L) (h5 : vp_in (i + 5) L) (hB : S_B_visit (fun r z1 => S_M_visit (fun r1 y1 => r = r1 ∧ Inv z1 y1) ((xs (i + 1).toNatClampNeg)) y) ((xs (i + 1).toNatClampNeg)) z) (kk : YK p l e s m below meth c b L xs G A cL ao i Inv Q cells slots) : W p l e room_1 s m #[Value.ref b] below meth c H locs cells slots Q (F0 m 552 ls []) := by
  have hx := S.1
  have hb := S.2.1
  obtain ⟨hcs1, hcs2⟩ := hcs
  refine lv_aload_n hx hb dL_law_552 rfl (lv_at hl 3 rfl) ?_
  refine lv_aload_n hx hb dL_law_553 rfl (lv_at hl 4 rfl) ?_
  refine lv_iload hx hb dL_law_554 (lv_at hl 0 rfl) ?_
  refine lv_iconst (v := 1) hx hb dL_law_556 (by decide) ?_
  refine lv_iadd hx hb dL_law_557 ?_
  refine va_sld hx hb hX hbl hbA hS h1 dL_law_558 ?_
  refine yVi [.int (xs (i + 1).toNatClampNeg)] S hE hA hPX (hPM.app hPO) hD hS (c_B_visit l G z H.size ((xs (i + 1).toNatClampNeg)) _) hB (gw_c lk_L_64 (gw_c wi_X11_visit (gw_c we_X11_X11_visit_X11_visit (gw_c wn_X11 (gw_c wc_X11_visit (fun _ h9 => h9)))))) hq_X11_visit rfl rfl (Nat.le_of_ble_eq_true rfl) (Nat.le_of_ble_eq_true rfl) ⟨by show cells + 0 ≤ 601024; omega, by show slots + 0 ≤ 7293034; omega⟩ (va_recv hE.1 hPX (ci := 10) (q0 := 0) rfl rfl) rfl hl.1 rfl (Nat.le_of_ble_eq_true rfl) dL_law_559 (fun r559 z H locs hB hPX hPr hD hS => ?_)
  obtain ⟨hPM, hPO⟩ := ySp hPr
  refine lv_aload_n hx hb dL_law_562 rfl (lv_at hl 2 rfl) ?_
  refine lv_aload_n hx hb dL_law_563 rfl (lv_at hl 4 rfl) ?_
  refine lv_iload hx hb dL_law_564 (lv_at hl 0 rfl) ?_
  refine lv_iconst (v := 1) hx hb dL_law_566 (by decide) ?_
  refine lv_iadd hx hb dL_law_567 ?_
  refine va_sld hx hb hX hbl hbA hS h1 dL_law_568 ?_
  refine yVi [.int (xs (i + 1).toNatClampNeg)] S hE hA hPM (hPX.app hPO) (yD3 hD) hS (c_M_visit l G y H.size ((xs (i + 1).toNatClampNeg)) _) hB (gw_c lk_L_67 (gw_c wi_X12_visit (gw_c we_X12_X12_visit_X12_visit (gw_c wn_X12 (gw_c wc_X12_visit (fun _ h9 => h9)))))) hq_X12_visit rfl rfl (Nat.le_of_ble_eq_true rfl) (Nat.le_of_ble_eq_true rfl) ⟨by show cells + 0 + 0 ≤ 601024; omega, by show slots + 0 + 0 ≤ 7293034; omega⟩ (va_recv hE.1 hPM (ci := 11) (q0 := 0) rfl rfl) rfl hl.1 rfl (Nat.le_of_ble_eq_true rfl) dL_law_569 (fun r569 y H locs hB hPM hPr hD0 hS => ?_)
  obtain ⟨hPX, hPO⟩ := ySp hPr
  have hD := yD3 hD0
  refine lv_icmp_eq (tgt := 1661) hx hb dL_law_572 (by decide) (fun _ => ?_) (fun c9 => absurd hB.1 c9)
  refine W.widen (k := cells + 1) (n := slots + 241) (by omega) (by omega) ?_
  exact kk z y f H locs ls hB.2 hPX hPM hPO hD hS hl
set_option maxHeartbeats 4000000 in
set_option maxRecDepth 100000 in
theorem lc_month (S : CallFix p m c cL_law 7 s #[Value.ref b] GW RL) (hE : env G A s s.heap) (hA : ∀ q, s.heap.size ≤ q → A q) (hX : va_X b L xs s s.heap) (hbl : b < s.heap.size) (hbA : ¬ A b) {z y : St} {f : Nat → Int64} {H : Heap} {locs : List Loc} {ls : Array Slot} {cells slots : Nat} (hPX : va_P G.1 classes (wX G z) H) (hPM : va_P G.1 classes (wM G y) H) (hPO : va_P G.1 classes (wO ao cL f) H) (hD : va_D A (wX G z ++ (wM G y ++ wO ao cL f))) (hS : va_S A s.heap H locs) (hl : lv_has ls 7 [(4, .int i), (3, .ref ao), (2, .ref (ad G 100)), (1, .ref (ad G 0)), (0, .ref b)]) (hcs : cells + 1 ≤ 601024 ∧ slots + 241 ≤ 7293034) (h1 : vp_in (i + 1) L) (h2 : vp_in (i + 2) L) (h3 : vp_in (i + 3) L) (h4 : vp_in (i + 4) L) (h5 : vp_in (i + 5) L) (hB : S_B_month (fun r z1 => S_M_month (fun r1 y1 => r = r1 ∧ Inv z1 y1)  y)  z) (kk : YK p l e s m below meth c b L xs G A cL ao i Inv Q cells slots) : W p l e room_1 s m #[Value.ref b] below meth c H locs cells slots Q (F0 m 577 ls []) := by
  have hx := S.1
  have hb := S.2.1
  obtain ⟨hcs1, hcs2⟩ := hcs
  refine lv_aload_n hx hb dL_law_577 rfl (lv_at hl 3 rfl) ?_
  refine yVi [] S hE hA hPX (hPM.app hPO) hD hS (c_B_month l G z H.size  _) hB (gw_c lk_L_68 (gw_c wi_X11_month (gw_c we_X11_X11_month_X11_month (gw_c wn_X11 (gw_c wc_X11_month (fun _ h9 => h9)))))) hq_X11_month rfl rfl (Nat.le_of_ble_eq_true rfl) (Nat.le_of_ble_eq_true rfl) ⟨by show cells + 0 ≤ 601024; omega, by show slots + 0 ≤ 7293034; omega⟩ (va_recv hE.1 hPX (ci := 10) (q0 := 0) rfl rfl) rfl hl.1 rfl (Nat.le_of_ble_eq_true rfl) dL_law_578 (fun r578 z H locs hB hPX hPr hD hS => ?_)
  obtain ⟨hPM, hPO⟩ := ySp hPr
  refine lv_aload_n hx hb dL_law_581 rfl (lv_at hl 2 rfl) ?_
  refine yVi [] S hE hA hPM (hPX.app hPO) (yD3 hD) hS (c_M_month l G y H.size  _) hB (gw_c lk_L_71 (gw_c wi_X12_month (gw_c we_X12_X12_month_X12_month (gw_c wn_X12 (gw_c wc_X12_month (fun _ h9 => h9)))))) hq_X12_month rfl rfl (Nat.le_of_ble_eq_true rfl) (Nat.le_of_ble_eq_true rfl) ⟨by show cells + 0 + 0 ≤ 601024; omega, by show slots + 0 + 0 ≤ 7293034; omega⟩ (va_recv hE.1 hPM (ci := 11) (q0 := 0) rfl rfl) rfl hl.1 rfl (Nat.le_of_ble_eq_true rfl) dL_law_582 (fun r582 y H locs hB hPM hPr hD0 hS => ?_)
  obtain ⟨hPX, hPO⟩ := ySp hPr
  have hD := yD3 hD0
  refine lv_icmp_eq (tgt := 1661) hx hb dL_law_585 (by decide) (fun _ => ?_) (fun c9 => absurd hB.1 c9)
  refine W.widen (k := cells + 1) (n := slots + 241) (by omega) (by omega) ?_
  exact kk z y f H locs ls hB.2 hPX hPM hPO hD hS hl
set_option maxHeartbeats 4000000 in
set_option maxRecDepth 100000 in
theorem lc_host (S : CallFix p m c cL_law 7 s #[Value.ref b] GW RL) (hE : env G A s s.heap) (hA : ∀ q, s.heap.size ≤ q → A q) (hX : va_X b L xs s s.heap) (hbl : b < s.heap.size) (hbA : ¬ A b) {z y : St} {f : Nat → Int64} {H : Heap} {locs : List Loc} {ls : Array Slot} {cells slots : Nat} (hPX : va_P G.1 classes (wX G z) H) (hPM : va_P G.1 classes (wM G y) H) (hPO : va_P G.1 classes (wO ao cL f) H) (hD : va_D A (wX G z ++ (wM G y ++ wO ao cL f))) (hS : va_S A s.heap H locs) (hl : lv_has ls 7 [(4, .int i), (3, .ref ao), (2, .ref (ad G 100)), (1, .ref (ad G 0)), (0, .ref b)]) (hcs : cells + 1 ≤ 601024 ∧ slots + 241 ≤ 7293034) (h1 : vp_in (i + 1) L) (h2 : vp_in (i + 2) L) (h3 : vp_in (i + 3) L) (h4 : vp_in (i + 4) L) (h5 : vp_in (i + 5) L) (hB : S_B_host (fun r z1 => S_M_host (fun r1 y1 => r = r1 ∧ Inv z1 y1) ((xs (i + 1).toNatClampNeg)) y) ((xs (i + 1).toNatClampNeg)) z) (kk : YK p l e s m below meth c b L xs G A cL ao i Inv Q cells slots) : W p l e room_1 s m #[Value.ref b] below meth c H locs cells slots Q (F0 m 590 ls []) := by
  have hx := S.1
  have hb := S.2.1
  obtain ⟨hcs1, hcs2⟩ := hcs
  refine lv_aload_n hx hb dL_law_590 rfl (lv_at hl 3 rfl) ?_
  refine lv_aload_n hx hb dL_law_591 rfl (lv_at hl 4 rfl) ?_
  refine lv_iload hx hb dL_law_592 (lv_at hl 0 rfl) ?_
  refine lv_iconst (v := 1) hx hb dL_law_594 (by decide) ?_
  refine lv_iadd hx hb dL_law_595 ?_
  refine va_sld hx hb hX hbl hbA hS h1 dL_law_596 ?_
  refine yVi [.int (xs (i + 1).toNatClampNeg)] S hE hA hPX (hPM.app hPO) hD hS (c_B_host l G z H.size ((xs (i + 1).toNatClampNeg)) _) hB (gw_c lk_L_72 (gw_c wi_X11_host (gw_c we_X11_X11_host_X11_host (gw_c wn_X11 (gw_c wc_X11_host (fun _ h9 => h9)))))) hq_X11_host rfl rfl (Nat.le_of_ble_eq_true rfl) (Nat.le_of_ble_eq_true rfl) ⟨by show cells + 0 ≤ 601024; omega, by show slots + 0 ≤ 7293034; omega⟩ (va_recv hE.1 hPX (ci := 10) (q0 := 0) rfl rfl) rfl hl.1 rfl (Nat.le_of_ble_eq_true rfl) dL_law_597 (fun r597 z H locs hB hPX hPr hD hS => ?_)
  obtain ⟨hPM, hPO⟩ := ySp hPr
  refine lv_aload_n hx hb dL_law_600 rfl (lv_at hl 2 rfl) ?_
  refine lv_aload_n hx hb dL_law_601 rfl (lv_at hl 4 rfl) ?_
  refine lv_iload hx hb dL_law_602 (lv_at hl 0 rfl) ?_
  refine lv_iconst (v := 1) hx hb dL_law_604 (by decide) ?_
  refine lv_iadd hx hb dL_law_605 ?_
  refine va_sld hx hb hX hbl hbA hS h1 dL_law_606 ?_
  refine yVi [.int (xs (i + 1).toNatClampNeg)] S hE hA hPM (hPX.app hPO) (yD3 hD) hS (c_M_host l G y H.size ((xs (i + 1).toNatClampNeg)) _) hB (gw_c lk_L_75 (gw_c wi_X12_host (gw_c we_X12_X12_host_X12_host (gw_c wn_X12 (gw_c wc_X12_host (fun _ h9 => h9)))))) hq_X12_host rfl rfl (Nat.le_of_ble_eq_true rfl) (Nat.le_of_ble_eq_true rfl) ⟨by show cells + 0 + 0 ≤ 601024; omega, by show slots + 0 + 0 ≤ 7293034; omega⟩ (va_recv hE.1 hPM (ci := 11) (q0 := 0) rfl rfl) rfl hl.1 rfl (Nat.le_of_ble_eq_true rfl) dL_law_607 (fun r607 y H locs hB hPM hPr hD0 hS => ?_)
  obtain ⟨hPX, hPO⟩ := ySp hPr
  have hD := yD3 hD0
  refine lv_icmp_eq (tgt := 1661) hx hb dL_law_610 (by decide) (fun _ => ?_) (fun c9 => absurd hB.1 c9)
  refine W.widen (k := cells + 1) (n := slots + 241) (by omega) (by omega) ?_
  exact kk z y f H locs ls hB.2 hPX hPM hPO hD hS hl
set_option maxHeartbeats 4000000 in
set_option maxRecDepth 100000 in
theorem lc_pay (S : CallFix p m c cL_law 7 s #[Value.ref b] GW RL) (hE : env G A s s.heap) (hA : ∀ q, s.heap.size ≤ q → A q) (hX : va_X b L xs s s.heap) (hbl : b < s.heap.size) (hbA : ¬ A b) {z y : St} {f : Nat → Int64} {H : Heap} {locs : List Loc} {ls : Array Slot} {cells slots : Nat} (hPX : va_P G.1 classes (wX G z) H) (hPM : va_P G.1 classes (wM G y) H) (hPO : va_P G.1 classes (wO ao cL f) H) (hD : va_D A (wX G z ++ (wM G y ++ wO ao cL f))) (hS : va_S A s.heap H locs) (hl : lv_has ls 7 [(4, .int i), (3, .ref ao), (2, .ref (ad G 100)), (1, .ref (ad G 0)), (0, .ref b)]) (hcs : cells + 1 ≤ 601024 ∧ slots + 241 ≤ 7293034) (h1 : vp_in (i + 1) L) (h2 : vp_in (i + 2) L) (h3 : vp_in (i + 3) L) (h4 : vp_in (i + 4) L) (h5 : vp_in (i + 5) L) (hB : S_B_pay (fun r z1 => S_M_pay (fun r1 y1 => r = r1 ∧ Inv z1 y1) ((xs (i + 1).toNatClampNeg)) ((xs (i + 2).toNatClampNeg)) y) ((xs (i + 1).toNatClampNeg)) ((xs (i + 2).toNatClampNeg)) z) (kk : YK p l e s m below meth c b L xs G A cL ao i Inv Q cells slots) : W p l e room_1 s m #[Value.ref b] below meth c H locs cells slots Q (F0 m 615 ls []) := by
  have hx := S.1
  have hb := S.2.1
  obtain ⟨hcs1, hcs2⟩ := hcs
  refine lv_aload_n hx hb dL_law_615 rfl (lv_at hl 3 rfl) ?_
  refine lv_aload_n hx hb dL_law_616 rfl (lv_at hl 4 rfl) ?_
  refine lv_iload hx hb dL_law_617 (lv_at hl 0 rfl) ?_
  refine lv_iconst (v := 1) hx hb dL_law_619 (by decide) ?_
  refine lv_iadd hx hb dL_law_620 ?_
  refine va_sld hx hb hX hbl hbA hS h1 dL_law_621 ?_
  refine lv_aload_n hx hb dL_law_622 rfl (lv_at hl 4 rfl) ?_
  refine lv_iload hx hb dL_law_623 (lv_at hl 0 rfl) ?_
  refine lv_iconst (v := 2) hx hb dL_law_625 (by decide) ?_
  refine lv_iadd hx hb dL_law_626 ?_
  refine va_sld hx hb hX hbl hbA hS h2 dL_law_627 ?_
  refine yVi [.int (xs (i + 1).toNatClampNeg), .int (xs (i + 2).toNatClampNeg)] S hE hA hPX (hPM.app hPO) hD hS (c_B_pay l G z H.size ((xs (i + 1).toNatClampNeg)) ((xs (i + 2).toNatClampNeg)) _) hB (gw_c lk_L_76 (gw_c wi_X11_pay (gw_c we_X11_X11_pay_X11_pay (gw_c wn_X11 (gw_c wc_X11_pay (fun _ h9 => h9)))))) hq_X11_pay rfl rfl (Nat.le_of_ble_eq_true rfl) (Nat.le_of_ble_eq_true rfl) ⟨by show cells + 0 ≤ 601024; omega, by show slots + 0 ≤ 7293034; omega⟩ (va_recv hE.1 hPX (ci := 10) (q0 := 0) rfl rfl) rfl hl.1 rfl (Nat.le_of_ble_eq_true rfl) dL_law_628 (fun r628 z H locs hB hPX hPr hD hS => ?_)
  obtain ⟨hPM, hPO⟩ := ySp hPr
  refine lv_aload_n hx hb dL_law_631 rfl (lv_at hl 2 rfl) ?_
  refine lv_aload_n hx hb dL_law_632 rfl (lv_at hl 4 rfl) ?_
  refine lv_iload hx hb dL_law_633 (lv_at hl 0 rfl) ?_
  refine lv_iconst (v := 1) hx hb dL_law_635 (by decide) ?_
  refine lv_iadd hx hb dL_law_636 ?_
  refine va_sld hx hb hX hbl hbA hS h1 dL_law_637 ?_
  refine lv_aload_n hx hb dL_law_638 rfl (lv_at hl 4 rfl) ?_
  refine lv_iload hx hb dL_law_639 (lv_at hl 0 rfl) ?_
  refine lv_iconst (v := 2) hx hb dL_law_641 (by decide) ?_
  refine lv_iadd hx hb dL_law_642 ?_
  refine va_sld hx hb hX hbl hbA hS h2 dL_law_643 ?_
  refine yVi [.int (xs (i + 1).toNatClampNeg), .int (xs (i + 2).toNatClampNeg)] S hE hA hPM (hPX.app hPO) (yD3 hD) hS (c_M_pay l G y H.size ((xs (i + 1).toNatClampNeg)) ((xs (i + 2).toNatClampNeg)) _) hB (gw_c lk_L_79 (gw_c wi_X12_pay (gw_c we_X12_X12_pay_X12_pay (gw_c wn_X12 (gw_c wc_X12_pay (fun _ h9 => h9)))))) hq_X12_pay rfl rfl (Nat.le_of_ble_eq_true rfl) (Nat.le_of_ble_eq_true rfl) ⟨by show cells + 0 + 0 ≤ 601024; omega, by show slots + 0 + 0 ≤ 7293034; omega⟩ (va_recv hE.1 hPM (ci := 11) (q0 := 0) rfl rfl) rfl hl.1 rfl (Nat.le_of_ble_eq_true rfl) dL_law_644 (fun r644 y H locs hB hPM hPr hD0 hS => ?_)
  obtain ⟨hPX, hPO⟩ := ySp hPr
  have hD := yD3 hD0
  refine lv_icmp_eq (tgt := 1661) hx hb dL_law_647 (by decide) (fun _ => ?_) (fun c9 => absurd hB.1 c9)
  refine W.widen (k := cells + 1) (n := slots + 241) (by omega) (by omega) ?_
  exact kk z y f H locs ls hB.2 hPX hPM hPO hD hS hl
set_option maxHeartbeats 4000000 in
set_option maxRecDepth 100000 in
theorem lc_price (S : CallFix p m c cL_law 7 s #[Value.ref b] GW RL) (hE : env G A s s.heap) (hA : ∀ q, s.heap.size ≤ q → A q) (hX : va_X b L xs s s.heap) (hbl : b < s.heap.size) (hbA : ¬ A b) {z y : St} {f : Nat → Int64} {H : Heap} {locs : List Loc} {ls : Array Slot} {cells slots : Nat} (hPX : va_P G.1 classes (wX G z) H) (hPM : va_P G.1 classes (wM G y) H) (hPO : va_P G.1 classes (wO ao cL f) H) (hD : va_D A (wX G z ++ (wM G y ++ wO ao cL f))) (hS : va_S A s.heap H locs) (hl : lv_has ls 7 [(4, .int i), (3, .ref ao), (2, .ref (ad G 100)), (1, .ref (ad G 0)), (0, .ref b)]) (hcs : cells + 1 ≤ 601024 ∧ slots + 241 ≤ 7293034) (h1 : vp_in (i + 1) L) (h2 : vp_in (i + 2) L) (h3 : vp_in (i + 3) L) (h4 : vp_in (i + 4) L) (h5 : vp_in (i + 5) L) (hB : S_B_price (fun r z1 => S_M_price (fun r1 y1 => r = r1 ∧ Inv z1 y1) ((xs (i + 1).toNatClampNeg)) ((xs (i + 2).toNatClampNeg)) y) ((xs (i + 1).toNatClampNeg)) ((xs (i + 2).toNatClampNeg)) z) (kk : YK p l e s m below meth c b L xs G A cL ao i Inv Q cells slots) : W p l e room_1 s m #[Value.ref b] below meth c H locs cells slots Q (F0 m 652 ls []) := by
  have hx := S.1
  have hb := S.2.1
  obtain ⟨hcs1, hcs2⟩ := hcs
  refine lv_aload_n hx hb dL_law_652 rfl (lv_at hl 3 rfl) ?_
  refine lv_aload_n hx hb dL_law_653 rfl (lv_at hl 4 rfl) ?_
  refine lv_iload hx hb dL_law_654 (lv_at hl 0 rfl) ?_
  refine lv_iconst (v := 1) hx hb dL_law_656 (by decide) ?_
  refine lv_iadd hx hb dL_law_657 ?_
  refine va_sld hx hb hX hbl hbA hS h1 dL_law_658 ?_
  refine lv_aload_n hx hb dL_law_659 rfl (lv_at hl 4 rfl) ?_
  refine lv_iload hx hb dL_law_660 (lv_at hl 0 rfl) ?_
  refine lv_iconst (v := 2) hx hb dL_law_662 (by decide) ?_
  refine lv_iadd hx hb dL_law_663 ?_
  refine va_sld hx hb hX hbl hbA hS h2 dL_law_664 ?_
  refine yVi [.int (xs (i + 1).toNatClampNeg), .int (xs (i + 2).toNatClampNeg)] S hE hA hPX (hPM.app hPO) hD hS (c_B_price l G z H.size ((xs (i + 1).toNatClampNeg)) ((xs (i + 2).toNatClampNeg)) _) hB (gw_c lk_L_80 (gw_c wi_X11_price (gw_c we_X11_X11_price_X11_price (gw_c wn_X11 (gw_c wc_X11_price (fun _ h9 => h9)))))) hq_X11_price rfl rfl (Nat.le_of_ble_eq_true rfl) (Nat.le_of_ble_eq_true rfl) ⟨by show cells + 0 ≤ 601024; omega, by show slots + 0 ≤ 7293034; omega⟩ (va_recv hE.1 hPX (ci := 10) (q0 := 0) rfl rfl) rfl hl.1 rfl (Nat.le_of_ble_eq_true rfl) dL_law_665 (fun r665 z H locs hB hPX hPr hD hS => ?_)
  obtain ⟨hPM, hPO⟩ := ySp hPr
  refine lv_aload_n hx hb dL_law_668 rfl (lv_at hl 2 rfl) ?_
  refine lv_aload_n hx hb dL_law_669 rfl (lv_at hl 4 rfl) ?_
  refine lv_iload hx hb dL_law_670 (lv_at hl 0 rfl) ?_
  refine lv_iconst (v := 1) hx hb dL_law_672 (by decide) ?_
  refine lv_iadd hx hb dL_law_673 ?_
  refine va_sld hx hb hX hbl hbA hS h1 dL_law_674 ?_
  refine lv_aload_n hx hb dL_law_675 rfl (lv_at hl 4 rfl) ?_
  refine lv_iload hx hb dL_law_676 (lv_at hl 0 rfl) ?_
  refine lv_iconst (v := 2) hx hb dL_law_678 (by decide) ?_
  refine lv_iadd hx hb dL_law_679 ?_
  refine va_sld hx hb hX hbl hbA hS h2 dL_law_680 ?_
  refine yVi [.int (xs (i + 1).toNatClampNeg), .int (xs (i + 2).toNatClampNeg)] S hE hA hPM (hPX.app hPO) (yD3 hD) hS (c_M_price l G y H.size ((xs (i + 1).toNatClampNeg)) ((xs (i + 2).toNatClampNeg)) _) hB (gw_c lk_L_83 (gw_c wi_X12_price (gw_c we_X12_X12_price_X12_price (gw_c wn_X12 (gw_c wc_X12_price (fun _ h9 => h9)))))) hq_X12_price rfl rfl (Nat.le_of_ble_eq_true rfl) (Nat.le_of_ble_eq_true rfl) ⟨by show cells + 0 + 0 ≤ 601024; omega, by show slots + 0 + 0 ≤ 7293034; omega⟩ (va_recv hE.1 hPM (ci := 11) (q0 := 0) rfl rfl) rfl hl.1 rfl (Nat.le_of_ble_eq_true rfl) dL_law_681 (fun r681 y H locs hB hPM hPr hD0 hS => ?_)
  obtain ⟨hPX, hPO⟩ := ySp hPr
  have hD := yD3 hD0
  refine lv_icmp_eq (tgt := 1661) hx hb dL_law_684 (by decide) (fun _ => ?_) (fun c9 => absurd hB.1 c9)
  refine W.widen (k := cells + 1) (n := slots + 241) (by omega) (by omega) ?_
  exact kk z y f H locs ls hB.2 hPX hPM hPO hD hS hl
set_option maxHeartbeats 4000000 in
set_option maxRecDepth 100000 in
theorem lc_years (S : CallFix p m c cL_law 7 s #[Value.ref b] GW RL) (hE : env G A s s.heap) (hA : ∀ q, s.heap.size ≤ q → A q) (hX : va_X b L xs s s.heap) (hbl : b < s.heap.size) (hbA : ¬ A b) {z y : St} {f : Nat → Int64} {H : Heap} {locs : List Loc} {ls : Array Slot} {cells slots : Nat} (hPX : va_P G.1 classes (wX G z) H) (hPM : va_P G.1 classes (wM G y) H) (hPO : va_P G.1 classes (wO ao cL f) H) (hD : va_D A (wX G z ++ (wM G y ++ wO ao cL f))) (hS : va_S A s.heap H locs) (hl : lv_has ls 7 [(4, .int i), (3, .ref ao), (2, .ref (ad G 100)), (1, .ref (ad G 0)), (0, .ref b)]) (hcs : cells + 1 ≤ 601024 ∧ slots + 241 ≤ 7293034) (h1 : vp_in (i + 1) L) (h2 : vp_in (i + 2) L) (h3 : vp_in (i + 3) L) (h4 : vp_in (i + 4) L) (h5 : vp_in (i + 5) L) (hB : S_B_years (fun r z1 => S_M_years (fun r1 y1 => r = r1 ∧ Inv z1 y1) ((xs (i + 1).toNatClampNeg)) ((((xs (i + 2).toNatClampNeg).toInt64 <<< ((32 : Int32).toInt64 &&& 63)) ||| ((xs (i + 3).toNatClampNeg).toInt64 &&& (4294967295 : Int64)))) y) ((xs (i + 1).toNatClampNeg)) ((((xs (i + 2).toNatClampNeg).toInt64 <<< ((32 : Int32).toInt64 &&& 63)) ||| ((xs (i + 3).toNatClampNeg).toInt64 &&& (4294967295 : Int64)))) z) (kk : YK p l e s m below meth c b L xs G A cL ao i Inv Q cells slots) : W p l e room_1 s m #[Value.ref b] below meth c H locs cells slots Q (F0 m 689 ls []) := by
  have hx := S.1
  have hb := S.2.1
  obtain ⟨hcs1, hcs2⟩ := hcs
  refine lv_aload_n hx hb dL_law_689 rfl (lv_at hl 3 rfl) ?_
  refine lv_aload_n hx hb dL_law_690 rfl (lv_at hl 4 rfl) ?_
  refine lv_iload hx hb dL_law_691 (lv_at hl 0 rfl) ?_
  refine lv_iconst (v := 1) hx hb dL_law_693 (by decide) ?_
  refine lv_iadd hx hb dL_law_694 ?_
  refine va_sld hx hb hX hbl hbA hS h1 dL_law_695 ?_
  refine lv_aload_n hx hb dL_law_696 rfl (lv_at hl 4 rfl) ?_
  refine lv_iload hx hb dL_law_697 (lv_at hl 0 rfl) ?_
  refine lv_iconst (v := 2) hx hb dL_law_699 (by decide) ?_
  refine lv_iadd hx hb dL_law_700 ?_
  refine va_sld hx hb hX hbl hbA hS h2 dL_law_701 ?_
  refine lv_i2l hx hb dL_law_702 rfl ?_
  refine lv_bipush (v := 32) hx hb dL_law_703 (by decide) ?_
  refine lv_lshl hx hb dL_law_705 rfl ?_
  refine lv_aload_n hx hb dL_law_706 rfl (lv_at hl 4 rfl) ?_
  refine lv_iload hx hb dL_law_707 (lv_at hl 0 rfl) ?_
  refine lv_iconst (v := 3) hx hb dL_law_709 (by decide) ?_
  refine lv_iadd hx hb dL_law_710 ?_
  refine va_sld hx hb hX hbl hbA hS h3 dL_law_711 ?_
  refine lv_i2l hx hb dL_law_712 rfl ?_
  refine lv_ldc2 hx hb S.2.2.2.1 (S.2.2.2.2 _ lk_L_84) dL_law_713 ?_
  refine lv_land hx hb dL_law_716 ?_
  refine lv_lor hx hb dL_law_717 ?_
  refine yVi [.int (xs (i + 1).toNatClampNeg), .long (((xs (i + 2).toNatClampNeg).toInt64 <<< ((32 : Int32).toInt64 &&& 63)) ||| ((xs (i + 3).toNatClampNeg).toInt64 &&& (4294967295 : Int64)))] S hE hA hPX (hPM.app hPO) hD hS (c_B_years l G z H.size ((xs (i + 1).toNatClampNeg)) ((((xs (i + 2).toNatClampNeg).toInt64 <<< ((32 : Int32).toInt64 &&& 63)) ||| ((xs (i + 3).toNatClampNeg).toInt64 &&& (4294967295 : Int64)))) _) hB (gw_c lk_L_86 (gw_c wi_X11_years (gw_c we_X11_X11_years_X11_years (gw_c wn_X11 (gw_c wc_X11_years (fun _ h9 => h9)))))) hq_X11_years rfl rfl (Nat.le_of_ble_eq_true rfl) (Nat.le_of_ble_eq_true rfl) ⟨by show cells + 0 ≤ 601024; omega, by show slots + 0 ≤ 7293034; omega⟩ (va_recv hE.1 hPX (ci := 10) (q0 := 0) rfl rfl) rfl hl.1 rfl (Nat.le_of_ble_eq_true rfl) dL_law_718 (fun r718 z H locs hB hPX hPr hD hS => ?_)
  obtain ⟨hPM, hPO⟩ := ySp hPr
  refine lv_aload_n hx hb dL_law_721 rfl (lv_at hl 2 rfl) ?_
  refine lv_aload_n hx hb dL_law_722 rfl (lv_at hl 4 rfl) ?_
  refine lv_iload hx hb dL_law_723 (lv_at hl 0 rfl) ?_
  refine lv_iconst (v := 1) hx hb dL_law_725 (by decide) ?_
  refine lv_iadd hx hb dL_law_726 ?_
  refine va_sld hx hb hX hbl hbA hS h1 dL_law_727 ?_
  refine lv_aload_n hx hb dL_law_728 rfl (lv_at hl 4 rfl) ?_
  refine lv_iload hx hb dL_law_729 (lv_at hl 0 rfl) ?_
  refine lv_iconst (v := 2) hx hb dL_law_731 (by decide) ?_
  refine lv_iadd hx hb dL_law_732 ?_
  refine va_sld hx hb hX hbl hbA hS h2 dL_law_733 ?_
  refine lv_i2l hx hb dL_law_734 rfl ?_
  refine lv_bipush (v := 32) hx hb dL_law_735 (by decide) ?_
  refine lv_lshl hx hb dL_law_737 rfl ?_
  refine lv_aload_n hx hb dL_law_738 rfl (lv_at hl 4 rfl) ?_
  refine lv_iload hx hb dL_law_739 (lv_at hl 0 rfl) ?_
  refine lv_iconst (v := 3) hx hb dL_law_741 (by decide) ?_
  refine lv_iadd hx hb dL_law_742 ?_
  refine va_sld hx hb hX hbl hbA hS h3 dL_law_743 ?_
  refine lv_i2l hx hb dL_law_744 rfl ?_
  refine lv_ldc2 hx hb S.2.2.2.1 (S.2.2.2.2 _ lk_L_84) dL_law_745 ?_
  refine lv_land hx hb dL_law_748 ?_
  refine lv_lor hx hb dL_law_749 ?_
  refine yVi [.int (xs (i + 1).toNatClampNeg), .long (((xs (i + 2).toNatClampNeg).toInt64 <<< ((32 : Int32).toInt64 &&& 63)) ||| ((xs (i + 3).toNatClampNeg).toInt64 &&& (4294967295 : Int64)))] S hE hA hPM (hPX.app hPO) (yD3 hD) hS (c_M_years l G y H.size ((xs (i + 1).toNatClampNeg)) ((((xs (i + 2).toNatClampNeg).toInt64 <<< ((32 : Int32).toInt64 &&& 63)) ||| ((xs (i + 3).toNatClampNeg).toInt64 &&& (4294967295 : Int64)))) _) hB (gw_c lk_L_90 (gw_c wi_X12_years (gw_c we_X12_X12_years_X12_years (gw_c wn_X12 (gw_c wc_X12_years (fun _ h9 => h9)))))) hq_X12_years rfl rfl (Nat.le_of_ble_eq_true rfl) (Nat.le_of_ble_eq_true rfl) ⟨by show cells + 0 + 0 ≤ 601024; omega, by show slots + 0 + 0 ≤ 7293034; omega⟩ (va_recv hE.1 hPM (ci := 11) (q0 := 0) rfl rfl) rfl hl.1 rfl (Nat.le_of_ble_eq_true rfl) dL_law_750 (fun r750 y H locs hB hPM hPr hD0 hS => ?_)
  obtain ⟨hPX, hPO⟩ := ySp hPr
  have hD := yD3 hD0
  refine lv_icmp_eq (tgt := 1661) hx hb dL_law_753 (by decide) (fun _ => ?_) (fun c9 => absurd hB.1 c9)
  refine W.widen (k := cells + 1) (n := slots + 241) (by omega) (by omega) ?_
  exact kk z y f H locs ls hB.2 hPX hPM hPO hD hS hl
set_option maxHeartbeats 4000000 in
set_option maxRecDepth 100000 in
theorem lc_undo (S : CallFix p m c cL_law 7 s #[Value.ref b] GW RL) (hE : env G A s s.heap) (hA : ∀ q, s.heap.size ≤ q → A q) (hX : va_X b L xs s s.heap) (hbl : b < s.heap.size) (hbA : ¬ A b) {z y : St} {f : Nat → Int64} {H : Heap} {locs : List Loc} {ls : Array Slot} {cells slots : Nat} (hPX : va_P G.1 classes (wX G z) H) (hPM : va_P G.1 classes (wM G y) H) (hPO : va_P G.1 classes (wO ao cL f) H) (hD : va_D A (wX G z ++ (wM G y ++ wO ao cL f))) (hS : va_S A s.heap H locs) (hl : lv_has ls 7 [(4, .int i), (3, .ref ao), (2, .ref (ad G 100)), (1, .ref (ad G 0)), (0, .ref b)]) (hcs : cells + 1 ≤ 601024 ∧ slots + 241 ≤ 7293034) (h1 : vp_in (i + 1) L) (h2 : vp_in (i + 2) L) (h3 : vp_in (i + 3) L) (h4 : vp_in (i + 4) L) (h5 : vp_in (i + 5) L) (hB : S_B_undo (fun r z1 => S_M_undo (fun r1 y1 => r = r1 ∧ Inv z1 y1)  y)  z) (kk : YK p l e s m below meth c b L xs G A cL ao i Inv Q cells slots) : W p l e room_1 s m #[Value.ref b] below meth c H locs cells slots Q (F0 m 758 ls []) := by
  have hx := S.1
  have hb := S.2.1
  obtain ⟨hcs1, hcs2⟩ := hcs
  refine lv_aload_n hx hb dL_law_758 rfl (lv_at hl 3 rfl) ?_
  refine yVi [] S hE hA hPX (hPM.app hPO) hD hS (c_B_undo l G z H.size  _) hB (gw_c lk_L_91 (gw_c wi_X11_undo (gw_c we_X11_X11_undo_X11_undo (gw_c wn_X11 (gw_c wc_X11_undo (fun _ h9 => h9)))))) hq_X11_undo rfl rfl (Nat.le_of_ble_eq_true rfl) (Nat.le_of_ble_eq_true rfl) ⟨by show cells + 0 ≤ 601024; omega, by show slots + 0 ≤ 7293034; omega⟩ (va_recv hE.1 hPX (ci := 10) (q0 := 0) rfl rfl) rfl hl.1 rfl (Nat.le_of_ble_eq_true rfl) dL_law_759 (fun r759 z H locs hB hPX hPr hD hS => ?_)
  obtain ⟨hPM, hPO⟩ := ySp hPr
  refine lv_aload_n hx hb dL_law_762 rfl (lv_at hl 2 rfl) ?_
  refine yVi [] S hE hA hPM (hPX.app hPO) (yD3 hD) hS (c_M_undo l G y H.size  _) hB (gw_c lk_L_94 (gw_c wi_X12_undo (gw_c we_X12_X12_undo_X12_undo (gw_c wn_X12 (gw_c wc_X12_undo (fun _ h9 => h9)))))) hq_X12_undo rfl rfl (Nat.le_of_ble_eq_true rfl) (Nat.le_of_ble_eq_true rfl) ⟨by show cells + 0 + 0 ≤ 601024; omega, by show slots + 0 + 0 ≤ 7293034; omega⟩ (va_recv hE.1 hPM (ci := 11) (q0 := 0) rfl rfl) rfl hl.1 rfl (Nat.le_of_ble_eq_true rfl) dL_law_763 (fun r763 y H locs hB hPM hPr hD0 hS => ?_)
  obtain ⟨hPX, hPO⟩ := ySp hPr
  have hD := yD3 hD0
  refine lv_icmp_eq (tgt := 1661) hx hb dL_law_766 (by decide) (fun _ => ?_) (fun c9 => absurd hB.1 c9)
  refine W.widen (k := cells + 1) (n := slots + 241) (by omega) (by omega) ?_
  exact kk z y f H locs ls hB.2 hPX hPM hPO hD hS hl
set_option maxHeartbeats 4000000 in
set_option maxRecDepth 100000 in
theorem lc_book (S : CallFix p m c cL_law 7 s #[Value.ref b] GW RL) (hE : env G A s s.heap) (hA : ∀ q, s.heap.size ≤ q → A q) (hX : va_X b L xs s s.heap) (hbl : b < s.heap.size) (hbA : ¬ A b) {z y : St} {f : Nat → Int64} {H : Heap} {locs : List Loc} {ls : Array Slot} {cells slots : Nat} (hPX : va_P G.1 classes (wX G z) H) (hPM : va_P G.1 classes (wM G y) H) (hPO : va_P G.1 classes (wO ao cL f) H) (hD : va_D A (wX G z ++ (wM G y ++ wO ao cL f))) (hS : va_S A s.heap H locs) (hl : lv_has ls 7 [(4, .int i), (3, .ref ao), (2, .ref (ad G 100)), (1, .ref (ad G 0)), (0, .ref b)]) (hcs : cells + 1 ≤ 601024 ∧ slots + 241 ≤ 7293034) (h1 : vp_in (i + 1) L) (h2 : vp_in (i + 2) L) (h3 : vp_in (i + 3) L) (h4 : vp_in (i + 4) L) (h5 : vp_in (i + 5) L) (hB : S_B_book (fun r z1 => S_M_book (fun r1 y1 => r = r1 ∧ Inv z1 y1) ((xs (i + 1).toNatClampNeg)) ((xs (i + 2).toNatClampNeg)) y) ((xs (i + 1).toNatClampNeg)) ((xs (i + 2).toNatClampNeg)) z) (kk : YK p l e s m below meth c b L xs G A cL ao i Inv Q cells slots) : W p l e room_1 s m #[Value.ref b] below meth c H locs cells slots Q (F0 m 771 ls []) := by
  have hx := S.1
  have hb := S.2.1
  obtain ⟨hcs1, hcs2⟩ := hcs
  refine lv_aload_n hx hb dL_law_771 rfl (lv_at hl 3 rfl) ?_
  refine lv_aload_n hx hb dL_law_772 rfl (lv_at hl 4 rfl) ?_
  refine lv_iload hx hb dL_law_773 (lv_at hl 0 rfl) ?_
  refine lv_iconst (v := 1) hx hb dL_law_775 (by decide) ?_
  refine lv_iadd hx hb dL_law_776 ?_
  refine va_sld hx hb hX hbl hbA hS h1 dL_law_777 ?_
  refine lv_aload_n hx hb dL_law_778 rfl (lv_at hl 4 rfl) ?_
  refine lv_iload hx hb dL_law_779 (lv_at hl 0 rfl) ?_
  refine lv_iconst (v := 2) hx hb dL_law_781 (by decide) ?_
  refine lv_iadd hx hb dL_law_782 ?_
  refine va_sld hx hb hX hbl hbA hS h2 dL_law_783 ?_
  refine yVi [.int (xs (i + 1).toNatClampNeg), .int (xs (i + 2).toNatClampNeg)] S hE hA hPX (hPM.app hPO) hD hS (c_B_book l G z H.size ((xs (i + 1).toNatClampNeg)) ((xs (i + 2).toNatClampNeg)) _) hB (gw_c lk_L_95 (gw_c wi_X11_book (gw_c we_X11_X11_book_X11_book (gw_c wn_X11 (gw_c wc_X11_book (fun _ h9 => h9)))))) hq_X11_book rfl rfl (Nat.le_of_ble_eq_true rfl) (Nat.le_of_ble_eq_true rfl) ⟨by show cells + 0 ≤ 601024; omega, by show slots + 0 ≤ 7293034; omega⟩ (va_recv hE.1 hPX (ci := 10) (q0 := 0) rfl rfl) rfl hl.1 rfl (Nat.le_of_ble_eq_true rfl) dL_law_784 (fun r784 z H locs hB hPX hPr hD hS => ?_)
  obtain ⟨hPM, hPO⟩ := ySp hPr
  refine lv_aload_n hx hb dL_law_787 rfl (lv_at hl 2 rfl) ?_
  refine lv_aload_n hx hb dL_law_788 rfl (lv_at hl 4 rfl) ?_
  refine lv_iload hx hb dL_law_789 (lv_at hl 0 rfl) ?_
  refine lv_iconst (v := 1) hx hb dL_law_791 (by decide) ?_
  refine lv_iadd hx hb dL_law_792 ?_
  refine va_sld hx hb hX hbl hbA hS h1 dL_law_793 ?_
  refine lv_aload_n hx hb dL_law_794 rfl (lv_at hl 4 rfl) ?_
  refine lv_iload hx hb dL_law_795 (lv_at hl 0 rfl) ?_
  refine lv_iconst (v := 2) hx hb dL_law_797 (by decide) ?_
  refine lv_iadd hx hb dL_law_798 ?_
  refine va_sld hx hb hX hbl hbA hS h2 dL_law_799 ?_
  refine yVi [.int (xs (i + 1).toNatClampNeg), .int (xs (i + 2).toNatClampNeg)] S hE hA hPM (hPX.app hPO) (yD3 hD) hS (c_M_book l G y H.size ((xs (i + 1).toNatClampNeg)) ((xs (i + 2).toNatClampNeg)) _) hB (gw_c lk_L_98 (gw_c wi_X12_book (gw_c we_X12_X12_book_X12_book (gw_c wn_X12 (gw_c wc_X12_book (fun _ h9 => h9)))))) hq_X12_book rfl rfl (Nat.le_of_ble_eq_true rfl) (Nat.le_of_ble_eq_true rfl) ⟨by show cells + 0 + 0 ≤ 601024; omega, by show slots + 0 + 0 ≤ 7293034; omega⟩ (va_recv hE.1 hPM (ci := 11) (q0 := 0) rfl rfl) rfl hl.1 rfl (Nat.le_of_ble_eq_true rfl) dL_law_800 (fun r800 y H locs hB hPM hPr hD0 hS => ?_)
  obtain ⟨hPX, hPO⟩ := ySp hPr
  have hD := yD3 hD0
  refine lv_icmp_eq (tgt := 1661) hx hb dL_law_803 (by decide) (fun _ => ?_) (fun c9 => absurd hB.1 c9)
  refine W.widen (k := cells + 1) (n := slots + 241) (by omega) (by omega) ?_
  exact kk z y f H locs ls hB.2 hPX hPM hPO hD hS hl
set_option maxHeartbeats 4000000 in
set_option maxRecDepth 100000 in
theorem lc_step (S : CallFix p m c cL_law 7 s #[Value.ref b] GW RL) (hE : env G A s s.heap) (hA : ∀ q, s.heap.size ≤ q → A q) (hX : va_X b L xs s s.heap) (hbl : b < s.heap.size) (hbA : ¬ A b) {z y : St} {f : Nat → Int64} {H : Heap} {locs : List Loc} {ls : Array Slot} {cells slots : Nat} (hPX : va_P G.1 classes (wX G z) H) (hPM : va_P G.1 classes (wM G y) H) (hPO : va_P G.1 classes (wO ao cL f) H) (hD : va_D A (wX G z ++ (wM G y ++ wO ao cL f))) (hS : va_S A s.heap H locs) (hl : lv_has ls 7 [(4, .int i), (3, .ref ao), (2, .ref (ad G 100)), (1, .ref (ad G 0)), (0, .ref b)]) (hcs : cells + 1 ≤ 601024 ∧ slots + 241 ≤ 7293034) (h1 : vp_in (i + 1) L) (h2 : vp_in (i + 2) L) (h3 : vp_in (i + 3) L) (h4 : vp_in (i + 4) L) (h5 : vp_in (i + 5) L) (hB : S_B_step (fun r z1 => S_M_step (fun r1 y1 => r = r1 ∧ Inv z1 y1) ((xs (i + 1).toNatClampNeg)) ((xs (i + 2).toNatClampNeg)) ((xs (i + 3).toNatClampNeg)) y) ((xs (i + 1).toNatClampNeg)) ((xs (i + 2).toNatClampNeg)) ((xs (i + 3).toNatClampNeg)) z) (kk : YK p l e s m below meth c b L xs G A cL ao i Inv Q cells slots) : W p l e room_1 s m #[Value.ref b] below meth c H locs cells slots Q (F0 m 808 ls []) := by
  have hx := S.1
  have hb := S.2.1
  obtain ⟨hcs1, hcs2⟩ := hcs
  refine lv_aload_n hx hb dL_law_808 rfl (lv_at hl 3 rfl) ?_
  refine lv_aload_n hx hb dL_law_809 rfl (lv_at hl 4 rfl) ?_
  refine lv_iload hx hb dL_law_810 (lv_at hl 0 rfl) ?_
  refine lv_iconst (v := 1) hx hb dL_law_812 (by decide) ?_
  refine lv_iadd hx hb dL_law_813 ?_
  refine va_sld hx hb hX hbl hbA hS h1 dL_law_814 ?_
  refine lv_aload_n hx hb dL_law_815 rfl (lv_at hl 4 rfl) ?_
  refine lv_iload hx hb dL_law_816 (lv_at hl 0 rfl) ?_
  refine lv_iconst (v := 2) hx hb dL_law_818 (by decide) ?_
  refine lv_iadd hx hb dL_law_819 ?_
  refine va_sld hx hb hX hbl hbA hS h2 dL_law_820 ?_
  refine lv_aload_n hx hb dL_law_821 rfl (lv_at hl 4 rfl) ?_
  refine lv_iload hx hb dL_law_822 (lv_at hl 0 rfl) ?_
  refine lv_iconst (v := 3) hx hb dL_law_824 (by decide) ?_
  refine lv_iadd hx hb dL_law_825 ?_
  refine va_sld hx hb hX hbl hbA hS h3 dL_law_826 ?_
  refine yVi [.int (xs (i + 1).toNatClampNeg), .int (xs (i + 2).toNatClampNeg), .int (xs (i + 3).toNatClampNeg)] S hE hA hPX (hPM.app hPO) hD hS (c_B_step l G z H.size ((xs (i + 1).toNatClampNeg)) ((xs (i + 2).toNatClampNeg)) ((xs (i + 3).toNatClampNeg)) _) hB (gw_c lk_L_99 (gw_c wi_X11_step (gw_c we_X11_X11_step_X11_step (gw_c wn_X11 (gw_c wc_X11_step (fun _ h9 => h9)))))) hq_X11_step rfl rfl (Nat.le_of_ble_eq_true rfl) (Nat.le_of_ble_eq_true rfl) ⟨by show cells + 0 ≤ 601024; omega, by show slots + 0 ≤ 7293034; omega⟩ (va_recv hE.1 hPX (ci := 10) (q0 := 0) rfl rfl) rfl hl.1 rfl (Nat.le_of_ble_eq_true rfl) dL_law_827 (fun r827 z H locs hB hPX hPr hD hS => ?_)
  obtain ⟨hPM, hPO⟩ := ySp hPr
  refine lv_aload_n hx hb dL_law_830 rfl (lv_at hl 2 rfl) ?_
  refine lv_aload_n hx hb dL_law_831 rfl (lv_at hl 4 rfl) ?_
  refine lv_iload hx hb dL_law_832 (lv_at hl 0 rfl) ?_
  refine lv_iconst (v := 1) hx hb dL_law_834 (by decide) ?_
  refine lv_iadd hx hb dL_law_835 ?_
  refine va_sld hx hb hX hbl hbA hS h1 dL_law_836 ?_
  refine lv_aload_n hx hb dL_law_837 rfl (lv_at hl 4 rfl) ?_
  refine lv_iload hx hb dL_law_838 (lv_at hl 0 rfl) ?_
  refine lv_iconst (v := 2) hx hb dL_law_840 (by decide) ?_
  refine lv_iadd hx hb dL_law_841 ?_
  refine va_sld hx hb hX hbl hbA hS h2 dL_law_842 ?_
  refine lv_aload_n hx hb dL_law_843 rfl (lv_at hl 4 rfl) ?_
  refine lv_iload hx hb dL_law_844 (lv_at hl 0 rfl) ?_
  refine lv_iconst (v := 3) hx hb dL_law_846 (by decide) ?_
  refine lv_iadd hx hb dL_law_847 ?_
  refine va_sld hx hb hX hbl hbA hS h3 dL_law_848 ?_
  refine yVi [.int (xs (i + 1).toNatClampNeg), .int (xs (i + 2).toNatClampNeg), .int (xs (i + 3).toNatClampNeg)] S hE hA hPM (hPX.app hPO) (yD3 hD) hS (c_M_step l G y H.size ((xs (i + 1).toNatClampNeg)) ((xs (i + 2).toNatClampNeg)) ((xs (i + 3).toNatClampNeg)) _) hB (gw_c lk_L_103 (gw_c wi_X12_step (gw_c we_X12_X12_step_X12_step (gw_c wn_X12 (gw_c wc_X12_step (fun _ h9 => h9)))))) hq_X12_step rfl rfl (Nat.le_of_ble_eq_true rfl) (Nat.le_of_ble_eq_true rfl) ⟨by show cells + 0 + 0 ≤ 601024; omega, by show slots + 0 + 0 ≤ 7293034; omega⟩ (va_recv hE.1 hPM (ci := 11) (q0 := 0) rfl rfl) rfl hl.1 rfl (Nat.le_of_ble_eq_true rfl) dL_law_849 (fun r849 y H locs hB hPM hPr hD0 hS => ?_)
  obtain ⟨hPX, hPO⟩ := ySp hPr
  have hD := yD3 hD0
  refine lv_icmp_eq (tgt := 1661) hx hb dL_law_852 (by decide) (fun _ => ?_) (fun c9 => absurd hB.1 c9)
  refine W.widen (k := cells + 1) (n := slots + 241) (by omega) (by omega) ?_
  exact kk z y f H locs ls hB.2 hPX hPM hPO hD hS hl
set_option maxHeartbeats 4000000 in
set_option maxRecDepth 100000 in
theorem lc_run (S : CallFix p m c cL_law 7 s #[Value.ref b] GW RL) (hE : env G A s s.heap) (hA : ∀ q, s.heap.size ≤ q → A q) (hX : va_X b L xs s s.heap) (hbl : b < s.heap.size) (hbA : ¬ A b) {z y : St} {f : Nat → Int64} {H : Heap} {locs : List Loc} {ls : Array Slot} {cells slots : Nat} (hPX : va_P G.1 classes (wX G z) H) (hPM : va_P G.1 classes (wM G y) H) (hPO : va_P G.1 classes (wO ao cL f) H) (hD : va_D A (wX G z ++ (wM G y ++ wO ao cL f))) (hS : va_S A s.heap H locs) (hl : lv_has ls 7 [(4, .int i), (3, .ref ao), (2, .ref (ad G 100)), (1, .ref (ad G 0)), (0, .ref b)]) (hcs : cells + 1 ≤ 601024 ∧ slots + 241 ≤ 7293034) (h1 : vp_in (i + 1) L) (h2 : vp_in (i + 2) L) (h3 : vp_in (i + 3) L) (h4 : vp_in (i + 4) L) (h5 : vp_in (i + 5) L) (hB : S_B_run (fun r z1 => S_M_run (fun r1 y1 => r = r1 ∧ Inv z1 y1) ((xs (i + 1).toNatClampNeg)) ((xs (i + 2).toNatClampNeg)) y) ((xs (i + 1).toNatClampNeg)) ((xs (i + 2).toNatClampNeg)) z) (kk : YK p l e s m below meth c b L xs G A cL ao i Inv Q cells slots) : W p l e room_1 s m #[Value.ref b] below meth c H locs cells slots Q (F0 m 857 ls []) := by
  have hx := S.1
  have hb := S.2.1
  obtain ⟨hcs1, hcs2⟩ := hcs
  refine lv_aload_n hx hb dL_law_857 rfl (lv_at hl 3 rfl) ?_
  refine lv_aload_n hx hb dL_law_858 rfl (lv_at hl 4 rfl) ?_
  refine lv_iload hx hb dL_law_859 (lv_at hl 0 rfl) ?_
  refine lv_iconst (v := 1) hx hb dL_law_861 (by decide) ?_
  refine lv_iadd hx hb dL_law_862 ?_
  refine va_sld hx hb hX hbl hbA hS h1 dL_law_863 ?_
  refine lv_aload_n hx hb dL_law_864 rfl (lv_at hl 4 rfl) ?_
  refine lv_iload hx hb dL_law_865 (lv_at hl 0 rfl) ?_
  refine lv_iconst (v := 2) hx hb dL_law_867 (by decide) ?_
  refine lv_iadd hx hb dL_law_868 ?_
  refine va_sld hx hb hX hbl hbA hS h2 dL_law_869 ?_
  refine yVi [.int (xs (i + 1).toNatClampNeg), .int (xs (i + 2).toNatClampNeg)] S hE hA hPX (hPM.app hPO) hD hS (c_B_run l G z H.size ((xs (i + 1).toNatClampNeg)) ((xs (i + 2).toNatClampNeg)) _) hB (gw_c lk_L_104 (gw_c wi_X11_run (gw_c we_X11_X11_run_X11_run (gw_c wn_X11 (gw_c wc_X11_run (fun _ h9 => h9)))))) hq_X11_run rfl rfl (Nat.le_of_ble_eq_true rfl) (Nat.le_of_ble_eq_true rfl) ⟨by show cells + 0 ≤ 601024; omega, by show slots + 0 ≤ 7293034; omega⟩ (va_recv hE.1 hPX (ci := 10) (q0 := 0) rfl rfl) rfl hl.1 rfl (Nat.le_of_ble_eq_true rfl) dL_law_870 (fun r870 z H locs hB hPX hPr hD hS => ?_)
  obtain ⟨hPM, hPO⟩ := ySp hPr
  refine lv_aload_n hx hb dL_law_873 rfl (lv_at hl 2 rfl) ?_
  refine lv_aload_n hx hb dL_law_874 rfl (lv_at hl 4 rfl) ?_
  refine lv_iload hx hb dL_law_875 (lv_at hl 0 rfl) ?_
  refine lv_iconst (v := 1) hx hb dL_law_877 (by decide) ?_
  refine lv_iadd hx hb dL_law_878 ?_
  refine va_sld hx hb hX hbl hbA hS h1 dL_law_879 ?_
  refine lv_aload_n hx hb dL_law_880 rfl (lv_at hl 4 rfl) ?_
  refine lv_iload hx hb dL_law_881 (lv_at hl 0 rfl) ?_
  refine lv_iconst (v := 2) hx hb dL_law_883 (by decide) ?_
  refine lv_iadd hx hb dL_law_884 ?_
  refine va_sld hx hb hX hbl hbA hS h2 dL_law_885 ?_
  refine yVi [.int (xs (i + 1).toNatClampNeg), .int (xs (i + 2).toNatClampNeg)] S hE hA hPM (hPX.app hPO) (yD3 hD) hS (c_M_run l G y H.size ((xs (i + 1).toNatClampNeg)) ((xs (i + 2).toNatClampNeg)) _) hB (gw_c lk_L_107 (gw_c wi_X12_run (gw_c we_X12_X12_run_X12_run (gw_c wn_X12 (gw_c wc_X12_run (fun _ h9 => h9)))))) hq_X12_run rfl rfl (Nat.le_of_ble_eq_true rfl) (Nat.le_of_ble_eq_true rfl) ⟨by show cells + 0 + 0 ≤ 601024; omega, by show slots + 0 + 0 ≤ 7293034; omega⟩ (va_recv hE.1 hPM (ci := 11) (q0 := 0) rfl rfl) rfl hl.1 rfl (Nat.le_of_ble_eq_true rfl) dL_law_886 (fun r886 y H locs hB hPM hPr hD0 hS => ?_)
  obtain ⟨hPX, hPO⟩ := ySp hPr
  have hD := yD3 hD0
  refine lv_icmp_eq (tgt := 1661) hx hb dL_law_889 (by decide) (fun _ => ?_) (fun c9 => absurd hB.1 c9)
  refine W.widen (k := cells + 1) (n := slots + 241) (by omega) (by omega) ?_
  exact kk z y f H locs ls hB.2 hPX hPM hPO hD hS hl
set_option maxHeartbeats 4000000 in
set_option maxRecDepth 100000 in
theorem lc_perform (S : CallFix p m c cL_law 7 s #[Value.ref b] GW RL) (hE : env G A s s.heap) (hA : ∀ q, s.heap.size ≤ q → A q) (hX : va_X b L xs s s.heap) (hbl : b < s.heap.size) (hbA : ¬ A b) {z y : St} {f : Nat → Int64} {H : Heap} {locs : List Loc} {ls : Array Slot} {cells slots : Nat} (hPX : va_P G.1 classes (wX G z) H) (hPM : va_P G.1 classes (wM G y) H) (hPO : va_P G.1 classes (wO ao cL f) H) (hD : va_D A (wX G z ++ (wM G y ++ wO ao cL f))) (hS : va_S A s.heap H locs) (hl : lv_has ls 7 [(4, .int i), (3, .ref ao), (2, .ref (ad G 100)), (1, .ref (ad G 0)), (0, .ref b)]) (hcs : cells + 1 ≤ 601024 ∧ slots + 241 ≤ 7293034) (h1 : vp_in (i + 1) L) (h2 : vp_in (i + 2) L) (h3 : vp_in (i + 3) L) (h4 : vp_in (i + 4) L) (h5 : vp_in (i + 5) L) (hB : S_B_perform (fun r z1 => S_M_perform (fun r1 y1 => r = r1 ∧ Inv z1 y1) ((xs (i + 1).toNatClampNeg)) y) ((xs (i + 1).toNatClampNeg)) z) (kk : YK p l e s m below meth c b L xs G A cL ao i Inv Q cells slots) : W p l e room_1 s m #[Value.ref b] below meth c H locs cells slots Q (F0 m 894 ls []) := by
  have hx := S.1
  have hb := S.2.1
  obtain ⟨hcs1, hcs2⟩ := hcs
  refine lv_aload_n hx hb dL_law_894 rfl (lv_at hl 3 rfl) ?_
  refine lv_aload_n hx hb dL_law_895 rfl (lv_at hl 4 rfl) ?_
  refine lv_iload hx hb dL_law_896 (lv_at hl 0 rfl) ?_
  refine lv_iconst (v := 1) hx hb dL_law_898 (by decide) ?_
  refine lv_iadd hx hb dL_law_899 ?_
  refine va_sld hx hb hX hbl hbA hS h1 dL_law_900 ?_
  refine yVi [.int (xs (i + 1).toNatClampNeg)] S hE hA hPX (hPM.app hPO) hD hS (c_B_perform l G z H.size ((xs (i + 1).toNatClampNeg)) _) hB (gw_c lk_L_108 (gw_c wi_X11_perform (gw_c we_X11_X11_perform_X11_perform (gw_c wn_X11 (gw_c wc_X11_perform (fun _ h9 => h9)))))) hq_X11_perform rfl rfl (Nat.le_of_ble_eq_true rfl) (Nat.le_of_ble_eq_true rfl) ⟨by show cells + 0 ≤ 601024; omega, by show slots + 0 ≤ 7293034; omega⟩ (va_recv hE.1 hPX (ci := 10) (q0 := 0) rfl rfl) rfl hl.1 rfl (Nat.le_of_ble_eq_true rfl) dL_law_901 (fun r901 z H locs hB hPX hPr hD hS => ?_)
  obtain ⟨hPM, hPO⟩ := ySp hPr
  refine lv_aload_n hx hb dL_law_904 rfl (lv_at hl 2 rfl) ?_
  refine lv_aload_n hx hb dL_law_905 rfl (lv_at hl 4 rfl) ?_
  refine lv_iload hx hb dL_law_906 (lv_at hl 0 rfl) ?_
  refine lv_iconst (v := 1) hx hb dL_law_908 (by decide) ?_
  refine lv_iadd hx hb dL_law_909 ?_
  refine va_sld hx hb hX hbl hbA hS h1 dL_law_910 ?_
  refine yVi [.int (xs (i + 1).toNatClampNeg)] S hE hA hPM (hPX.app hPO) (yD3 hD) hS (c_M_perform l G y H.size ((xs (i + 1).toNatClampNeg)) _) hB (gw_c lk_L_111 (gw_c wi_X12_perform (gw_c we_X12_X12_perform_X12_perform (gw_c wn_X12 (gw_c wc_X12_perform (fun _ h9 => h9)))))) hq_X12_perform rfl rfl (Nat.le_of_ble_eq_true rfl) (Nat.le_of_ble_eq_true rfl) ⟨by show cells + 0 + 0 ≤ 601024; omega, by show slots + 0 + 0 ≤ 7293034; omega⟩ (va_recv hE.1 hPM (ci := 11) (q0 := 0) rfl rfl) rfl hl.1 rfl (Nat.le_of_ble_eq_true rfl) dL_law_911 (fun r911 y H locs hB hPM hPr hD0 hS => ?_)
  obtain ⟨hPX, hPO⟩ := ySp hPr
  have hD := yD3 hD0
  refine lv_icmp_eq (tgt := 1661) hx hb dL_law_914 (by decide) (fun _ => ?_) (fun c9 => absurd hB.1 c9)
  refine W.widen (k := cells + 1) (n := slots + 241) (by omega) (by omega) ?_
  exact kk z y f H locs ls hB.2 hPX hPM hPO hD hS hl
set_option maxHeartbeats 4000000 in
set_option maxRecDepth 100000 in
theorem lc_best (S : CallFix p m c cL_law 7 s #[Value.ref b] GW RL) (hE : env G A s s.heap) (hA : ∀ q, s.heap.size ≤ q → A q) (hX : va_X b L xs s s.heap) (hbl : b < s.heap.size) (hbA : ¬ A b) {z y : St} {f : Nat → Int64} {H : Heap} {locs : List Loc} {ls : Array Slot} {cells slots : Nat} (hPX : va_P G.1 classes (wX G z) H) (hPM : va_P G.1 classes (wM G y) H) (hPO : va_P G.1 classes (wO ao cL f) H) (hD : va_D A (wX G z ++ (wM G y ++ wO ao cL f))) (hS : va_S A s.heap H locs) (hl : lv_has ls 7 [(4, .int i), (3, .ref ao), (2, .ref (ad G 100)), (1, .ref (ad G 0)), (0, .ref b)]) (hcs : cells + 1 ≤ 601024 ∧ slots + 241 ≤ 7293034) (h1 : vp_in (i + 1) L) (h2 : vp_in (i + 2) L) (h3 : vp_in (i + 3) L) (h4 : vp_in (i + 4) L) (h5 : vp_in (i + 5) L) (hB : S_B_best (fun r z1 => S_M_best (fun r1 y1 => r = r1 ∧ Inv z1 y1) ((xs (i + 1).toNatClampNeg)) y) ((xs (i + 1).toNatClampNeg)) z) (kk : YK p l e s m below meth c b L xs G A cL ao i Inv Q cells slots) : W p l e room_1 s m #[Value.ref b] below meth c H locs cells slots Q (F0 m 919 ls []) := by
  have hx := S.1
  have hb := S.2.1
  obtain ⟨hcs1, hcs2⟩ := hcs
  refine lv_aload_n hx hb dL_law_919 rfl (lv_at hl 3 rfl) ?_
  refine lv_aload_n hx hb dL_law_920 rfl (lv_at hl 4 rfl) ?_
  refine lv_iload hx hb dL_law_921 (lv_at hl 0 rfl) ?_
  refine lv_iconst (v := 1) hx hb dL_law_923 (by decide) ?_
  refine lv_iadd hx hb dL_law_924 ?_
  refine va_sld hx hb hX hbl hbA hS h1 dL_law_925 ?_
  refine yVi [.int (xs (i + 1).toNatClampNeg)] S hE hA hPX (hPM.app hPO) hD hS (c_B_best l G z H.size ((xs (i + 1).toNatClampNeg)) _) hB (gw_c lk_L_112 (gw_c wi_X11_best (gw_c we_X11_X11_best_X11_best (gw_c wn_X11 (gw_c wc_X11_best (fun _ h9 => h9)))))) hq_X11_best rfl rfl (Nat.le_of_ble_eq_true rfl) (Nat.le_of_ble_eq_true rfl) ⟨by show cells + 0 ≤ 601024; omega, by show slots + 0 ≤ 7293034; omega⟩ (va_recv hE.1 hPX (ci := 10) (q0 := 0) rfl rfl) rfl hl.1 rfl (Nat.le_of_ble_eq_true rfl) dL_law_926 (fun r926 z H locs hB hPX hPr hD hS => ?_)
  obtain ⟨hPM, hPO⟩ := ySp hPr
  refine lv_aload_n hx hb dL_law_929 rfl (lv_at hl 2 rfl) ?_
  refine lv_aload_n hx hb dL_law_930 rfl (lv_at hl 4 rfl) ?_
  refine lv_iload hx hb dL_law_931 (lv_at hl 0 rfl) ?_
  refine lv_iconst (v := 1) hx hb dL_law_933 (by decide) ?_
  refine lv_iadd hx hb dL_law_934 ?_
  refine va_sld hx hb hX hbl hbA hS h1 dL_law_935 ?_
  refine yVi [.int (xs (i + 1).toNatClampNeg)] S hE hA hPM (hPX.app hPO) (yD3 hD) hS (c_M_best l G y H.size ((xs (i + 1).toNatClampNeg)) _) hB (gw_c lk_L_115 (gw_c wi_X12_best (gw_c we_X12_X12_best_X12_best (gw_c wn_X12 (gw_c wc_X12_best (fun _ h9 => h9)))))) hq_X12_best rfl rfl (Nat.le_of_ble_eq_true rfl) (Nat.le_of_ble_eq_true rfl) ⟨by show cells + 0 + 0 ≤ 601024; omega, by show slots + 0 + 0 ≤ 7293034; omega⟩ (va_recv hE.1 hPM (ci := 11) (q0 := 0) rfl rfl) rfl hl.1 rfl (Nat.le_of_ble_eq_true rfl) dL_law_936 (fun r936 y H locs hB hPM hPr hD0 hS => ?_)
  obtain ⟨hPX, hPO⟩ := ySp hPr
  have hD := yD3 hD0
  refine lv_icmp_eq (tgt := 1661) hx hb dL_law_939 (by decide) (fun _ => ?_) (fun c9 => absurd hB.1 c9)
  refine W.widen (k := cells + 1) (n := slots + 241) (by omega) (by omega) ?_
  exact kk z y f H locs ls hB.2 hPX hPM hPO hD hS hl
set_option maxHeartbeats 4000000 in
set_option maxRecDepth 100000 in
theorem lc_comes (S : CallFix p m c cL_law 7 s #[Value.ref b] GW RL) (hE : env G A s s.heap) (hA : ∀ q, s.heap.size ≤ q → A q) (hX : va_X b L xs s s.heap) (hbl : b < s.heap.size) (hbA : ¬ A b) {z y : St} {f : Nat → Int64} {H : Heap} {locs : List Loc} {ls : Array Slot} {cells slots : Nat} (hPX : va_P G.1 classes (wX G z) H) (hPM : va_P G.1 classes (wM G y) H) (hPO : va_P G.1 classes (wO ao cL f) H) (hD : va_D A (wX G z ++ (wM G y ++ wO ao cL f))) (hS : va_S A s.heap H locs) (hl : lv_has ls 7 [(4, .int i), (3, .ref ao), (2, .ref (ad G 100)), (1, .ref (ad G 0)), (0, .ref b)]) (hcs : cells + 1 ≤ 601024 ∧ slots + 241 ≤ 7293034) (h1 : vp_in (i + 1) L) (h2 : vp_in (i + 2) L) (h3 : vp_in (i + 3) L) (h4 : vp_in (i + 4) L) (h5 : vp_in (i + 5) L) (hB : S_B_comes (fun r z1 => S_M_comes (fun r1 y1 => r = r1 ∧ Inv z1 y1) ((xs (i + 1).toNatClampNeg)) ((xs (i + 2).toNatClampNeg)) y) ((xs (i + 1).toNatClampNeg)) ((xs (i + 2).toNatClampNeg)) z) (kk : YK p l e s m below meth c b L xs G A cL ao i Inv Q cells slots) : W p l e room_1 s m #[Value.ref b] below meth c H locs cells slots Q (F0 m 944 ls []) := by
  have hx := S.1
  have hb := S.2.1
  obtain ⟨hcs1, hcs2⟩ := hcs
  refine lv_aload_n hx hb dL_law_944 rfl (lv_at hl 3 rfl) ?_
  refine lv_aload_n hx hb dL_law_945 rfl (lv_at hl 4 rfl) ?_
  refine lv_iload hx hb dL_law_946 (lv_at hl 0 rfl) ?_
  refine lv_iconst (v := 1) hx hb dL_law_948 (by decide) ?_
  refine lv_iadd hx hb dL_law_949 ?_
  refine va_sld hx hb hX hbl hbA hS h1 dL_law_950 ?_
  refine lv_aload_n hx hb dL_law_951 rfl (lv_at hl 4 rfl) ?_
  refine lv_iload hx hb dL_law_952 (lv_at hl 0 rfl) ?_
  refine lv_iconst (v := 2) hx hb dL_law_954 (by decide) ?_
  refine lv_iadd hx hb dL_law_955 ?_
  refine va_sld hx hb hX hbl hbA hS h2 dL_law_956 ?_
  refine yVi [.int (xs (i + 1).toNatClampNeg), .int (xs (i + 2).toNatClampNeg)] S hE hA hPX (hPM.app hPO) hD hS (c_B_comes l G z H.size ((xs (i + 1).toNatClampNeg)) ((xs (i + 2).toNatClampNeg)) _) hB (gw_c lk_L_116 (gw_c wi_X11_comes (gw_c we_X11_X11_comes_X11_comes (gw_c wn_X11 (gw_c wc_X11_comes (fun _ h9 => h9)))))) hq_X11_comes rfl rfl (Nat.le_of_ble_eq_true rfl) (Nat.le_of_ble_eq_true rfl) ⟨by show cells + 0 ≤ 601024; omega, by show slots + 0 ≤ 7293034; omega⟩ (va_recv hE.1 hPX (ci := 10) (q0 := 0) rfl rfl) rfl hl.1 rfl (Nat.le_of_ble_eq_true rfl) dL_law_957 (fun r957 z H locs hB hPX hPr hD hS => ?_)
  obtain ⟨hPM, hPO⟩ := ySp hPr
  refine lv_aload_n hx hb dL_law_960 rfl (lv_at hl 2 rfl) ?_
  refine lv_aload_n hx hb dL_law_961 rfl (lv_at hl 4 rfl) ?_
  refine lv_iload hx hb dL_law_962 (lv_at hl 0 rfl) ?_
  refine lv_iconst (v := 1) hx hb dL_law_964 (by decide) ?_
  refine lv_iadd hx hb dL_law_965 ?_
  refine va_sld hx hb hX hbl hbA hS h1 dL_law_966 ?_
  refine lv_aload_n hx hb dL_law_967 rfl (lv_at hl 4 rfl) ?_
  refine lv_iload hx hb dL_law_968 (lv_at hl 0 rfl) ?_
  refine lv_iconst (v := 2) hx hb dL_law_970 (by decide) ?_
  refine lv_iadd hx hb dL_law_971 ?_
  refine va_sld hx hb hX hbl hbA hS h2 dL_law_972 ?_
  refine yVi [.int (xs (i + 1).toNatClampNeg), .int (xs (i + 2).toNatClampNeg)] S hE hA hPM (hPX.app hPO) (yD3 hD) hS (c_M_comes l G y H.size ((xs (i + 1).toNatClampNeg)) ((xs (i + 2).toNatClampNeg)) _) hB (gw_c lk_L_119 (gw_c wi_X12_comes (gw_c we_X12_X12_comes_X12_comes (gw_c wn_X12 (gw_c wc_X12_comes (fun _ h9 => h9)))))) hq_X12_comes rfl rfl (Nat.le_of_ble_eq_true rfl) (Nat.le_of_ble_eq_true rfl) ⟨by show cells + 0 + 0 ≤ 601024; omega, by show slots + 0 + 0 ≤ 7293034; omega⟩ (va_recv hE.1 hPM (ci := 11) (q0 := 0) rfl rfl) rfl hl.1 rfl (Nat.le_of_ble_eq_true rfl) dL_law_973 (fun r973 y H locs hB hPM hPr hD0 hS => ?_)
  obtain ⟨hPX, hPO⟩ := ySp hPr
  have hD := yD3 hD0
  refine lv_icmp_eq (tgt := 1661) hx hb dL_law_976 (by decide) (fun _ => ?_) (fun c9 => absurd hB.1 c9)
  refine W.widen (k := cells + 1) (n := slots + 241) (by omega) (by omega) ?_
  exact kk z y f H locs ls hB.2 hPX hPM hPO hD hS hl
set_option maxHeartbeats 4000000 in
set_option maxRecDepth 100000 in
theorem lc_soonest (S : CallFix p m c cL_law 7 s #[Value.ref b] GW RL) (hE : env G A s s.heap) (hA : ∀ q, s.heap.size ≤ q → A q) (hX : va_X b L xs s s.heap) (hbl : b < s.heap.size) (hbA : ¬ A b) {z y : St} {f : Nat → Int64} {H : Heap} {locs : List Loc} {ls : Array Slot} {cells slots : Nat} (hPX : va_P G.1 classes (wX G z) H) (hPM : va_P G.1 classes (wM G y) H) (hPO : va_P G.1 classes (wO ao cL f) H) (hD : va_D A (wX G z ++ (wM G y ++ wO ao cL f))) (hS : va_S A s.heap H locs) (hl : lv_has ls 7 [(4, .int i), (3, .ref ao), (2, .ref (ad G 100)), (1, .ref (ad G 0)), (0, .ref b)]) (hcs : cells + 1 ≤ 601024 ∧ slots + 241 ≤ 7293034) (h1 : vp_in (i + 1) L) (h2 : vp_in (i + 2) L) (h3 : vp_in (i + 3) L) (h4 : vp_in (i + 4) L) (h5 : vp_in (i + 5) L) (hB : S_B_soonest (fun r z1 => S_M_soonest (fun r1 y1 => r = r1 ∧ Inv z1 y1) ((xs (i + 1).toNatClampNeg)) ((xs (i + 2).toNatClampNeg)) y) ((xs (i + 1).toNatClampNeg)) ((xs (i + 2).toNatClampNeg)) z) (kk : YK p l e s m below meth c b L xs G A cL ao i Inv Q cells slots) : W p l e room_1 s m #[Value.ref b] below meth c H locs cells slots Q (F0 m 981 ls []) := by
  have hx := S.1
  have hb := S.2.1
  obtain ⟨hcs1, hcs2⟩ := hcs
  refine lv_aload_n hx hb dL_law_981 rfl (lv_at hl 3 rfl) ?_
  refine lv_aload_n hx hb dL_law_982 rfl (lv_at hl 4 rfl) ?_
  refine lv_iload hx hb dL_law_983 (lv_at hl 0 rfl) ?_
  refine lv_iconst (v := 1) hx hb dL_law_985 (by decide) ?_
  refine lv_iadd hx hb dL_law_986 ?_
  refine va_sld hx hb hX hbl hbA hS h1 dL_law_987 ?_
  refine lv_aload_n hx hb dL_law_988 rfl (lv_at hl 4 rfl) ?_
  refine lv_iload hx hb dL_law_989 (lv_at hl 0 rfl) ?_
  refine lv_iconst (v := 2) hx hb dL_law_991 (by decide) ?_
  refine lv_iadd hx hb dL_law_992 ?_
  refine va_sld hx hb hX hbl hbA hS h2 dL_law_993 ?_
  refine yVi [.int (xs (i + 1).toNatClampNeg), .int (xs (i + 2).toNatClampNeg)] S hE hA hPX (hPM.app hPO) hD hS (c_B_soonest l G z H.size ((xs (i + 1).toNatClampNeg)) ((xs (i + 2).toNatClampNeg)) _) hB (gw_c lk_L_120 (gw_c wi_X11_soonest (gw_c we_X11_X11_soonest_X11_soonest (gw_c wn_X11 (gw_c wc_X11_soonest (fun _ h9 => h9)))))) hq_X11_soonest rfl rfl (Nat.le_of_ble_eq_true rfl) (Nat.le_of_ble_eq_true rfl) ⟨by show cells + 0 ≤ 601024; omega, by show slots + 0 ≤ 7293034; omega⟩ (va_recv hE.1 hPX (ci := 10) (q0 := 0) rfl rfl) rfl hl.1 rfl (Nat.le_of_ble_eq_true rfl) dL_law_994 (fun r994 z H locs hB hPX hPr hD hS => ?_)
  obtain ⟨hPM, hPO⟩ := ySp hPr
  refine lv_aload_n hx hb dL_law_997 rfl (lv_at hl 2 rfl) ?_
  refine lv_aload_n hx hb dL_law_998 rfl (lv_at hl 4 rfl) ?_
  refine lv_iload hx hb dL_law_999 (lv_at hl 0 rfl) ?_
  refine lv_iconst (v := 1) hx hb dL_law_1001 (by decide) ?_
  refine lv_iadd hx hb dL_law_1002 ?_
  refine va_sld hx hb hX hbl hbA hS h1 dL_law_1003 ?_
  refine lv_aload_n hx hb dL_law_1004 rfl (lv_at hl 4 rfl) ?_
  refine lv_iload hx hb dL_law_1005 (lv_at hl 0 rfl) ?_
  refine lv_iconst (v := 2) hx hb dL_law_1007 (by decide) ?_
  refine lv_iadd hx hb dL_law_1008 ?_
  refine va_sld hx hb hX hbl hbA hS h2 dL_law_1009 ?_
  refine yVi [.int (xs (i + 1).toNatClampNeg), .int (xs (i + 2).toNatClampNeg)] S hE hA hPM (hPX.app hPO) (yD3 hD) hS (c_M_soonest l G y H.size ((xs (i + 1).toNatClampNeg)) ((xs (i + 2).toNatClampNeg)) _) hB (gw_c lk_L_123 (gw_c wi_X12_soonest (gw_c we_X12_X12_soonest_X12_soonest (gw_c wn_X12 (gw_c wc_X12_soonest (fun _ h9 => h9)))))) hq_X12_soonest rfl rfl (Nat.le_of_ble_eq_true rfl) (Nat.le_of_ble_eq_true rfl) ⟨by show cells + 0 + 0 ≤ 601024; omega, by show slots + 0 + 0 ≤ 7293034; omega⟩ (va_recv hE.1 hPM (ci := 11) (q0 := 0) rfl rfl) rfl hl.1 rfl (Nat.le_of_ble_eq_true rfl) dL_law_1010 (fun r1010 y H locs hB hPM hPr hD0 hS => ?_)
  obtain ⟨hPX, hPO⟩ := ySp hPr
  have hD := yD3 hD0
  refine lv_icmp_eq (tgt := 1661) hx hb dL_law_1013 (by decide) (fun _ => ?_) (fun c9 => absurd hB.1 c9)
  refine W.widen (k := cells + 1) (n := slots + 241) (by omega) (by omega) ?_
  exact kk z y f H locs ls hB.2 hPX hPM hPO hD hS hl
set_option maxHeartbeats 4000000 in
set_option maxRecDepth 100000 in
theorem lc_ends (S : CallFix p m c cL_law 7 s #[Value.ref b] GW RL) (hE : env G A s s.heap) (hA : ∀ q, s.heap.size ≤ q → A q) (hX : va_X b L xs s s.heap) (hbl : b < s.heap.size) (hbA : ¬ A b) {z y : St} {f : Nat → Int64} {H : Heap} {locs : List Loc} {ls : Array Slot} {cells slots : Nat} (hPX : va_P G.1 classes (wX G z) H) (hPM : va_P G.1 classes (wM G y) H) (hPO : va_P G.1 classes (wO ao cL f) H) (hD : va_D A (wX G z ++ (wM G y ++ wO ao cL f))) (hS : va_S A s.heap H locs) (hl : lv_has ls 7 [(4, .int i), (3, .ref ao), (2, .ref (ad G 100)), (1, .ref (ad G 0)), (0, .ref b)]) (hcs : cells + 1 ≤ 601024 ∧ slots + 241 ≤ 7293034) (h1 : vp_in (i + 1) L) (h2 : vp_in (i + 2) L) (h3 : vp_in (i + 3) L) (h4 : vp_in (i + 4) L) (h5 : vp_in (i + 5) L) (hB : S_B_ends (fun r z1 => S_M_ends (fun r1 y1 => r = r1 ∧ Inv z1 y1) ((xs (i + 1).toNatClampNeg)) y) ((xs (i + 1).toNatClampNeg)) z) (kk : YK p l e s m below meth c b L xs G A cL ao i Inv Q cells slots) : W p l e room_1 s m #[Value.ref b] below meth c H locs cells slots Q (F0 m 1018 ls []) := by
  have hx := S.1
  have hb := S.2.1
  obtain ⟨hcs1, hcs2⟩ := hcs
  refine lv_aload_n hx hb dL_law_1018 rfl (lv_at hl 3 rfl) ?_
  refine lv_aload_n hx hb dL_law_1019 rfl (lv_at hl 4 rfl) ?_
  refine lv_iload hx hb dL_law_1020 (lv_at hl 0 rfl) ?_
  refine lv_iconst (v := 1) hx hb dL_law_1022 (by decide) ?_
  refine lv_iadd hx hb dL_law_1023 ?_
  refine va_sld hx hb hX hbl hbA hS h1 dL_law_1024 ?_
  refine yVi [.int (xs (i + 1).toNatClampNeg)] S hE hA hPX (hPM.app hPO) hD hS (c_B_ends l G z H.size ((xs (i + 1).toNatClampNeg)) _) hB (gw_c lk_L_124 (gw_c wi_X11_ends (gw_c we_X11_X11_ends_X11_ends (gw_c wn_X11 (gw_c wc_X11_ends (fun _ h9 => h9)))))) hq_X11_ends rfl rfl (Nat.le_of_ble_eq_true rfl) (Nat.le_of_ble_eq_true rfl) ⟨by show cells + 0 ≤ 601024; omega, by show slots + 0 ≤ 7293034; omega⟩ (va_recv hE.1 hPX (ci := 10) (q0 := 0) rfl rfl) rfl hl.1 rfl (Nat.le_of_ble_eq_true rfl) dL_law_1025 (fun r1025 z H locs hB hPX hPr hD hS => ?_)
  obtain ⟨hPM, hPO⟩ := ySp hPr
  refine lv_aload_n hx hb dL_law_1028 rfl (lv_at hl 2 rfl) ?_
  refine lv_aload_n hx hb dL_law_1029 rfl (lv_at hl 4 rfl) ?_
  refine lv_iload hx hb dL_law_1030 (lv_at hl 0 rfl) ?_
  refine lv_iconst (v := 1) hx hb dL_law_1032 (by decide) ?_
  refine lv_iadd hx hb dL_law_1033 ?_
  refine va_sld hx hb hX hbl hbA hS h1 dL_law_1034 ?_
  refine yVi [.int (xs (i + 1).toNatClampNeg)] S hE hA hPM (hPX.app hPO) (yD3 hD) hS (c_M_ends l G y H.size ((xs (i + 1).toNatClampNeg)) _) hB (gw_c lk_L_127 (gw_c wi_X12_ends (gw_c we_X12_X12_ends_X12_ends (gw_c wn_X12 (gw_c wc_X12_ends (fun _ h9 => h9)))))) hq_X12_ends rfl rfl (Nat.le_of_ble_eq_true rfl) (Nat.le_of_ble_eq_true rfl) ⟨by show cells + 0 + 0 ≤ 601024; omega, by show slots + 0 + 0 ≤ 7293034; omega⟩ (va_recv hE.1 hPM (ci := 11) (q0 := 0) rfl rfl) rfl hl.1 rfl (Nat.le_of_ble_eq_true rfl) dL_law_1035 (fun r1035 y H locs hB hPM hPr hD0 hS => ?_)
  obtain ⟨hPX, hPO⟩ := ySp hPr
  have hD := yD3 hD0
  refine lv_icmp_eq (tgt := 1661) hx hb dL_law_1038 (by decide) (fun _ => ?_) (fun c9 => absurd hB.1 c9)
  refine W.widen (k := cells + 1) (n := slots + 241) (by omega) (by omega) ?_
  exact kk z y f H locs ls hB.2 hPX hPM hPO hD hS hl
set_option maxHeartbeats 4000000 in
set_option maxRecDepth 100000 in
theorem lc_round (S : CallFix p m c cL_law 7 s #[Value.ref b] GW RL) (hE : env G A s s.heap) (hA : ∀ q, s.heap.size ≤ q → A q) (hX : va_X b L xs s s.heap) (hbl : b < s.heap.size) (hbA : ¬ A b) {z y : St} {f : Nat → Int64} {H : Heap} {locs : List Loc} {ls : Array Slot} {cells slots : Nat} (hPX : va_P G.1 classes (wX G z) H) (hPM : va_P G.1 classes (wM G y) H) (hPO : va_P G.1 classes (wO ao cL f) H) (hD : va_D A (wX G z ++ (wM G y ++ wO ao cL f))) (hS : va_S A s.heap H locs) (hl : lv_has ls 7 [(4, .int i), (3, .ref ao), (2, .ref (ad G 100)), (1, .ref (ad G 0)), (0, .ref b)]) (hcs : cells + 1 ≤ 601024 ∧ slots + 241 ≤ 7293034) (h1 : vp_in (i + 1) L) (h2 : vp_in (i + 2) L) (h3 : vp_in (i + 3) L) (h4 : vp_in (i + 4) L) (h5 : vp_in (i + 5) L) (hB : S_B_round (fun r z1 => S_M_round (fun r1 y1 => r = r1 ∧ Inv z1 y1) ((xs (i + 1).toNatClampNeg)) y) ((xs (i + 1).toNatClampNeg)) z) (kk : YK p l e s m below meth c b L xs G A cL ao i Inv Q cells slots) : W p l e room_1 s m #[Value.ref b] below meth c H locs cells slots Q (F0 m 1043 ls []) := by
  have hx := S.1
  have hb := S.2.1
  obtain ⟨hcs1, hcs2⟩ := hcs
  refine lv_aload_n hx hb dL_law_1043 rfl (lv_at hl 3 rfl) ?_
  refine lv_aload_n hx hb dL_law_1044 rfl (lv_at hl 4 rfl) ?_
  refine lv_iload hx hb dL_law_1045 (lv_at hl 0 rfl) ?_
  refine lv_iconst (v := 1) hx hb dL_law_1047 (by decide) ?_
  refine lv_iadd hx hb dL_law_1048 ?_
  refine va_sld hx hb hX hbl hbA hS h1 dL_law_1049 ?_
  refine yVi [.int (xs (i + 1).toNatClampNeg)] S hE hA hPX (hPM.app hPO) hD hS (c_B_round l G z H.size ((xs (i + 1).toNatClampNeg)) _) hB (gw_c lk_L_128 (gw_c wi_X11_round (gw_c we_X11_X11_round_X11_round (gw_c wn_X11 (gw_c wc_X11_round (fun _ h9 => h9)))))) hq_X11_round rfl rfl (Nat.le_of_ble_eq_true rfl) (Nat.le_of_ble_eq_true rfl) ⟨by show cells + 0 ≤ 601024; omega, by show slots + 0 ≤ 7293034; omega⟩ (va_recv hE.1 hPX (ci := 10) (q0 := 0) rfl rfl) rfl hl.1 rfl (Nat.le_of_ble_eq_true rfl) dL_law_1050 (fun r1050 z H locs hB hPX hPr hD hS => ?_)
  obtain ⟨hPM, hPO⟩ := ySp hPr
  refine lv_aload_n hx hb dL_law_1053 rfl (lv_at hl 2 rfl) ?_
  refine lv_aload_n hx hb dL_law_1054 rfl (lv_at hl 4 rfl) ?_
  refine lv_iload hx hb dL_law_1055 (lv_at hl 0 rfl) ?_
  refine lv_iconst (v := 1) hx hb dL_law_1057 (by decide) ?_
  refine lv_iadd hx hb dL_law_1058 ?_
  refine va_sld hx hb hX hbl hbA hS h1 dL_law_1059 ?_
  refine yVi [.int (xs (i + 1).toNatClampNeg)] S hE hA hPM (hPX.app hPO) (yD3 hD) hS (c_M_round l G y H.size ((xs (i + 1).toNatClampNeg)) _) hB (gw_c lk_L_131 (gw_c wi_X12_round (gw_c we_X12_X12_round_X12_round (gw_c wn_X12 (gw_c wc_X12_round (fun _ h9 => h9)))))) hq_X12_round rfl rfl (Nat.le_of_ble_eq_true rfl) (Nat.le_of_ble_eq_true rfl) ⟨by show cells + 0 + 0 ≤ 601024; omega, by show slots + 0 + 0 ≤ 7293034; omega⟩ (va_recv hE.1 hPM (ci := 11) (q0 := 0) rfl rfl) rfl hl.1 rfl (Nat.le_of_ble_eq_true rfl) dL_law_1060 (fun r1060 y H locs hB hPM hPr hD0 hS => ?_)
  obtain ⟨hPX, hPO⟩ := ySp hPr
  have hD := yD3 hD0
  refine lv_icmp_eq (tgt := 1661) hx hb dL_law_1063 (by decide) (fun _ => ?_) (fun c9 => absurd hB.1 c9)
  refine W.widen (k := cells + 1) (n := slots + 241) (by omega) (by omega) ?_
  exact kk z y f H locs ls hB.2 hPX hPM hPO hD hS hl
set_option maxHeartbeats 4000000 in
set_option maxRecDepth 100000 in
theorem lc_seen (S : CallFix p m c cL_law 7 s #[Value.ref b] GW RL) (hE : env G A s s.heap) (hA : ∀ q, s.heap.size ≤ q → A q) (hX : va_X b L xs s s.heap) (hbl : b < s.heap.size) (hbA : ¬ A b) {z y : St} {f : Nat → Int64} {H : Heap} {locs : List Loc} {ls : Array Slot} {cells slots : Nat} (hPX : va_P G.1 classes (wX G z) H) (hPM : va_P G.1 classes (wM G y) H) (hPO : va_P G.1 classes (wO ao cL f) H) (hD : va_D A (wX G z ++ (wM G y ++ wO ao cL f))) (hS : va_S A s.heap H locs) (hl : lv_has ls 7 [(4, .int i), (3, .ref ao), (2, .ref (ad G 100)), (1, .ref (ad G 0)), (0, .ref b)]) (hcs : cells + 1 ≤ 601024 ∧ slots + 241 ≤ 7293034) (h1 : vp_in (i + 1) L) (h2 : vp_in (i + 2) L) (h3 : vp_in (i + 3) L) (h4 : vp_in (i + 4) L) (h5 : vp_in (i + 5) L) (hB : S_B_seen (fun r z1 => S_M_seen (fun r1 y1 => r = r1 ∧ Inv z1 y1) ((xs (i + 1).toNatClampNeg)) ((xs (i + 2).toNatClampNeg)) ((xs (i + 3).toNatClampNeg)) ((xs (i + 4).toNatClampNeg)) y) ((xs (i + 1).toNatClampNeg)) ((xs (i + 2).toNatClampNeg)) ((xs (i + 3).toNatClampNeg)) ((xs (i + 4).toNatClampNeg)) z) (kk : YK p l e s m below meth c b L xs G A cL ao i Inv Q cells slots) : W p l e room_1 s m #[Value.ref b] below meth c H locs cells slots Q (F0 m 1068 ls []) := by
  have hx := S.1
  have hb := S.2.1
  obtain ⟨hcs1, hcs2⟩ := hcs
  refine lv_aload_n hx hb dL_law_1068 rfl (lv_at hl 3 rfl) ?_
  refine lv_aload_n hx hb dL_law_1069 rfl (lv_at hl 4 rfl) ?_
  refine lv_iload hx hb dL_law_1070 (lv_at hl 0 rfl) ?_
  refine lv_iconst (v := 1) hx hb dL_law_1072 (by decide) ?_
  refine lv_iadd hx hb dL_law_1073 ?_
  refine va_sld hx hb hX hbl hbA hS h1 dL_law_1074 ?_
  refine lv_aload_n hx hb dL_law_1075 rfl (lv_at hl 4 rfl) ?_
  refine lv_iload hx hb dL_law_1076 (lv_at hl 0 rfl) ?_
  refine lv_iconst (v := 2) hx hb dL_law_1078 (by decide) ?_
  refine lv_iadd hx hb dL_law_1079 ?_
  refine va_sld hx hb hX hbl hbA hS h2 dL_law_1080 ?_
  refine lv_aload_n hx hb dL_law_1081 rfl (lv_at hl 4 rfl) ?_
  refine lv_iload hx hb dL_law_1082 (lv_at hl 0 rfl) ?_
  refine lv_iconst (v := 3) hx hb dL_law_1084 (by decide) ?_
  refine lv_iadd hx hb dL_law_1085 ?_
  refine va_sld hx hb hX hbl hbA hS h3 dL_law_1086 ?_
  refine lv_aload_n hx hb dL_law_1087 rfl (lv_at hl 4 rfl) ?_
  refine lv_iload hx hb dL_law_1088 (lv_at hl 0 rfl) ?_
  refine lv_iconst (v := 4) hx hb dL_law_1090 (by decide) ?_
  refine lv_iadd hx hb dL_law_1091 ?_
  refine va_sld hx hb hX hbl hbA hS h4 dL_law_1092 ?_
  refine yVi [.int (xs (i + 1).toNatClampNeg), .int (xs (i + 2).toNatClampNeg), .int (xs (i + 3).toNatClampNeg), .int (xs (i + 4).toNatClampNeg)] S hE hA hPX (hPM.app hPO) hD hS (c_B_seen l G z H.size ((xs (i + 1).toNatClampNeg)) ((xs (i + 2).toNatClampNeg)) ((xs (i + 3).toNatClampNeg)) ((xs (i + 4).toNatClampNeg)) _) hB (gw_c lk_L_132 (gw_c wi_X11_seen (gw_c we_X11_X11_seen_X11_seen (gw_c wn_X11 (gw_c wc_X11_seen (fun _ h9 => h9)))))) hq_X11_seen rfl rfl (Nat.le_of_ble_eq_true rfl) (Nat.le_of_ble_eq_true rfl) ⟨by show cells + 0 ≤ 601024; omega, by show slots + 0 ≤ 7293034; omega⟩ (va_recv hE.1 hPX (ci := 10) (q0 := 0) rfl rfl) rfl hl.1 rfl (Nat.le_of_ble_eq_true rfl) dL_law_1093 (fun r1093 z H locs hB hPX hPr hD hS => ?_)
  obtain ⟨hPM, hPO⟩ := ySp hPr
  refine lv_aload_n hx hb dL_law_1096 rfl (lv_at hl 2 rfl) ?_
  refine lv_aload_n hx hb dL_law_1097 rfl (lv_at hl 4 rfl) ?_
  refine lv_iload hx hb dL_law_1098 (lv_at hl 0 rfl) ?_
  refine lv_iconst (v := 1) hx hb dL_law_1100 (by decide) ?_
  refine lv_iadd hx hb dL_law_1101 ?_
  refine va_sld hx hb hX hbl hbA hS h1 dL_law_1102 ?_
  refine lv_aload_n hx hb dL_law_1103 rfl (lv_at hl 4 rfl) ?_
  refine lv_iload hx hb dL_law_1104 (lv_at hl 0 rfl) ?_
  refine lv_iconst (v := 2) hx hb dL_law_1106 (by decide) ?_
  refine lv_iadd hx hb dL_law_1107 ?_
  refine va_sld hx hb hX hbl hbA hS h2 dL_law_1108 ?_
  refine lv_aload_n hx hb dL_law_1109 rfl (lv_at hl 4 rfl) ?_
  refine lv_iload hx hb dL_law_1110 (lv_at hl 0 rfl) ?_
  refine lv_iconst (v := 3) hx hb dL_law_1112 (by decide) ?_
  refine lv_iadd hx hb dL_law_1113 ?_
  refine va_sld hx hb hX hbl hbA hS h3 dL_law_1114 ?_
  refine lv_aload_n hx hb dL_law_1115 rfl (lv_at hl 4 rfl) ?_
  refine lv_iload hx hb dL_law_1116 (lv_at hl 0 rfl) ?_
  refine lv_iconst (v := 4) hx hb dL_law_1118 (by decide) ?_
  refine lv_iadd hx hb dL_law_1119 ?_
  refine va_sld hx hb hX hbl hbA hS h4 dL_law_1120 ?_
  refine yVi [.int (xs (i + 1).toNatClampNeg), .int (xs (i + 2).toNatClampNeg), .int (xs (i + 3).toNatClampNeg), .int (xs (i + 4).toNatClampNeg)] S hE hA hPM (hPX.app hPO) (yD3 hD) hS (c_M_seen l G y H.size ((xs (i + 1).toNatClampNeg)) ((xs (i + 2).toNatClampNeg)) ((xs (i + 3).toNatClampNeg)) ((xs (i + 4).toNatClampNeg)) _) hB (gw_c lk_L_136 (gw_c wi_X12_seen (gw_c we_X12_X12_seen_X12_seen (gw_c wn_X12 (gw_c wc_X12_seen (fun _ h9 => h9)))))) hq_X12_seen rfl rfl (Nat.le_of_ble_eq_true rfl) (Nat.le_of_ble_eq_true rfl) ⟨by show cells + 0 + 0 ≤ 601024; omega, by show slots + 0 + 0 ≤ 7293034; omega⟩ (va_recv hE.1 hPM (ci := 11) (q0 := 0) rfl rfl) rfl hl.1 rfl (Nat.le_of_ble_eq_true rfl) dL_law_1121 (fun r1121 y H locs hB hPM hPr hD0 hS => ?_)
  obtain ⟨hPX, hPO⟩ := ySp hPr
  have hD := yD3 hD0
  refine lv_icmp_eq (tgt := 1661) hx hb dL_law_1124 (by decide) (fun _ => ?_) (fun c9 => absurd hB.1 c9)
  refine W.widen (k := cells + 1) (n := slots + 241) (by omega) (by omega) ?_
  exact kk z y f H locs ls hB.2 hPX hPM hPO hD hS hl
set_option maxHeartbeats 4000000 in
set_option maxRecDepth 100000 in
theorem lc_fits (S : CallFix p m c cL_law 7 s #[Value.ref b] GW RL) (hE : env G A s s.heap) (hA : ∀ q, s.heap.size ≤ q → A q) (hX : va_X b L xs s s.heap) (hbl : b < s.heap.size) (hbA : ¬ A b) {z y : St} {f : Nat → Int64} {H : Heap} {locs : List Loc} {ls : Array Slot} {cells slots : Nat} (hPX : va_P G.1 classes (wX G z) H) (hPM : va_P G.1 classes (wM G y) H) (hPO : va_P G.1 classes (wO ao cL f) H) (hD : va_D A (wX G z ++ (wM G y ++ wO ao cL f))) (hS : va_S A s.heap H locs) (hl : lv_has ls 7 [(4, .int i), (3, .ref ao), (2, .ref (ad G 100)), (1, .ref (ad G 0)), (0, .ref b)]) (hcs : cells + 1 ≤ 601024 ∧ slots + 241 ≤ 7293034) (h1 : vp_in (i + 1) L) (h2 : vp_in (i + 2) L) (h3 : vp_in (i + 3) L) (h4 : vp_in (i + 4) L) (h5 : vp_in (i + 5) L) (hB : S_B_fits (fun r z1 => S_M_fits (fun r1 y1 => r = r1 ∧ Inv z1 y1) ((xs (i + 1).toNatClampNeg)) ((xs (i + 2).toNatClampNeg)) y) ((xs (i + 1).toNatClampNeg)) ((xs (i + 2).toNatClampNeg)) z) (kk : YK p l e s m below meth c b L xs G A cL ao i Inv Q cells slots) : W p l e room_1 s m #[Value.ref b] below meth c H locs cells slots Q (F0 m 1129 ls []) := by
  have hx := S.1
  have hb := S.2.1
  obtain ⟨hcs1, hcs2⟩ := hcs
  refine lv_aload_n hx hb dL_law_1129 rfl (lv_at hl 3 rfl) ?_
  refine lv_aload_n hx hb dL_law_1130 rfl (lv_at hl 4 rfl) ?_
  refine lv_iload hx hb dL_law_1131 (lv_at hl 0 rfl) ?_
  refine lv_iconst (v := 1) hx hb dL_law_1133 (by decide) ?_
  refine lv_iadd hx hb dL_law_1134 ?_
  refine va_sld hx hb hX hbl hbA hS h1 dL_law_1135 ?_
  refine lv_aload_n hx hb dL_law_1136 rfl (lv_at hl 4 rfl) ?_
  refine lv_iload hx hb dL_law_1137 (lv_at hl 0 rfl) ?_
  refine lv_iconst (v := 2) hx hb dL_law_1139 (by decide) ?_
  refine lv_iadd hx hb dL_law_1140 ?_
  refine va_sld hx hb hX hbl hbA hS h2 dL_law_1141 ?_
  refine yVi [.int (xs (i + 1).toNatClampNeg), .int (xs (i + 2).toNatClampNeg)] S hE hA hPX (hPM.app hPO) hD hS (c_B_fits l G z H.size ((xs (i + 1).toNatClampNeg)) ((xs (i + 2).toNatClampNeg)) _) hB (gw_c lk_L_137 (gw_c wi_X11_fits (gw_c we_X11_X11_fits_X11_fits (gw_c wn_X11 (gw_c wc_X11_fits (fun _ h9 => h9)))))) hq_X11_fits rfl rfl (Nat.le_of_ble_eq_true rfl) (Nat.le_of_ble_eq_true rfl) ⟨by show cells + 0 ≤ 601024; omega, by show slots + 0 ≤ 7293034; omega⟩ (va_recv hE.1 hPX (ci := 10) (q0 := 0) rfl rfl) rfl hl.1 rfl (Nat.le_of_ble_eq_true rfl) dL_law_1142 (fun r1142 z H locs hB hPX hPr hD hS => ?_)
  obtain ⟨hPM, hPO⟩ := ySp hPr
  refine lv_aload_n hx hb dL_law_1145 rfl (lv_at hl 2 rfl) ?_
  refine lv_aload_n hx hb dL_law_1146 rfl (lv_at hl 4 rfl) ?_
  refine lv_iload hx hb dL_law_1147 (lv_at hl 0 rfl) ?_
  refine lv_iconst (v := 1) hx hb dL_law_1149 (by decide) ?_
  refine lv_iadd hx hb dL_law_1150 ?_
  refine va_sld hx hb hX hbl hbA hS h1 dL_law_1151 ?_
  refine lv_aload_n hx hb dL_law_1152 rfl (lv_at hl 4 rfl) ?_
  refine lv_iload hx hb dL_law_1153 (lv_at hl 0 rfl) ?_
  refine lv_iconst (v := 2) hx hb dL_law_1155 (by decide) ?_
  refine lv_iadd hx hb dL_law_1156 ?_
  refine va_sld hx hb hX hbl hbA hS h2 dL_law_1157 ?_
  refine yVi [.int (xs (i + 1).toNatClampNeg), .int (xs (i + 2).toNatClampNeg)] S hE hA hPM (hPX.app hPO) (yD3 hD) hS (c_M_fits l G y H.size ((xs (i + 1).toNatClampNeg)) ((xs (i + 2).toNatClampNeg)) _) hB (gw_c lk_L_140 (gw_c wi_X12_fits (gw_c we_X12_X12_fits_X12_fits (gw_c wn_X12 (gw_c wc_X12_fits (fun _ h9 => h9)))))) hq_X12_fits rfl rfl (Nat.le_of_ble_eq_true rfl) (Nat.le_of_ble_eq_true rfl) ⟨by show cells + 0 + 0 ≤ 601024; omega, by show slots + 0 + 0 ≤ 7293034; omega⟩ (va_recv hE.1 hPM (ci := 11) (q0 := 0) rfl rfl) rfl hl.1 rfl (Nat.le_of_ble_eq_true rfl) dL_law_1158 (fun r1158 y H locs hB hPM hPr hD0 hS => ?_)
  obtain ⟨hPX, hPO⟩ := ySp hPr
  have hD := yD3 hD0
  refine lv_icmp_eq (tgt := 1661) hx hb dL_law_1161 (by decide) (fun _ => ?_) (fun c9 => absurd hB.1 c9)
  refine W.widen (k := cells + 1) (n := slots + 241) (by omega) (by omega) ?_
  exact kk z y f H locs ls hB.2 hPX hPM hPO hD hS hl
set_option maxHeartbeats 4000000 in
set_option maxRecDepth 100000 in
theorem lc_serve (S : CallFix p m c cL_law 7 s #[Value.ref b] GW RL) (hE : env G A s s.heap) (hA : ∀ q, s.heap.size ≤ q → A q) (hX : va_X b L xs s s.heap) (hbl : b < s.heap.size) (hbA : ¬ A b) {z y : St} {f : Nat → Int64} {H : Heap} {locs : List Loc} {ls : Array Slot} {cells slots : Nat} (hPX : va_P G.1 classes (wX G z) H) (hPM : va_P G.1 classes (wM G y) H) (hPO : va_P G.1 classes (wO ao cL f) H) (hD : va_D A (wX G z ++ (wM G y ++ wO ao cL f))) (hS : va_S A s.heap H locs) (hl : lv_has ls 7 [(4, .int i), (3, .ref ao), (2, .ref (ad G 100)), (1, .ref (ad G 0)), (0, .ref b)]) (hcs : cells + 1 ≤ 601024 ∧ slots + 241 ≤ 7293034) (h1 : vp_in (i + 1) L) (h2 : vp_in (i + 2) L) (h3 : vp_in (i + 3) L) (h4 : vp_in (i + 4) L) (h5 : vp_in (i + 5) L) (hB : S_B_serve (fun r z1 => S_M_serve (fun r1 y1 => r = r1 ∧ Inv z1 y1) ((xs (i + 1).toNatClampNeg)) ((xs (i + 2).toNatClampNeg)) y) ((xs (i + 1).toNatClampNeg)) ((xs (i + 2).toNatClampNeg)) z) (kk : YK p l e s m below meth c b L xs G A cL ao i Inv Q cells slots) : W p l e room_1 s m #[Value.ref b] below meth c H locs cells slots Q (F0 m 1166 ls []) := by
  have hx := S.1
  have hb := S.2.1
  obtain ⟨hcs1, hcs2⟩ := hcs
  refine lv_aload_n hx hb dL_law_1166 rfl (lv_at hl 3 rfl) ?_
  refine lv_aload_n hx hb dL_law_1167 rfl (lv_at hl 4 rfl) ?_
  refine lv_iload hx hb dL_law_1168 (lv_at hl 0 rfl) ?_
  refine lv_iconst (v := 1) hx hb dL_law_1170 (by decide) ?_
  refine lv_iadd hx hb dL_law_1171 ?_
  refine va_sld hx hb hX hbl hbA hS h1 dL_law_1172 ?_
  refine lv_aload_n hx hb dL_law_1173 rfl (lv_at hl 4 rfl) ?_
  refine lv_iload hx hb dL_law_1174 (lv_at hl 0 rfl) ?_
  refine lv_iconst (v := 2) hx hb dL_law_1176 (by decide) ?_
  refine lv_iadd hx hb dL_law_1177 ?_
  refine va_sld hx hb hX hbl hbA hS h2 dL_law_1178 ?_
  refine yVi [.int (xs (i + 1).toNatClampNeg), .int (xs (i + 2).toNatClampNeg)] S hE hA hPX (hPM.app hPO) hD hS (c_B_serve l G z H.size ((xs (i + 1).toNatClampNeg)) ((xs (i + 2).toNatClampNeg)) _) hB (gw_c lk_L_141 (gw_c wi_X11_serve (gw_c we_X11_X11_serve_X11_serve (gw_c wn_X11 (gw_c wc_X11_serve (fun _ h9 => h9)))))) hq_X11_serve rfl rfl (Nat.le_of_ble_eq_true rfl) (Nat.le_of_ble_eq_true rfl) ⟨by show cells + 0 ≤ 601024; omega, by show slots + 0 ≤ 7293034; omega⟩ (va_recv hE.1 hPX (ci := 10) (q0 := 0) rfl rfl) rfl hl.1 rfl (Nat.le_of_ble_eq_true rfl) dL_law_1179 (fun r1179 z H locs hB hPX hPr hD hS => ?_)
  obtain ⟨hPM, hPO⟩ := ySp hPr
  refine lv_aload_n hx hb dL_law_1182 rfl (lv_at hl 2 rfl) ?_
  refine lv_aload_n hx hb dL_law_1183 rfl (lv_at hl 4 rfl) ?_
  refine lv_iload hx hb dL_law_1184 (lv_at hl 0 rfl) ?_
  refine lv_iconst (v := 1) hx hb dL_law_1186 (by decide) ?_
  refine lv_iadd hx hb dL_law_1187 ?_
  refine va_sld hx hb hX hbl hbA hS h1 dL_law_1188 ?_
  refine lv_aload_n hx hb dL_law_1189 rfl (lv_at hl 4 rfl) ?_
  refine lv_iload hx hb dL_law_1190 (lv_at hl 0 rfl) ?_
  refine lv_iconst (v := 2) hx hb dL_law_1192 (by decide) ?_
  refine lv_iadd hx hb dL_law_1193 ?_
  refine va_sld hx hb hX hbl hbA hS h2 dL_law_1194 ?_
  refine yVi [.int (xs (i + 1).toNatClampNeg), .int (xs (i + 2).toNatClampNeg)] S hE hA hPM (hPX.app hPO) (yD3 hD) hS (c_M_serve l G y H.size ((xs (i + 1).toNatClampNeg)) ((xs (i + 2).toNatClampNeg)) _) hB (gw_c lk_L_144 (gw_c wi_X12_serve (gw_c we_X12_X12_serve_X12_serve (gw_c wn_X12 (gw_c wc_X12_serve (fun _ h9 => h9)))))) hq_X12_serve rfl rfl (Nat.le_of_ble_eq_true rfl) (Nat.le_of_ble_eq_true rfl) ⟨by show cells + 0 + 0 ≤ 601024; omega, by show slots + 0 + 0 ≤ 7293034; omega⟩ (va_recv hE.1 hPM (ci := 11) (q0 := 0) rfl rfl) rfl hl.1 rfl (Nat.le_of_ble_eq_true rfl) dL_law_1195 (fun r1195 y H locs hB hPM hPr hD0 hS => ?_)
  obtain ⟨hPX, hPO⟩ := ySp hPr
  have hD := yD3 hD0
  refine lv_icmp_eq (tgt := 1661) hx hb dL_law_1198 (by decide) (fun _ => ?_) (fun c9 => absurd hB.1 c9)
  refine W.widen (k := cells + 1) (n := slots + 241) (by omega) (by omega) ?_
  exact kk z y f H locs ls hB.2 hPX hPM hPO hD hS hl
set_option maxHeartbeats 4000000 in
set_option maxRecDepth 100000 in
theorem lc_who (S : CallFix p m c cL_law 7 s #[Value.ref b] GW RL) (hE : env G A s s.heap) (hA : ∀ q, s.heap.size ≤ q → A q) (hX : va_X b L xs s s.heap) (hbl : b < s.heap.size) (hbA : ¬ A b) {z y : St} {f : Nat → Int64} {H : Heap} {locs : List Loc} {ls : Array Slot} {cells slots : Nat} (hPX : va_P G.1 classes (wX G z) H) (hPM : va_P G.1 classes (wM G y) H) (hPO : va_P G.1 classes (wO ao cL f) H) (hD : va_D A (wX G z ++ (wM G y ++ wO ao cL f))) (hS : va_S A s.heap H locs) (hl : lv_has ls 7 [(4, .int i), (3, .ref ao), (2, .ref (ad G 100)), (1, .ref (ad G 0)), (0, .ref b)]) (hcs : cells + 1 ≤ 601024 ∧ slots + 241 ≤ 7293034) (h1 : vp_in (i + 1) L) (h2 : vp_in (i + 2) L) (h3 : vp_in (i + 3) L) (h4 : vp_in (i + 4) L) (h5 : vp_in (i + 5) L) (hB : S_B_who (fun r z1 => S_M_who (fun r1 y1 => r = r1 ∧ Inv z1 y1) ((xs (i + 1).toNatClampNeg)) ((xs (i + 2).toNatClampNeg)) ((xs (i + 3).toNatClampNeg)) y) ((xs (i + 1).toNatClampNeg)) ((xs (i + 2).toNatClampNeg)) ((xs (i + 3).toNatClampNeg)) z) (kk : YK p l e s m below meth c b L xs G A cL ao i Inv Q cells slots) : W p l e room_1 s m #[Value.ref b] below meth c H locs cells slots Q (F0 m 1203 ls []) := by
  have hx := S.1
  have hb := S.2.1
  obtain ⟨hcs1, hcs2⟩ := hcs
  refine lv_aload_n hx hb dL_law_1203 rfl (lv_at hl 3 rfl) ?_
  refine lv_aload_n hx hb dL_law_1204 rfl (lv_at hl 4 rfl) ?_
  refine lv_iload hx hb dL_law_1205 (lv_at hl 0 rfl) ?_
  refine lv_iconst (v := 1) hx hb dL_law_1207 (by decide) ?_
  refine lv_iadd hx hb dL_law_1208 ?_
  refine va_sld hx hb hX hbl hbA hS h1 dL_law_1209 ?_
  refine lv_aload_n hx hb dL_law_1210 rfl (lv_at hl 4 rfl) ?_
  refine lv_iload hx hb dL_law_1211 (lv_at hl 0 rfl) ?_
  refine lv_iconst (v := 2) hx hb dL_law_1213 (by decide) ?_
  refine lv_iadd hx hb dL_law_1214 ?_
  refine va_sld hx hb hX hbl hbA hS h2 dL_law_1215 ?_
  refine lv_aload_n hx hb dL_law_1216 rfl (lv_at hl 4 rfl) ?_
  refine lv_iload hx hb dL_law_1217 (lv_at hl 0 rfl) ?_
  refine lv_iconst (v := 3) hx hb dL_law_1219 (by decide) ?_
  refine lv_iadd hx hb dL_law_1220 ?_
  refine va_sld hx hb hX hbl hbA hS h3 dL_law_1221 ?_
  refine yVi [.int (xs (i + 1).toNatClampNeg), .int (xs (i + 2).toNatClampNeg), .int (xs (i + 3).toNatClampNeg)] S hE hA hPX (hPM.app hPO) hD hS (c_B_who l G z H.size ((xs (i + 1).toNatClampNeg)) ((xs (i + 2).toNatClampNeg)) ((xs (i + 3).toNatClampNeg)) _) hB (gw_c lk_L_145 (gw_c wi_X11_who (gw_c we_X11_X11_who_X11_who (gw_c wn_X11 (gw_c wc_X11_who (fun _ h9 => h9)))))) hq_X11_who rfl rfl (Nat.le_of_ble_eq_true rfl) (Nat.le_of_ble_eq_true rfl) ⟨by show cells + 0 ≤ 601024; omega, by show slots + 0 ≤ 7293034; omega⟩ (va_recv hE.1 hPX (ci := 10) (q0 := 0) rfl rfl) rfl hl.1 rfl (Nat.le_of_ble_eq_true rfl) dL_law_1222 (fun r1222 z H locs hB hPX hPr hD hS => ?_)
  obtain ⟨hPM, hPO⟩ := ySp hPr
  refine lv_aload_n hx hb dL_law_1225 rfl (lv_at hl 2 rfl) ?_
  refine lv_aload_n hx hb dL_law_1226 rfl (lv_at hl 4 rfl) ?_
  refine lv_iload hx hb dL_law_1227 (lv_at hl 0 rfl) ?_
  refine lv_iconst (v := 1) hx hb dL_law_1229 (by decide) ?_
  refine lv_iadd hx hb dL_law_1230 ?_
  refine va_sld hx hb hX hbl hbA hS h1 dL_law_1231 ?_
  refine lv_aload_n hx hb dL_law_1232 rfl (lv_at hl 4 rfl) ?_
  refine lv_iload hx hb dL_law_1233 (lv_at hl 0 rfl) ?_
  refine lv_iconst (v := 2) hx hb dL_law_1235 (by decide) ?_
  refine lv_iadd hx hb dL_law_1236 ?_
  refine va_sld hx hb hX hbl hbA hS h2 dL_law_1237 ?_
  refine lv_aload_n hx hb dL_law_1238 rfl (lv_at hl 4 rfl) ?_
  refine lv_iload hx hb dL_law_1239 (lv_at hl 0 rfl) ?_
  refine lv_iconst (v := 3) hx hb dL_law_1241 (by decide) ?_
  refine lv_iadd hx hb dL_law_1242 ?_
  refine va_sld hx hb hX hbl hbA hS h3 dL_law_1243 ?_
  refine yVi [.int (xs (i + 1).toNatClampNeg), .int (xs (i + 2).toNatClampNeg), .int (xs (i + 3).toNatClampNeg)] S hE hA hPM (hPX.app hPO) (yD3 hD) hS (c_M_who l G y H.size ((xs (i + 1).toNatClampNeg)) ((xs (i + 2).toNatClampNeg)) ((xs (i + 3).toNatClampNeg)) _) hB (gw_c lk_L_148 (gw_c wi_X12_who (gw_c we_X12_X12_who_X12_who (gw_c wn_X12 (gw_c wc_X12_who (fun _ h9 => h9)))))) hq_X12_who rfl rfl (Nat.le_of_ble_eq_true rfl) (Nat.le_of_ble_eq_true rfl) ⟨by show cells + 0 + 0 ≤ 601024; omega, by show slots + 0 + 0 ≤ 7293034; omega⟩ (va_recv hE.1 hPM (ci := 11) (q0 := 0) rfl rfl) rfl hl.1 rfl (Nat.le_of_ble_eq_true rfl) dL_law_1244 (fun r1244 y H locs hB hPM hPr hD0 hS => ?_)
  obtain ⟨hPX, hPO⟩ := ySp hPr
  have hD := yD3 hD0
  refine lv_icmp_eq (tgt := 1661) hx hb dL_law_1247 (by decide) (fun _ => ?_) (fun c9 => absurd hB.1 c9)
  refine W.widen (k := cells + 1) (n := slots + 241) (by omega) (by omega) ?_
  exact kk z y f H locs ls hB.2 hPX hPM hPO hD hS hl
set_option maxHeartbeats 4000000 in
set_option maxRecDepth 100000 in
theorem lc_game (S : CallFix p m c cL_law 7 s #[Value.ref b] GW RL) (hE : env G A s s.heap) (hA : ∀ q, s.heap.size ≤ q → A q) (hX : va_X b L xs s s.heap) (hbl : b < s.heap.size) (hbA : ¬ A b) {z y : St} {f : Nat → Int64} {H : Heap} {locs : List Loc} {ls : Array Slot} {cells slots : Nat} (hPX : va_P G.1 classes (wX G z) H) (hPM : va_P G.1 classes (wM G y) H) (hPO : va_P G.1 classes (wO ao cL f) H) (hD : va_D A (wX G z ++ (wM G y ++ wO ao cL f))) (hS : va_S A s.heap H locs) (hl : lv_has ls 7 [(4, .int i), (3, .ref ao), (2, .ref (ad G 100)), (1, .ref (ad G 0)), (0, .ref b)]) (hcs : cells + 1 ≤ 601024 ∧ slots + 241 ≤ 7293034) (h1 : vp_in (i + 1) L) (h2 : vp_in (i + 2) L) (h3 : vp_in (i + 3) L) (h4 : vp_in (i + 4) L) (h5 : vp_in (i + 5) L) (hB : S_B_game (fun r z1 => S_M_game (fun r1 y1 => r = r1 ∧ Inv z1 y1) ((xs (i + 1).toNatClampNeg)) ((xs (i + 2).toNatClampNeg)) ((xs (i + 3).toNatClampNeg)) ((xs (i + 4).toNatClampNeg)) ((xs (i + 5).toNatClampNeg)) y) ((xs (i + 1).toNatClampNeg)) ((xs (i + 2).toNatClampNeg)) ((xs (i + 3).toNatClampNeg)) ((xs (i + 4).toNatClampNeg)) ((xs (i + 5).toNatClampNeg)) z) (kk : YK p l e s m below meth c b L xs G A cL ao i Inv Q cells slots) : W p l e room_1 s m #[Value.ref b] below meth c H locs cells slots Q (F0 m 1252 ls []) := by
  have hx := S.1
  have hb := S.2.1
  obtain ⟨hcs1, hcs2⟩ := hcs
  refine lv_aload_n hx hb dL_law_1252 rfl (lv_at hl 3 rfl) ?_
  refine lv_aload_n hx hb dL_law_1253 rfl (lv_at hl 4 rfl) ?_
  refine lv_iload hx hb dL_law_1254 (lv_at hl 0 rfl) ?_
  refine lv_iconst (v := 1) hx hb dL_law_1256 (by decide) ?_
  refine lv_iadd hx hb dL_law_1257 ?_
  refine va_sld hx hb hX hbl hbA hS h1 dL_law_1258 ?_
  refine lv_aload_n hx hb dL_law_1259 rfl (lv_at hl 4 rfl) ?_
  refine lv_iload hx hb dL_law_1260 (lv_at hl 0 rfl) ?_
  refine lv_iconst (v := 2) hx hb dL_law_1262 (by decide) ?_
  refine lv_iadd hx hb dL_law_1263 ?_
  refine va_sld hx hb hX hbl hbA hS h2 dL_law_1264 ?_
  refine lv_aload_n hx hb dL_law_1265 rfl (lv_at hl 4 rfl) ?_
  refine lv_iload hx hb dL_law_1266 (lv_at hl 0 rfl) ?_
  refine lv_iconst (v := 3) hx hb dL_law_1268 (by decide) ?_
  refine lv_iadd hx hb dL_law_1269 ?_
  refine va_sld hx hb hX hbl hbA hS h3 dL_law_1270 ?_
  refine lv_aload_n hx hb dL_law_1271 rfl (lv_at hl 4 rfl) ?_
  refine lv_iload hx hb dL_law_1272 (lv_at hl 0 rfl) ?_
  refine lv_iconst (v := 4) hx hb dL_law_1274 (by decide) ?_
  refine lv_iadd hx hb dL_law_1275 ?_
  refine va_sld hx hb hX hbl hbA hS h4 dL_law_1276 ?_
  refine lv_aload_n hx hb dL_law_1277 rfl (lv_at hl 4 rfl) ?_
  refine lv_iload hx hb dL_law_1278 (lv_at hl 0 rfl) ?_
  refine lv_iconst (v := 5) hx hb dL_law_1280 (by decide) ?_
  refine lv_iadd hx hb dL_law_1281 ?_
  refine va_sld hx hb hX hbl hbA hS h5 dL_law_1282 ?_
  refine yVi [.int (xs (i + 1).toNatClampNeg), .int (xs (i + 2).toNatClampNeg), .int (xs (i + 3).toNatClampNeg), .int (xs (i + 4).toNatClampNeg), .int (xs (i + 5).toNatClampNeg)] S hE hA hPX (hPM.app hPO) hD hS (c_B_game l G z H.size ((xs (i + 1).toNatClampNeg)) ((xs (i + 2).toNatClampNeg)) ((xs (i + 3).toNatClampNeg)) ((xs (i + 4).toNatClampNeg)) ((xs (i + 5).toNatClampNeg)) _) hB (gw_c lk_L_149 (gw_c wi_X11_game (gw_c we_X11_X11_game_X11_game (gw_c wn_X11 (gw_c wc_X11_game (fun _ h9 => h9)))))) hq_X11_game rfl rfl (Nat.le_of_ble_eq_true rfl) (Nat.le_of_ble_eq_true rfl) ⟨by show cells + 0 ≤ 601024; omega, by show slots + 0 ≤ 7293034; omega⟩ (va_recv hE.1 hPX (ci := 10) (q0 := 0) rfl rfl) rfl hl.1 rfl (Nat.le_of_ble_eq_true rfl) dL_law_1283 (fun r1283 z H locs hB hPX hPr hD hS => ?_)
  obtain ⟨hPM, hPO⟩ := ySp hPr
  refine lv_aload_n hx hb dL_law_1286 rfl (lv_at hl 2 rfl) ?_
  refine lv_aload_n hx hb dL_law_1287 rfl (lv_at hl 4 rfl) ?_
  refine lv_iload hx hb dL_law_1288 (lv_at hl 0 rfl) ?_
  refine lv_iconst (v := 1) hx hb dL_law_1290 (by decide) ?_
  refine lv_iadd hx hb dL_law_1291 ?_
  refine va_sld hx hb hX hbl hbA hS h1 dL_law_1292 ?_
  refine lv_aload_n hx hb dL_law_1293 rfl (lv_at hl 4 rfl) ?_
  refine lv_iload hx hb dL_law_1294 (lv_at hl 0 rfl) ?_
  refine lv_iconst (v := 2) hx hb dL_law_1296 (by decide) ?_
  refine lv_iadd hx hb dL_law_1297 ?_
  refine va_sld hx hb hX hbl hbA hS h2 dL_law_1298 ?_
  refine lv_aload_n hx hb dL_law_1299 rfl (lv_at hl 4 rfl) ?_
  refine lv_iload hx hb dL_law_1300 (lv_at hl 0 rfl) ?_
  refine lv_iconst (v := 3) hx hb dL_law_1302 (by decide) ?_
  refine lv_iadd hx hb dL_law_1303 ?_
  refine va_sld hx hb hX hbl hbA hS h3 dL_law_1304 ?_
  refine lv_aload_n hx hb dL_law_1305 rfl (lv_at hl 4 rfl) ?_
  refine lv_iload hx hb dL_law_1306 (lv_at hl 0 rfl) ?_
  refine lv_iconst (v := 4) hx hb dL_law_1308 (by decide) ?_
  refine lv_iadd hx hb dL_law_1309 ?_
  refine va_sld hx hb hX hbl hbA hS h4 dL_law_1310 ?_
  refine lv_aload_n hx hb dL_law_1311 rfl (lv_at hl 4 rfl) ?_
  refine lv_iload hx hb dL_law_1312 (lv_at hl 0 rfl) ?_
  refine lv_iconst (v := 5) hx hb dL_law_1314 (by decide) ?_
  refine lv_iadd hx hb dL_law_1315 ?_
  refine va_sld hx hb hX hbl hbA hS h5 dL_law_1316 ?_
  refine yVi [.int (xs (i + 1).toNatClampNeg), .int (xs (i + 2).toNatClampNeg), .int (xs (i + 3).toNatClampNeg), .int (xs (i + 4).toNatClampNeg), .int (xs (i + 5).toNatClampNeg)] S hE hA hPM (hPX.app hPO) (yD3 hD) hS (c_M_game l G y H.size ((xs (i + 1).toNatClampNeg)) ((xs (i + 2).toNatClampNeg)) ((xs (i + 3).toNatClampNeg)) ((xs (i + 4).toNatClampNeg)) ((xs (i + 5).toNatClampNeg)) _) hB (gw_c lk_L_152 (gw_c wi_X12_game (gw_c we_X12_X12_game_X12_game (gw_c wn_X12 (gw_c wc_X12_game (fun _ h9 => h9)))))) hq_X12_game rfl rfl (Nat.le_of_ble_eq_true rfl) (Nat.le_of_ble_eq_true rfl) ⟨by show cells + 0 + 0 ≤ 601024; omega, by show slots + 0 + 0 ≤ 7293034; omega⟩ (va_recv hE.1 hPM (ci := 11) (q0 := 0) rfl rfl) rfl hl.1 rfl (Nat.le_of_ble_eq_true rfl) dL_law_1317 (fun r1317 y H locs hB hPM hPr hD0 hS => ?_)
  obtain ⟨hPX, hPO⟩ := ySp hPr
  have hD := yD3 hD0
  refine lv_icmp_eq (tgt := 1661) hx hb dL_law_1320 (by decide) (fun _ => ?_) (fun c9 => absurd hB.1 c9)
  refine W.widen (k := cells + 1) (n := slots + 241) (by omega) (by omega) ?_
  exact kk z y f H locs ls hB.2 hPX hPM hPO hD hS hl
set_option maxHeartbeats 4000000 in
set_option maxRecDepth 100000 in
theorem lc_rests (S : CallFix p m c cL_law 7 s #[Value.ref b] GW RL) (hE : env G A s s.heap) (hA : ∀ q, s.heap.size ≤ q → A q) (hX : va_X b L xs s s.heap) (hbl : b < s.heap.size) (hbA : ¬ A b) {z y : St} {f : Nat → Int64} {H : Heap} {locs : List Loc} {ls : Array Slot} {cells slots : Nat} (hPX : va_P G.1 classes (wX G z) H) (hPM : va_P G.1 classes (wM G y) H) (hPO : va_P G.1 classes (wO ao cL f) H) (hD : va_D A (wX G z ++ (wM G y ++ wO ao cL f))) (hS : va_S A s.heap H locs) (hl : lv_has ls 7 [(4, .int i), (3, .ref ao), (2, .ref (ad G 100)), (1, .ref (ad G 0)), (0, .ref b)]) (hcs : cells + 1 ≤ 601024 ∧ slots + 241 ≤ 7293034) (h1 : vp_in (i + 1) L) (h2 : vp_in (i + 2) L) (h3 : vp_in (i + 3) L) (h4 : vp_in (i + 4) L) (h5 : vp_in (i + 5) L) (hB : S_B_rests (fun r z1 => S_M_rests (fun r1 y1 => r = r1 ∧ Inv z1 y1) ((xs (i + 1).toNatClampNeg)) ((xs (i + 2).toNatClampNeg)) ((xs (i + 3).toNatClampNeg)) y) ((xs (i + 1).toNatClampNeg)) ((xs (i + 2).toNatClampNeg)) ((xs (i + 3).toNatClampNeg)) z) (kk : YK p l e s m below meth c b L xs G A cL ao i Inv Q cells slots) : W p l e room_1 s m #[Value.ref b] below meth c H locs cells slots Q (F0 m 1325 ls []) := by
  have hx := S.1
  have hb := S.2.1
  obtain ⟨hcs1, hcs2⟩ := hcs
  refine lv_aload_n hx hb dL_law_1325 rfl (lv_at hl 3 rfl) ?_
  refine lv_aload_n hx hb dL_law_1326 rfl (lv_at hl 4 rfl) ?_
  refine lv_iload hx hb dL_law_1327 (lv_at hl 0 rfl) ?_
  refine lv_iconst (v := 1) hx hb dL_law_1329 (by decide) ?_
  refine lv_iadd hx hb dL_law_1330 ?_
  refine va_sld hx hb hX hbl hbA hS h1 dL_law_1331 ?_
  refine lv_aload_n hx hb dL_law_1332 rfl (lv_at hl 4 rfl) ?_
  refine lv_iload hx hb dL_law_1333 (lv_at hl 0 rfl) ?_
  refine lv_iconst (v := 2) hx hb dL_law_1335 (by decide) ?_
  refine lv_iadd hx hb dL_law_1336 ?_
  refine va_sld hx hb hX hbl hbA hS h2 dL_law_1337 ?_
  refine lv_aload_n hx hb dL_law_1338 rfl (lv_at hl 4 rfl) ?_
  refine lv_iload hx hb dL_law_1339 (lv_at hl 0 rfl) ?_
  refine lv_iconst (v := 3) hx hb dL_law_1341 (by decide) ?_
  refine lv_iadd hx hb dL_law_1342 ?_
  refine va_sld hx hb hX hbl hbA hS h3 dL_law_1343 ?_
  refine yVi [.int (xs (i + 1).toNatClampNeg), .int (xs (i + 2).toNatClampNeg), .int (xs (i + 3).toNatClampNeg)] S hE hA hPX (hPM.app hPO) hD hS (c_B_rests l G z H.size ((xs (i + 1).toNatClampNeg)) ((xs (i + 2).toNatClampNeg)) ((xs (i + 3).toNatClampNeg)) _) hB (gw_c lk_L_153 (gw_c wi_X11_rests (gw_c we_X11_X11_rests_X11_rests (gw_c wn_X11 (gw_c wc_X11_rests (fun _ h9 => h9)))))) hq_X11_rests rfl rfl (Nat.le_of_ble_eq_true rfl) (Nat.le_of_ble_eq_true rfl) ⟨by show cells + 0 ≤ 601024; omega, by show slots + 0 ≤ 7293034; omega⟩ (va_recv hE.1 hPX (ci := 10) (q0 := 0) rfl rfl) rfl hl.1 rfl (Nat.le_of_ble_eq_true rfl) dL_law_1344 (fun r1344 z H locs hB hPX hPr hD hS => ?_)
  obtain ⟨hPM, hPO⟩ := ySp hPr
  refine lv_aload_n hx hb dL_law_1347 rfl (lv_at hl 2 rfl) ?_
  refine lv_aload_n hx hb dL_law_1348 rfl (lv_at hl 4 rfl) ?_
  refine lv_iload hx hb dL_law_1349 (lv_at hl 0 rfl) ?_
  refine lv_iconst (v := 1) hx hb dL_law_1351 (by decide) ?_
  refine lv_iadd hx hb dL_law_1352 ?_
  refine va_sld hx hb hX hbl hbA hS h1 dL_law_1353 ?_
  refine lv_aload_n hx hb dL_law_1354 rfl (lv_at hl 4 rfl) ?_
  refine lv_iload hx hb dL_law_1355 (lv_at hl 0 rfl) ?_
  refine lv_iconst (v := 2) hx hb dL_law_1357 (by decide) ?_
  refine lv_iadd hx hb dL_law_1358 ?_
  refine va_sld hx hb hX hbl hbA hS h2 dL_law_1359 ?_
  refine lv_aload_n hx hb dL_law_1360 rfl (lv_at hl 4 rfl) ?_
  refine lv_iload hx hb dL_law_1361 (lv_at hl 0 rfl) ?_
  refine lv_iconst (v := 3) hx hb dL_law_1363 (by decide) ?_
  refine lv_iadd hx hb dL_law_1364 ?_
  refine va_sld hx hb hX hbl hbA hS h3 dL_law_1365 ?_
  refine yVi [.int (xs (i + 1).toNatClampNeg), .int (xs (i + 2).toNatClampNeg), .int (xs (i + 3).toNatClampNeg)] S hE hA hPM (hPX.app hPO) (yD3 hD) hS (c_M_rests l G y H.size ((xs (i + 1).toNatClampNeg)) ((xs (i + 2).toNatClampNeg)) ((xs (i + 3).toNatClampNeg)) _) hB (gw_c lk_L_156 (gw_c wi_X12_rests (gw_c we_X12_X12_rests_X12_rests (gw_c wn_X12 (gw_c wc_X12_rests (fun _ h9 => h9)))))) hq_X12_rests rfl rfl (Nat.le_of_ble_eq_true rfl) (Nat.le_of_ble_eq_true rfl) ⟨by show cells + 0 + 0 ≤ 601024; omega, by show slots + 0 + 0 ≤ 7293034; omega⟩ (va_recv hE.1 hPM (ci := 11) (q0 := 0) rfl rfl) rfl hl.1 rfl (Nat.le_of_ble_eq_true rfl) dL_law_1366 (fun r1366 y H locs hB hPM hPr hD0 hS => ?_)
  obtain ⟨hPX, hPO⟩ := ySp hPr
  have hD := yD3 hD0
  refine lv_icmp_eq (tgt := 1661) hx hb dL_law_1369 (by decide) (fun _ => ?_) (fun c9 => absurd hB.1 c9)
  refine W.widen (k := cells + 1) (n := slots + 241) (by omega) (by omega) ?_
  exact kk z y f H locs ls hB.2 hPX hPM hPO hD hS hl
set_option maxHeartbeats 4000000 in
set_option maxRecDepth 100000 in
theorem lc_dealt (S : CallFix p m c cL_law 7 s #[Value.ref b] GW RL) (hE : env G A s s.heap) (hA : ∀ q, s.heap.size ≤ q → A q) (hX : va_X b L xs s s.heap) (hbl : b < s.heap.size) (hbA : ¬ A b) {z y : St} {f : Nat → Int64} {H : Heap} {locs : List Loc} {ls : Array Slot} {cells slots : Nat} (hPX : va_P G.1 classes (wX G z) H) (hPM : va_P G.1 classes (wM G y) H) (hPO : va_P G.1 classes (wO ao cL f) H) (hD : va_D A (wX G z ++ (wM G y ++ wO ao cL f))) (hS : va_S A s.heap H locs) (hl : lv_has ls 7 [(4, .int i), (3, .ref ao), (2, .ref (ad G 100)), (1, .ref (ad G 0)), (0, .ref b)]) (hcs : cells + 1 ≤ 601024 ∧ slots + 241 ≤ 7293034) (h1 : vp_in (i + 1) L) (h2 : vp_in (i + 2) L) (h3 : vp_in (i + 3) L) (h4 : vp_in (i + 4) L) (h5 : vp_in (i + 5) L) (hB : S_B_dealt (fun r z1 => S_M_dealt (fun r1 y1 => r = r1 ∧ Inv z1 y1) ((xs (i + 1).toNatClampNeg)) y) ((xs (i + 1).toNatClampNeg)) z) (kk : YK p l e s m below meth c b L xs G A cL ao i Inv Q cells slots) : W p l e room_1 s m #[Value.ref b] below meth c H locs cells slots Q (F0 m 1374 ls []) := by
  have hx := S.1
  have hb := S.2.1
  obtain ⟨hcs1, hcs2⟩ := hcs
  refine lv_aload_n hx hb dL_law_1374 rfl (lv_at hl 3 rfl) ?_
  refine lv_aload_n hx hb dL_law_1375 rfl (lv_at hl 4 rfl) ?_
  refine lv_iload hx hb dL_law_1376 (lv_at hl 0 rfl) ?_
  refine lv_iconst (v := 1) hx hb dL_law_1378 (by decide) ?_
  refine lv_iadd hx hb dL_law_1379 ?_
  refine va_sld hx hb hX hbl hbA hS h1 dL_law_1380 ?_
  refine yVi [.int (xs (i + 1).toNatClampNeg)] S hE hA hPX (hPM.app hPO) hD hS (c_B_dealt l G z H.size ((xs (i + 1).toNatClampNeg)) _) hB (gw_c lk_L_157 (gw_c wi_X11_dealt (gw_c we_X11_X11_dealt_X11_dealt (gw_c wn_X11 (gw_c wc_X11_dealt (fun _ h9 => h9)))))) hq_X11_dealt rfl rfl (Nat.le_of_ble_eq_true rfl) (Nat.le_of_ble_eq_true rfl) ⟨by show cells + 0 ≤ 601024; omega, by show slots + 0 ≤ 7293034; omega⟩ (va_recv hE.1 hPX (ci := 10) (q0 := 0) rfl rfl) rfl hl.1 rfl (Nat.le_of_ble_eq_true rfl) dL_law_1381 (fun r1381 z H locs hB hPX hPr hD hS => ?_)
  obtain ⟨hPM, hPO⟩ := ySp hPr
  refine lv_aload_n hx hb dL_law_1384 rfl (lv_at hl 2 rfl) ?_
  refine lv_aload_n hx hb dL_law_1385 rfl (lv_at hl 4 rfl) ?_
  refine lv_iload hx hb dL_law_1386 (lv_at hl 0 rfl) ?_
  refine lv_iconst (v := 1) hx hb dL_law_1388 (by decide) ?_
  refine lv_iadd hx hb dL_law_1389 ?_
  refine va_sld hx hb hX hbl hbA hS h1 dL_law_1390 ?_
  refine yVi [.int (xs (i + 1).toNatClampNeg)] S hE hA hPM (hPX.app hPO) (yD3 hD) hS (c_M_dealt l G y H.size ((xs (i + 1).toNatClampNeg)) _) hB (gw_c lk_L_160 (gw_c wi_X12_dealt (gw_c we_X12_X12_dealt_X12_dealt (gw_c wn_X12 (gw_c wc_X12_dealt (fun _ h9 => h9)))))) hq_X12_dealt rfl rfl (Nat.le_of_ble_eq_true rfl) (Nat.le_of_ble_eq_true rfl) ⟨by show cells + 0 + 0 ≤ 601024; omega, by show slots + 0 + 0 ≤ 7293034; omega⟩ (va_recv hE.1 hPM (ci := 11) (q0 := 0) rfl rfl) rfl hl.1 rfl (Nat.le_of_ble_eq_true rfl) dL_law_1391 (fun r1391 y H locs hB hPM hPr hD0 hS => ?_)
  obtain ⟨hPX, hPO⟩ := ySp hPr
  have hD := yD3 hD0
  refine lv_icmp_eq (tgt := 1661) hx hb dL_law_1394 (by decide) (fun _ => ?_) (fun c9 => absurd hB.1 c9)
  refine W.widen (k := cells + 1) (n := slots + 241) (by omega) (by omega) ?_
  exact kk z y f H locs ls hB.2 hPX hPM hPO hD hS hl
set_option maxHeartbeats 4000000 in
set_option maxRecDepth 100000 in
theorem lc_odds (S : CallFix p m c cL_law 7 s #[Value.ref b] GW RL) (hE : env G A s s.heap) (hA : ∀ q, s.heap.size ≤ q → A q) (hX : va_X b L xs s s.heap) (hbl : b < s.heap.size) (hbA : ¬ A b) {z y : St} {f : Nat → Int64} {H : Heap} {locs : List Loc} {ls : Array Slot} {cells slots : Nat} (hPX : va_P G.1 classes (wX G z) H) (hPM : va_P G.1 classes (wM G y) H) (hPO : va_P G.1 classes (wO ao cL f) H) (hD : va_D A (wX G z ++ (wM G y ++ wO ao cL f))) (hS : va_S A s.heap H locs) (hl : lv_has ls 7 [(4, .int i), (3, .ref ao), (2, .ref (ad G 100)), (1, .ref (ad G 0)), (0, .ref b)]) (hcs : cells + 1 ≤ 601024 ∧ slots + 241 ≤ 7293034) (h1 : vp_in (i + 1) L) (h2 : vp_in (i + 2) L) (h3 : vp_in (i + 3) L) (h4 : vp_in (i + 4) L) (h5 : vp_in (i + 5) L) (hB : S_B_odds (fun r z1 => S_M_odds (fun r1 y1 => r = r1 ∧ Inv z1 y1) ((xs (i + 1).toNatClampNeg)) ((xs (i + 2).toNatClampNeg)) y) ((xs (i + 1).toNatClampNeg)) ((xs (i + 2).toNatClampNeg)) z) (kk : YK p l e s m below meth c b L xs G A cL ao i Inv Q cells slots) : W p l e room_1 s m #[Value.ref b] below meth c H locs cells slots Q (F0 m 1399 ls []) := by
  have hx := S.1
  have hb := S.2.1
  obtain ⟨hcs1, hcs2⟩ := hcs
  refine lv_aload_n hx hb dL_law_1399 rfl (lv_at hl 3 rfl) ?_
  refine lv_aload_n hx hb dL_law_1400 rfl (lv_at hl 4 rfl) ?_
  refine lv_iload hx hb dL_law_1401 (lv_at hl 0 rfl) ?_
  refine lv_iconst (v := 1) hx hb dL_law_1403 (by decide) ?_
  refine lv_iadd hx hb dL_law_1404 ?_
  refine va_sld hx hb hX hbl hbA hS h1 dL_law_1405 ?_
  refine lv_aload_n hx hb dL_law_1406 rfl (lv_at hl 4 rfl) ?_
  refine lv_iload hx hb dL_law_1407 (lv_at hl 0 rfl) ?_
  refine lv_iconst (v := 2) hx hb dL_law_1409 (by decide) ?_
  refine lv_iadd hx hb dL_law_1410 ?_
  refine va_sld hx hb hX hbl hbA hS h2 dL_law_1411 ?_
  refine yVi [.int (xs (i + 1).toNatClampNeg), .int (xs (i + 2).toNatClampNeg)] S hE hA hPX (hPM.app hPO) hD hS (c_B_odds l G z H.size ((xs (i + 1).toNatClampNeg)) ((xs (i + 2).toNatClampNeg)) _) hB (gw_c lk_L_161 (gw_c wi_X11_odds (gw_c we_X11_X11_odds_X11_odds (gw_c wn_X11 (gw_c wc_X11_odds (fun _ h9 => h9)))))) hq_X11_odds rfl rfl (Nat.le_of_ble_eq_true rfl) (Nat.le_of_ble_eq_true rfl) ⟨by show cells + 0 ≤ 601024; omega, by show slots + 0 ≤ 7293034; omega⟩ (va_recv hE.1 hPX (ci := 10) (q0 := 0) rfl rfl) rfl hl.1 rfl (Nat.le_of_ble_eq_true rfl) dL_law_1412 (fun r1412 z H locs hB hPX hPr hD hS => ?_)
  obtain ⟨hPM, hPO⟩ := ySp hPr
  refine lv_aload_n hx hb dL_law_1415 rfl (lv_at hl 2 rfl) ?_
  refine lv_aload_n hx hb dL_law_1416 rfl (lv_at hl 4 rfl) ?_
  refine lv_iload hx hb dL_law_1417 (lv_at hl 0 rfl) ?_
  refine lv_iconst (v := 1) hx hb dL_law_1419 (by decide) ?_
  refine lv_iadd hx hb dL_law_1420 ?_
  refine va_sld hx hb hX hbl hbA hS h1 dL_law_1421 ?_
  refine lv_aload_n hx hb dL_law_1422 rfl (lv_at hl 4 rfl) ?_
  refine lv_iload hx hb dL_law_1423 (lv_at hl 0 rfl) ?_
  refine lv_iconst (v := 2) hx hb dL_law_1425 (by decide) ?_
  refine lv_iadd hx hb dL_law_1426 ?_
  refine va_sld hx hb hX hbl hbA hS h2 dL_law_1427 ?_
  refine yVi [.int (xs (i + 1).toNatClampNeg), .int (xs (i + 2).toNatClampNeg)] S hE hA hPM (hPX.app hPO) (yD3 hD) hS (c_M_odds l G y H.size ((xs (i + 1).toNatClampNeg)) ((xs (i + 2).toNatClampNeg)) _) hB (gw_c lk_L_164 (gw_c wi_X12_odds (gw_c we_X12_X12_odds_X12_odds (gw_c wn_X12 (gw_c wc_X12_odds (fun _ h9 => h9)))))) hq_X12_odds rfl rfl (Nat.le_of_ble_eq_true rfl) (Nat.le_of_ble_eq_true rfl) ⟨by show cells + 0 + 0 ≤ 601024; omega, by show slots + 0 + 0 ≤ 7293034; omega⟩ (va_recv hE.1 hPM (ci := 11) (q0 := 0) rfl rfl) rfl hl.1 rfl (Nat.le_of_ble_eq_true rfl) dL_law_1428 (fun r1428 y H locs hB hPM hPr hD0 hS => ?_)
  obtain ⟨hPX, hPO⟩ := ySp hPr
  have hD := yD3 hD0
  refine lv_icmp_eq (tgt := 1661) hx hb dL_law_1431 (by decide) (fun _ => ?_) (fun c9 => absurd hB.1 c9)
  refine W.widen (k := cells + 1) (n := slots + 241) (by omega) (by omega) ?_
  exact kk z y f H locs ls hB.2 hPX hPM hPO hD hS hl
set_option maxHeartbeats 4000000 in
set_option maxRecDepth 100000 in
theorem lc_makes (S : CallFix p m c cL_law 7 s #[Value.ref b] GW RL) (hE : env G A s s.heap) (hA : ∀ q, s.heap.size ≤ q → A q) (hX : va_X b L xs s s.heap) (hbl : b < s.heap.size) (hbA : ¬ A b) {z y : St} {f : Nat → Int64} {H : Heap} {locs : List Loc} {ls : Array Slot} {cells slots : Nat} (hPX : va_P G.1 classes (wX G z) H) (hPM : va_P G.1 classes (wM G y) H) (hPO : va_P G.1 classes (wO ao cL f) H) (hD : va_D A (wX G z ++ (wM G y ++ wO ao cL f))) (hS : va_S A s.heap H locs) (hl : lv_has ls 7 [(4, .int i), (3, .ref ao), (2, .ref (ad G 100)), (1, .ref (ad G 0)), (0, .ref b)]) (hcs : cells + 1 ≤ 601024 ∧ slots + 241 ≤ 7293034) (h1 : vp_in (i + 1) L) (h2 : vp_in (i + 2) L) (h3 : vp_in (i + 3) L) (h4 : vp_in (i + 4) L) (h5 : vp_in (i + 5) L) (hB : S_B_makes (fun r z1 => S_M_makes (fun r1 y1 => r = r1 ∧ Inv z1 y1) ((xs (i + 1).toNatClampNeg)) ((xs (i + 2).toNatClampNeg)) y) ((xs (i + 1).toNatClampNeg)) ((xs (i + 2).toNatClampNeg)) z) (kk : YK p l e s m below meth c b L xs G A cL ao i Inv Q cells slots) : W p l e room_1 s m #[Value.ref b] below meth c H locs cells slots Q (F0 m 1436 ls []) := by
  have hx := S.1
  have hb := S.2.1
  obtain ⟨hcs1, hcs2⟩ := hcs
  refine lv_aload_n hx hb dL_law_1436 rfl (lv_at hl 3 rfl) ?_
  refine lv_aload_n hx hb dL_law_1437 rfl (lv_at hl 4 rfl) ?_
  refine lv_iload hx hb dL_law_1438 (lv_at hl 0 rfl) ?_
  refine lv_iconst (v := 1) hx hb dL_law_1440 (by decide) ?_
  refine lv_iadd hx hb dL_law_1441 ?_
  refine va_sld hx hb hX hbl hbA hS h1 dL_law_1442 ?_
  refine lv_aload_n hx hb dL_law_1443 rfl (lv_at hl 4 rfl) ?_
  refine lv_iload hx hb dL_law_1444 (lv_at hl 0 rfl) ?_
  refine lv_iconst (v := 2) hx hb dL_law_1446 (by decide) ?_
  refine lv_iadd hx hb dL_law_1447 ?_
  refine va_sld hx hb hX hbl hbA hS h2 dL_law_1448 ?_
  refine yVi [.int (xs (i + 1).toNatClampNeg), .int (xs (i + 2).toNatClampNeg)] S hE hA hPX (hPM.app hPO) hD hS (c_B_makes l G z H.size ((xs (i + 1).toNatClampNeg)) ((xs (i + 2).toNatClampNeg)) _) hB (gw_c lk_L_165 (gw_c wi_X11_makes (gw_c we_X11_X11_makes_X11_makes (gw_c wn_X11 (gw_c wc_X11_makes (fun _ h9 => h9)))))) hq_X11_makes rfl rfl (Nat.le_of_ble_eq_true rfl) (Nat.le_of_ble_eq_true rfl) ⟨by show cells + 0 ≤ 601024; omega, by show slots + 0 ≤ 7293034; omega⟩ (va_recv hE.1 hPX (ci := 10) (q0 := 0) rfl rfl) rfl hl.1 rfl (Nat.le_of_ble_eq_true rfl) dL_law_1449 (fun r1449 z H locs hB hPX hPr hD hS => ?_)
  obtain ⟨hPM, hPO⟩ := ySp hPr
  refine lv_aload_n hx hb dL_law_1452 rfl (lv_at hl 2 rfl) ?_
  refine lv_aload_n hx hb dL_law_1453 rfl (lv_at hl 4 rfl) ?_
  refine lv_iload hx hb dL_law_1454 (lv_at hl 0 rfl) ?_
  refine lv_iconst (v := 1) hx hb dL_law_1456 (by decide) ?_
  refine lv_iadd hx hb dL_law_1457 ?_
  refine va_sld hx hb hX hbl hbA hS h1 dL_law_1458 ?_
  refine lv_aload_n hx hb dL_law_1459 rfl (lv_at hl 4 rfl) ?_
  refine lv_iload hx hb dL_law_1460 (lv_at hl 0 rfl) ?_
  refine lv_iconst (v := 2) hx hb dL_law_1462 (by decide) ?_
  refine lv_iadd hx hb dL_law_1463 ?_
  refine va_sld hx hb hX hbl hbA hS h2 dL_law_1464 ?_
  refine yVi [.int (xs (i + 1).toNatClampNeg), .int (xs (i + 2).toNatClampNeg)] S hE hA hPM (hPX.app hPO) (yD3 hD) hS (c_M_makes l G y H.size ((xs (i + 1).toNatClampNeg)) ((xs (i + 2).toNatClampNeg)) _) hB (gw_c lk_L_168 (gw_c wi_X12_makes (gw_c we_X12_X12_makes_X12_makes (gw_c wn_X12 (gw_c wc_X12_makes (fun _ h9 => h9)))))) hq_X12_makes rfl rfl (Nat.le_of_ble_eq_true rfl) (Nat.le_of_ble_eq_true rfl) ⟨by show cells + 0 + 0 ≤ 601024; omega, by show slots + 0 + 0 ≤ 7293034; omega⟩ (va_recv hE.1 hPM (ci := 11) (q0 := 0) rfl rfl) rfl hl.1 rfl (Nat.le_of_ble_eq_true rfl) dL_law_1465 (fun r1465 y H locs hB hPM hPr hD0 hS => ?_)
  obtain ⟨hPX, hPO⟩ := ySp hPr
  have hD := yD3 hD0
  refine lv_icmp_eq (tgt := 1661) hx hb dL_law_1468 (by decide) (fun _ => ?_) (fun c9 => absurd hB.1 c9)
  refine W.widen (k := cells + 1) (n := slots + 241) (by omega) (by omega) ?_
  exact kk z y f H locs ls hB.2 hPX hPM hPO hD hS hl
set_option maxHeartbeats 4000000 in
set_option maxRecDepth 100000 in
theorem lc_glad (S : CallFix p m c cL_law 7 s #[Value.ref b] GW RL) (hE : env G A s s.heap) (hA : ∀ q, s.heap.size ≤ q → A q) (hX : va_X b L xs s s.heap) (hbl : b < s.heap.size) (hbA : ¬ A b) {z y : St} {f : Nat → Int64} {H : Heap} {locs : List Loc} {ls : Array Slot} {cells slots : Nat} (hPX : va_P G.1 classes (wX G z) H) (hPM : va_P G.1 classes (wM G y) H) (hPO : va_P G.1 classes (wO ao cL f) H) (hD : va_D A (wX G z ++ (wM G y ++ wO ao cL f))) (hS : va_S A s.heap H locs) (hl : lv_has ls 7 [(4, .int i), (3, .ref ao), (2, .ref (ad G 100)), (1, .ref (ad G 0)), (0, .ref b)]) (hcs : cells + 1 ≤ 601024 ∧ slots + 241 ≤ 7293034) (h1 : vp_in (i + 1) L) (h2 : vp_in (i + 2) L) (h3 : vp_in (i + 3) L) (h4 : vp_in (i + 4) L) (h5 : vp_in (i + 5) L) (hB : S_B_glad (fun r z1 => S_M_glad (fun r1 y1 => r = r1 ∧ Inv z1 y1) ((xs (i + 1).toNatClampNeg)) y) ((xs (i + 1).toNatClampNeg)) z) (kk : YK p l e s m below meth c b L xs G A cL ao i Inv Q cells slots) : W p l e room_1 s m #[Value.ref b] below meth c H locs cells slots Q (F0 m 1473 ls []) := by
  have hx := S.1
  have hb := S.2.1
  obtain ⟨hcs1, hcs2⟩ := hcs
  refine lv_aload_n hx hb dL_law_1473 rfl (lv_at hl 3 rfl) ?_
  refine lv_aload_n hx hb dL_law_1474 rfl (lv_at hl 4 rfl) ?_
  refine lv_iload hx hb dL_law_1475 (lv_at hl 0 rfl) ?_
  refine lv_iconst (v := 1) hx hb dL_law_1477 (by decide) ?_
  refine lv_iadd hx hb dL_law_1478 ?_
  refine va_sld hx hb hX hbl hbA hS h1 dL_law_1479 ?_
  refine yVi [.int (xs (i + 1).toNatClampNeg)] S hE hA hPX (hPM.app hPO) hD hS (c_B_glad l G z H.size ((xs (i + 1).toNatClampNeg)) _) hB (gw_c lk_L_169 (gw_c wi_X11_glad (gw_c we_X11_X11_glad_X11_glad (gw_c wn_X11 (gw_c wc_X11_glad (fun _ h9 => h9)))))) hq_X11_glad rfl rfl (Nat.le_of_ble_eq_true rfl) (Nat.le_of_ble_eq_true rfl) ⟨by show cells + 0 ≤ 601024; omega, by show slots + 0 ≤ 7293034; omega⟩ (va_recv hE.1 hPX (ci := 10) (q0 := 0) rfl rfl) rfl hl.1 rfl (Nat.le_of_ble_eq_true rfl) dL_law_1480 (fun r1480 z H locs hB hPX hPr hD hS => ?_)
  obtain ⟨hPM, hPO⟩ := ySp hPr
  refine lv_aload_n hx hb dL_law_1483 rfl (lv_at hl 2 rfl) ?_
  refine lv_aload_n hx hb dL_law_1484 rfl (lv_at hl 4 rfl) ?_
  refine lv_iload hx hb dL_law_1485 (lv_at hl 0 rfl) ?_
  refine lv_iconst (v := 1) hx hb dL_law_1487 (by decide) ?_
  refine lv_iadd hx hb dL_law_1488 ?_
  refine va_sld hx hb hX hbl hbA hS h1 dL_law_1489 ?_
  refine yVi [.int (xs (i + 1).toNatClampNeg)] S hE hA hPM (hPX.app hPO) (yD3 hD) hS (c_M_glad l G y H.size ((xs (i + 1).toNatClampNeg)) _) hB (gw_c lk_L_172 (gw_c wi_X12_glad (gw_c we_X12_X12_glad_X12_glad (gw_c wn_X12 (gw_c wc_X12_glad (fun _ h9 => h9)))))) hq_X12_glad rfl rfl (Nat.le_of_ble_eq_true rfl) (Nat.le_of_ble_eq_true rfl) ⟨by show cells + 0 + 0 ≤ 601024; omega, by show slots + 0 + 0 ≤ 7293034; omega⟩ (va_recv hE.1 hPM (ci := 11) (q0 := 0) rfl rfl) rfl hl.1 rfl (Nat.le_of_ble_eq_true rfl) dL_law_1490 (fun r1490 y H locs hB hPM hPr hD0 hS => ?_)
  obtain ⟨hPX, hPO⟩ := ySp hPr
  have hD := yD3 hD0
  refine lv_icmp_eq (tgt := 1661) hx hb dL_law_1493 (by decide) (fun _ => ?_) (fun c9 => absurd hB.1 c9)
  refine W.widen (k := cells + 1) (n := slots + 241) (by omega) (by omega) ?_
  exact kk z y f H locs ls hB.2 hPX hPM hPO hD hS hl
set_option maxHeartbeats 4000000 in
set_option maxRecDepth 100000 in
theorem lc_all (S : CallFix p m c cL_law 7 s #[Value.ref b] GW RL) (hE : env G A s s.heap) (hA : ∀ q, s.heap.size ≤ q → A q) (hX : va_X b L xs s s.heap) (hbl : b < s.heap.size) (hbA : ¬ A b) {z y : St} {f : Nat → Int64} {H : Heap} {locs : List Loc} {ls : Array Slot} {cells slots : Nat} (hPX : va_P G.1 classes (wX G z) H) (hPM : va_P G.1 classes (wM G y) H) (hPO : va_P G.1 classes (wO ao cL f) H) (hD : va_D A (wX G z ++ (wM G y ++ wO ao cL f))) (hS : va_S A s.heap H locs) (hl : lv_has ls 7 [(4, .int i), (3, .ref ao), (2, .ref (ad G 100)), (1, .ref (ad G 0)), (0, .ref b)]) (hcs : cells + 1 ≤ 601024 ∧ slots + 241 ≤ 7293034) (h1 : vp_in (i + 1) L) (h2 : vp_in (i + 2) L) (h3 : vp_in (i + 3) L) (h4 : vp_in (i + 4) L) (h5 : vp_in (i + 5) L) (hB : S_B_all (fun r z1 => S_M_all (fun r1 y1 => r = r1 ∧ Inv z1 y1) ((xs (i + 1).toNatClampNeg)) y) ((xs (i + 1).toNatClampNeg)) z) (kk : YK p l e s m below meth c b L xs G A cL ao i Inv Q cells slots) : W p l e room_1 s m #[Value.ref b] below meth c H locs cells slots Q (F0 m 1498 ls []) := by
  have hx := S.1
  have hb := S.2.1
  obtain ⟨hcs1, hcs2⟩ := hcs
  refine lv_aload_n hx hb dL_law_1498 rfl (lv_at hl 3 rfl) ?_
  refine lv_aload_n hx hb dL_law_1499 rfl (lv_at hl 4 rfl) ?_
  refine lv_iload hx hb dL_law_1500 (lv_at hl 0 rfl) ?_
  refine lv_iconst (v := 1) hx hb dL_law_1502 (by decide) ?_
  refine lv_iadd hx hb dL_law_1503 ?_
  refine va_sld hx hb hX hbl hbA hS h1 dL_law_1504 ?_
  refine yVi [.int (xs (i + 1).toNatClampNeg)] S hE hA hPX (hPM.app hPO) hD hS (c_B_all l G z H.size ((xs (i + 1).toNatClampNeg)) _) hB (gw_c lk_L_173 (gw_c wi_X11_all (gw_c we_X11_X11_all_X11_all (gw_c wn_X11 (gw_c wc_X11_all (fun _ h9 => h9)))))) hq_X11_all rfl rfl (Nat.le_of_ble_eq_true rfl) (Nat.le_of_ble_eq_true rfl) ⟨by show cells + 0 ≤ 601024; omega, by show slots + 0 ≤ 7293034; omega⟩ (va_recv hE.1 hPX (ci := 10) (q0 := 0) rfl rfl) rfl hl.1 rfl (Nat.le_of_ble_eq_true rfl) dL_law_1505 (fun r1505 z H locs hB hPX hPr hD hS => ?_)
  obtain ⟨hPM, hPO⟩ := ySp hPr
  refine lv_aload_n hx hb dL_law_1508 rfl (lv_at hl 2 rfl) ?_
  refine lv_aload_n hx hb dL_law_1509 rfl (lv_at hl 4 rfl) ?_
  refine lv_iload hx hb dL_law_1510 (lv_at hl 0 rfl) ?_
  refine lv_iconst (v := 1) hx hb dL_law_1512 (by decide) ?_
  refine lv_iadd hx hb dL_law_1513 ?_
  refine va_sld hx hb hX hbl hbA hS h1 dL_law_1514 ?_
  refine yVi [.int (xs (i + 1).toNatClampNeg)] S hE hA hPM (hPX.app hPO) (yD3 hD) hS (c_M_all l G y H.size ((xs (i + 1).toNatClampNeg)) _) hB (gw_c lk_L_176 (gw_c wi_X12_all (gw_c we_X12_X12_all_X12_all (gw_c wn_X12 (gw_c wc_X12_all (fun _ h9 => h9)))))) hq_X12_all rfl rfl (Nat.le_of_ble_eq_true rfl) (Nat.le_of_ble_eq_true rfl) ⟨by show cells + 0 + 0 ≤ 601024; omega, by show slots + 0 + 0 ≤ 7293034; omega⟩ (va_recv hE.1 hPM (ci := 11) (q0 := 0) rfl rfl) rfl hl.1 rfl (Nat.le_of_ble_eq_true rfl) dL_law_1515 (fun r1515 y H locs hB hPM hPr hD0 hS => ?_)
  obtain ⟨hPX, hPO⟩ := ySp hPr
  have hD := yD3 hD0
  refine lv_icmp_eq (tgt := 1661) hx hb dL_law_1518 (by decide) (fun _ => ?_) (fun c9 => absurd hB.1 c9)
  refine W.widen (k := cells + 1) (n := slots + 241) (by omega) (by omega) ?_
  exact kk z y f H locs ls hB.2 hPX hPM hPO hD hS hl
set_option maxHeartbeats 4000000 in
set_option maxRecDepth 100000 in
theorem lc_affords (S : CallFix p m c cL_law 7 s #[Value.ref b] GW RL) (hE : env G A s s.heap) (hA : ∀ q, s.heap.size ≤ q → A q) (hX : va_X b L xs s s.heap) (hbl : b < s.heap.size) (hbA : ¬ A b) {z y : St} {f : Nat → Int64} {H : Heap} {locs : List Loc} {ls : Array Slot} {cells slots : Nat} (hPX : va_P G.1 classes (wX G z) H) (hPM : va_P G.1 classes (wM G y) H) (hPO : va_P G.1 classes (wO ao cL f) H) (hD : va_D A (wX G z ++ (wM G y ++ wO ao cL f))) (hS : va_S A s.heap H locs) (hl : lv_has ls 7 [(4, .int i), (3, .ref ao), (2, .ref (ad G 100)), (1, .ref (ad G 0)), (0, .ref b)]) (hcs : cells + 1 ≤ 601024 ∧ slots + 241 ≤ 7293034) (h1 : vp_in (i + 1) L) (h2 : vp_in (i + 2) L) (h3 : vp_in (i + 3) L) (h4 : vp_in (i + 4) L) (h5 : vp_in (i + 5) L) (hB : S_B_affords (fun r z1 => S_M_affords (fun r1 y1 => r = r1 ∧ Inv z1 y1) ((xs (i + 1).toNatClampNeg)) y) ((xs (i + 1).toNatClampNeg)) z) (kk : YK p l e s m below meth c b L xs G A cL ao i Inv Q cells slots) : W p l e room_1 s m #[Value.ref b] below meth c H locs cells slots Q (F0 m 1523 ls []) := by
  have hx := S.1
  have hb := S.2.1
  obtain ⟨hcs1, hcs2⟩ := hcs
  refine lv_aload_n hx hb dL_law_1523 rfl (lv_at hl 3 rfl) ?_
  refine lv_aload_n hx hb dL_law_1524 rfl (lv_at hl 4 rfl) ?_
  refine lv_iload hx hb dL_law_1525 (lv_at hl 0 rfl) ?_
  refine lv_iconst (v := 1) hx hb dL_law_1527 (by decide) ?_
  refine lv_iadd hx hb dL_law_1528 ?_
  refine va_sld hx hb hX hbl hbA hS h1 dL_law_1529 ?_
  refine yVi [.int (xs (i + 1).toNatClampNeg)] S hE hA hPX (hPM.app hPO) hD hS (c_B_affords l G z H.size ((xs (i + 1).toNatClampNeg)) _) hB (gw_c lk_L_177 (gw_c wi_X11_affords (gw_c we_X11_X11_affords_X11_affords (gw_c wn_X11 (gw_c wc_X11_affords (fun _ h9 => h9)))))) hq_X11_affords rfl rfl (Nat.le_of_ble_eq_true rfl) (Nat.le_of_ble_eq_true rfl) ⟨by show cells + 0 ≤ 601024; omega, by show slots + 0 ≤ 7293034; omega⟩ (va_recv hE.1 hPX (ci := 10) (q0 := 0) rfl rfl) rfl hl.1 rfl (Nat.le_of_ble_eq_true rfl) dL_law_1530 (fun r1530 z H locs hB hPX hPr hD hS => ?_)
  obtain ⟨hPM, hPO⟩ := ySp hPr
  refine lv_aload_n hx hb dL_law_1533 rfl (lv_at hl 2 rfl) ?_
  refine lv_aload_n hx hb dL_law_1534 rfl (lv_at hl 4 rfl) ?_
  refine lv_iload hx hb dL_law_1535 (lv_at hl 0 rfl) ?_
  refine lv_iconst (v := 1) hx hb dL_law_1537 (by decide) ?_
  refine lv_iadd hx hb dL_law_1538 ?_
  refine va_sld hx hb hX hbl hbA hS h1 dL_law_1539 ?_
  refine yVi [.int (xs (i + 1).toNatClampNeg)] S hE hA hPM (hPX.app hPO) (yD3 hD) hS (c_M_affords l G y H.size ((xs (i + 1).toNatClampNeg)) _) hB (gw_c lk_L_180 (gw_c wi_X12_affords (gw_c we_X12_X12_affords_X12_affords (gw_c wn_X12 (gw_c wc_X12_affords (fun _ h9 => h9)))))) hq_X12_affords rfl rfl (Nat.le_of_ble_eq_true rfl) (Nat.le_of_ble_eq_true rfl) ⟨by show cells + 0 + 0 ≤ 601024; omega, by show slots + 0 + 0 ≤ 7293034; omega⟩ (va_recv hE.1 hPM (ci := 11) (q0 := 0) rfl rfl) rfl hl.1 rfl (Nat.le_of_ble_eq_true rfl) dL_law_1540 (fun r1540 y H locs hB hPM hPr hD0 hS => ?_)
  obtain ⟨hPX, hPO⟩ := ySp hPr
  have hD := yD3 hD0
  refine lv_icmp_eq (tgt := 1661) hx hb dL_law_1543 (by decide) (fun _ => ?_) (fun c9 => absurd hB.1 c9)
  refine W.widen (k := cells + 1) (n := slots + 241) (by omega) (by omega) ?_
  exact kk z y f H locs ls hB.2 hPX hPM hPO hD hS hl
set_option maxHeartbeats 4000000 in
set_option maxRecDepth 100000 in
theorem lc_brought (S : CallFix p m c cL_law 7 s #[Value.ref b] GW RL) (hE : env G A s s.heap) (hA : ∀ q, s.heap.size ≤ q → A q) (hX : va_X b L xs s s.heap) (hbl : b < s.heap.size) (hbA : ¬ A b) {z y : St} {f : Nat → Int64} {H : Heap} {locs : List Loc} {ls : Array Slot} {cells slots : Nat} (hPX : va_P G.1 classes (wX G z) H) (hPM : va_P G.1 classes (wM G y) H) (hPO : va_P G.1 classes (wO ao cL f) H) (hD : va_D A (wX G z ++ (wM G y ++ wO ao cL f))) (hS : va_S A s.heap H locs) (hl : lv_has ls 7 [(4, .int i), (3, .ref ao), (2, .ref (ad G 100)), (1, .ref (ad G 0)), (0, .ref b)]) (hcs : cells + 1 ≤ 601024 ∧ slots + 241 ≤ 7293034) (h1 : vp_in (i + 1) L) (h2 : vp_in (i + 2) L) (h3 : vp_in (i + 3) L) (h4 : vp_in (i + 4) L) (h5 : vp_in (i + 5) L) (hB : S_B_brought (fun r z1 => S_M_brought (fun r1 y1 => r = r1 ∧ Inv z1 y1) ((xs (i + 1).toNatClampNeg)) y) ((xs (i + 1).toNatClampNeg)) z) (kk : YK p l e s m below meth c b L xs G A cL ao i Inv Q cells slots) : W p l e room_1 s m #[Value.ref b] below meth c H locs cells slots Q (F0 m 1548 ls []) := by
  have hx := S.1
  have hb := S.2.1
  obtain ⟨hcs1, hcs2⟩ := hcs
  refine lv_aload_n hx hb dL_law_1548 rfl (lv_at hl 3 rfl) ?_
  refine lv_aload_n hx hb dL_law_1549 rfl (lv_at hl 4 rfl) ?_
  refine lv_iload hx hb dL_law_1550 (lv_at hl 0 rfl) ?_
  refine lv_iconst (v := 1) hx hb dL_law_1552 (by decide) ?_
  refine lv_iadd hx hb dL_law_1553 ?_
  refine va_sld hx hb hX hbl hbA hS h1 dL_law_1554 ?_
  refine yVi [.int (xs (i + 1).toNatClampNeg)] S hE hA hPX (hPM.app hPO) hD hS (c_B_brought l G z H.size ((xs (i + 1).toNatClampNeg)) _) hB (gw_c lk_L_181 (gw_c wi_X11_brought (gw_c we_X11_X11_brought_X11_brought (gw_c wn_X11 (gw_c wc_X11_brought (fun _ h9 => h9)))))) hq_X11_brought rfl rfl (Nat.le_of_ble_eq_true rfl) (Nat.le_of_ble_eq_true rfl) ⟨by show cells + 0 ≤ 601024; omega, by show slots + 0 ≤ 7293034; omega⟩ (va_recv hE.1 hPX (ci := 10) (q0 := 0) rfl rfl) rfl hl.1 rfl (Nat.le_of_ble_eq_true rfl) dL_law_1555 (fun r1555 z H locs hB hPX hPr hD hS => ?_)
  obtain ⟨hPM, hPO⟩ := ySp hPr
  refine lv_aload_n hx hb dL_law_1558 rfl (lv_at hl 2 rfl) ?_
  refine lv_aload_n hx hb dL_law_1559 rfl (lv_at hl 4 rfl) ?_
  refine lv_iload hx hb dL_law_1560 (lv_at hl 0 rfl) ?_
  refine lv_iconst (v := 1) hx hb dL_law_1562 (by decide) ?_
  refine lv_iadd hx hb dL_law_1563 ?_
  refine va_sld hx hb hX hbl hbA hS h1 dL_law_1564 ?_
  refine yVi [.int (xs (i + 1).toNatClampNeg)] S hE hA hPM (hPX.app hPO) (yD3 hD) hS (c_M_brought l G y H.size ((xs (i + 1).toNatClampNeg)) _) hB (gw_c lk_L_184 (gw_c wi_X12_brought (gw_c we_X12_X12_brought_X12_brought (gw_c wn_X12 (gw_c wc_X12_brought (fun _ h9 => h9)))))) hq_X12_brought rfl rfl (Nat.le_of_ble_eq_true rfl) (Nat.le_of_ble_eq_true rfl) ⟨by show cells + 0 + 0 ≤ 601024; omega, by show slots + 0 + 0 ≤ 7293034; omega⟩ (va_recv hE.1 hPM (ci := 11) (q0 := 0) rfl rfl) rfl hl.1 rfl (Nat.le_of_ble_eq_true rfl) dL_law_1565 (fun r1565 y H locs hB hPM hPr hD0 hS => ?_)
  obtain ⟨hPX, hPO⟩ := ySp hPr
  have hD := yD3 hD0
  refine lv_icmp_eq (tgt := 1661) hx hb dL_law_1568 (by decide) (fun _ => ?_) (fun c9 => absurd hB.1 c9)
  refine W.widen (k := cells + 1) (n := slots + 241) (by omega) (by omega) ?_
  exact kk z y f H locs ls hB.2 hPX hPM hPO hD hS hl
set_option maxHeartbeats 4000000 in
set_option maxRecDepth 100000 in
theorem lc_saves (S : CallFix p m c cL_law 7 s #[Value.ref b] GW RL) (hE : env G A s s.heap) (hA : ∀ q, s.heap.size ≤ q → A q) (hX : va_X b L xs s s.heap) (hbl : b < s.heap.size) (hbA : ¬ A b) {z y : St} {f : Nat → Int64} {H : Heap} {locs : List Loc} {ls : Array Slot} {cells slots : Nat} (hPX : va_P G.1 classes (wX G z) H) (hPM : va_P G.1 classes (wM G y) H) (hPO : va_P G.1 classes (wO ao cL f) H) (hD : va_D A (wX G z ++ (wM G y ++ wO ao cL f))) (hS : va_S A s.heap H locs) (hl : lv_has ls 7 [(4, .int i), (3, .ref ao), (2, .ref (ad G 100)), (1, .ref (ad G 0)), (0, .ref b)]) (hcs : cells + 1 ≤ 601024 ∧ slots + 241 ≤ 7293034) (h1 : vp_in (i + 1) L) (h2 : vp_in (i + 2) L) (h3 : vp_in (i + 3) L) (h4 : vp_in (i + 4) L) (h5 : vp_in (i + 5) L) (hB : S_B_saves (fun r z1 => S_M_saves (fun r1 y1 => r = r1 ∧ Inv z1 y1) ((xs (i + 1).toNatClampNeg)) ((xs (i + 2).toNatClampNeg)) y) ((xs (i + 1).toNatClampNeg)) ((xs (i + 2).toNatClampNeg)) z) (kk : YK p l e s m below meth c b L xs G A cL ao i Inv Q cells slots) : W p l e room_1 s m #[Value.ref b] below meth c H locs cells slots Q (F0 m 1573 ls []) := by
  have hx := S.1
  have hb := S.2.1
  obtain ⟨hcs1, hcs2⟩ := hcs
  refine lv_aload_n hx hb dL_law_1573 rfl (lv_at hl 3 rfl) ?_
  refine lv_aload_n hx hb dL_law_1574 rfl (lv_at hl 4 rfl) ?_
  refine lv_iload hx hb dL_law_1575 (lv_at hl 0 rfl) ?_
  refine lv_iconst (v := 1) hx hb dL_law_1577 (by decide) ?_
  refine lv_iadd hx hb dL_law_1578 ?_
  refine va_sld hx hb hX hbl hbA hS h1 dL_law_1579 ?_
  refine lv_aload_n hx hb dL_law_1580 rfl (lv_at hl 4 rfl) ?_
  refine lv_iload hx hb dL_law_1581 (lv_at hl 0 rfl) ?_
  refine lv_iconst (v := 2) hx hb dL_law_1583 (by decide) ?_
  refine lv_iadd hx hb dL_law_1584 ?_
  refine va_sld hx hb hX hbl hbA hS h2 dL_law_1585 ?_
  refine yVi [.int (xs (i + 1).toNatClampNeg), .int (xs (i + 2).toNatClampNeg)] S hE hA hPX (hPM.app hPO) hD hS (c_B_saves l G z H.size ((xs (i + 1).toNatClampNeg)) ((xs (i + 2).toNatClampNeg)) _) hB (gw_c lk_L_185 (gw_c wi_X11_saves (gw_c we_X11_X11_saves_X11_saves (gw_c wn_X11 (gw_c wc_X11_saves (fun _ h9 => h9)))))) hq_X11_saves rfl rfl (Nat.le_of_ble_eq_true rfl) (Nat.le_of_ble_eq_true rfl) ⟨by show cells + 0 ≤ 601024; omega, by show slots + 0 ≤ 7293034; omega⟩ (va_recv hE.1 hPX (ci := 10) (q0 := 0) rfl rfl) rfl hl.1 rfl (Nat.le_of_ble_eq_true rfl) dL_law_1586 (fun r1586 z H locs hB hPX hPr hD hS => ?_)
  obtain ⟨hPM, hPO⟩ := ySp hPr
  refine lv_aload_n hx hb dL_law_1589 rfl (lv_at hl 2 rfl) ?_
  refine lv_aload_n hx hb dL_law_1590 rfl (lv_at hl 4 rfl) ?_
  refine lv_iload hx hb dL_law_1591 (lv_at hl 0 rfl) ?_
  refine lv_iconst (v := 1) hx hb dL_law_1593 (by decide) ?_
  refine lv_iadd hx hb dL_law_1594 ?_
  refine va_sld hx hb hX hbl hbA hS h1 dL_law_1595 ?_
  refine lv_aload_n hx hb dL_law_1596 rfl (lv_at hl 4 rfl) ?_
  refine lv_iload hx hb dL_law_1597 (lv_at hl 0 rfl) ?_
  refine lv_iconst (v := 2) hx hb dL_law_1599 (by decide) ?_
  refine lv_iadd hx hb dL_law_1600 ?_
  refine va_sld hx hb hX hbl hbA hS h2 dL_law_1601 ?_
  refine yVi [.int (xs (i + 1).toNatClampNeg), .int (xs (i + 2).toNatClampNeg)] S hE hA hPM (hPX.app hPO) (yD3 hD) hS (c_M_saves l G y H.size ((xs (i + 1).toNatClampNeg)) ((xs (i + 2).toNatClampNeg)) _) hB (gw_c lk_L_188 (gw_c wi_X12_saves (gw_c we_X12_X12_saves_X12_saves (gw_c wn_X12 (gw_c wc_X12_saves (fun _ h9 => h9)))))) hq_X12_saves rfl rfl (Nat.le_of_ble_eq_true rfl) (Nat.le_of_ble_eq_true rfl) ⟨by show cells + 0 + 0 ≤ 601024; omega, by show slots + 0 + 0 ≤ 7293034; omega⟩ (va_recv hE.1 hPM (ci := 11) (q0 := 0) rfl rfl) rfl hl.1 rfl (Nat.le_of_ble_eq_true rfl) dL_law_1602 (fun r1602 y H locs hB hPM hPr hD0 hS => ?_)
  obtain ⟨hPX, hPO⟩ := ySp hPr
  have hD := yD3 hD0
  refine lv_icmp_eq (tgt := 1661) hx hb dL_law_1605 (by decide) (fun _ => ?_) (fun c9 => absurd hB.1 c9)
  refine W.widen (k := cells + 1) (n := slots + 241) (by omega) (by omega) ?_
  exact kk z y f H locs ls hB.2 hPX hPM hPO hD hS hl
set_option maxHeartbeats 4000000 in
set_option maxRecDepth 100000 in
theorem lc_image (S : CallFix p m c cL_law 7 s #[Value.ref b] GW RL) (hE : env G A s s.heap) (hA : ∀ q, s.heap.size ≤ q → A q) (hX : va_X b L xs s s.heap) (hbl : b < s.heap.size) (hbA : ¬ A b) {z y : St} {f : Nat → Int64} {H : Heap} {locs : List Loc} {ls : Array Slot} {cells slots : Nat} (hPX : va_P G.1 classes (wX G z) H) (hPM : va_P G.1 classes (wM G y) H) (hPO : va_P G.1 classes (wO ao cL f) H) (hD : va_D A (wX G z ++ (wM G y ++ wO ao cL f))) (hS : va_S A s.heap H locs) (hl : lv_has ls 7 [(4, .int i), (3, .ref ao), (2, .ref (ad G 100)), (1, .ref (ad G 0)), (0, .ref b)]) (hcs : cells + 1 ≤ 601024 ∧ slots + 241 ≤ 7293034) (h1 : vp_in (i + 1) L) (h2 : vp_in (i + 2) L) (h3 : vp_in (i + 3) L) (h4 : vp_in (i + 4) L) (h5 : vp_in (i + 5) L) (hB : S_B_image (fun r z1 => S_M_image (fun r1 y1 => r = r1 ∧ Inv z1 y1)  y)  z) (kk : YK p l e s m below meth c b L xs G A cL ao i Inv Q cells slots) : W p l e room_1 s m #[Value.ref b] below meth c H locs cells slots Q (F0 m 1610 ls []) := by
  have hx := S.1
  have hb := S.2.1
  obtain ⟨hcs1, hcs2⟩ := hcs
  refine lv_aload_n hx hb dL_law_1610 rfl (lv_at hl 3 rfl) ?_
  refine yVi [] S hE hA hPX (hPM.app hPO) hD hS (c_B_image l G z H.size  _) hB (gw_c lk_L_189 (gw_c wi_X11_image (gw_c we_X11_X11_image_X11_image (gw_c wn_X11 (gw_c wc_X11_image (fun _ h9 => h9)))))) hq_X11_image rfl rfl (Nat.le_of_ble_eq_true rfl) (Nat.le_of_ble_eq_true rfl) ⟨by show cells + 0 ≤ 601024; omega, by show slots + 0 ≤ 7293034; omega⟩ (va_recv hE.1 hPX (ci := 10) (q0 := 0) rfl rfl) rfl hl.1 rfl (Nat.le_of_ble_eq_true rfl) dL_law_1611 (fun r1611 z H locs hB hPX hPr hD hS => ?_)
  obtain ⟨hPM, hPO⟩ := ySp hPr
  refine lv_aload_n hx hb dL_law_1614 rfl (lv_at hl 2 rfl) ?_
  refine yVi [] S hE hA hPM (hPX.app hPO) (yD3 hD) hS (c_M_image l G y H.size  _) hB (gw_c lk_L_192 (gw_c wi_X12_image (gw_c we_X12_X12_image_X12_image (gw_c wn_X12 (gw_c wc_X12_image (fun _ h9 => h9)))))) hq_X12_image rfl rfl (Nat.le_of_ble_eq_true rfl) (Nat.le_of_ble_eq_true rfl) ⟨by show cells + 0 + 0 ≤ 601024; omega, by show slots + 0 + 0 ≤ 7293034; omega⟩ (va_recv hE.1 hPM (ci := 11) (q0 := 0) rfl rfl) rfl hl.1 rfl (Nat.le_of_ble_eq_true rfl) dL_law_1615 (fun r1615 y H locs hB hPM hPr hD0 hS => ?_)
  obtain ⟨hPX, hPO⟩ := ySp hPr
  have hD := yD3 hD0
  refine lv_icmp_eq (tgt := 1661) hx hb dL_law_1618 (by decide) (fun _ => ?_) (fun c9 => absurd hB.1 c9)
  refine W.widen (k := cells + 1) (n := slots + 241) (by omega) (by omega) ?_
  exact kk z y f H locs ls hB.2 hPX hPM hPO hD hS hl
set_option maxHeartbeats 4000000 in
set_option maxRecDepth 100000 in
theorem lc_back (S : CallFix p m c cL_law 7 s #[Value.ref b] GW RL) (hE : env G A s s.heap) (hA : ∀ q, s.heap.size ≤ q → A q) (hX : va_X b L xs s s.heap) (hbl : b < s.heap.size) (hbA : ¬ A b) {z y : St} {f : Nat → Int64} {H : Heap} {locs : List Loc} {ls : Array Slot} {cells slots : Nat} (hPX : va_P G.1 classes (wX G z) H) (hPM : va_P G.1 classes (wM G y) H) (hPO : va_P G.1 classes (wO ao cL f) H) (hD : va_D A (wX G z ++ (wM G y ++ wO ao cL f))) (hS : va_S A s.heap H locs) (hl : lv_has ls 7 [(4, .int i), (3, .ref ao), (2, .ref (ad G 100)), (1, .ref (ad G 0)), (0, .ref b)]) (hcs : cells + 1 ≤ 601024 ∧ slots + 241 ≤ 7293034) (h1 : vp_in (i + 1) L) (h2 : vp_in (i + 2) L) (h3 : vp_in (i + 3) L) (h4 : vp_in (i + 4) L) (h5 : vp_in (i + 5) L) (hB : S_B_back (fun r z1 => S_M_back (fun r1 y1 => r = r1 ∧ Inv z1 y1)  y)  z) (kk : YK p l e s m below meth c b L xs G A cL ao i Inv Q cells slots) : W p l e room_1 s m #[Value.ref b] below meth c H locs cells slots Q (F0 m 1623 ls []) := by
  have hx := S.1
  have hb := S.2.1
  obtain ⟨hcs1, hcs2⟩ := hcs
  refine lv_aload_n hx hb dL_law_1623 rfl (lv_at hl 3 rfl) ?_
  refine yVi [] S hE hA hPX (hPM.app hPO) hD hS (c_B_back l G z H.size  _) hB (gw_c lk_L_193 (gw_c wi_X11_back (gw_c we_X11_X11_back_X11_back (gw_c wn_X11 (gw_c wc_X11_back (fun _ h9 => h9)))))) hq_X11_back rfl rfl (Nat.le_of_ble_eq_true rfl) (Nat.le_of_ble_eq_true rfl) ⟨by show cells + 0 ≤ 601024; omega, by show slots + 0 ≤ 7293034; omega⟩ (va_recv hE.1 hPX (ci := 10) (q0 := 0) rfl rfl) rfl hl.1 rfl (Nat.le_of_ble_eq_true rfl) dL_law_1624 (fun r1624 z H locs hB hPX hPr hD hS => ?_)
  obtain ⟨hPM, hPO⟩ := ySp hPr
  refine lv_aload_n hx hb dL_law_1627 rfl (lv_at hl 2 rfl) ?_
  refine yVi [] S hE hA hPM (hPX.app hPO) (yD3 hD) hS (c_M_back l G y H.size  _) hB (gw_c lk_L_196 (gw_c wi_X12_back (gw_c we_X12_X12_back_X12_back (gw_c wn_X12 (gw_c wc_X12_back (fun _ h9 => h9)))))) hq_X12_back rfl rfl (Nat.le_of_ble_eq_true rfl) (Nat.le_of_ble_eq_true rfl) ⟨by show cells + 0 + 0 ≤ 601024; omega, by show slots + 0 + 0 ≤ 7293034; omega⟩ (va_recv hE.1 hPM (ci := 11) (q0 := 0) rfl rfl) rfl hl.1 rfl (Nat.le_of_ble_eq_true rfl) dL_law_1628 (fun r1628 y H locs hB hPM hPr hD0 hS => ?_)
  obtain ⟨hPX, hPO⟩ := ySp hPr
  have hD := yD3 hD0
  refine lv_icmp_eq (tgt := 1661) hx hb dL_law_1631 (by decide) (fun _ => ?_) (fun c9 => absurd hB.1 c9)
  refine W.widen (k := cells + 1) (n := slots + 241) (by omega) (by omega) ?_
  exact kk z y f H locs ls hB.2 hPX hPM hPO hD hS hl
set_option maxHeartbeats 4000000 in
set_option maxRecDepth 100000 in
theorem lc_count (S : CallFix p m c cL_law 7 s #[Value.ref b] GW RL) (hE : env G A s s.heap) (hA : ∀ q, s.heap.size ≤ q → A q) (hX : va_X b L xs s s.heap) (hbl : b < s.heap.size) (hbA : ¬ A b) {z y : St} {f : Nat → Int64} {H : Heap} {locs : List Loc} {ls : Array Slot} {cells slots : Nat} (hPX : va_P G.1 classes (wX G z) H) (hPM : va_P G.1 classes (wM G y) H) (hPO : va_P G.1 classes (wO ao cL f) H) (hD : va_D A (wX G z ++ (wM G y ++ wO ao cL f))) (hS : va_S A s.heap H locs) (hl : lv_has ls 7 [(4, .int i), (3, .ref ao), (2, .ref (ad G 100)), (1, .ref (ad G 0)), (0, .ref b)]) (hcs : cells + 1 ≤ 601024 ∧ slots + 241 ≤ 7293034) (h1 : vp_in (i + 1) L) (h2 : vp_in (i + 2) L) (h3 : vp_in (i + 3) L) (h4 : vp_in (i + 4) L) (h5 : vp_in (i + 5) L) (hB : S_B_count (fun r z1 => S_M_count (fun r1 y1 => r = r1 ∧ Inv z1 y1) ((xs (i + 1).toNatClampNeg)) y) ((xs (i + 1).toNatClampNeg)) z) (kk : YK p l e s m below meth c b L xs G A cL ao i Inv Q cells slots) : W p l e room_1 s m #[Value.ref b] below meth c H locs cells slots Q (F0 m 1636 ls []) := by
  have hx := S.1
  have hb := S.2.1
  obtain ⟨hcs1, hcs2⟩ := hcs
  refine lv_aload_n hx hb dL_law_1636 rfl (lv_at hl 3 rfl) ?_
  refine lv_aload_n hx hb dL_law_1637 rfl (lv_at hl 4 rfl) ?_
  refine lv_iload hx hb dL_law_1638 (lv_at hl 0 rfl) ?_
  refine lv_iconst (v := 1) hx hb dL_law_1640 (by decide) ?_
  refine lv_iadd hx hb dL_law_1641 ?_
  refine va_sld hx hb hX hbl hbA hS h1 dL_law_1642 ?_
  refine yVi [.int (xs (i + 1).toNatClampNeg)] S hE hA hPX (hPM.app hPO) hD hS (c_B_count l G z H.size ((xs (i + 1).toNatClampNeg)) _) hB (gw_c lk_L_197 (gw_c wi_X11_count (gw_c we_X11_X11_count_X11_count (gw_c wn_X11 (gw_c wc_X11_count (fun _ h9 => h9)))))) hq_X11_count rfl rfl (Nat.le_of_ble_eq_true rfl) (Nat.le_of_ble_eq_true rfl) ⟨by show cells + 0 ≤ 601024; omega, by show slots + 0 ≤ 7293034; omega⟩ (va_recv hE.1 hPX (ci := 10) (q0 := 0) rfl rfl) rfl hl.1 rfl (Nat.le_of_ble_eq_true rfl) dL_law_1643 (fun r1643 z H locs hB hPX hPr hD hS => ?_)
  obtain ⟨hPM, hPO⟩ := ySp hPr
  refine lv_aload_n hx hb dL_law_1646 rfl (lv_at hl 2 rfl) ?_
  refine lv_aload_n hx hb dL_law_1647 rfl (lv_at hl 4 rfl) ?_
  refine lv_iload hx hb dL_law_1648 (lv_at hl 0 rfl) ?_
  refine lv_iconst (v := 1) hx hb dL_law_1650 (by decide) ?_
  refine lv_iadd hx hb dL_law_1651 ?_
  refine va_sld hx hb hX hbl hbA hS h1 dL_law_1652 ?_
  refine yVi [.int (xs (i + 1).toNatClampNeg)] S hE hA hPM (hPX.app hPO) (yD3 hD) hS (c_M_count l G y H.size ((xs (i + 1).toNatClampNeg)) _) hB (gw_c lk_L_200 (gw_c wi_X12_count (gw_c we_X12_X12_count_X12_count (gw_c wn_X12 (gw_c wc_X12_count (fun _ h9 => h9)))))) hq_X12_count rfl rfl (Nat.le_of_ble_eq_true rfl) (Nat.le_of_ble_eq_true rfl) ⟨by show cells + 0 + 0 ≤ 601024; omega, by show slots + 0 + 0 ≤ 7293034; omega⟩ (va_recv hE.1 hPM (ci := 11) (q0 := 0) rfl rfl) rfl hl.1 rfl (Nat.le_of_ble_eq_true rfl) dL_law_1653 (fun r1653 y H locs hB hPM hPr hD0 hS => ?_)
  obtain ⟨hPX, hPO⟩ := ySp hPr
  have hD := yD3 hD0
  refine lv_icmp_eq (tgt := 1661) hx hb dL_law_1656 (by decide) (fun _ => ?_) (fun c9 => absurd hB.1 c9)
  refine W.widen (k := cells + 1) (n := slots + 241) (by omega) (by omega) ?_
  exact kk z y f H locs ls hB.2 hPX hPM hPO hD hS hl
end LAWC
