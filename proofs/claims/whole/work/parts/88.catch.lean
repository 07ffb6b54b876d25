/-! Caught by the one row of a method's table. -/
section XCT
variable {p : Program} {l : Launch} {e : Env} {R : Room} {s : State} {m : MethodId} {args : Array Value} {below : List Frame} {meth : Method} {c : Code} {H : Heap} {locs : List Loc} {cells slots : Nat} {Q : State → Prop}
/-- the search ends at the row, the class that it names is noted -/
theorem xc_find {S : State} {f : JFrame} {a : Addr} {x : ExceptionTableEntry} {ct : ClassId} {cell : Cell} {k1 k2 : Class} (hm : S.vm.method? f.method = some meth) (hc : meth.code = some c) (ht : c.exceptionTable.toList = [x]) (hx : covers x f.pc = true) (h0 : x.catchType ≠ 0) (hl : S.vm.ClassLinks e.platform f.method.cls x.catchType ct) (ha : S.heap[a]? = some cell) (ho : ∀ k, cell.vm ≠ .statics k) (hk1 : S.vm.classes[cell.cls]? = some k1) (hk2 : S.vm.classes[ct]? = some k2) (hf : S.vm.assignable cell.cls ct = true) (QQ : Handler → Pre) (E : CtlPost) (d : Bool) (acts : List Action) :
    wp (findHandler f a) QQ E e d acts S ↔ QQ (.found x.handlerPc) d acts (S.setVm (S.vm.noted f.method.cls x.catchType (.cls ct))) := by
  rw [W.findHandler_eq hm hc, ht]
  have al : S.vm.Alike (S.vm.noted f.method.cls x.catchType (.cls ct)) := (Vm.Alike.refl S.vm).noted _ _ _
  obtain ⟨r1, r2⟩ := (resolveClass_links e.toSetting hl).op (op := VmOp.resolveClass f.method.cls x.catchType) rfl
  obtain ⟨j1, hj1, -⟩ := al.2.2 _ _ hk1
  obtain ⟨j2, hj2, -⟩ := al.2.2 _ _ hk2
  have hf2 : (S.vm.noted f.method.cls x.catchType (.cls ct)).assignable cell.cls ct = true := by rw [al.assignable]; exact hf
  simp only [covers] at hx
  simp [findHandler.go, hx, h0, r1, r2, ha, ho, hj1, hj2, hf2, VmOp.dirties, VmOp.acts]
theorem xc_go {T : State} (X : Stand p l e R s m args below meth c T locs cells slots) {g : JFrame} (hg : g.method = m) {a : Addr} {pc : Nat} {vm' : Vm} (hf : ∀ (QQ : Handler → Pre) (E : CtlPost) (d : Bool) (acts : List Action), wp (findHandler g a) QQ E e d acts ((T.setTop g).pushFrame (.throwing a)) ↔ QQ (.found pc) d acts (((T.setTop g).pushFrame (.throwing a)).setVm vm')) {t : State} (hr : Steps p.tables e below ((T.setVm vm').setTop { g with pc := pc, stack := [.ref a] }) t) : Steps p.tables e below ((T.setTop g).pushFrame (.throwing a)) t := by
  have h : At T g.method c below := by rw [hg]; exact X.here
  obtain ⟨b1, b2⟩ := h.throwing a
  refine Steps.head b1 b2 ?_
  rw [stepThread_throwing (frames_entered h.top _)]
  have hst : (stepThrowing e ((T.setTop g).pushFrame (.throwing a)) a (.java g :: T.frames.tail)).1 = (((T.setTop g).pushFrame (.throwing a)).setVm vm').setFrames (.java { g with pc := pc, stack := [.ref a] } :: T.frames.tail) := by
    simp only [stepThrowing, searchFrame, vmDo]
    generalize hq : Sem.go _ e false [] ((T.setTop g).pushFrame (.throwing a)) = res
    obtain ⟨as, rfl, -⟩ := Sem.eq_ok_of hq (a := Handler.found pc) (s' := ((T.setTop g).pushFrame (.throwing a)).setVm vm') (acts' := []) (by simp [hf _ _ _ _])
    rfl
  rw [hst]
  obtain ⟨g1, hg1⟩ := Option.isSome_iff_exists.mp h.top
  obtain ⟨r, hfr⟩ := State.topJava?_eq_some.mp hg1
  have hfr2 : (T.setVm vm').frames = .java g1 :: r := hfr
  rw [State.setTop_of_frames _ hfr2] at hr
  have e1 : (((T.setTop g).pushFrame (.throwing a)).setVm vm').setFrames (.java { g with pc := pc, stack := [.ref a] } :: T.frames.tail) = (T.setVm vm').setFrames (.java { g with pc := pc, stack := [.ref a] } :: r) := by
    rw [State.pushFrame, State.setTop_of_frames _ hfr, State.setFrames_setFrames, hfr, List.tail_cons]
    have e2 : ∀ (F : List Frame), (T.setFrames F).setVm vm' = (T.setVm vm').setFrames F := fun _ => rfl
    rw [e2, State.setFrames_setFrames]
  rw [e1]
  exact hr
theorem xc_catch {own name E : String} {ce : Cell} {q : Addr} {x : ExceptionTableEntry} {pc : Nat} {ls : Array Slot} {rest : List Value} (hown : s.vm.findClass own = some m.cls) (ht : c.exceptionTable.toList = [x]) (hx : covers x pc = true) (h0 : x.catchType ≠ 0) (hlink : (Cond.classLink own x.catchType name).before args s = true) (hcast : (Cond.castable E name).before args s = true) (hcell : H[q]? = some ce) (hv : ce.vm = .none) (hcl : s.vm.findClass E = some ce.cls)
    (kk : W p l e R s m args below meth c H locs cells slots Q (F0 m x.handlerPc ls [.ref q])) : vx_W p l e R s m args below meth c H locs cells slots Q (F0 m pc ls rest) q := by
  intro T hT X
  have hpl : e.platform.magicAccessors = ({} : Platform).magicAccessors := by rw [X.admits.platform]
  obtain ⟨c3, c4, hc3, hc4, hasg⟩ := Cond.castable_spec hcast
  cases Option.some.inj (hc3.symm.trans hcl)
  obtain ⟨c5, hc5, hcl5⟩ := Cond.classLink_spec hown hlink e.platform hpl
  cases Option.some.inj (hc4.symm.trans hc5)
  obtain ⟨dk, _, _, kt, hd, _, _, _, _, hkt, _, hopen⟩ := hcl5.here
  obtain ⟨k9, hk9, -⟩ := Vm.findClass_spec hcl
  have hal := X.warmed.alike
  obtain ⟨kt', hkt', -⟩ := hal.2.2 _ _ hkt
  obtain ⟨k9', hk9', -⟩ := hal.2.2 _ _ hk9
  have hW' : s.WarmedH (T.vm.noted m.cls x.catchType (.cls c4)) := X.warmed.noted hd hopen (State.rightAt_cls hcl5)
  obtain ⟨t, a1, b1⟩ := kk (T.setVm (T.vm.noted m.cls x.catchType (.cls c4))) hT (X.noted hW')
  refine ⟨t, xc_go X (g := F0 m pc ls rest) rfl (fun QQ E d acts => ?_) a1, b1⟩
  exact xc_find (f := F0 m pc ls rest) (S := (T.setTop (F0 m pc ls rest)).pushFrame (.throwing q)) (meth := meth) (c := c) (k1 := k9') (k2 := kt') X.method' X.code ht hx h0 (X.warmed.classLinks hcl5) (by rw [← hT] at hcell; exact hcell) (fun k hk => by rw [hv] at hk; cases hk) hk9' hkt' (by rw [show ((T.setTop (F0 m pc ls rest)).pushFrame (.throwing q)).vm = T.vm from rfl, hal.assignable]; exact hasg) QQ E d acts
end XCT
