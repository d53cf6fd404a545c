/-! An exception is caught by the first row of the method's table, its class resolved now or before. -/
theorem xfind {e : Env} {s : State} {f : JFrame} {a : Addr} {Q : Handler → Pre} {E : CtlPost} {d : Bool} {acts : List Action} {x : ExceptionTableEntry} {t : List ExceptionTableEntry} {c : ClassId} {cell : Cell} {vm' : Vm} (hx : covers x f.pc = true) (h0 : x.catchType ≠ 0)
    (hg : (Jvm.resolveClass f.method.cls x.catchType).Gives e.toSetting s.vm (.ok c) vm') (hsz : vm'.classes.size ≤ s.vm.classes.size) (hcell : s.heap[a]? = some cell) (hobj : ∀ k, cell.vm ≠ .statics k)
    (hk : ∃ k, vm'.classes[cell.cls]? = some k) (hc : ∃ k, vm'.classes[c]? = some k) (hfit : vm'.assignable cell.cls c = true) :
    wp (findHandler.go f a (x :: t)) Q E e d acts s ↔ Q (.found x.handlerPc) d acts (s.setVm vm') := by
  simp only [covers] at hx
  obtain ⟨ha, ht⟩ := hg.op (op := VmOp.resolveClass f.method.cls x.catchType) rfl
  simp [findHandler.go, hx, h0, ha, ht, hsz, hcell, hobj, hk, hc, hfit, VmOp.dirties, VmOp.acts]
theorem xstepT {e : Env} {s : State} {f : JFrame} {a : Addr} {r : List Frame} {x : ExceptionTableEntry} {t : List ExceptionTableEntry} {c : ClassId} {cell : Cell} {vm' : Vm} {meth : Method} {code : Code} (hm : s.vm.method? f.method = some meth) (hcd : meth.code = some code) (htab : code.exceptionTable.toList = x :: t) (hx : covers x f.pc = true) (h0 : x.catchType ≠ 0)
    (hg : (Jvm.resolveClass f.method.cls x.catchType).Gives e.toSetting s.vm (.ok c) vm') (hsz : vm'.classes.size ≤ s.vm.classes.size) (hcell : s.heap[a]? = some cell) (hobj : ∀ k, cell.vm ≠ .statics k)
    (hk : ∃ k, vm'.classes[cell.cls]? = some k) (hc : ∃ k, vm'.classes[c]? = some k) (hfit : vm'.assignable cell.cls c = true) :
    (stepThrowing e s a (.java f :: r)).Is ((s.setVm vm').setFrames (.java { f with pc := x.handlerPc, stack := [.ref a] } :: r)) [] := by
  simp only [stepThrowing, searchFrame, vmDo]
  generalize hr : Sem.go _ e false [] s = res
  obtain ⟨as, rfl, ha⟩ := Sem.eq_ok_of hr (a := Handler.found x.handlerPc) (s' := s.setVm vm') (acts' := []) (by
    simp [Jvm.W.findHandler_eq hm hcd, htab, xfind hx h0 hg hsz hcell hobj hk hc hfit])
  exact ⟨rfl, ha⟩
theorem xcaught {tb : Tables} {e : Env} {s target : State} {g : JFrame} {c : Code} {below : List Frame} {a : Addr} {x : ExceptionTableEntry} {t : List ExceptionTableEntry} {cC : ClassId} {cell : Cell} {vm' : Vm} {meth : Method} (h : At s g.method c below) (hm : s.vm.method? g.method = some meth) (hcd : meth.code = some c) (htab : c.exceptionTable.toList = x :: t) (hx : covers x g.pc = true) (h0 : x.catchType ≠ 0)
    (hg : (Jvm.resolveClass g.method.cls x.catchType).Gives e.toSetting s.vm (.ok cC) vm') (hsz : vm'.classes.size ≤ s.vm.classes.size) (hcell : s.heap[a]? = some cell) (hobj : ∀ k, cell.vm ≠ .statics k)
    (hk : ∃ k, vm'.classes[cell.cls]? = some k) (hc : ∃ k, vm'.classes[cC]? = some k) (hfit : vm'.assignable cell.cls cC = true)
    (hrest : Steps tb e below ((s.setVm vm').setTop { g with pc := x.handlerPc, stack := [.ref a] }) target) :
    Steps tb e below ((s.setTop g).pushFrame (.throwing a)) target := by
  obtain ⟨hgo, hw⟩ := h.throwing a
  refine Steps.head hgo hw ?_
  rw [stepThread_throwing (frames_entered h.top _), (xstepT (s := (s.setTop g).pushFrame (.throwing a)) (f := g) (meth := meth) (code := c) hm hcd htab hx h0 hg hsz hcell hobj hk hc hfit).1]
  obtain ⟨g₀, hg0⟩ := Option.isSome_iff_exists.mp h.top
  obtain ⟨r, hr⟩ := State.topJava?_eq_some.mp hg0
  rw [State.setTop_of_frames _ (show (s.setVm vm').frames = .java g₀ :: r from hr)] at hrest
  show Steps tb e below ((((s.setTop g).pushFrame (.throwing a)).setVm vm').setFrames _) target
  rw [State.pushFrame, State.setTop_of_frames _ hr, State.setFrames_setFrames, hr]
  show Steps tb e below (((s.setVm vm').setFrames (Frame.throwing a :: (s.setFrames (Frame.java g :: r)).frames)).setFrames _) target
  rw [State.setFrames_setFrames]
  exact hrest
theorem xskip {e : Env} {s : State} {f : JFrame} {a : Addr} {Q : Handler → Pre} {E : CtlPost} {d : Bool} {acts : List Action} {x : ExceptionTableEntry} {t : List ExceptionTableEntry} {c : ClassId} {cell : Cell} {vm' : Vm} (hx : covers x f.pc = true) (h0 : x.catchType ≠ 0)
    (hg : (Jvm.resolveClass f.method.cls x.catchType).Gives e.toSetting s.vm (.ok c) vm') (hsz : vm'.classes.size ≤ s.vm.classes.size) (hcell : s.heap[a]? = some cell) (hobj : ∀ k, cell.vm ≠ .statics k)
    (hk : ∃ k, vm'.classes[cell.cls]? = some k) (hc : ∃ k, vm'.classes[c]? = some k) (hfit : vm'.assignable cell.cls c = false) :
    wp (findHandler.go f a (x :: t)) Q E e d acts s ↔ wp (findHandler.go f a t) Q E e d acts (s.setVm vm') := by
  simp only [covers] at hx
  obtain ⟨ha, ht⟩ := hg.op (op := VmOp.resolveClass f.method.cls x.catchType) rfl
  rw [findHandler.go]
  simp [hx, h0, ha, ht, hsz, hcell, hobj, hk, hc, hfit, VmOp.dirties, VmOp.acts]
theorem xstepT2 {e : Env} {s : State} {f : JFrame} {a : Addr} {r : List Frame} {x y : ExceptionTableEntry} {t : List ExceptionTableEntry} {c1 c : ClassId} {cell : Cell} {vm1 vm' : Vm} {meth : Method} {code : Code} (hm : s.vm.method? f.method = some meth) (hcd : meth.code = some code) (htab : code.exceptionTable.toList = x :: y :: t) (hx1 : covers x f.pc = true) (h01 : x.catchType ≠ 0)
    (hg1 : (Jvm.resolveClass f.method.cls x.catchType).Gives e.toSetting s.vm (.ok c1) vm1) (hsz1 : vm1.classes.size ≤ s.vm.classes.size) (hcell : s.heap[a]? = some cell) (hobj : ∀ k, cell.vm ≠ .statics k)
    (hk1 : ∃ k, vm1.classes[cell.cls]? = some k) (hc1 : ∃ k, vm1.classes[c1]? = some k) (hno : vm1.assignable cell.cls c1 = false)
    (hx : covers y f.pc = true) (h0 : y.catchType ≠ 0) (hg : (Jvm.resolveClass f.method.cls y.catchType).Gives e.toSetting vm1 (.ok c) vm') (hsz : vm'.classes.size ≤ vm1.classes.size)
    (hk : ∃ k, vm'.classes[cell.cls]? = some k) (hc : ∃ k, vm'.classes[c]? = some k) (hfit : vm'.assignable cell.cls c = true) :
    (stepThrowing e s a (.java f :: r)).Is ((s.setVm vm').setFrames (.java { f with pc := y.handlerPc, stack := [.ref a] } :: r)) [] := by
  simp only [stepThrowing, searchFrame, vmDo]
  generalize hr : Sem.go _ e false [] s = res
  obtain ⟨as, rfl, ha⟩ := Sem.eq_ok_of hr (a := Handler.found y.handlerPc) (s' := s.setVm vm') (acts' := []) (by
    simp [Jvm.W.findHandler_eq hm hcd, htab, xskip hx1 h01 hg1 hsz1 hcell hobj hk1 hc1 hno, xfind (s := s.setVm vm1) hx h0 hg hsz hcell hobj hk hc hfit]
    rfl)
  exact ⟨rfl, ha⟩
theorem xcaught2 {tb : Tables} {e : Env} {s target : State} {g : JFrame} {c : Code} {below : List Frame} {a : Addr} {x y : ExceptionTableEntry} {t : List ExceptionTableEntry} {c1 cC : ClassId} {cell : Cell} {vm1 vm' : Vm} {meth : Method} (h : At s g.method c below) (hm : s.vm.method? g.method = some meth) (hcd : meth.code = some c) (htab : c.exceptionTable.toList = x :: y :: t) (hx1 : covers x g.pc = true) (h01 : x.catchType ≠ 0)
    (hg1 : (Jvm.resolveClass g.method.cls x.catchType).Gives e.toSetting s.vm (.ok c1) vm1) (hsz1 : vm1.classes.size ≤ s.vm.classes.size) (hcell : s.heap[a]? = some cell) (hobj : ∀ k, cell.vm ≠ .statics k)
    (hk1 : ∃ k, vm1.classes[cell.cls]? = some k) (hc1 : ∃ k, vm1.classes[c1]? = some k) (hno : vm1.assignable cell.cls c1 = false)
    (hx : covers y g.pc = true) (h0 : y.catchType ≠ 0) (hg : (Jvm.resolveClass g.method.cls y.catchType).Gives e.toSetting vm1 (.ok cC) vm') (hsz : vm'.classes.size ≤ vm1.classes.size)
    (hk : ∃ k, vm'.classes[cell.cls]? = some k) (hc : ∃ k, vm'.classes[cC]? = some k) (hfit : vm'.assignable cell.cls cC = true)
    (hrest : Steps tb e below ((s.setVm vm').setTop { g with pc := y.handlerPc, stack := [.ref a] }) target) :
    Steps tb e below ((s.setTop g).pushFrame (.throwing a)) target := by
  obtain ⟨hgo, hw⟩ := h.throwing a
  refine Steps.head hgo hw ?_
  rw [stepThread_throwing (frames_entered h.top _), (xstepT2 (s := (s.setTop g).pushFrame (.throwing a)) (f := g) (meth := meth) (code := c) hm hcd htab hx1 h01 hg1 hsz1 hcell hobj hk1 hc1 hno hx h0 hg hsz hk hc hfit).1]
  obtain ⟨g₀, hg0⟩ := Option.isSome_iff_exists.mp h.top
  obtain ⟨r, hr⟩ := State.topJava?_eq_some.mp hg0
  rw [State.setTop_of_frames _ (show (s.setVm vm').frames = .java g₀ :: r from hr)] at hrest
  show Steps tb e below ((((s.setTop g).pushFrame (.throwing a)).setVm vm').setFrames _) target
  rw [State.pushFrame, State.setTop_of_frames _ hr, State.setFrames_setFrames, hr]
  show Steps tb e below (((s.setVm vm').setFrames (Frame.throwing a :: (s.setFrames (Frame.java g :: r)).frames)).setFrames _) target
  rw [State.setFrames_setFrames]
  exact hrest
