/-! CATCHING: the search through a method's handlers, its classes resolved or not yet -/
section CA
variable {e : Env} {f : JFrame} {a : Addr}
theorem ca_go {Q : Handler → Pre} {E : CtlPost} {d : Bool} {acts : List Action} {s : State} {x : ExceptionTableEntry} {t : List ExceptionTableEntry} {c : ClassId} {cell : Cell} (hx : covers x f.pc = true) (h0 : x.catchType ≠ 0)
    (hl : s.vm.ClassLinks e.platform f.method.cls x.catchType c) (hcell : s.heap[a]? = some cell) (hobj : ∀ k, cell.vm ≠ .statics k) (hk : ∃ k, s.vm.classes[cell.cls]? = some k) (hc : ∃ k, s.vm.classes[c]? = some k) :
    wp (findHandler.go f a (x :: t)) Q E e d acts s ↔ if s.vm.assignable cell.cls c = true then Q (.found x.handlerPc) d acts (s.setVm (s.vm.noted f.method.cls x.catchType (.cls c)))
      else wp (findHandler.go f a t) Q E e d acts (s.setVm (s.vm.noted f.method.cls x.catchType (.cls c))) := by
  simp only [covers] at hx
  obtain ⟨h1, h2⟩ := (resolveClass_links e.toSetting hl).op (op := VmOp.resolveClass f.method.cls x.catchType) rfl
  have hal : s.vm.Alike (s.vm.noted f.method.cls x.catchType (.cls c)) := (Vm.Alike.refl s.vm).noted _ _ _
  obtain ⟨k1, g1⟩ := hk
  obtain ⟨k2, g2⟩ := hc
  obtain ⟨k3, g3, -⟩ := hal.2.2 _ _ g1
  obtain ⟨k4, g4, -⟩ := hal.2.2 _ _ g2
  have hfit : (s.vm.noted f.method.cls x.catchType (.cls c)).assignable cell.cls c = s.vm.assignable cell.cls c := by rw [hal.assignable]
  cases hb : s.vm.assignable cell.cls c <;> simp [findHandler.go, hx, h0, h1, h2, hcell, hobj, g3, g4, hfit, hb, VmOp.dirties, VmOp.acts]
/-- which handler takes an exception of the kind k thrown at pc -/
def ca_sel (own : String) (pc k : Nat) : List (Nat × Nat × Nat × Nat) → Nat → Prop
  | [], _ => False
  | q :: r, hp => q.1 ≤ pc ∧ pc < q.2.1 ∧ q.2.2.2 ≠ 0 ∧ ∃ j, Cond.classLink own q.2.2.2 (mj_xn j) ∈ mj_wd ∧ ((mj_xn j = mj_xn k ∧ (.castable (mj_xn k) (mj_xn j), true) ∈ mj_tw ∧ hp = q.2.2.1) ∨ ((.castable (mj_xn k) (mj_xn j), false) ∈ mj_tw ∧ ca_sel own pc k r hp))
theorem ca_find {own : String} {s : State} {args : Array Value} {A : Nat → Prop} {cell : Cell} {k hp : Nat} (hw : ∀ w ∈ mj_wd, w.before args s = true) (hN : mj_Nw A s) (hown : s.vm.findClass own = some f.method.cls) (hpl : e.platform.magicAccessors = ({} : Platform).magicAccessors) (hcl : s.vm.findClass (mj_xn k) = some cell.cls) (hv : cell.vm = .none) :
    ∀ (tb : List ExceptionTableEntry) (u : State), s.WarmedH u.vm → u.heap[a]? = some cell → ca_sel own f.pc k (tb.map fun h => (h.startPc, h.endPc, h.handlerPc, h.catchType)) hp →
      ∃ vm', s.WarmedH vm' ∧ ∀ (Q : Handler → Pre) (E : CtlPost) (d : Bool) (acts : List Action), wp (findHandler.go f a tb) Q E e d acts u ↔ Q (.found hp) d acts (u.setVm vm')
  | [], _, _, _, h => False.elim h
  | x :: t, u, hW, hc, hs => by
    obtain ⟨h1, h2, h3, j, hlk, hcase⟩ := hs
    have h1 : x.startPc ≤ f.pc := h1
    have h2 : f.pc < x.endPc := h2
    have h3 : x.catchType ≠ 0 := h3
    obtain ⟨cj, hfj, hlj⟩ := Cond.classLink_spec hown (hw _ hlk) e.platform hpl
    obtain ⟨-, hW1, -⟩ := State.classEntry (e := e) hW hlj
    have hlu : u.vm.ClassLinks e.platform f.method.cls x.catchType cj := hW.classLinks hlj
    have hx : covers x f.pc = true := by simp [covers, h1, h2]
    have hobj : ∀ z, cell.vm ≠ .statics z := fun z q => by rw [hv] at q; cases q
    have hkc : ∃ z, u.vm.classes[cell.cls]? = some z := Vm.classAt_of_findClass (name := mj_xn k) (by rw [hW.alike.findClass]; exact hcl)
    have hkj : ∃ z, u.vm.classes[cj]? = some z := Vm.classAt_of_findClass (name := mj_xn j) (by rw [hW.alike.findClass]; exact hfj)
    have has : u.vm.assignable cell.cls cj = s.vm.assignable cell.cls cj := by rw [hW.alike.assignable]
    rcases hcase with ⟨hjk, hct, rfl⟩ | ⟨hct, hr⟩
    · have hb := hN.2.1 _ hct
      have hb : s.vm.assignable cell.cls cj = true := by simpa [Cond.before, Cond.holds, Cond.value, hcl, hfj] using hb
      exact ⟨_, hW1, fun Q E d acts => by rw [ca_go hx h3 hlu hc hobj hkc hkj, has, hb, if_pos rfl]⟩
    · have hb := hN.2.1 _ hct
      have hb : s.vm.assignable cell.cls cj = false := by simpa [Cond.before, Cond.holds, Cond.value, hcl, hfj] using hb
      obtain ⟨vm', hWv, hgo⟩ := ca_find hw hN hown hpl hcl hv t (u.setVm (u.vm.noted f.method.cls x.catchType (.cls cj))) hW1 hc hr
      exact ⟨vm', hWv, fun Q E d acts => by rw [ca_go hx h3 hlu hc hobj hkc hkj, has, hb, if_neg (by decide), hgo]; rfl⟩
theorem ca_step {s : State} {r : List Frame} {pc : Nat} {vm' : Vm} (hfind : ∀ (Q : Handler → Pre) (E : CtlPost) (d : Bool) (acts : List Action), wp (findHandler f a) Q E e d acts s ↔ Q (.found pc) d acts (s.setVm vm')) :
    (stepThrowing e s a (.java f :: r)).Is ((s.setVm vm').setFrames (.java { f with pc := pc, stack := [.ref a] } :: r)) [] := by
  simp only [stepThrowing, searchFrame, vmDo]
  generalize hr : Sem.go _ e false [] s = res
  obtain ⟨as, rfl, ha⟩ := Sem.eq_ok_of hr (a := Handler.found pc) (s' := s.setVm vm') (acts' := []) (by simp [hfind _ _ _ _])
  exact ⟨rfl, ha⟩
end CA
section CB
variable {p : Program} {l : Launch} {e : Env} {R : Room} {s : State} {m : MethodId} {args : Array Value} {below : List Frame} {meth : Method} {c : Code} {T : State} {locs : List Loc} {cells slots : Nat}
theorem ca_at (X : Stand p l e R s m args below meth c T locs cells slots) (a : Addr) {g : JFrame} (hg : g.method = m) {pc : Nat} {vm' : Vm}
    (hfind : ∀ (Q : Handler → Pre) (E : CtlPost) (d : Bool) (acts : List Action), wp (findHandler g a) Q E e d acts ((T.setTop g).pushFrame (.throwing a)) ↔ Q (.found pc) d acts (((T.setTop g).pushFrame (.throwing a)).setVm vm')) {target : State}
    (hrest : Steps p.tables e below ((T.setVm vm').setTop { g with pc := pc, stack := [.ref a] }) target) : Steps p.tables e below ((T.setTop g).pushFrame (.throwing a)) target := by
  have h : At T g.method c below := by rw [hg]; exact X.here
  obtain ⟨hgo, hw⟩ := h.throwing a
  refine Steps.head hgo hw ?_
  rw [stepThread_throwing (frames_entered h.top _), (ca_step (s := (T.setTop g).pushFrame (.throwing a)) hfind).1]
  obtain ⟨g₀, hg0⟩ := Option.isSome_iff_exists.mp h.top
  obtain ⟨r, hr⟩ := State.topJava?_eq_some.mp hg0
  have hr' : (T.setVm vm').frames = .java g₀ :: r := hr
  have e1 : ((T.setTop g).pushFrame (.throwing a)).setVm vm' = ((T.setVm vm').setTop g).pushFrame (.throwing a) := rfl
  rw [State.setTop_of_frames _ hr'] at hrest
  rw [e1, State.pushFrame, State.setFrames_setFrames, State.setTop_of_frames _ hr', State.setFrames_setFrames, hr]
  exact hrest
end CB
