/-! THROWING: a new exception with a message, thrown out of the method -/
def th_R : String := "java/lang/RuntimeException"
def th_E : String := "java/lang/Exception"
/-- the words that the making of an exception of the class X asks for -/
def th_ws (own : String) (ic : Nat) (X : String) (ix : Nat) (bytes : ByteArray) : List Cond :=
  Bundle.throwableAtoms ++ (Bundle.throwableSAtoms ++ (Bundle.passSAtoms X th_R ix bytes ++ (Bundle.chainSAtoms th_R [th_E] ++
  [.methodLink own ic (Bundle.initS X), .instantiable X 6, .selects X Bundle.tFill0 Bundle.tFill0, .selects X Bundle.tFill Bundle.tFill,
   .lays X Bundle.tN "cause" "Ljava/lang/Throwable;", .lays X Bundle.tN "stackTrace" Bundle.steD, .lays X Bundle.tN "suppressedExceptions" Bundle.listD, .lays X Bundle.tN "detailMessage" "Ljava/lang/String;",
   .isRef (.static Bundle.tN "UNASSIGNED_STACK" Bundle.steD), .isRef (.static Bundle.tN "SUPPRESSED_SENTINEL" Bundle.listD),
   .fieldLink Bundle.tN 198 Bundle.tN "backtrace" "Ljava/lang/Object;", .lays Bundle.tN Bundle.tN "backtrace" "Ljava/lang/Object;", .lays X Bundle.tN "backtrace" "Ljava/lang/Object;"])))
section TH
variable {p : Program} {l : Launch} {e : Env} {R : Room} {s : State} {m : MethodId} {args : Array Value} {below : List Frame} {meth : Method} {c : Code} {T : State} {locs : List Loc} {cells slots : Nat}
set_option maxHeartbeats 4000000 in
theorem th_make (X : Stand p l e R s m args below meth c T locs cells slots) (hexec : p.tables.exec = Jvm.exec) (htr : e.platform.stackTraces = false) {own C : String} {ic ix : Nat} {bytes : ByteArray} (hown : s.vm.findClass own = some m.cls)
    (hfit : Bundle.fit C = true) (b0 : decode bytes 0 = .ok (.aload_n 0, 1)) (b1 : decode bytes 1 = .ok (.aload_n 1, 1)) (b2 : decode bytes 2 = .ok (.invokespecial ix, 3)) (b5 : decode bytes 5 = .ok (.return_, 1))
    (hws : ∀ w ∈ th_ws own ic C ix bytes, w.before args s = true) (hst : ∀ (c : ClassId) (k : Class) (i : Nat) (f : Field) (a : Nat) (cell : Cell), s.fieldFound? Bundle.tN "UNASSIGNED_STACK" Bundle.steD = some (c, k, i, f) → k.statics = some a → s.heap[a]? = some cell → T.heap[a]? = some cell)
    {a : Addr} {cX : ClassId} {kX : Class} (hfX : s.vm.findClass C = some cX) (hkX : s.vm.classes[cX]? = some kX) (hcell : T.heap[a]? = some (freshCell cX kX)) (hnew : s.heap.size ≤ a)
    {msg : Value} (hmsg : msg.isRef = true) {g : JFrame} (hg : g.method = m) (hsize : g.locals.size = c.maxLocals) {rest : List Value} (hstack : g.stack = msg :: .ref a :: rest) (hmon : 2 * g.monitorRoom + (rest.map fun v => v.category).sum ≤ 8)
    (hd : decode c.code g.pc = .ok (.invokespecial ic, 3)) (hRf : 5 < R.frames) (hRl : 100 ≤ R.locals) :
    ∃ (vm' : Vm) (cE : Cell) (L : List Loc), Stand p l e R s m args below meth c ((T.setVm vm').setCell a cE) (locs ++ L) cells slots ∧ (∀ q ∈ L, q.base = a) ∧ cE.cls = cX ∧ cE.vm = .none ∧
      ∀ target, Steps p.tables e below (((T.setVm vm').setCell a cE).setTop { g with pc := g.pc + 3, stack := rest }) target → Steps p.tables e below (T.setTop g) target := by
  have howns : e.platform.frameOwnsMonitors = true := by rw [X.admits.platform]
  have hfin : e.platform.finalization = false := by rw [X.admits.platform]
  have hpl : e.platform.magicAccessors = ({} : Platform).magicAccessors := by rw [X.admits.platform]
  have hw : ∀ w, w ∈ th_ws own ic C ix bytes → w.holds args s none s [] = true := fun w hw => hws w hw
  obtain ⟨Th, Z0, Lk, -, Y⟩ := ThrowableC.of_atoms (args := args) howns hfin hpl (fun w h => hws w (by simp [th_ws, h]))
  obtain ⟨Z, Mg, LZ, LM, hnZ⟩ := Init0T.ofS_atoms (args := args) hpl Lk Y (fun w h => hws w (by simp [th_ws, h]))
  obtain ⟨P0, LP0, hm0, hs0⟩ := PassC.ofS_atoms (args := args) (s := s) hpl (X := C) (Y := th_R) (Bundle.fit_spec hfit).1 (by decide) b0 b1 b2 b5 (fun w h => hws w (by simp [th_ws, h]))
  obtain ⟨P1, Ps, hlen, LP1, hLs, hm1, hk1, hk2⟩ := Bundle.chainS (args := args) hpl hnZ [th_E] th_R (by decide) (by decide) (fun w h => hws w (by simp [th_ws, h]))
  have hsup : P0.sup = P1.m := Option.some.inj (hs0.symm.trans hm1)
  have hc0 : P0.m.cls = cX := Option.some.inj ((findClass_of_methodNamed hm0).symm.trans hfX)
  have hsel : ∀ (y : MethodName) (r : MethodId), s.methodNamed? y = some r → (y.cls ≠ "java/lang/invoke/MethodHandle" ∧ y.cls ≠ "java/lang/invoke/VarHandle") → (Cond.selects C y y).holds args s none s [] = true → selectMethod e.platform s.vm cX r = .method r := by
    intro y r hy hne h
    obtain ⟨c2, r2, m2, q1, q2, q3, q4, -⟩ := Cond.selects_spec h
    cases Option.some.inj (q1.symm.trans hfX)
    cases Option.some.inj (q2.symm.trans (State.methodFound?_of_named hy hne))
    cases Option.some.inj (q3.symm.trans hy)
    rw [Launch.admits_selectMethod X.admits]
    exact q4
  have hsel0 := hsel _ _ Y.fill0 (by decide) (hw (.selects C Bundle.tFill0 Bundle.tFill0) (by simp [th_ws]))
  have hselF := hsel _ _ Y.fill (by decide) (hw (.selects C Bundle.tFill Bundle.tFill) (by simp [th_ws]))
  obtain ⟨c1, kX', hc1, hk, hord, -, -, -⟩ := Cond.instantiable_spec (hw (.instantiable C 6) (by simp [th_ws]))
  cases Option.some.inj (hc1.symm.trans hfX)
  cases Option.some.inj (hkX.symm.trans hk)
  obtain ⟨cellS, hcS, hiS⟩ := Y.statics
  have hcT := hst _ _ _ _ _ _ Y.unassigned Lk.statics hcS
  obtain ⟨u0, hu0⟩ := Cond.staticRefV Y.unassigned Lk.unassignedStatic Lk.statics hcS hiS (hw (.isRef (.static Bundle.tN "UNASSIGNED_STACK" Bundle.steD)) (by simp [th_ws]))
  obtain ⟨sen, hsen⟩ := Cond.staticRefV Y.sentinel Lk.sentinelStatic Lk.statics hcS hiS (hw (.isRef (.static Bundle.tN "SUPPRESSED_SENTINEL" Bundle.listD)) (by simp [th_ws]))
  obtain ⟨ci8, i8, fB, hkB, hgB, haB, hsB, -, hnB, htB, hfB⟩ := Cond.ownField (t := .object "java/lang/Object") Y.found Lk.cls (by decide +kernel) (hw (.fieldLink Bundle.tN 198 Bundle.tN "backtrace" "Ljava/lang/Object;") (by simp [th_ws])) (hw (.lays Bundle.tN Bundle.tN "backtrace" "Ljava/lang/Object;") (by simp [th_ws])) e.platform hpl
  obtain ⟨iM, hfM⟩ := Y.msg
  obtain ⟨tC, dC, eC, nC⟩ := Cond.laysAt hfX hkX Y.cause (hw (.lays C Bundle.tN "cause" "Ljava/lang/Throwable;") (by simp [th_ws]))
  obtain ⟨tS, dS, eS, nS⟩ := Cond.laysAt hfX hkX Y.stack (hw (.lays C Bundle.tN "stackTrace" Bundle.steD) (by simp [th_ws]))
  obtain ⟨tP, dP, eP, nP⟩ := Cond.laysAt hfX hkX Y.supp (hw (.lays C Bundle.tN "suppressedExceptions" Bundle.listD) (by simp [th_ws]))
  obtain ⟨tM, dM, eM, nM⟩ := Cond.laysAt hfX hkX hfM (hw (.lays C Bundle.tN "detailMessage" "Ljava/lang/String;") (by simp [th_ws]))
  obtain ⟨tB, dB, eB, nB⟩ := Cond.laysAt hfX hkX hfB (hw (.lays C Bundle.tN "backtrace" "Ljava/lang/Object;") (by simp [th_ws]))
  have xC := Cond.laysApart eB eC nB nC (by rw [hnB, Y.causeName]; decide)
  have xS := Cond.laysApart eB eS nB nS (by rw [hnB, Y.stackName]; decide)
  have xP := Cond.laysApart eB eP nB nP (by rw [hnB, Y.suppName]; decide)
  have hneS : Th.aS ≠ a := Nat.ne_of_lt (Nat.lt_of_lt_of_le (Array.getElem?_eq_some_iff.mp hcS).1 hnew)
  have hskip : SkipFacts Th e.platform s (fun u => u) u0 ((preparedCellV Th.toThrowableT (freshCell cX kX) a u0 sen).withEntry T.cur) := by
    refine ⟨{ ci198 := ci8, i198 := i8, fBack := fB }, ⟨hkB, hgB, haB, hsB⟩, ?_, fun _ _ => rfl⟩
    have h := fresh_default (c := cX) tB
    rw [htB] at h
    simpa [preparedCellV, Cell.setSlot, Cell.withEntry, Array.getElem?_setIfInBounds, xC, xS, xP, xC.symm, xS.symm, xP.symm, defaultValue] using h
  obtain ⟨tm, methC, cdC, kC, vm1, hnC, -, -, -, -, -, -, -, hW1, st1⟩ := Steps.initColdS (tb := p.tables) (e := e) (below := below) (s := s) (U := T) X.here hexec X.warmed hpl hown (t := Bundle.initS C) rfl rfl (Bundle.fit_spec hfit).2
    (hw (.methodLink own ic (Bundle.initS C)) (by simp [th_ws])) (hws (.instanceMethod (Bundle.initS C)) (by simp [th_ws, Bundle.passSAtoms])) (bytes := bytes) (maxL := 2) (hws (.code (Bundle.initS C) bytes 2 none) (by simp [th_ws, Bundle.passSAtoms]))
    (f := g) hg (a := a) (msg := msg) (rest := rest) hstack hd
  cases Option.some.inj (hnC.symm.trans hm0)
  have X1 := X.noted hW1
  obtain ⟨vm2, X2, st2⟩ := X1.ctorMessageOffV hexec (g := { g with stack := rest }) hg hsize Th Lk Z LZ Mg LM (P0 :: P1 :: Ps)
    (fun P hP => by
      rcases List.mem_cons.mp hP with rfl | hP
      · exact LP0
      · rcases List.mem_cons.mp hP with rfl | hP
        · exact LP1
        · exact hLs P hP) ⟨hsup, hk1, hk2⟩ (u0 := u0) (sen := sen) (self := a) hmsg (cell := freshCell cX kX) (cellS := cellS)
    hcell (fun _ => by simp) (by simp) rfl rfl hsel0 hselF hcT hneS (by intro hu; rw [hu] at hiS; cases hiS) hu0 hsen
    (Takes.of_laid hkX hord tC (by rw [Y.causeType]; rfl)) (Takes.of_laid hkX hord tS (by rw [Y.stackType]; exact fits_refV_array _ u0)) (Takes.of_laid hkX hord tP (by rw [Y.suppType]; exact fits_refV_object _ sen))
    (Takes.of_laid hkX hord tM (by rw [Y.msgType]; exact fits_refV_object _ ⟨msg, hmsg⟩)) Y.objLocals hskip htr [] hd
    (by simp only [List.length_cons, hlen]; simp; omega) (by
      simp only [List.length_cons, hlen]
      have hm : 2 * ({ g with stack := rest } : JFrame).monitorRoom + (rest.map fun v => v.category).sum ≤ 8 := hmon
      simp
      simp at hm
      omega)
  refine ⟨vm2, plainBareV Th.toThrowableT (freshCell cX kX) a u0 sen msg, _, X2, ?_, rfl, rfl, fun target h => st1 _ (fun acts => ?_)⟩
  · intro q hq
    simp only [List.mem_cons, List.not_mem_nil, or_false] at hq
    rcases hq with rfl | rfl | rfl | rfl | rfl <;> rfl
  · rw [doInvoke_state]
    exact st2 _ h
end TH
/-- one of the words that throwing asks for is given -/
def th_ok (w : Cond) : Prop := w ∈ mj_wd ∨ (w, true) ∈ mj_tw ∨ w = .laysStatic Bundle.tN "UNASSIGNED_STACK" Bundle.steD ∨ w = .laysStatic Bundle.tN "SUPPRESSED_SENTINEL" Bundle.listD ∨ w = .isRef (.static Bundle.tN "UNASSIGNED_STACK" Bundle.steD) ∨ w = .isRef (.static Bundle.tN "SUPPRESSED_SENTINEL" Bundle.listD)
theorem mj_tw_on : ∀ q ∈ mj_tw, q.1.onTables = true := by decide +kernel
theorem th_hold {args : Array Value} {A : Nat → Prop} {s : State} (hw : ∀ w ∈ mj_wd, w.before args s = true) (hN : mj_Nw A s) {w : Cond} (h : th_ok w) : w.before args s = true := by
  rcases h with h | h | rfl | rfl | rfl | rfl
  · exact hw w h
  · exact va_tabs (mj_tw_on _ h) rfl (hN.2.1 _ h)
  · exact hN.2.2.1.lays
  · exact hN.2.2.2.1.lays
  · exact hN.2.2.1.isr
  · exact hN.2.2.2.1.isr
def o_thr (k C S : Nat) : mj_Sem := fun Q _ _ _ st sh FR IA LA n kc ks => match st with
  | [] => kc + 1 ≤ C ∧ ks + 6 ≤ S ∧ Q (.inr k) sh FR IA LA n
  | _ => False
set_option maxHeartbeats 4000000 in
theorem k_thr {M : mj_M} {pc ix sx ic jx k : Nat} {X tx : String} {bytes : ByteArray} (hd0 : decode M.2.1 pc = .ok (.new ix, 3)) (hd3 : decode M.2.1 (pc + 3) = .ok (.dup, 1)) (hd4 : decode M.2.1 (pc + 3 + 1) = .ok (.ldc sx, 2)) (hd6 : decode M.2.1 (pc + 3 + 1 + 2) = .ok (.invokespecial ic, 3)) (hd9 : decode M.2.1 (pc + 3 + 1 + 2 + 3) = .ok (.athrow, 1))
    (hX : mj_xn k = X) (hfit : Bundle.fit X = true) (b0 : decode bytes 0 = .ok (.aload_n 0, 1)) (b1 : decode bytes 1 = .ok (.aload_n 1, 1)) (b2 : decode bytes 2 = .ok (.invokespecial jx, 3)) (b5 : decode bytes 5 = .ok (.return_, 1))
    (hcl : Cond.classLink M.1.cls ix X ∈ mj_wd) (hins : Cond.instantiable X 6 ∈ mj_wd) (hini : Cond.initialized X ∈ mj_wd) (hstr : (M.1.cls, sx, tx) ∈ mj_wr) (hws : ∀ w ∈ th_ws M.1.cls ic X jx bytes, th_ok w) (hf : 5 < M.2.2.2.2.1.frames) (hl : 100 ≤ M.2.2.2.2.1.locals) (hh : M.2.2.2.2.2.1 = []) :
    mj_ok M pc (o_thr k M.2.2.2.2.1.cells M.2.2.2.2.1.slots) := by
  intro Q K hK ls st sh FR IA LA n kc ks h
  rcases st with _ | ⟨v, st⟩ <;> first | exact False.elim h | skip
  obtain ⟨hc, hs, hQ⟩ := h
  intro p l e s m args below meth c D cs B A ad0 n0 ad H locs lsr hC hR hL
  have hw := hC.2.2.2.2.2.1
  have hNw := hC.2.2.2.2.2.2.2.2.2.2.2.2.2.2
  have hown := hC.2.2.2.2.1
  obtain ⟨a0, hsR⟩ := hNw.2.2.2.2 _ hstr
  refine W.newc hC.1 hC.2.1 hown (hw _ hcl) (hw _ hins) (hw _ hini) (g := F0 m pc lsr []) rfl hd0 hc hs fun cX kX hfX hkX hord hsz => ?_
  refine W.eq (g2 := F0 m (pc + 3) lsr [.ref H.size]) rfl ?_
  refine lv_dup hC.1 hC.2.1 hd3 rfl ?_
  refine va_ldcS hC.1 hC.2.1 hown hsR hd4 ?_
  intro T hT X0
  have hS := hR.2.2.1
  have hTq : ∀ q : Nat, q < H.size → T.heap[q]? = H[q]? := by
    intro q hq
    rw [hT, Array.getElem?_push, if_neg (Nat.ne_of_lt hq)]
  have hstat : ∀ (c : ClassId) (k : Class) (i : Nat) (f : Field) (a : Nat) (cell : Cell), s.fieldFound? Bundle.tN "UNASSIGNED_STACK" Bundle.steD = some (c, k, i, f) → k.statics = some a → s.heap[a]? = some cell → T.heap[a]? = some cell := by
    intro c k i f a cell h1 h2 h3
    obtain ⟨c', k', i', f', a', cell', u, g1, g2, g3, g4, g5, g6, g7, g8, g9, g10, g11, g12⟩ := hNw.2.2.1
    cases h1.symm.trans g2
    cases Option.some.inj (h2.symm.trans g4)
    have hlt := (Array.getElem?_eq_some_iff.mp h3).1
    rw [hTq a (Nat.lt_of_lt_of_le hlt hS.1), hS.2.1 a hlt g12]
    exact h3
  obtain ⟨vm', cE, L, X1, hLb, hcE, hvE, hgo⟩ := th_make X0 hC.1 (hC.2.2.2.2.2.2.2.2.2.2.2.1 e X0.admits) hown hfit b0 b1 b2 b5 (fun w hw0 => th_hold hw hNw (hws w hw0)) hstat hfX hkX (a := H.size) (by rw [hT]; simp) hS.1 (msg := .ref a0) rfl
    (g := F0 m (pc + 3 + 1 + 2) lsr [.ref a0, .ref H.size, .ref H.size]) rfl (hL.1.trans hC.2.2.2.1.symm) (rest := [.ref H.size]) rfl (by show 2 * 0 + 1 ≤ 8; decide) (by rw [hC.2.1]; exact hd6) hf hl
  have hxt : ∀ x ∈ c.exceptionTable.toList, covers x (pc + 3 + 1 + 2 + 3) = false := by
    intro x hx
    have h9 := hC.2.2.2.2.2.2.2.2.2.2.1
    rw [hh, List.map_eq_nil_iff] at h9
    rw [h9] at hx
    cases hx
  obtain ⟨hst2, hrun, hend, hW2, hsame⟩ := X1.athrowLeaves hC.1 (g := F0 m (pc + 3 + 1 + 2 + 3) lsr [.ref H.size]) rfl rfl rfl hxt (a := H.size) (rest := []) rfl (by rw [hC.2.1]; exact hd9) hC.2.2.2.2.2.2.1
  have hTs : T.heap.size = H.size + 1 := by rw [hT]; simp
  have hUq : ∀ q : Nat, q < H.size → (((T.setVm vm').setCell H.size cE).setFrames (.throwing H.size :: below)).heap[q]? = H[q]? := by
    intro q hq
    rw [← hTq q hq]
    show ((T.setVm vm').setCell H.size cE).heap[q]? = T.heap[q]?
    simp [State.setCell, State.setVm, Array.getElem?_setIfInBounds, Nat.ne_of_gt hq]
  have hUs : (((T.setVm vm').setCell H.size cE).setFrames (.throwing H.size :: below)).heap.size = H.size + 1 := by
    rw [← hTs]
    show ((T.setVm vm').setCell H.size cE).heap.size = T.heap.size
    simp [State.setCell, State.setVm]
  have hUa : (((T.setVm vm').setCell H.size cE).setFrames (.throwing H.size :: below)).heap[H.size]? = some cE := by
    show ((T.setVm vm').setCell H.size cE).heap[H.size]? = some cE
    have : H.size < T.heap.size := by omega
    simp [State.setCell, State.setVm, Array.getElem?_setIfInBounds, this]
  have hlocA : ∀ q ∈ locs ++ L, A q.base := by
    intro q hq
    rcases List.mem_append.mp hq with h1 | h1
    · exact hS.2.2 q h1
    · rw [hLb q h1]
      exact hC.2.2.2.2.2.2.2.2.1 _ hS.1
  refine ⟨_, hgo _ hst2, .threw H.size, hrun, hend, ?_, locs ++ L, ⟨hW2, hsame.mono hc hs⟩, hlocA⟩
  refine ⟨.inr k, sh, FR, IA, LA, n, ad, hQ, ⟨H.size, rfl, cE, hUa, ?_, hvE⟩, ?_, hR.2.1, hR.2.2.2.1, hR.2.2.2.2, ?_, ?_⟩
  · rw [hX, hcE, hW2.alike.findClass]
    exact hfX
  · intro j q hq
    have h1 := hR.1 j q hq
    exact va_at.kept h1 (hUq q.1 (va_at.lt h1))
  · rw [hUs]
    have := hS.1
    omega
  · intro q hq hA
    rw [hUq q (Nat.lt_of_lt_of_le hq hS.1)]
    exact hS.2.1 q hq hA
