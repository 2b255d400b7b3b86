/-! THE JUDGEMENT -/
/-- a launch without stack traces -/
def mj_la (l : Launch) : Prop := ∀ e : Env, l.admits e → e.platform.stackTraces = false
/-- one of Throwable's statics that hold a reference or null -/
def mj_Ts (nm d : String) (A : Nat → Prop) (s : State) : Prop := ∃ (c : ClassId) (k : Class) (i : Nat) (f : Field) (a : Nat) (cell : Cell) (u : Value), s.vm.findClass Bundle.tN = some c ∧ s.fieldFound? Bundle.tN nm d = some (c, k, i, f) ∧ f.isStatic = true ∧ k.statics = some a ∧ s.heap[a]? = some cell ∧ cell.vm.isStatics = true ∧ cell.cls = c ∧
  f.slot < cell.slots.size ∧ k.staticTypes[f.slot]? = some f.type ∧ cell.slots[f.slot]? = some u ∧ u.isRef = true ∧ ¬ A a
theorem mj_Ts.move {nm d : String} {A A' : Nat → Prop} {s U : State} (h : mj_Ts nm d A s) (hk : ∀ q : Nat, q < s.heap.size → ¬ A q → U.heap[q]? = s.heap[q]?) (hv : s.vm.Alike U.vm) (hA : ∀ q, A' q → A q) : mj_Ts nm d A' U := by
  obtain ⟨c, k, i, f, a, cell, u, h1, h2, h3, h4, h5, h6, h7, h8, h9, h10, h11, h12⟩ := h
  obtain ⟨k', hi', he⟩ := State.fieldFound?_setVm hv h2
  exact ⟨c, k', i, f, a, cell, u, by rw [hv.findClass]; exact h1, hi', h3, by rw [he]; exact h4, by rw [hk a (Array.getElem?_eq_some_iff.mp h5).1 h12]; exact h5, h6, h7, h8, by rw [he]; exact h9, h10, h11, fun z => h12 (hA a z)⟩
theorem mj_Ts.lays {nm d : String} {A : Nat → Prop} {s : State} {args : Array Value} (h : mj_Ts nm d A s) : (Cond.laysStatic Bundle.tN nm d).before args s = true := by
  obtain ⟨c, k, i, f, a, cell, u, h1, h2, h3, h4, h5, h6, h7, h8, h9, h10, h11, h12⟩ := h
  simp [Cond.before, Cond.holds, Cond.value, h1, h2, h3, h4, h5, h6, h7, h8, h9]
theorem mj_Ts.isr {nm d : String} {A : Nat → Prop} {s : State} {args : Array Value} (h : mj_Ts nm d A s) : (Cond.isRef (.static Bundle.tN nm d)).before args s = true := by
  obtain ⟨c, k, i, f, a, cell, u, h1, h2, h3, h4, h5, h6, h7, h8, h9, h10, h11, h12⟩ := h
  have he : (Term.static Bundle.tN nm d).eval args s none [] s = some u := by
    simp [Term.eval, State.fieldNamed?, h2, h3, h4, h5, h6, h10]
  simp only [Cond.before, Cond.holds, Cond.value, he]
  cases u <;> first | rfl | (simp [Value.isRef] at h11)
/-- what throwing and the nest's constructors ask of the state -/
def mj_Nw (A : Nat → Prop) (s : State) : Prop := (∀ q ∈ mj_wn, va_Nw (.methodLinkNest q.1 q.2.1 q.2.2.1 q.2.2.2) s) ∧ (∀ q ∈ mj_tw, q.1.before #[] s = q.2) ∧ mj_Ts "UNASSIGNED_STACK" Bundle.steD A s ∧ mj_Ts "SUPPRESSED_SENTINEL" Bundle.listD A s ∧ (∀ q ∈ mj_wr, ∃ a, vk_R q.1 q.2.1 q.2.2 a s)
theorem mj_tw_move {s U : State} (hv : s.vm.Alike U.vm) : ∀ q ∈ mj_tw, q.1.before #[] U = q.1.before #[] s := by
  have hd : ∀ x, (Cond.declares x).before #[] U = (Cond.declares x).before #[] s := fun x => by
    rw [← Cond.declares_setVm hv]
    exact Cond.onTables_vm (A := #[]) (A' := #[]) (U := U) (U' := s) U.vm _ rfl
  have hc : ∀ x y, (Cond.castable x y).before #[] U = (Cond.castable x y).before #[] s := fun x y => by
    rw [← Cond.castable_setVm hv]
    exact Cond.onTables_vm (A := #[]) (A' := #[]) (U := U) (U' := s) U.vm _ rfl
  intro q hq
  simp only [mj_tw, List.mem_cons, List.not_mem_nil, or_false] at hq
  rcases hq with rfl | rfl | rfl | rfl | rfl | rfl | rfl | rfl | rfl | rfl | rfl | rfl
  · exact hd _
  · exact hd _
  · exact hd _
  · exact hc _ _
  · exact hc _ _
  · exact hc _ _
  · exact hc _ _
  · exact hc _ _
  · exact hc _ _
  · exact hc _ _
  · exact hc _ _
  · exact hc _ _
theorem mj_Nw_move {A A' : Nat → Prop} {s U : State} (h : mj_Nw A s) (hk : ∀ q : Nat, q < s.heap.size → ¬ A q → U.heap[q]? = s.heap[q]?) (hW : s.WarmedH U.vm) (hA : ∀ q, A' q → A q) : mj_Nw A' U :=
  ⟨fun q hq => va_Nw.warmM hW (h.1 q hq), fun q hq => (mj_tw_move hW.alike q hq).trans (h.2.1 q hq), h.2.2.1.move hk hW.alike hA, h.2.2.2.1.move hk hW.alike hA, fun q hq => by
    obtain ⟨a, ha⟩ := h.2.2.2.2 q hq
    exact ⟨a, ha.warm hW⟩⟩
/-- the script is there for the law alone -/
def mj_Sk (M : mj_M) (B : mj_B) (A : Nat → Prop) (s : State) : Prop := M.1.name = "law" → va_X B.1.1 M.2.2.2.2.2.2.1 (fun j => Int32.ofInt (M.2.2.2.2.2.2.2 j)) s s.heap ∧ B.1.1 < s.heap.size ∧ ¬ A B.1.1
def mj_Cx (M : mj_M) (p : Program) (l : Launch) (e : Env) (s : State) (m : MethodId) (args : Array Value) (meth : Method) (c : Code) (D : va_G) (cs : Nat → ClassId) (B : mj_B) (A : Nat → Prop) : Prop :=
  p.tables.exec = Jvm.exec ∧ c.code = M.2.1 ∧ meth.sig.returnType = M.2.2.2.1 ∧ c.maxLocals = M.2.2.1 ∧ s.vm.findClass M.1.cls = some m.cls ∧ (∀ w ∈ mj_wd, w.before args s = true) ∧ meth.locks = false ∧
  va_K D vwCl (mj_ty cs) s ∧ (∀ q : Nat, s.heap.size ≤ q → A q) ∧ meth.name = M.1.name ∧ c.exceptionTable.toList.map (fun h => (h.startPc, h.endPc, h.handlerPc, h.catchType)) = M.2.2.2.2.2.1 ∧ mj_la l ∧ mj_Sk M B A s ∧ mj_Sx B.2 A s ∧ mj_Nw A s
def mj_Rl (cs : Nat → ClassId) (B : mj_B) (D : va_G) (A : Nat → Prop) (H0 : Heap) (ad0 : Nat → Nat) (n0 : Nat) (sh : mj_Sh) (FR : mj_FR) (IA : mj_FI) (LA : mj_LA) (n : Nat) (ad : Nat → Nat) (H : Heap) (locs : List Loc) : Prop :=
  va_P D vwCl (mj_W cs B ad sh FR IA LA n) H ∧ va_D A (mj_W cs B ad sh FR IA LA n) ∧ va_S A H0 H locs ∧ (∀ i, i < n0 ∨ n ≤ i → ad i = ad0 i) ∧ n0 ≤ n
/-- an exception of the kind k lies at a -/
def mj_ex (k a : Nat) (t : State) : Prop := ∃ cell : Cell, t.heap[a]? = some cell ∧ t.vm.findClass (mj_xn k) = some cell.cls ∧ cell.vm = .none
def mj_ou (B : mj_B) (ad : Nat → Nat) (r : mj_O) (o : Outcome) (t : State) : Prop := match r with
  | .inl v => o = .returned (v.map (mj_tv B ad))
  | .inr k => ∃ a, o = .threw a ∧ mj_ex k a t
def mj_Qc (Q : mj_Q) (D : va_G) (cs : Nat → ClassId) (B : mj_B) (A : Nat → Prop) (ad0 : Nat → Nat) (n0 : Nat) (s : State) (o : Outcome) (t : State) : Prop :=
  ∃ (r : mj_O) (sh : mj_Sh) (FR : mj_FR) (IA : mj_FI) (LA : mj_LA) (n : Nat) (ad : Nat → Nat), Q r sh FR IA LA n ∧ mj_ou B ad r o t ∧ va_P D vwCl (mj_W cs B ad sh FR IA LA n) t.heap ∧ va_D A (mj_W cs B ad sh FR IA LA n) ∧ (∀ i, i < n0 ∨ n ≤ i → ad i = ad0 i) ∧ n0 ≤ n ∧ va_F A s t
def mj_FE (s t : State) (L : List Loc) (k n : Nat) : Prop := s.WarmedH t.vm ∧ s.sameButNew ({ t with vm := s.vm } : State) L k n
def mj_MQ (M : mj_M) (Q : mj_Q) (below : List Frame) (s : State) (D : va_G) (cs : Nat → ClassId) (B : mj_B) (A : Nat → Prop) (ad0 : Nat → Nat) (n0 : Nat) : State → Prop := fun t =>
  ∃ o, t.status = .running ∧ Ended t below o ∧ mj_Qc Q D cs B A ad0 n0 s o t ∧ ∃ L, mj_FE s t L M.2.2.2.2.1.cells M.2.2.2.2.1.slots ∧ ∀ q ∈ L, A q.base
def mj_G (M : mj_M) (Q : mj_Q) : mj_K := fun pc ls st sh FR IA LA n kc ks =>
  ∀ (p : Program) (l : Launch) (e : Env) (s : State) (m : MethodId) (args : Array Value) (below : List Frame) (meth : Method) (c : Code) (D : va_G) (cs : Nat → ClassId) (B : mj_B) (A : Nat → Prop) (ad0 : Nat → Nat) (n0 : Nat) (ad : Nat → Nat) (H : Heap) (locs : List Loc) (lsr : Array Slot),
    mj_Cx M p l e s m args meth c D cs B A → mj_Rl cs B D A s.heap ad0 n0 sh FR IA LA n ad H locs → mj_Lr B ad lsr M.2.2.1 ls →
    W p l e M.2.2.2.2.1 s m args below meth c H locs kc ks (mj_MQ M Q below s D cs B A ad0 n0) (F0 m pc lsr (st.map (mj_tv B ad)))
def mj_ok (M : mj_M) (pc : Nat) (o : mj_Sem) : Prop := ∀ (Q : mj_Q) (K : mj_K), (∀ pc ls st sh FR IA LA n kc ks, K pc ls st sh FR IA LA n kc ks → mj_G M Q pc ls st sh FR IA LA n kc ks) →
  ∀ ls st sh FR IA LA n kc ks, o Q K pc ls st sh FR IA LA n kc ks → mj_G M Q pc ls st sh FR IA LA n kc ks
def mj_fnd : List (Nat × mj_Sem) → Nat → Option mj_Sem
  | [], _ => none
  | q :: r, pc => match Nat.beq q.1 pc with
    | true => some q.2
    | false => mj_fnd r pc
def mj_Code (M : mj_M) (code : List (Nat × mj_Sem)) : Prop := ∀ q ∈ code, mj_ok M q.1 q.2
def mj_el : List Nat → Nat → Bool
  | [], _ => false
  | q :: r, pc => match Nat.beq q pc with
    | true => true
    | false => mj_el r pc
def mj_wps (M : mj_M) (code : List (Nat × mj_Sem)) (Q : mj_Q) (cuts : List Nat) : Nat → mj_K
  | 0 => mj_G M Q
  | f + 1 => fun pc ls st sh FR IA LA n kc ks => match mj_el cuts pc with
    | true => mj_G M Q pc ls st sh FR IA LA n kc ks
    | false => match mj_fnd code pc with
      | some o => o Q (mj_wps M code Q cuts f) pc ls st sh FR IA LA n kc ks
      | none => False
def mj_nx (M : mj_M) (code : List (Nat × mj_Sem)) (Q : mj_Q) (cuts : List Nat) (f : Nat) : mj_K := fun pc ls st sh FR IA LA n kc ks => match mj_fnd code pc with
  | some o => o Q (mj_wps M code Q cuts f) pc ls st sh FR IA LA n kc ks
  | none => False
theorem mj_fnd_in : ∀ (code : List (Nat × mj_Sem)) (pc : Nat) (o : mj_Sem), mj_fnd code pc = some o → (pc, o) ∈ code
  | [], _, _, h => by cases h
  | q :: r, pc, o, h => by
    unfold mj_fnd at h
    split at h
    · rename_i hb
      cases h
      rw [← Nat.eq_of_beq_eq_true hb]
      exact List.mem_cons_self
    · exact List.mem_cons_of_mem _ (mj_fnd_in r pc o h)
theorem mj_wps_ok {M : mj_M} {code : List (Nat × mj_Sem)} (hc : mj_Code M code) {Q : mj_Q} {cuts : List Nat} : ∀ (f : Nat) (pc : Nat) (ls : mj_L) (st : List mj_V) (sh : mj_Sh) (FR : mj_FR) (IA : mj_FI) (LA : mj_LA) (n kc ks : Nat), mj_wps M code Q cuts f pc ls st sh FR IA LA n kc ks → mj_G M Q pc ls st sh FR IA LA n kc ks
  | 0, _, _, _, _, _, _, _, _, _, _, h => h
  | f + 1, pc, ls, st, sh, FR, IA, LA, n, kc, ks, h => by
    unfold mj_wps at h
    split at h
    · exact h
    · split at h
      · rename_i o ho
        exact hc _ (mj_fnd_in code pc o ho) Q _ (mj_wps_ok hc f) ls st sh FR IA LA n kc ks h
      · exact False.elim h
/-- run from pc (at least one instruction), f instructions at most, up to the cuts -/
theorem mj_go {M : mj_M} {code : List (Nat × mj_Sem)} (hc : mj_Code M code) (cuts : List Nat) (f : Nat) {Q : mj_Q} {pc : Nat} {ls : mj_L} {st : List mj_V} {sh : mj_Sh} {FR : mj_FR} {IA : mj_FI} {LA : mj_LA} {n kc ks : Nat} (h : mj_nx M code Q cuts f pc ls st sh FR IA LA n kc ks) : mj_G M Q pc ls st sh FR IA LA n kc ks := by
  unfold mj_nx at h
  split at h
  · rename_i o ho
    exact hc _ (mj_fnd_in code pc o ho) Q _ (mj_wps_ok hc f) ls st sh FR IA LA n kc ks h
  · exact False.elim h
theorem mj_mono {p : Program} {l : Launch} {e : Env} {R : Room} {s : State} {m : MethodId} {args : Array Value} {below : List Frame} {meth : Method} {c : Code} {H : Heap} {locs : List Loc} {cells slots : Nat} {Q Q' : State → Prop} {g : JFrame} (h : ∀ t, Q t → Q' t) (k : W p l e R s m args below meth c H locs cells slots Q g) : W p l e R s m args below meth c H locs cells slots Q' g := by
  intro T hT X
  obtain ⟨t, a, b⟩ := k T hT X
  exact ⟨t, a, h t b⟩
