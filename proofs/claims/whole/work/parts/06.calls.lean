/-! CONTRACTS AND CALLS -/
def mj_cw (M : mj_M) : Cond := .codeWith M.1 M.2.1 M.2.2.1 M.2.2.2.1 M.2.2.2.2.2.1
theorem mj_cw_good (M : mj_M) : ((mj_cw M).onTables && (mj_cw M).keeps) = true := rfl
/-- the contract of a method at arguments and a state: it ends, and its outcome has Q -/
def mj_Pc (as : List mj_V) (sh : mj_Sh) (FR : mj_FR) (IA : mj_FI) (LA : mj_LA) (n : Nat) (D : va_G) (cs : Nat → ClassId) (B : mj_B) (ad : Nat → Nat) (sz : Nat) (v : Array Value) (U : State) : Prop :=
  v = (as.map (mj_tv B ad)).toArray ∧ U.heap.size = sz ∧ va_P D vwCl (mj_W cs B ad sh FR IA LA n) U.heap ∧ va_K D vwCl (mj_ty cs) U ∧ va_D (fun _ => True) (mj_W cs B ad sh FR IA LA n) ∧ mj_Sx B.2 (va_A (mj_W cs B ad sh FR IA LA n) sz) U ∧ mj_Nw (va_A (mj_W cs B ad sh FR IA LA n) sz) U
def mj_Ct (M : mj_M) (as : List mj_V) (sh : mj_Sh) (FR : mj_FR) (IA : mj_FI) (LA : mj_LA) (n : Nat) (Q : mj_Q) : Prop :=
  ∀ (l : Launch), mj_la l → ∀ (D : va_G) (cs : Nat → ClassId) (B : mj_B) (ad : Nat → Nat) (sz : Nat), MetFree l M.1 (headSpec (mj_cw M :: mj_wd) M.2.2.2.2.1) (mj_Pc as sh FR IA LA n D cs B ad sz) (fun _ _ _ _ _ => True)
    (fun _ st o t => mj_Qc Q D cs B (va_A (mj_W cs B ad sh FR IA LA n) sz) ad n st o t ∧ ∃ L, mj_FE st t L M.2.2.2.2.1.cells M.2.2.2.2.1.slots ∧ ∀ q ∈ L, va_A (mj_W cs B ad sh FR IA LA n) sz q.base)
def mj_en : List mj_V → Nat → mj_L
  | [], k => List.replicate k none
  | v :: r, k => match mj_ct v with
    | 2 => some v :: none :: mj_en r (k - 2)
    | _ => some v :: mj_en r (k - 1)
theorem mj_rep_get : ∀ (k i : Nat) (v : mj_V), mj_get (List.replicate k none) i = some v → False
  | 0, _, _, h => by cases h
  | _ + 1, 0, _, h => by cases h
  | k + 1, i + 1, v, h => mj_rep_get k i v h
theorem mj_en_get (B : mj_B) (ad : Nat → Nat) : ∀ (as : List mj_V) (k i j : Nat) (v : mj_V), mj_get (mj_en as k) i = some v → (j + i, mj_tv B ad v) ∈ lv_args j (as.map (mj_tv B ad))
  | [], k, i, j, v, h => (mj_rep_get k i v h).elim
  | a :: r, k, i, j, v, h => by
    show (j + i, mj_tv B ad v) ∈ (j, mj_tv B ad a) :: lv_args (if (mj_tv B ad a).category = 2 then j + 2 else j + 1) (r.map (mj_tv B ad))
    rw [mj_tv_cat]
    unfold mj_en at h
    by_cases hc : mj_ct a = 2
    · rw [hc] at h
      rw [if_pos hc]
      rcases i with _ | _ | i
      · cases h
        exact List.mem_cons_self
      · cases h
      · have := mj_en_get B ad r (k - 2) i (j + 2) v h
        rw [show j + (i + 1 + 1) = j + 2 + i by omega]
        exact List.mem_cons_of_mem _ this
    · rw [if_neg hc]
      have h : mj_get (some a :: mj_en r (k - 1)) i = some v := by
        rcases a with x | x | x
        · exact h
        · exact absurd rfl hc
        · exact h
      rcases i with _ | i
      · cases h
        exact List.mem_cons_self
      · have := mj_en_get B ad r (k - 1) i (j + 1) v h
        rw [show j + (i + 1) = j + 1 + i by omega]
        exact List.mem_cons_of_mem _ this
def mj_sl : List mj_V → Nat
  | [] => 0
  | v :: r => mj_ct v + mj_sl r
theorem mj_sl_eq (B : mj_B) (ad : Nat → Nat) : ∀ as : List mj_V, (lg_sl (as.map (mj_tv B ad))).length = mj_sl as
  | [] => rfl
  | v :: r => by
    have ih := mj_sl_eq B ad r
    unfold lg_sl at ih ⊢
    rw [List.map_cons, List.flatMap_cons, List.length_append, ih, mj_tv_cat]
    rcases v with x | x | x
    · rfl
    · rfl
    · rfl
theorem mj_Ct_of {M : mj_M} {as : List mj_V} {sh : mj_Sh} {FR : mj_FR} {IA : mj_FI} {LA : mj_LA} {n : Nat} {Q : mj_Q} (hy : plainFor M.1 = true) (hlw : ¬ M.1.name = "law") (hsl : mj_sl as ≤ M.2.2.1)
    (h : mj_G M Q 0 (mj_en as M.2.2.1) [] sh FR IA LA n 0 0) : mj_Ct M as sh FR IA LA n Q := by
  intro l hl D cs B ad sz
  refine MetFree.of_bodySF (code := M.2.1) (maxLocals := M.2.2.1) (ret := M.2.2.2.1) hy ?_ ?_
  · intro args s m hpre hn
    obtain ⟨m', meth, c, hn', h1, h2, h3, h4, -, h5, h6, -⟩ := Cond.codeWith_spec (atoms_spec (ws := mj_cw M :: mj_wd) hpre _ List.mem_cons_self)
    cases hn.symm.trans hn'
    exact ⟨meth, c, h1, h2, h3, h4, h5, h6⟩
  · intro p e s m args below meth c s₁ Bd hml hP _
    obtain ⟨hargs, hsz, hP, hK, hD0, hSx, hNw⟩ := hP
    subst hargs
    subst hsz
    have hh0 : s₁.heap = s.heap := by rw [Bd.state]; rfl
    have X := Stand.of_body Bd
    have hts := atoms_spec (ws := mj_cw M :: mj_wd) Bd.pre
    obtain ⟨m', meth', c', hn', h1, h2, h3, h4, h7, h5, h6, -⟩ := Cond.codeWith_spec (hts _ List.mem_cons_self)
    cases Bd.named.symm.trans hn'
    cases Bd.method.symm.trans h1
    cases X.code.symm.trans h2
    have hD := hD0.self (sz := s.heap.size)
    have hC : mj_Cx M p l e s m ((as.map (mj_tv B ad)).toArray) meth c D cs B (va_A (mj_W cs B ad sh FR IA LA n) s.heap.size) :=
      ⟨Bd.exec, Bd.bytes, Bd.returns, hml, findClass_of_methodNamed Bd.named, fun w hw => hts w (List.mem_cons_of_mem _ hw), Bd.notSynchronized, hK, fun q hq => Or.inr hq, (name_of_methodNamed Bd.named Bd.method).1, h7, hl, fun z => absurd z hlw, hSx, hNw⟩
    have hlr := lv_entry (as.map (mj_tv B ad)) (n := M.2.2.1) (by rw [mj_sl_eq]; exact hsl)
    have hL : mj_Lr B ad ((lg_sl (as.map (mj_tv B ad)) ++ List.replicate (M.2.2.1 - (lg_sl (as.map (mj_tv B ad))).length) Slot.unset).toArray) M.2.2.1 (mj_en as M.2.2.1) :=
      ⟨hlr.1, hlr.2.1, fun i v hv => by
        have := mj_en_get B ad as _ i 0 v hv
        rw [Nat.zero_add] at this
        exact hlr.2.2 _ this⟩
    have hW := h p l e s m ((as.map (mj_tv B ad)).toArray) below meth c D cs B (va_A (mj_W cs B ad sh FR IA LA n) s.heap.size) ad n ad s.heap [] _ hC ⟨hP, hD, va_S.rf, fun _ _ => rfl, Nat.le_refl _⟩ hL s₁ hh0 X
    obtain ⟨t, hst, o, hrun, hend, hq, hfr⟩ := hW
    rw [lg_entry_eq]
    exact ⟨t, o, hst, hrun, hend, hq, hfr⟩
/-! returns -/
section RR
variable {p : Program} {l : Launch} {e : Env} {s : State} {m : MethodId} {args : Array Value} {below : List Frame} {meth : Method} {c : Code} {D : va_G} {cs : Nat → ClassId} {B : mj_B} {A : Nat → Prop} {ad0 ad : Nat → Nat} {n0 n kc ks : Nat} {H : Heap} {locs : List Loc} {M : mj_M} {Q : mj_Q} {sh : mj_Sh} {FR : mj_FR} {IA : mj_FI} {LA : mj_LA} {g : JFrame}
theorem mj_ret {v : Option mj_V} {ov : Option Value} (hov : ov = v.map (mj_tv B ad)) (hR : mj_Rl cs B D A s.heap ad0 n0 sh FR IA LA n ad H locs) (hQ : Q (.inl v) sh FR IA LA n) (hk : kc ≤ M.2.2.2.2.1.cells) (hs : ks ≤ M.2.2.2.2.1.slots)
    (row : (∀ t : State, t.heap = H → s.WarmedH t.vm → (fun (_ : Array Value) s o t => mj_Qc Q D cs B A ad0 n0 s o t) args s (.returned ov) t) → (∀ q ∈ locs, A q.base) → W p l e M.2.2.2.2.1 s m args below meth c H locs M.2.2.2.2.1.cells M.2.2.2.2.1.slots (MQ below (fun _ s o t => mj_Qc Q D cs B A ad0 n0 s o t) args s M.2.2.2.2.1.cells M.2.2.2.2.1.slots A) g) :
    W p l e M.2.2.2.2.1 s m args below meth c H locs kc ks (mj_MQ M Q below s D cs B A ad0 n0) g := by
  refine W.widen hk hs (mj_mono ?_ (row ?_ hR.2.2.1.2.2))
  · intro t h
    obtain ⟨o, h1, h2, h3, L, h4, h5⟩ := h
    exact ⟨o, h1, h2, h3, L, ⟨h4.2.1, h4.2.2⟩, h5⟩
  · intro t ht hW
    refine ⟨.inl v, sh, FR, IA, LA, n, ad, hQ, ?_, by rw [ht]; exact hR.1, hR.2.1, hR.2.2.2.1, hR.2.2.2.2, hR.2.2.1.F ht⟩
    show Outcome.returned ov = _
    rw [hov]
end RR
def o_retv (C S : Nat) : mj_Sem := fun Q _ _ _ st sh FR IA LA n kc ks => match st with
  | [] => Q (.inl none) sh FR IA LA n ∧ kc ≤ C ∧ ks ≤ S
  | _ => False
def o_iret (C S : Nat) : mj_Sem := fun Q _ _ _ st sh FR IA LA n kc ks => match st with
  | [.inl x] => Q (.inl (some (.inl x))) sh FR IA LA n ∧ kc ≤ C ∧ ks ≤ S
  | _ => False
def o_zret (C S : Nat) : mj_Sem := fun Q _ _ _ st sh FR IA LA n kc ks => match st with
  | [.inl x] => (x = 0 ∨ x = 1) ∧ Q (.inl (some (.inl x))) sh FR IA LA n ∧ kc ≤ C ∧ ks ≤ S
  | _ => False
def o_lret (C S : Nat) : mj_Sem := fun Q _ _ _ st sh FR IA LA n kc ks => match st with
  | [.inr (.inl x)] => Q (.inl (some (.inr (.inl x)))) sh FR IA LA n ∧ kc ≤ C ∧ ks ≤ S
  | _ => False
def o_aret (C S : Nat) : mj_Sem := fun Q _ _ _ st sh FR IA LA n kc ks => match st with
  | [.inr (.inr (.inl q))] => Q (.inl (some (.inr (.inr (.inl q))))) sh FR IA LA n ∧ kc ≤ C ∧ ks ≤ S
  | _ => False
theorem k_retv {M : mj_M} {pc : Nat} (hd : decode M.2.1 pc = .ok (.return_, 1)) (hr : M.2.2.2.1 = none) : mj_ok M pc (o_retv M.2.2.2.2.1.cells M.2.2.2.2.1.slots) := by
  intro Q K hK ls st sh FR IA LA n kc ks h
  rcases st with _ | ⟨v, st⟩ <;> first | exact False.elim h | skip
  obtain ⟨hQ, hk, hs⟩ := h
  intro p l e s m args below meth c D cs B A ad0 n0 ad H locs lsr hC hR hL
  exact mj_ret (v := none) rfl hR hQ hk hs fun a b => W.vret hC.1 hC.2.1 (hC.2.2.1.trans hr) a b hd hC.2.2.2.2.2.2.1
theorem k_iret {M : mj_M} {pc : Nat} (hd : decode M.2.1 pc = .ok (.ireturn, 1)) (hr : M.2.2.2.1 = some .int) : mj_ok M pc (o_iret M.2.2.2.2.1.cells M.2.2.2.2.1.slots) := by
  intro Q K hK ls st sh FR IA LA n kc ks h
  rcases st with _ | ⟨x | x, _ | ⟨y, st⟩⟩ <;> first | exact False.elim h | skip
  obtain ⟨hQ, hk, hs⟩ := h
  intro p l e s m args below meth c D cs B A ad0 n0 ad H locs lsr hC hR hL
  exact mj_ret (v := some (.inl x)) rfl hR hQ hk hs fun a b => W.iret hC.1 hC.2.1 (hC.2.2.1.trans hr) a b hd hC.2.2.2.2.2.2.1
theorem k_zret {M : mj_M} {pc : Nat} (hd : decode M.2.1 pc = .ok (.ireturn, 1)) (hr : M.2.2.2.1 = some .boolean) : mj_ok M pc (o_zret M.2.2.2.2.1.cells M.2.2.2.2.1.slots) := by
  intro Q K hK ls st sh FR IA LA n kc ks h
  rcases st with _ | ⟨x | x, _ | ⟨y, st⟩⟩ <;> first | exact False.elim h | skip
  obtain ⟨hx, hQ, hk, hs⟩ := h
  intro p l e s m args below meth c D cs B A ad0 n0 ad H locs lsr hC hR hL
  exact mj_ret (v := some (.inl x)) rfl hR hQ hk hs fun a b => W.zret hC.1 hC.2.1 (hC.2.2.1.trans hr) (by rcases hx with rfl | rfl <;> rfl) a b hd hC.2.2.2.2.2.2.1
theorem k_lret {M : mj_M} {pc : Nat} (hd : decode M.2.1 pc = .ok (.lreturn, 1)) (hr : M.2.2.2.1 = some .long) : mj_ok M pc (o_lret M.2.2.2.2.1.cells M.2.2.2.2.1.slots) := by
  intro Q K hK ls st sh FR IA LA n kc ks h
  rcases st with _ | ⟨x | x | x, _ | ⟨y, st⟩⟩ <;> first | exact False.elim h | skip
  obtain ⟨hQ, hk, hs⟩ := h
  intro p l e s m args below meth c D cs B A ad0 n0 ad H locs lsr hC hR hL
  exact mj_ret (v := some (.inr (.inl x))) rfl hR hQ hk hs fun a b => W.lret hC.1 hC.2.1 (hC.2.2.1.trans hr) a b hd hC.2.2.2.2.2.2.1
theorem k_aret {M : mj_M} {pc : Nat} {rt : FieldType} (hd : decode M.2.1 pc = .ok (.areturn, 1)) (hr : M.2.2.2.1 = some rt) (hrt : (∃ n, rt = .object n) ∨ ∃ t, rt = .array t) : mj_ok M pc (o_aret M.2.2.2.2.1.cells M.2.2.2.2.1.slots) := by
  intro Q K hK ls st sh FR IA LA n kc ks h
  rcases st with _ | ⟨x | x | x | x, _ | ⟨y, st⟩⟩ <;> first | exact False.elim h | skip
  obtain ⟨hQ, hk, hs⟩ := h
  intro p l e s m args below meth c D cs B A ad0 n0 ad H locs lsr hC hR hL
  exact mj_ret (v := some (.inr (.inr (.inl x)))) rfl hR hQ hk hs fun a b => W.aret hC.1 hC.2.1 (hC.2.2.1.trans hr) hrt (Or.inr ⟨_, rfl⟩) a b hd hC.2.2.2.2.2.2.1
/-! scoped values: the places that they name are there -/
def mj_scv (n : Nat) (v : mj_V) : Prop := match v with
  | .inr (.inr (.inl q)) => q < n
  | _ => True
def mj_scs (n : Nat) : List mj_V → Prop
  | [] => True
  | v :: r => mj_scv n v ∧ mj_scs n r
def mj_scl (n : Nat) : mj_L → Prop
  | [] => True
  | none :: r => mj_scl n r
  | some v :: r => mj_scv n v ∧ mj_scl n r
theorem mj_scv_tv {B : mj_B} {ad ad' : Nat → Nat} {n : Nat} (had : ∀ i, i < n → ad' i = ad i) {v : mj_V} (h : mj_scv n v) : mj_tv B ad' v = mj_tv B ad v := by
  rcases v with x | x | x | x
  · rfl
  · rfl
  · show Value.ref (ad' x) = Value.ref (ad x)
    rw [had x h]
  · rcases x with _ | _ | x <;> rfl
theorem mj_scs_tv {B : mj_B} {ad ad' : Nat → Nat} {n : Nat} (had : ∀ i, i < n → ad' i = ad i) : ∀ {st : List mj_V}, mj_scs n st → st.map (mj_tv B ad') = st.map (mj_tv B ad)
  | [], _ => rfl
  | v :: r, h => by rw [List.map_cons, List.map_cons, mj_scv_tv had h.1, mj_scs_tv had h.2]
theorem mj_scl_get {n : Nat} : ∀ {ls : mj_L} {i : Nat} {v : mj_V}, mj_scl n ls → mj_get ls i = some v → mj_scv n v
  | [], _, _, _, h => by cases h
  | none :: _, 0, _, _, h => by cases h
  | some u :: _, 0, v, hs, h => by
    cases h
    exact hs.1
  | none :: r, i + 1, v, hs, h => mj_scl_get (ls := r) hs h
  | some u :: r, i + 1, v, hs, h => mj_scl_get (ls := r) hs.2 h
theorem mj_Lr.sc {B : mj_B} {ad ad' : Nat → Nat} {n nL : Nat} {lsr : Array Slot} {ls : mj_L} (hL : mj_Lr B ad lsr nL ls) (had : ∀ i, i < n → ad' i = ad i) (h : mj_scl n ls) : mj_Lr B ad' lsr nL ls :=
  ⟨hL.1, hL.2.1, fun i v hv => by rw [mj_scv_tv had (mj_scl_get h hv)]; exact hL.2.2 i v hv⟩
def mj_aft (Q : mj_Q) (K : mj_K) (pc : Nat) (ls : mj_L) (st : List mj_V) (n kc ks : Nat) (r : mj_O) (sh : mj_Sh) (FR : mj_FR) (IA : mj_FI) (LA : mj_LA) (n' : Nat) : Prop := match r with
  | .inl v => (n' = n ∨ (mj_scl n ls ∧ mj_scs n st)) ∧ K pc ls (v.toList ++ st) sh FR IA LA n' kc ks
  | .inr k => Q (.inr k) sh FR IA LA n'
section CC
variable {p : Program} {l : Launch} {e : Env} {R : Room} {s : State} {m : MethodId} {args : Array Value} {below : List Frame} {meth : Method} {c : Code} {T : State} {locs : List Loc} {kc ks : Nat}
theorem mj_inv (X : Stand p l e R s m args below meth c T locs kc ks) {N : mj_M} {P : Array Value → State → Prop} {Q' : Array Value → State → Outcome → State → Prop} (hM : MetFree l N.1 (headSpec (mj_cw N :: mj_wd) N.2.2.2.2.1) P (fun _ _ _ _ _ => True) Q')
    {g : JFrame} (hg : g.method = m) (hsize : g.locals.size = c.maxLocals) {ig : Instr} {len : Nat} (hdg : decode c.code g.pc = .ok (ig, len)) {mk : MethodId} (hn : T.methodNamed? N.1 = some mk)
    (hcw : (mj_cw N).before args s = true) (hini : (Cond.initialized N.1.cls).before args s = true) (hwd : ∀ w ∈ mj_wd, w.before args s = true)
    (hframes : N.2.2.2.2.1.frames + 1 ≤ R.frames) (hlocals : 2 * g.monitorRoom + (g.stack.map fun v => v.category).sum + (N.2.2.1 + 11) + N.2.2.2.2.1.locals ≤ R.locals) (hcells : kc + N.2.2.2.2.1.cells ≤ R.cells) (hslots : ks + N.2.2.2.2.1.slots ≤ R.slots)
    {a : Array Value} (hP : P a (T.calling g mk a)) :
    ∃ o t, Steps p.tables e below (doInvoke e (T.setTop g) [] mk a).1 t ∧ t.status = .running ∧ Ended t (.java g :: below) o ∧ Q' a (T.calling g mk a) o t := by
  have hwT : ∀ w ∈ mj_cw N :: mj_wd, w.before a T = true := by
    intro w hw
    rcases List.mem_cons.mp hw with rfl | hw
    · exact word_at X.warmed (Or.inl (mj_cw_good N)) hcw
    · exact word_at X.warmed (mj_wd_good w hw) (hwd w hw)
  obtain ⟨m', methY, cY, hn', hmY, hcY, -, hlY, -, -, -, -⟩ := Cond.codeWith_spec (hwT _ List.mem_cons_self)
  cases hn.symm.trans hn'
  obtain ⟨kY, hkY, -⟩ := className_of_methodNamed hn
  have hiT : (Cond.initialized N.1.cls).before a T = true := word_at X.warmed (Or.inl rfl) hini
  have hinitY : kY.init = .initialized := Cond.initialized_spec (findClass_of_methodNamed hn) hkY hiT
  have h : At T g.method c below := by rw [hg]; exact X.here
  have happ : (headSpec (mj_cw N :: mj_wd) N.2.2.2.2.1).appliesLoose N.1 e.platform (T.calling g mk a) = true :=
    Spec.appliesLoose_calling (g := g) h hdg hn hkY hinitY (X.room_calling (g := g) (R' := N.2.2.2.2.1) hsize hmY hcY hframes (by rw [hlY]; exact hlocals) hcells hslots) (atoms_intro hwT)
  have hfr : (T.setTop g).frames = [.java g] ++ below := by rw [State.frames_setTop' g h.top, X.tail]; rfl
  obtain ⟨o, t, hst, hrun, hend, hq⟩ := Steps.callFree hM p X.admits X.cas X.clock (acts := []) hfr happ hP trivial
  rw [hfr] at hend
  exact ⟨o, t, hst, hrun, hend, hq⟩
/-- what a caller must know of a callee, once for the pair -/
def mj_fit (M N : mj_M) : Prop := (Cond.code N.1 N.2.1 N.2.2.1 N.2.2.2.1 ∈ mj_wd ∧ N.2.2.2.2.2.1 = [] ∨ mj_cw N ∈ mj_wd) ∧ Cond.initialized N.1.cls ∈ mj_wd ∧ N.2.2.2.2.1.frames + 1 ≤ M.2.2.2.2.1.frames ∧ 8 + (N.2.2.1 + 11) + N.2.2.2.2.1.locals ≤ M.2.2.2.2.1.locals
theorem mj_fit.cw {M N : mj_M} (h : mj_fit M N) (hw : ∀ w ∈ mj_wd, w.before args s = true) : (mj_cw N).before args s = true := by
  rcases h.1 with ⟨a, b⟩ | a
  · have h1 := hw _ a
    unfold mj_cw
    rw [b]
    unfold Cond.before Cond.holds at h1 ⊢
    rw [← Cond.code_iff_codeWith_nil]
    exact h1
  · exact hw _ a
theorem mj_core {M N : mj_M} {Q Q' : mj_Q} {K : mj_K} {D : va_G} {cs : Nat → ClassId} {B : mj_B} {A : Nat → Prop} {ad0 ad : Nat → Nat} {n0 n : Nat} {sh : mj_Sh} {FR : mj_FR} {IA : mj_FI} {LA : mj_LA} (hC : mj_Cx M p l e s m args meth c D cs B A) (hR : mj_Rl cs B D A s.heap ad0 n0 sh FR IA LA n ad T.heap locs)
    (X : Stand p l e M.2.2.2.2.1 s m args below meth c T locs kc ks) {lsr : Array Slot} {ls : mj_L} (hL : mj_Lr B ad lsr M.2.2.1 ls) {as st : List mj_V} {pc : Nat} {ig : Instr} (hd : decode M.2.1 pc = .ok (ig, 3)) {mk : MethodId} (hn : T.methodNamed? N.1 = some mk)
    (hCt : mj_Ct N as sh FR IA LA n Q') (hf : mj_fit M N) (hh : M.2.2.2.2.2.1 = []) (h8 : mj_cts st ≤ 8) (hcells : kc + N.2.2.2.2.1.cells ≤ M.2.2.2.2.1.cells) (hslots : ks + N.2.2.2.2.1.slots ≤ M.2.2.2.2.1.slots)
    (hKG : ∀ pc ls st sh FR IA LA n kc ks, K pc ls st sh FR IA LA n kc ks → mj_G M Q pc ls st sh FR IA LA n kc ks)
    (hK : ∀ r sh' FR' IA' LA' n', Q' r sh' FR' IA' LA' n' → mj_aft Q K (pc + 3) ls st n (kc + N.2.2.2.2.1.cells) (ks + N.2.2.2.2.1.slots) r sh' FR' IA' LA' n') :
    ∃ t, Steps p.tables e below (doInvoke e (T.setTop (F0 m pc lsr (st.map (mj_tv B ad)))) [] mk ((as.map (mj_tv B ad)).toArray)).1 t ∧ mj_MQ M Q below s D cs B A ad0 n0 t := by
  have hdc : decode c.code pc = .ok (ig, 3) := by rw [hC.2.1]; exact hd
  have hAA : ∀ q, va_A (mj_W cs B ad sh FR IA LA n) T.heap.size q → A q := by
    intro q hq
    rcases hq with ⟨k, x, hk⟩ | hq
    · exact hR.2.1.2 k _ hk
    · exact hC.2.2.2.2.2.2.2.2.1 q (Nat.le_trans hR.2.2.1.1 hq)
  obtain ⟨o, t, hs1, hrun, hend, hq, L, hFE, hLA⟩ := mj_inv X (hCt l hC.2.2.2.2.2.2.2.2.2.2.2.1 D cs B ad T.heap.size) (g := F0 m pc lsr (st.map (mj_tv B ad))) rfl (hL.1.trans hC.2.2.2.1.symm) hdc hn (hf.cw hC.2.2.2.2.2.1) (hC.2.2.2.2.2.1 _ hf.2.1) hC.2.2.2.2.2.1 hf.2.2.1
    (by
      show 2 * 0 + ((st.map (mj_tv B ad)).map fun v => v.category).sum + (N.2.2.1 + 11) + N.2.2.2.2.1.locals ≤ _
      rw [mj_cts_eq]
      have := hf.2.2.2
      omega) hcells hslots (a := (as.map (mj_tv B ad)).toArray)
    ⟨rfl, rfl, hR.1, va_K.moved (U := T.calling (F0 m pc lsr (st.map (mj_tv B ad))) mk (as.map (mj_tv B ad)).toArray) X.warmed.alike hC.2.2.2.2.2.2.2.1, hR.2.1.weaken (fun _ _ _ _ => trivial),
      mj_Sx_move (U := T.calling (F0 m pc lsr (st.map (mj_tv B ad))) mk (as.map (mj_tv B ad)).toArray) hC.2.2.2.2.2.2.2.2.2.2.2.2.2.1 (fun q h1 h2 => hR.2.2.1.2.1 q h1 h2) X.warmed.alike hAA,
      mj_Nw_move (U := T.calling (F0 m pc lsr (st.map (mj_tv B ad))) mk (as.map (mj_tv B ad)).toArray) hC.2.2.2.2.2.2.2.2.2.2.2.2.2.2 (fun q h1 h2 => hR.2.2.1.2.1 q h1 h2) X.warmed hAA⟩
  obtain ⟨r, sh', FR', IA', LA', n', ad', hQ', hou, hP', hD', had', hnn, hF'⟩ := hq
  have hF1 : T.heap.size ≤ t.heap.size := hF'.1
  have hF2 : ∀ q : Nat, q < T.heap.size → ¬ va_A (mj_W cs B ad sh FR IA LA n) T.heap.size q → t.heap[q]? = T.heap[q]? := hF'.2
  have hS' : va_S A s.heap t.heap (locs ++ L) := by
    refine ⟨Nat.le_trans hR.2.2.1.1 hF1, fun q h1 h2 => ?_, fun q hq => ?_⟩
    · rw [hF2 q (Nat.lt_of_lt_of_le h1 hR.2.2.1.1) (fun z => h2 (hAA q z))]
      exact hR.2.2.1.2.1 q h1 h2
    · rcases List.mem_append.mp hq with h1 | h1
      · exact hR.2.2.1.2.2 q h1
      · exact hAA _ (hLA q h1)
  have had1 : ∀ i, i < n0 ∨ n' ≤ i → ad' i = ad0 i := by
    intro i hi
    have hn0 := hR.2.2.2.2
    rcases hi with hi | hi
    · rw [had' i (Or.inl (by omega)), hR.2.2.2.1 i (Or.inl hi)]
    · rw [had' i (Or.inr hi), hR.2.2.2.1 i (Or.inr (by omega))]
  have hR' : mj_Rl cs B D A s.heap ad0 n0 sh' FR' IA' LA' n' ad' t.heap (locs ++ L) := ⟨hP', hD'.weaken (fun _ q _ hq => hAA q.1 hq), hS', had1, Nat.le_trans hR.2.2.2.2 hnn⟩
  have hK1 := hK _ _ _ _ _ _ hQ'
  rcases r with v | k
  · have hou : o = .returned (v.map (mj_tv B ad')) := hou
    subst hou
    obtain ⟨T', X', -, -, ht⟩ := X.outOf (g := F0 m pc lsr (st.map (mj_tv B ad))) rfl hdc hend hFE.1 hFE.2
    obtain ⟨hsc, hk⟩ := hK1
    have hTt : T'.heap = t.heap := by rw [ht]; rfl
    have hpair : mj_Lr B ad' lsr M.2.2.1 ls ∧ st.map (mj_tv B ad') = st.map (mj_tv B ad) := by
      rcases hsc with e1 | ⟨e1, e2⟩
      · subst e1
        have : ad' = ad := funext fun i => had' i (by omega)
        rw [this]
        exact ⟨hL, rfl⟩
      · exact ⟨hL.sc (fun i hi => had' i (Or.inl hi)) e1, mj_scs_tv (fun i hi => had' i (Or.inl hi)) e2⟩
    obtain ⟨t2, hs2, hm⟩ := hKG _ _ _ _ _ _ _ _ _ _ hk p l e s m args below meth c D cs B A ad0 n0 ad' t.heap (locs ++ L) lsr hC hR' hpair.1 T' hTt X'
    refine ⟨t2, hs1.trans ?_, hm⟩
    rw [ht]
    have he : (v.map (mj_tv B ad')).toList ++ st.map (mj_tv B ad) = (v.toList ++ st).map (mj_tv B ad') := by
      rw [List.map_append, hpair.2]
      cases v <;> rfl
    show Steps p.tables e below (T'.setTop (F0 m (pc + 3) lsr ((v.map (mj_tv B ad')).toList ++ st.map (mj_tv B ad)))) t2
    rw [he]
    exact hs2
  · obtain ⟨x, hou, hex⟩ := hou
    subst hou
    obtain ⟨T', X', -, -, ht⟩ := X.outOfThrown (g := F0 m pc lsr (st.map (mj_tv B ad))) rfl hend hFE.1 hFE.2
    have hTt : T'.heap = t.heap := by rw [ht]; rfl
    have hTv : T'.vm = t.vm := by rw [ht]; rfl
    have hxt : ∀ x ∈ c.exceptionTable.toList, covers x pc = false := by
      intro x hx
      have h9 := hC.2.2.2.2.2.2.2.2.2.2.1
      rw [hh, List.map_eq_nil_iff] at h9
      rw [h9] at hx
      cases hx
    obtain ⟨hst2, hrun2, hend2, hW2, hsame2⟩ := X'.leaveThrown x (g := F0 m pc lsr (st.map (mj_tv B ad))) rfl rfl rfl hxt hC.2.2.2.2.2.2.1
    refine ⟨T'.setFrames (.throwing x :: below), hs1.trans ?_, .threw x, hrun2, hend2, ?_, locs ++ L, ⟨hW2, hsame2.mono hcells hslots⟩, hS'.2.2⟩
    · rw [ht]
      exact hst2
    · refine ⟨.inr k, sh', FR', IA', LA', n', ad', hK1, ⟨x, rfl, ?_⟩, ?_, hR'.2.1, had1, hR'.2.2.2.2, ?_⟩
      · obtain ⟨cell, q1, q2, q3⟩ := hex
        exact ⟨cell, by rw [show (T'.setFrames (.throwing x :: below)).heap = T'.heap from rfl, hTt]; exact q1, by rw [show (T'.setFrames (.throwing x :: below)).vm = T'.vm from rfl, hTv]; exact q2, q3⟩
      · rw [show (T'.setFrames (.throwing x :: below)).heap = T'.heap from rfl, hTt]
        exact hR'.1
      · exact hS'.F (t := T'.setFrames (.throwing x :: below)) hTt
end CC
def mj_tk : Nat → List mj_V → List mj_V → Option (List mj_V × List mj_V)
  | 0, st, acc => some (acc, st)
  | _ + 1, [], _ => none
  | k + 1, v :: st, acc => mj_tk k st (v :: acc)
theorem mj_tk_eq : ∀ (k : Nat) (st acc as r : List mj_V), mj_tk k st acc = some (as, r) → ∃ a0, as = a0 ++ acc ∧ st = a0.reverse ++ r ∧ a0.length = k
  | 0, st, acc, as, r, h => by
    cases h
    exact ⟨[], rfl, rfl, rfl⟩
  | _ + 1, [], _, _, _, h => by cases h
  | k + 1, v :: st, acc, as, r, h => by
    obtain ⟨a0, h1, h2, h3⟩ := mj_tk_eq k st (v :: acc) as r h
    refine ⟨a0 ++ [v], by rw [h1]; simp, by rw [h2]; simp, by simp [h3]⟩
/-- a call: na arguments (the receiver with them) -/
def o_call (N : mj_M) (na C S nx : Nat) (rc : List mj_V → mj_Sh → Nat → Prop) : mj_Sem := fun Q K pc ls st sh FR IA LA n kc ks => match mj_tk na st [] with
  | some (as, st) => rc as sh n ∧ mj_cts st ≤ 8 ∧ kc + N.2.2.2.2.1.cells ≤ C ∧ ks + N.2.2.2.2.1.slots ≤ S ∧ ∃ Q', mj_Ct N as sh FR IA LA n Q' ∧
      ∀ r sh' FR' IA' LA' n', Q' r sh' FR' IA' LA' n' → mj_aft Q K nx ls st n (kc + N.2.2.2.2.1.cells) (ks + N.2.2.2.2.1.slots) r sh' FR' IA' LA' n'
  | none => False
/-- the receiver is a place of the class ci / any place / there is none -/
def mj_rv (ci : Nat) (as : List mj_V) (sh : mj_Sh) (n : Nat) : Prop := match as with
  | .inr (.inr (.inl q)) :: _ => mj_is sh n q (ci + 4) 0
  | _ => False
def mj_ri (as : List mj_V) (_ : mj_Sh) (_ : Nat) : Prop := match as with
  | .inr (.inr (.inl _)) :: _ => True
  | _ => False
def mj_rs (_ : List mj_V) (_ : mj_Sh) (_ : Nat) : Prop := True
theorem k_callV {M N : mj_M} {pc idx na ci : Nat} {T : u_T} {nf : Nat} (hd : decode M.2.1 pc = .ok (.invokevirtual idx, 3)) (hf : mj_fit M N) (hh : M.2.2.2.2.2.1 = []) (hcl : vwCl[ci]? = some (N.1.cls, T, nf)) (hl : Cond.methodLink M.1.cls idx N.1 ∈ mj_wd) (hi : Cond.instanceMethod N.1 ∈ mj_wd) (hs : Cond.selects N.1.cls N.1 N.1 ∈ mj_wd)
    (hy : N.1.cls ≠ "java/lang/invoke/MethodHandle" ∧ N.1.cls ≠ "java/lang/invoke/VarHandle") (hna : (parseMethodDescriptor N.1.desc).map (fun d => d.parameters.length + 1) = some na) : mj_ok M pc (o_call N na M.2.2.2.2.1.cells M.2.2.2.2.1.slots (pc + 3) (mj_rv ci)) := by
  intro Q K hK ls st sh FR IA LA n kc ks h
  unfold o_call at h
  split at h
  · rename_i as st2 htk
    obtain ⟨hrc, h8, hc, hsl, Q', hCt, hk⟩ := h
    obtain ⟨a0, e1, e2, e3⟩ := mj_tk_eq _ _ _ _ _ htk
    rw [List.append_nil] at e1
    subst e1
    subst e2
    rcases as with _ | ⟨v | v | q | v, as⟩ <;> first | exact False.elim hrc | skip
    have hrc : mj_is sh n q (ci + 4) 0 := hrc
    intro p l e s m args below meth c D cs B A ad0 n0 ad H locs lsr hC hR hL T0 hT X
    subst hT
    have hw := hC.2.2.2.2.2.1
    have hcw := hf.cw hw
    obtain ⟨m', methM, cM, hnamed, hmethM, -, -, -, -, -, -, hsigM⟩ := Cond.codeWith_spec hcw
    obtain ⟨mk, methM', hnamed', hmethM', hstM, habM⟩ := Cond.instanceMethod_spec (hw _ hi)
    cases hnamed.symm.trans hnamed'
    cases hmethM.symm.trans hmethM'
    obtain ⟨c2, r2, m2, q1, q2, q3, q4, kP, hkP, hkPi⟩ := Cond.selects_spec (hw _ hs)
    obtain ⟨cellB, hcB, hoB, hclB⟩ := va_recv hC.2.2.2.2.2.2.2.1 hR.1 hcl (mj_W_ob hrc)
    cases hclB.symm.trans q1
    cases (State.methodFound?_of_named hnamed hy).symm.trans q2
    cases hnamed.symm.trans q3
    have hselP : selectMethod e.platform s.vm cellB.cls m' = .method m' := by rw [Launch.admits_selectMethod X.admits]; exact q4
    have hlen : (as.map (mj_tv B ad)).length = methM.sig.parameters.length := by
      rw [hsigM] at hna
      have h0 := Option.some.inj hna
      rw [List.length_map]
      rw [List.length_cons] at e3
      have h1 : methM.sig.parameters.length + 1 = na := h0
      omega
    obtain ⟨vm₁, X₁, hstep₁⟩ := X.invokevirtual hC.1 hC.2.2.2.2.1 (hw _ hl) hnamed hmethM hstM hkP hkPi hy (a := ad q) (cell := cellB) hcB
      (fun z h => by rw [h] at hoB; cases hoB) hselP hmethM habM hkP hkPi (g := F0 m pc lsr (((.inr (.inr (.inl q)) :: as).reverse ++ st2).map (mj_tv B ad))) rfl (argsL := as.map (mj_tv B ad)) (rest := st2.map (mj_tv B ad)) hlen
      (by simp [mj_tv, mj_rf]) (by rw [hC.2.1]; exact hd)
    obtain ⟨t, hst, hm⟩ := mj_core (T := T0.setVm vm₁) hC hR X₁ hL hd (X₁.named hnamed) hCt hf hh h8 hc hsl hK hk
    exact ⟨t, hstep₁ _ (fun acts => by rw [doInvoke_state]; exact hst), hm⟩
  · exact False.elim h
theorem k_callS {M N : mj_M} {pc idx na : Nat} (hd : decode M.2.1 pc = .ok (.invokestatic idx, 3)) (hf : mj_fit M N) (hh : M.2.2.2.2.2.1 = []) (hl : Cond.methodLink M.1.cls idx N.1 ∈ mj_wd) (hi : Cond.static N.1 ∈ mj_wd)
    (hy : N.1.cls ≠ "java/lang/invoke/MethodHandle" ∧ N.1.cls ≠ "java/lang/invoke/VarHandle") (hna : (parseMethodDescriptor N.1.desc).map (fun d => d.parameters.length) = some na) : mj_ok M pc (o_call N na M.2.2.2.2.1.cells M.2.2.2.2.1.slots (pc + 3) mj_rs) := by
  intro Q K hK ls st sh FR IA LA n kc ks h
  unfold o_call at h
  split at h
  · rename_i as st2 htk
    obtain ⟨hrc, h8, hc, hsl, Q', hCt, hk⟩ := h
    obtain ⟨a0, e1, e2, e3⟩ := mj_tk_eq _ _ _ _ _ htk
    rw [List.append_nil] at e1
    subst e1
    subst e2
    intro p l e s m args below meth c D cs B A ad0 n0 ad H locs lsr hC hR hL T0 hT X
    subst hT
    have hw := hC.2.2.2.2.2.1
    have hcw := hf.cw hw
    obtain ⟨m', methM, cM, hnamed, hmethM, -, -, -, -, -, -, hsigM⟩ := Cond.codeWith_spec hcw
    have hstatic : methM.isStatic = true := Cond.static_spec hnamed hmethM (hw _ hi)
    obtain ⟨kP, hkP, -⟩ := className_of_methodNamed hnamed
    have hinitP : kP.init = .initialized := Cond.initialized_spec (findClass_of_methodNamed hnamed) hkP (hw _ hf.2.1)
    have hlen : (as.map (mj_tv B ad)).length = methM.sig.parameters.length := by
      rw [hsigM] at hna
      have h0 := Option.some.inj hna
      rw [List.length_map, e3]
      exact h0.symm
    obtain ⟨vm₁, X₁, hstep₁⟩ := X.invokestatic hC.1 hC.2.2.2.2.1 (hw _ hl) hnamed hmethM hstatic hkP hinitP hy (g := F0 m pc lsr ((as.reverse ++ st2).map (mj_tv B ad))) rfl (argsL := as.map (mj_tv B ad)) (rest := st2.map (mj_tv B ad)) hlen
      (by simp) (by rw [hC.2.1]; exact hd)
    obtain ⟨t, hst, hm⟩ := mj_core (T := T0.setVm vm₁) hC hR X₁ hL hd (X₁.named hnamed) hCt hf hh h8 hc hsl hK hk
    exact ⟨t, hstep₁ _ (fun acts => by rw [doInvoke_state]; exact hst), hm⟩
  · exact False.elim h
