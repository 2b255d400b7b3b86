def R_law : String := "CircuitTwinLaw"
def lw_P (b : Addr) (xs : List Int32) (args : Array Value) (s : State) : Prop := args = #[.ref b] ∧ s.IntsAt b xs ∧ xs.length ≤ 2048 ∧ (Jvm.Cond.and given_1 narrow_1).before args s = true
def lw_Q (_ : Array Value) (s : State) (o : Outcome) (t : State) : Prop := o = .returned (some (.int 1)) ∧ Framed s o t [] 601024 7293034
def lw_Z (below : List Frame) (a : Array Value) (s : State) : State → Prop := fun t => ∃ o, t.status = .running ∧ Ended t below o ∧ lw_Q a s o t
/-- what holds at the law's entry: the machine, the code, the tables' words (any of lw_tbl by 'hts w (by decide +kernel)'), the script of L ints xs at the cell b, what the Statement gives of the start (any of its parts by flat_of_before) -/
def lw_At (p : Program) (s : State) (m : MethodId) (meth : Method) (c : Code) (b L : Nat) (xs : Nat → Int32) : Prop :=
  p.tables.exec = Jvm.exec ∧ c.code = code ∧ meth.sig.returnType = ret ∧ c.maxLocals = 8 ∧ s.vm.findClass R_law = some m.cls ∧ (∀ w ∈ lw_tbl, w.before #[Value.ref b] s = true) ∧ va_X b L xs s s.heap ∧ b < s.heap.size ∧ meth.locks = false ∧ (Jvm.Cond.and given_1 narrow_1).before #[Value.ref b] s = true
/-- the law's answer -/
def en_Q : mj_Q := fun r _ _ _ _ _ => r = .inl (some (.inl 1))
/-- the law's body, from its entry, for every script of at most 2048 ints: what is to be shown on the mini machine -/
def en_G : Prop := ∀ (L : Nat) (sc : Nat → Int), L ≤ 2048 → (∀ j, -2147483648 ≤ sc j ∧ sc j < 2147483648) → mj_G (m_L_law L sc) en_Q 0 [some (.inr (.inr (.inr 1))), none, none, none, none, none, none, none] [] (fun _ => (0, 0)) (fun _ _ => .inr 0) (fun _ _ => 0) (fun _ _ => 0) 0 0 0
theorem whole_start {p : Program} {e : Env} {s : State} {m : MethodId} {below : List Frame} {meth : Method} {c : Code} (l : Launch) (hla : mj_la l) (hG : en_G) {b L : Nat} {xs : Nat → Int32} (hL : L ≤ 2048) (C0 : lw_At p s m meth c b L xs) (hname : meth.name = "law") (hxt : c.exceptionTable.isEmpty = true) : W p l e room_1 s m #[Value.ref b] below meth c s.heap [] 0 0 (lw_Z below #[Value.ref b] s) (entryFrame m ([Value.ref b] : List Value).toArray 8) := by
  obtain ⟨hx, hb, hr, hml, hown, hts, hX, hbl, hlk, hgv⟩ := C0
  have hwd : ∀ w ∈ mj_wd, w.before #[Value.ref b] s = true := fun w hw => hts w (List.mem_filter.mp hw).1
  obtain ⟨D, cs, hK⟩ := en_K hwd
  obtain ⟨tb, hSx⟩ := en_S hts hgv
  have hN := en_N hts hgv
  have hX' : va_X b L (fun j => Int32.ofInt ((xs j).toInt)) s s.heap := by
    have : (fun j => Int32.ofInt ((xs j).toInt)) = xs := funext fun j => Int32.ofInt_toInt (xs j)
    rw [this]
    exact hX
  have hC : mj_Cx (m_L_law L fun j => (xs j).toInt) p l e s m #[Value.ref b] meth c D cs ((b, 0, fun _ => 0), tb) (fun q => s.heap.size ≤ q) :=
    ⟨hx, hb, hr, hml, hown, hwd, hlk, hK, fun q h => h, hname, by
      have h0 : c.exceptionTable.toList = [] := by
        have h1 : c.exceptionTable.size = 0 := by simpa [Array.isEmpty] using hxt
        exact List.eq_nil_of_length_eq_zero (by simpa using h1)
      rw [h0]
      rfl, hla, fun _ => ⟨hX', hbl, fun h => by
        have h : s.heap.size ≤ b := h
        omega⟩, hSx, hN⟩
  have hlr := lv_entry ([Value.ref b] : List Value) (n := 8) (Nat.le_of_ble_eq_true rfl)
  have hLr : mj_Lr ((b, 0, fun _ => 0), tb) (fun _ => 0) ((lg_sl [Value.ref b] ++ List.replicate (8 - (lg_sl [Value.ref b]).length) Slot.unset).toArray) 8 [some (.inr (.inr (.inr 1))), none, none, none, none, none, none, none] :=
    ⟨hlr.1, hlr.2.1, fun i v hv => by
      rcases i with _ | _ | _ | _ | _ | _ | _ | _ | i
      · cases hv
        exact hlr.2.2 (0, Value.ref b) List.mem_cons_self
      all_goals cases hv⟩
  rw [lg_entry_eq]
  refine mj_mono ?_ (hG L (fun j => (xs j).toInt) hL (fun j => ⟨(xs j).le_toInt, (xs j).toInt_lt⟩) p l e s m #[Value.ref b] below meth c D cs ((b, 0, fun _ => 0), tb) (fun q => s.heap.size ≤ q) (fun _ => 0) 0 (fun _ => 0) s.heap [] _ hC
    ⟨(fun k q hq => by cases hq), ⟨(fun i j p q hp => by cases hp), (fun k q hq => by cases hq)⟩, va_S.rf, fun _ _ => rfl, Nat.le_refl _⟩ hLr)
  intro t ht
  obtain ⟨o, h1, h2, h3, Lc, h4, h5⟩ := ht
  obtain ⟨r, sh, FR, IA, LA, n, ad, hQ, hou, -⟩ := h3
  have hQ : r = .inl (some (.inl 1)) := hQ
  subst hQ
  have hou : o = .returned (some (.int (Int32.ofInt 1))) := hou
  subst hou
  refine ⟨_, h1, h2, rfl, ⟨_, rfl⟩, h4.1, h4.2.weaken (fun x hx hlt => ?_) (Nat.le_refl _) (Nat.le_refl _)⟩
  have h6 : s.heap.size ≤ x.base := h5 x hx
  exact absurd hlt (Nat.not_lt.mpr h6)
set_option maxHeartbeats 4000000 in
theorem lw_walk (l : Launch) (hla : mj_la l) (hG : en_G) (b : Addr) (xs : List Int32) : MetFree l x (headSpec (Jvm.Cond.code x code maxLocals ret :: tables_1) room_1) (lw_P b xs) (fun _ _ _ _ _ => True) lw_Q := by
  refine MetFree.of_bodyS (code := code) (maxLocals := maxLocals) (ret := ret) (by decide) ?_ ?_
  · intro args s m h hn
    obtain ⟨meth, c, h1, h2, h3, h4, h5, h6, -, -⟩ := Cond.code_spec hn (atoms_spec (ws := Jvm.Cond.code x code maxLocals ret :: tables_1) h _ List.mem_cons_self)
    exact ⟨meth, c, h1, h2, h3, h4, h5, h6⟩
  · intro p e s m args below meth c s₁ B hml0 hP _
    obtain ⟨rfl, hx, hbd, hgv⟩ := hP
    obtain ⟨scr, harrAt, hlist, hof, hsmall⟩ := hx
    obtain ⟨hcb, hkn, -, -⟩ := State.arrayAt?_spec harrAt
    have hown : s.vm.findClass R_law = some m.cls := findClass_of_methodNamed B.named
    have hts0 : ∀ c ∈ (Jvm.Cond.code x code maxLocals ret :: tables_1), c.before #[Value.ref b] s = true := atoms_spec (ws := Jvm.Cond.code x code maxLocals ret :: tables_1) B.pre
    have hts : ∀ w ∈ lw_tbl, w.before #[Value.ref b] s = true := k2_hts_sels lw_privs (fun w hw => hts0 w (List.mem_cons_of_mem _ hw)) lw_privs_ok
    have hml : c.maxLocals = 8 := B.maxLocals_eq (hts0 _ List.mem_cons_self)
    have X₀ : Stand p l e room_1 s m #[Value.ref b] below meth c s₁ [] 0 0 := Stand.of_body B
    have hh0 : s₁.heap = s.heap := by rw [B.state]; rfl
    have hsz : scr.slots.size = xs.length := by rw [← Array.length_toList, hlist, List.length_map]
    have hval : ∀ j : Nat, j < xs.length → scr.slots[j]? = some (.int (xs.getD j 0)) := fun j hj => by
      rw [← Array.getElem?_toList, hlist]
      simp [hj]
    have hbl : b < s.heap.size := (Array.getElem?_eq_some_iff.mp hcb).1
    have hX : va_X b xs.length (fun j => xs.getD j 0) s s.heap := ⟨scr, hcb, hof, hkn, hsz, hval⟩
    have K : W p l e room_1 s m #[Value.ref b] below meth c s₁.heap [] 0 0 (lw_Z below #[Value.ref b] s) (entryFrame m ([Value.ref b] : List Value).toArray 8) := by
      rw [hh0]
      exact whole_start l hla hG hbd ⟨B.exec, B.bytes, B.returns, hml, hown, hts, hX, hbl, B.notSynchronized, hgv⟩ (name_of_methodNamed B.named B.method).1 (B.noHandlers (hts0 _ List.mem_cons_self))
    obtain ⟨t, a1, o, b1, b2, b3⟩ := K s₁ rfl X₀
    exact ⟨t, o, a1, b1, b2, b3⟩
theorem lw_pre_spec {args : Array Value} {s : State} (h : (Jvm.Cond.and given_1 narrow_1).before args s = true) (hr : rest_1_c.before args s = true) : ∃ (b : Addr) (xs : List Int32), lw_P b xs args s := by
  have hs := flat_of_before _ h
  have hq := flat_of_before _ hr
  have hc : (Cond.count 1).before args s = true := hs _ (by decide +kernel)
  have harr : (Cond.arrayOf (.arg 0) .int).before args s = true := hs _ (by decide +kernel)
  have hle : (Cond.le (.length (.arg 0)) (.int 2048)).before args s = true := hs _ (by decide +kernel)
  have hlen : (Cond.isInt (.length (.arg 0))).before args s = true := hq _ (by decide +kernel)
  have hall : (Cond.all (.arg 0) (.isInt (.elem (.arg 0) (.index 0)))).before args s = true := hq _ (by decide +kernel)
  obtain ⟨b, xs, hb, hx⟩ := State.ints_of_pre rfl harr hlen hall
  have hsm : xs.length < 2 ^ 31 := hx.choose_spec.2.2.2
  have hev : (Term.length (.arg 0)).eval args s none [] s = some (.int xs.length.toInt32) := hx.length_eval hb
  have hv := Cond.le_ints hev (show (Term.int 2048).eval args s none [] s = some (.int 2048) from rfl)
  have hd : xs.length.toInt32 ≤ 2048 := by
    simpa [Cond.before, Cond.holds, hv] using hle
  have hN : xs.length ≤ 2048 := (Int32.ofNat_le_ofNat hsm (by decide)).mp (show Int32.ofNat xs.length ≤ Int32.ofNat 2048 from hd)
  exact ⟨b, xs, Cond.one_arg hc (show args[0]? = some (.ref b) from hb), hx, hN, h⟩
theorem lw_comes (l : Launch) (hla : mj_la l) (hG : en_G) : Comes l x (Jvm.Cond.code x code maxLocals ret :: tables_1) room_1 (fun tb e args s => Calls_1 tb e args s ∧ rest_1 tb e args s ∧ Pre_1 tb e args s)
    (fun _ _ args s o t => lw_Q args s o t) := by
  intro p e ha hc hk s m args below hf hfit hheap happ hpre
  obtain ⟨b, xs, hP⟩ := lw_pre_spec hpre.2.2 hpre.2.1
  obtain ⟨k, o, h1, h2, h3, hQ⟩ := lw_walk l hla hG b xs p e ha hc hk s m args below hf ((Spec.applies_iff_loose hf).mp happ).1 hP trivial
  exact ⟨k, o, h1, h2, h3, hQ⟩
theorem lw_frame {s t : State} {o : Outcome} {args : Array Value} (h : Framed s o t [] 601024 7293034) :
    Framed s o t (fieldLocs frame_1_writes args s ++ arrayLocs frame_1_arrays args s ++ staticLocs frame_1_statics s) 601024 7293034 := h
theorem lw_limb (hG : en_G) (L : Cond) (hL : ∀ (args : Array Value) (s t : State), L.after args s (.returned (some (.int 1))) t = true) :
    ArmFor flags0 classFile x code maxLocals ret World_1 tables_1 room_1 Calls_1 rest_1 Pre_1
      (fun tb e a s o t => postC L tb e a s o t ∧ Framed s o t (fieldLocs frame_1_writes a s ++ arrayLocs frame_1_arrays a s ++ staticLocs frame_1_statics s) 601024 7293034) := by
  intro l hfl _ _ p e ha hc hk s m args below hf hfit hheap happ hpre
  obtain ⟨k, o, h1, h2, h3, rfl, hF⟩ := lw_comes l (fun e h => Launch.traces_off hfl h) hG p e ha hc hk s m args below hf hfit hheap happ hpre
  exact ⟨k, _, h1, h2, h3, hL args s _, lw_frame hF⟩
theorem en_vc (hG : en_G) : Claimed_1_1 ∧ Claimed_1_2 := ⟨lw_limb hG limb_1_1 (fun args s t => by simp [limb_1_1, Cond.after, Cond.holds, Cond.value]), lw_limb hG limb_1_2 (fun args s t => Cond.after_iff.mpr (by
  first | (rw [show limb_1_2 = Cond.eq .result (.int 1) from rfl, Cond.eq_ints (x := 1) (y := 1) rfl rfl]; simp; done) | (simp [limb_1_2, Cond.value, Term.eval]; done)))⟩
