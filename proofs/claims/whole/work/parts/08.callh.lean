theorem mj_Lr.s0 {B : mj_B} {ad : Nat → Nat} {lsr : Array Slot} {nL i : Nat} {v : Value} {ls : mj_L} (h : lv_has lsr nL ((i, v) :: (mj_lv B ad 0 ls).filter (fun q => !(q.1 == i) && !(q.1 + 1 == i && q.2.category == 2)))) : mj_Lr B ad lsr nL (mj_set (mj_kl ls i) i none) := by
  refine ⟨h.1, h.2.1, fun k x hx => ?_⟩
  rcases mj_get_set _ _ _ _ _ hx with ⟨e, f⟩ | ⟨hk, hx⟩
  · cases f
  · obtain ⟨hx, hc⟩ := mj_get_kl hx
    have hm := mj_lv_in B ad ls 0 k x hx
    rw [Nat.zero_add] at hm
    refine h.2.2 (k, _) (List.mem_cons_of_mem _ (List.mem_filter.mpr ⟨hm, ?_⟩))
    simp only [mj_tv_cat, Bool.and_eq_true, Bool.not_eq_true', beq_eq_false_iff_ne, Bool.and_eq_false_iff]
    refine ⟨hk, ?_⟩
    by_cases e : k + 1 = i
    · exact Or.inr fun z => hc ⟨e, (mj_tv_cat B ad x).symm.trans z⟩
    · exact Or.inl e
/-- kinds of exceptions, where their handlers go on behind the store, in which local they store -/
def mj_hf : List (Nat × Nat × Nat) → Nat → Option (Nat × Nat)
  | [], _ => none
  | q :: r, k => match Nat.beq q.1 k with
    | true => some q.2
    | false => mj_hf r k
def mj_afH (hm : List (Nat × Nat × Nat)) (K : mj_K) (pc : Nat) (ls : mj_L) (st : List mj_V) (n kc ks : Nat) (r : mj_O) (sh : mj_Sh) (FR : mj_FR) (IA : mj_FI) (LA : mj_LA) (n' : Nat) : Prop := match r with
  | .inl v => (n' = n ∨ (mj_scl n ls ∧ mj_scs n st)) ∧ K pc ls (v.toList ++ st) sh FR IA LA n' kc ks
  | .inr k => match mj_hf hm k with
    | some h => (n' = n ∨ mj_scl n ls) ∧ K h.1 (mj_set (mj_kl ls h.2) h.2 none) [] sh FR IA LA n' kc ks
    | none => False
def ca_hs (M : mj_M) (pc : Nat) (hm : List (Nat × Nat × Nat)) : Prop := ∀ k h, mj_hf hm k = some h → ∃ hp, ca_sel M.1.cls pc k M.2.2.2.2.2.1 hp ∧ h.2 < M.2.2.1 ∧ (decode M.2.1 hp = .ok (.astore h.2, 2) ∧ h.1 = hp + 2 ∨ ∃ kf : Fin 4, decode M.2.1 hp = .ok (.astore_n kf, 1) ∧ (kf : Nat) = h.2 ∧ h.1 = hp + 1)
section CD
variable {p : Program} {l : Launch} {e : Env} {R : Room} {s : State} {m : MethodId} {args : Array Value} {below : List Frame} {meth : Method} {c : Code} {T : State} {locs : List Loc} {kc ks : Nat}
set_option maxHeartbeats 4000000 in
theorem mj_coreH {M N : mj_M} {Q Q' : mj_Q} {K : mj_K} {D : va_G} {cs : Nat → ClassId} {B : mj_B} {A : Nat → Prop} {ad0 ad : Nat → Nat} {n0 n : Nat} {sh : mj_Sh} {FR : mj_FR} {IA : mj_FI} {LA : mj_LA} (hC : mj_Cx M p l e s m args meth c D cs B A) (hR : mj_Rl cs B D A s.heap ad0 n0 sh FR IA LA n ad T.heap locs)
    (X : Stand p l e M.2.2.2.2.1 s m args below meth c T locs kc ks) {lsr : Array Slot} {ls : mj_L} (hL : mj_Lr B ad lsr M.2.2.1 ls) {as st : List mj_V} {pc : Nat} {ig : Instr} (hd : decode M.2.1 pc = .ok (ig, 3)) {mk : MethodId} (hn : T.methodNamed? N.1 = some mk)
    (hCt : mj_Ct N as sh FR IA LA n Q') (hf : mj_fit M N) {hm : List (Nat × Nat × Nat)} (hH : ca_hs M pc hm) (h8 : mj_cts st ≤ 8) (hcells : kc + N.2.2.2.2.1.cells ≤ M.2.2.2.2.1.cells) (hslots : ks + N.2.2.2.2.1.slots ≤ M.2.2.2.2.1.slots)
    (hKG : ∀ pc ls st sh FR IA LA n kc ks, K pc ls st sh FR IA LA n kc ks → mj_G M Q pc ls st sh FR IA LA n kc ks)
    (hK : ∀ r sh' FR' IA' LA' n', Q' r sh' FR' IA' LA' n' → mj_afH hm K (pc + 3) ls st n (kc + N.2.2.2.2.1.cells) (ks + N.2.2.2.2.1.slots) r sh' FR' IA' LA' n') :
    ∃ t, Steps p.tables e below (doInvoke e (T.setTop (F0 m pc lsr (st.map (mj_tv B ad)))) [] mk ((as.map (mj_tv B ad)).toArray)).1 t ∧ mj_MQ M Q below s D cs B A ad0 n0 t := by
  have hdc : decode c.code pc = .ok (ig, 3) := by rw [hC.2.1]; exact hd
  have hAA : ∀ q, va_A (mj_W cs B ad sh FR IA LA n) T.heap.size q → A q := by
    intro q hq
    rcases hq with ⟨k, x, hk⟩ | hq
    · exact hR.2.1.2 k _ hk
    · exact hC.2.2.2.2.2.2.2.2.1 q (Nat.le_trans hR.2.2.1.1 hq)
  obtain ⟨o, t, hs1, hrun, hend, hq, L, hFE, hLA⟩ := mj_inv X (hCt l hC.2.2.2.2.2.2.2.2.2.2.2.1 D cs B ad T.heap.size) (g := F0 m pc lsr (st.map (mj_tv B ad))) rfl (hL.1.trans hC.2.2.2.1.symm) hdc hn (hf.cw hC.2.2.2.2.2.1) (hC.2.2.2.2.2.1 _ hf.2.1) hC.2.2.2.2.2.1 hf.2.2.1
    (by
      show 2 * 0 + ((st.map (mj_tv B ad)).map fun v => v.category).sum + (N.2.2.1 + 11) + N.2.2.2.2.1.locals ≤ _
      rw [mj_cts_eq]
      have := hf.2.2.2
      omega) hcells hslots (a := (as.map (mj_tv B ad)).toArray)
    ⟨rfl, rfl, hR.1, va_K.moved (U := T.calling (F0 m pc lsr (st.map (mj_tv B ad))) mk (as.map (mj_tv B ad)).toArray) X.warmed.alike hC.2.2.2.2.2.2.2.1, hR.2.1.weaken (fun _ _ _ _ => trivial),
      mj_Sx_move (U := T.calling (F0 m pc lsr (st.map (mj_tv B ad))) mk (as.map (mj_tv B ad)).toArray) hC.2.2.2.2.2.2.2.2.2.2.2.2.2.1 (fun q h1 h2 => hR.2.2.1.2.1 q h1 h2) X.warmed.alike hAA,
      mj_Nw_move (U := T.calling (F0 m pc lsr (st.map (mj_tv B ad))) mk (as.map (mj_tv B ad)).toArray) hC.2.2.2.2.2.2.2.2.2.2.2.2.2.2 (fun q h1 h2 => hR.2.2.1.2.1 q h1 h2) X.warmed hAA⟩
  obtain ⟨r, sh', FR', IA', LA', n', ad', hQ', hou, hP', hD', had', hnn, hF'⟩ := hq
  have hF1 : T.heap.size ≤ t.heap.size := hF'.1
  have hF2 : ∀ q : Nat, q < T.heap.size → ¬ va_A (mj_W cs B ad sh FR IA LA n) T.heap.size q → t.heap[q]? = T.heap[q]? := hF'.2
  have hS' : va_S A s.heap t.heap (locs ++ L) := by
    refine ⟨Nat.le_trans hR.2.2.1.1 hF1, fun q h1 h2 => ?_, fun q hq => ?_⟩
    · rw [hF2 q (Nat.lt_of_lt_of_le h1 hR.2.2.1.1) (fun z => h2 (hAA q z))]
      exact hR.2.2.1.2.1 q h1 h2
    · rcases List.mem_append.mp hq with h1 | h1
      · exact hR.2.2.1.2.2 q h1
      · exact hAA _ (hLA q h1)
  have had1 : ∀ i, i < n0 ∨ n' ≤ i → ad' i = ad0 i := by
    intro i hi
    have hn0 := hR.2.2.2.2
    rcases hi with hi | hi
    · rw [had' i (Or.inl (by omega)), hR.2.2.2.1 i (Or.inl hi)]
    · rw [had' i (Or.inr hi), hR.2.2.2.1 i (Or.inr (by omega))]
  have hR' : mj_Rl cs B D A s.heap ad0 n0 sh' FR' IA' LA' n' ad' t.heap (locs ++ L) := ⟨hP', hD'.weaken (fun _ q _ hq => hAA q.1 hq), hS', had1, Nat.le_trans hR.2.2.2.2 hnn⟩
  have hK1 := hK _ _ _ _ _ _ hQ'
  rcases r with v | k
  · have hou : o = .returned (v.map (mj_tv B ad')) := hou
    subst hou
    obtain ⟨T', X', -, -, ht⟩ := X.outOf (g := F0 m pc lsr (st.map (mj_tv B ad))) rfl hdc hend hFE.1 hFE.2
    obtain ⟨hsc, hk⟩ := hK1
    have hTt : T'.heap = t.heap := by rw [ht]; rfl
    have hpair : mj_Lr B ad' lsr M.2.2.1 ls ∧ st.map (mj_tv B ad') = st.map (mj_tv B ad) := by
      rcases hsc with e1 | ⟨e1, e2⟩
      · subst e1
        have : ad' = ad := funext fun i => had' i (by omega)
        rw [this]
        exact ⟨hL, rfl⟩
      · exact ⟨hL.sc (fun i hi => had' i (Or.inl hi)) e1, mj_scs_tv (fun i hi => had' i (Or.inl hi)) e2⟩
    obtain ⟨t2, hs2, hm⟩ := hKG _ _ _ _ _ _ _ _ _ _ hk p l e s m args below meth c D cs B A ad0 n0 ad' t.heap (locs ++ L) lsr hC hR' hpair.1 T' hTt X'
    refine ⟨t2, hs1.trans ?_, hm⟩
    rw [ht]
    have he : (v.map (mj_tv B ad')).toList ++ st.map (mj_tv B ad) = (v.toList ++ st).map (mj_tv B ad') := by
      rw [List.map_append, hpair.2]
      cases v <;> rfl
    show Steps p.tables e below (T'.setTop (F0 m (pc + 3) lsr ((v.map (mj_tv B ad')).toList ++ st.map (mj_tv B ad)))) t2
    rw [he]
    exact hs2
  · obtain ⟨x, hou, hex⟩ := hou
    subst hou
    obtain ⟨T', X', -, -, ht⟩ := X.outOfThrown (g := F0 m pc lsr (st.map (mj_tv B ad))) rfl hend hFE.1 hFE.2
    have hTt : T'.heap = t.heap := by rw [ht]; rfl
    have hTv : T'.vm = t.vm := by rw [ht]; rfl
    have hx0 : ∃ h, mj_hf hm k = some h ∧ (n' = n ∨ mj_scl n ls) ∧ K h.1 (mj_set (mj_kl ls h.2) h.2 none) [] sh' FR' IA' LA' n' (kc + N.2.2.2.2.1.cells) (ks + N.2.2.2.2.1.slots) := by
      unfold mj_afH at hK1
      dsimp only at hK1
      split at hK1
      · rename_i h0 hh0
        exact ⟨h0, hh0, hK1⟩
      · exact False.elim hK1
    obtain ⟨h0, hh0, hsc, hk⟩ := hx0
    obtain ⟨hp, hsel, hn1, hast⟩ := hH k h0 hh0
    obtain ⟨cell, q1, q2, q3⟩ := hex
    have hWt : s.WarmedH T'.vm := X'.warmed
    have hclS : s.vm.findClass (mj_xn k) = some cell.cls := by
      rw [← hWt.alike.findClass, hTv]
      exact q2
    obtain ⟨vm', hWv, hgo⟩ := ca_find (e := e) (f := F0 m pc lsr (st.map (mj_tv B ad))) (a := x) (k := k) (hp := hp) (cell := cell) hC.2.2.2.2.2.1 hC.2.2.2.2.2.2.2.2.2.2.2.2.2.2 hC.2.2.2.2.1 (by rw [X.admits.platform]) hclS q3 c.exceptionTable.toList
      ((T'.setTop (F0 m pc lsr (st.map (mj_tv B ad)))).pushFrame (.throwing x)) (by rw [Stand.throwing_vm]; exact hWt) (by rw [Stand.throwing_heap, hTt]; exact q1) (by rw [hC.2.2.2.2.2.2.2.2.2.2.1]; exact hsel)
    have hfind : ∀ (Q : Handler → Pre) (E : CtlPost) (d : Bool) (acts : List Action), wp (findHandler (F0 m pc lsr (st.map (mj_tv B ad))) x) Q E e d acts ((T'.setTop (F0 m pc lsr (st.map (mj_tv B ad)))).pushFrame (.throwing x)) ↔ Q (.found hp) d acts (((T'.setTop (F0 m pc lsr (st.map (mj_tv B ad)))).pushFrame (.throwing x)).setVm vm') := by
      intro Q E d acts
      rw [Jvm.W.findHandler_eq (meth := meth) (code := c) (by rw [Stand.throwing_vm]; exact X'.method') X'.code]
      exact hgo Q E d acts
    have hL' : mj_Lr B ad' lsr M.2.2.1 ls := by
      rcases hsc with e1 | e1
      · subst e1
        have : ad' = ad := funext fun i => had' i (by omega)
        rw [this]
        exact hL
      · exact hL.sc (fun i hi => had' i (Or.inl hi)) e1
    have X2 := X'.noted hWv
    have hWW : W p l e M.2.2.2.2.1 s m args below meth c t.heap (locs ++ L) (kc + N.2.2.2.2.1.cells) (ks + N.2.2.2.2.1.slots) (mj_MQ M Q below s D cs B A ad0 n0) (F0 m hp lsr [.ref x]) := by
      rcases hast with ⟨ha, hb⟩ | ⟨kf, ha, hb, hc2⟩
      · refine lv_astore hC.1 hC.2.1 ha hL'.has hn1 rfl fun ls' hl' => ?_
        rw [← hb]
        exact hKG _ _ _ _ _ _ _ _ _ _ hk p l e s m args below meth c D cs B A ad0 n0 ad' t.heap (locs ++ L) ls' hC hR' (mj_Lr.s0 hl')
      · refine lv_astore_n hC.1 hC.2.1 ha hb hL'.has hn1 rfl fun ls' hl' => ?_
        rw [← hc2]
        exact hKG _ _ _ _ _ _ _ _ _ _ hk p l e s m args below meth c D cs B A ad0 n0 ad' t.heap (locs ++ L) ls' hC hR' (mj_Lr.s0 hl')
    obtain ⟨t2, hs2, hm2⟩ := hWW (T'.setVm vm') hTt X2
    refine ⟨t2, hs1.trans ?_, hm2⟩
    rw [ht]
    exact ca_at X' x (g := F0 m pc lsr (st.map (mj_tv B ad))) rfl hfind hs2
end CD
/-- a call whose exceptions the method catches itself -/
def o_callH (N : mj_M) (na C S nx ci : Nat) (hm : List (Nat × Nat × Nat)) : mj_Sem := fun Q K pc ls st sh FR IA LA n kc ks => match mj_tk na st [] with
  | some (as, st) => mj_rv ci as sh n ∧ mj_cts st ≤ 8 ∧ kc + N.2.2.2.2.1.cells ≤ C ∧ ks + N.2.2.2.2.1.slots ≤ S ∧ ∃ Q', mj_Ct N as sh FR IA LA n Q' ∧
      ∀ r sh' FR' IA' LA' n', Q' r sh' FR' IA' LA' n' → mj_afH hm K nx ls st n (kc + N.2.2.2.2.1.cells) (ks + N.2.2.2.2.1.slots) r sh' FR' IA' LA' n'
  | none => False
theorem k_callH {M N : mj_M} {pc idx na ci : Nat} {T : u_T} {nf : Nat} (hd : decode M.2.1 pc = .ok (.invokevirtual idx, 3)) (hf : mj_fit M N) {hm : List (Nat × Nat × Nat)} (hH : ca_hs M pc hm) (hcl : vwCl[ci]? = some (N.1.cls, T, nf)) (hl : Cond.methodLink M.1.cls idx N.1 ∈ mj_wd) (hi : Cond.instanceMethod N.1 ∈ mj_wd) (hs : Cond.selects N.1.cls N.1 N.1 ∈ mj_wd)
    (hy : N.1.cls ≠ "java/lang/invoke/MethodHandle" ∧ N.1.cls ≠ "java/lang/invoke/VarHandle") (hna : (parseMethodDescriptor N.1.desc).map (fun d => d.parameters.length + 1) = some na) : mj_ok M pc (o_callH N na M.2.2.2.2.1.cells M.2.2.2.2.1.slots (pc + 3) ci hm) := by
  intro Q K hK ls st sh FR IA LA n kc ks h
  unfold o_callH at h
  split at h
  · rename_i as st2 htk
    obtain ⟨hrc, h8, hc, hsl, Q', hCt, hk⟩ := h
    obtain ⟨a0, e1, e2, e3⟩ := mj_tk_eq _ _ _ _ _ htk
    rw [List.append_nil] at e1
    subst e1
    subst e2
    rcases as with _ | ⟨v | v | q | v, as⟩ <;> first | exact False.elim hrc | skip
    have hrc : mj_is sh n q (ci + 4) 0 := hrc
    intro p l e s m args below meth c D cs B A ad0 n0 ad H locs lsr hC hR hL T0 hT X
    subst hT
    have hw := hC.2.2.2.2.2.1
    have hcw := hf.cw hw
    obtain ⟨m', methM, cM, hnamed, hmethM, -, -, -, -, -, -, hsigM⟩ := Cond.codeWith_spec hcw
    obtain ⟨mk, methM', hnamed', hmethM', hstM, habM⟩ := Cond.instanceMethod_spec (hw _ hi)
    cases hnamed.symm.trans hnamed'
    cases hmethM.symm.trans hmethM'
    obtain ⟨c2, r2, m2, q1, q2, q3, q4, kP, hkP, hkPi⟩ := Cond.selects_spec (hw _ hs)
    obtain ⟨cellB, hcB, hoB, hclB⟩ := va_recv hC.2.2.2.2.2.2.2.1 hR.1 hcl (mj_W_ob hrc)
    cases hclB.symm.trans q1
    cases (State.methodFound?_of_named hnamed hy).symm.trans q2
    cases hnamed.symm.trans q3
    have hselP : selectMethod e.platform s.vm cellB.cls m' = .method m' := by rw [Launch.admits_selectMethod X.admits]; exact q4
    have hlen : (as.map (mj_tv B ad)).length = methM.sig.parameters.length := by
      rw [hsigM] at hna
      have h0 := Option.some.inj hna
      rw [List.length_map]
      rw [List.length_cons] at e3
      have h1 : methM.sig.parameters.length + 1 = na := h0
      omega
    obtain ⟨vm₁, X₁, hstep₁⟩ := X.invokevirtual hC.1 hC.2.2.2.2.1 (hw _ hl) hnamed hmethM hstM hkP hkPi hy (a := ad q) (cell := cellB) hcB
      (fun z h => by rw [h] at hoB; cases hoB) hselP hmethM habM hkP hkPi (g := F0 m pc lsr (((.inr (.inr (.inl q)) :: as).reverse ++ st2).map (mj_tv B ad))) rfl (argsL := as.map (mj_tv B ad)) (rest := st2.map (mj_tv B ad)) hlen
      (by simp [mj_tv, mj_rf]) (by rw [hC.2.1]; exact hd)
    obtain ⟨t, hst, hm⟩ := mj_coreH (T := T0.setVm vm₁) hC hR X₁ hL hd (X₁.named hnamed) hCt hf hH h8 hc hsl hK hk
    exact ⟨t, hstep₁ _ (fun acts => by rw [doInvoke_state]; exact hst), hm⟩
  · exact False.elim h
theorem ca_hs0 {M : mj_M} {pc : Nat} : ca_hs M pc [] := fun _ _ h => by cases h
theorem ca_hs1 {M : mj_M} {pc k i nx : Nat} {r : List (Nat × Nat × Nat)} (h1 : ∃ hp, ca_sel M.1.cls pc k M.2.2.2.2.2.1 hp ∧ i < M.2.2.1 ∧ (decode M.2.1 hp = .ok (.astore i, 2) ∧ nx = hp + 2 ∨ ∃ kf : Fin 4, decode M.2.1 hp = .ok (.astore_n kf, 1) ∧ (kf : Nat) = i ∧ nx = hp + 1)) (hr : ca_hs M pc r) : ca_hs M pc ((k, nx, i) :: r) := by
  intro k' h hk
  unfold mj_hf at hk
  split at hk
  · rename_i hb
    cases hk
    rw [← Nat.eq_of_beq_eq_true hb]
    exact h1
  · exact hr k' h hk
theorem ca_selA {own : String} {pc k a b h ct : Nat} {r : List (Nat × Nat × Nat × Nat)} (h1 : a ≤ pc) (h2 : pc < b) (h3 : ct ≠ 0) (hw : Cond.classLink own ct (mj_xn k) ∈ mj_wd) (hc : (.castable (mj_xn k) (mj_xn k), true) ∈ mj_tw) : ca_sel own pc k ((a, b, h, ct) :: r) h := ⟨h1, h2, h3, k, hw, Or.inl ⟨rfl, hc, rfl⟩⟩
theorem ca_selB {own : String} {pc k a b h ct hp : Nat} {r : List (Nat × Nat × Nat × Nat)} (j : Nat) (h1 : a ≤ pc) (h2 : pc < b) (h3 : ct ≠ 0) (hw : Cond.classLink own ct (mj_xn j) ∈ mj_wd) (hc : (.castable (mj_xn k) (mj_xn j), false) ∈ mj_tw) (hr : ca_sel own pc k r hp) : ca_sel own pc k ((a, b, h, ct) :: r) hp := ⟨h1, h2, h3, j, hw, Or.inr ⟨hc, hr⟩⟩
