/-! constructors' calls, wide constants, the script -/
theorem k_callI {M N : mj_M} {pc idx na : Nat} (hd : decode M.2.1 pc = .ok (.invokespecial idx, 3)) (hf : mj_fit M N) (hh : M.2.2.2.2.2.1 = []) (hl : Cond.methodLink M.1.cls idx N.1 ∈ mj_wd) (hi : Cond.instanceMethod N.1 ∈ mj_wd) (hcode : Cond.code N.1 N.2.1 N.2.2.1 none ∈ mj_wd) (hn : N.1.name = "<init>")
    (hy : N.1.cls ≠ "java/lang/invoke/MethodHandle" ∧ N.1.cls ≠ "java/lang/invoke/VarHandle") (hna : (parseMethodDescriptor N.1.desc).map (fun d => d.parameters.length + 1) = some na) : mj_ok M pc (o_call N na M.2.2.2.2.1.cells M.2.2.2.2.1.slots (pc + 3) mj_ri) := by
  intro Q K hK ls st sh FR IA LA n kc ks h
  unfold o_call at h
  split at h
  · rename_i as st2 htk
    obtain ⟨hrc, h8, hc, hsl, Q', hCt, hk⟩ := h
    obtain ⟨a0, e1, e2, e3⟩ := mj_tk_eq _ _ _ _ _ htk
    rw [List.append_nil] at e1
    subst e1
    subst e2
    rcases as with _ | ⟨v | v | q | v, as⟩ <;> first | exact False.elim hrc | skip
    intro p l e s m args below meth c D cs B A ad0 n0 ad H locs lsr hC hR hL T0 hT X
    subst hT
    have hw := hC.2.2.2.2.2.1
    have hpl : e.platform.magicAccessors = ({} : Platform).magicAccessors := by rw [X.admits.platform]
    have hlen : ∀ sig, parseMethodDescriptor N.1.desc = some sig → (as.map (mj_tv B ad)).length = sig.parameters.length := by
      intro sig hs
      rw [hs] at hna
      have h0 : sig.parameters.length + 1 = na := Option.some.inj hna
      rw [List.length_cons] at e3
      rw [List.length_map]
      omega
    obtain ⟨mk, methM, cM, kP, vm₁, hnamed, hmethM, hcodeM, -, hlocalsM, -, hkP, -, hW₁, hstep₁⟩ := Steps.initColdArgs (e := e) X.here hC.1 X.warmed hpl hC.2.2.2.2.1 hn hy (hw _ hl) (hw _ hi) (hw _ hcode) (f := F0 m pc lsr (((.inr (.inr (.inl q)) :: as).reverse ++ st2).map (mj_tv B ad))) rfl (a := ad q) (argsL := as.map (mj_tv B ad)) (rest := st2.map (mj_tv B ad)) hlen (by simp [mj_tv, mj_rf]) (by rw [hC.2.1]; exact hd)
    have X₁ := X.noted hW₁
    obtain ⟨t, hst, hm⟩ := mj_core (T := T0.setVm vm₁) hC hR X₁ hL hd (X₁.named hnamed) hCt hf hh h8 hc hsl hK hk
    exact ⟨t, hstep₁ _ (fun acts => by rw [doInvoke_state]; exact hst), hm⟩
  · exact False.elim h
theorem k_callIN {M N : mj_M} {pc idx na : Nat} {host : String} (hd : decode M.2.1 pc = .ok (.invokespecial idx, 3)) (hf : mj_fit M N) (hh : M.2.2.2.2.2.1 = []) (hl : (M.1.cls, idx, N.1, host) ∈ mj_wn) (hi : Cond.instanceMethod N.1 ∈ mj_wd) (hcode : Cond.code N.1 N.2.1 N.2.2.1 none ∈ mj_wd) (hn : N.1.name = "<init>")
    (hy : N.1.cls ≠ "java/lang/invoke/MethodHandle" ∧ N.1.cls ≠ "java/lang/invoke/VarHandle") (hna : (parseMethodDescriptor N.1.desc).map (fun d => d.parameters.length + 1) = some na) : mj_ok M pc (o_call N na M.2.2.2.2.1.cells M.2.2.2.2.1.slots (pc + 3) mj_ri) := by
  intro Q K hK ls st sh FR IA LA n kc ks h
  unfold o_call at h
  split at h
  · rename_i as st2 htk
    obtain ⟨hrc, h8, hc, hsl, Q', hCt, hk⟩ := h
    obtain ⟨a0, e1, e2, e3⟩ := mj_tk_eq _ _ _ _ _ htk
    rw [List.append_nil] at e1
    subst e1
    subst e2
    rcases as with _ | ⟨v | v | q | v, as⟩ <;> first | exact False.elim hrc | skip
    intro p l e s m args below meth c D cs B A ad0 n0 ad H locs lsr hC hR hL T0 hT X
    subst hT
    have hw := hC.2.2.2.2.2.1
    have hpl : e.platform.magicAccessors = ({} : Platform).magicAccessors := by rw [X.admits.platform]
    have hlen : ∀ sig, parseMethodDescriptor N.1.desc = some sig → (as.map (mj_tv B ad)).length = sig.parameters.length := by
      intro sig hs
      rw [hs] at hna
      have h0 : sig.parameters.length + 1 = na := Option.some.inj hna
      rw [List.length_cons] at e3
      rw [List.length_map]
      omega
    have hlk : (Cond.methodLinkNest M.1.cls idx N.1 host).before args s = true := va_Nw.use rfl (hC.2.2.2.2.2.2.2.2.2.2.2.2.2.2.1 _ hl)
    obtain ⟨mk, methM, cM, kP, vm₁, hnamed, hmethM, hcodeM, -, hlocalsM, -, hkP, -, hW₁, hstep₁⟩ := Steps.initColdArgsNest (e := e) X.here hC.1 X.warmed hpl hC.2.2.2.2.1 hn hy hlk (hw _ hi) (hw _ hcode) (f := F0 m pc lsr (((.inr (.inr (.inl q)) :: as).reverse ++ st2).map (mj_tv B ad))) rfl (a := ad q) (argsL := as.map (mj_tv B ad)) (rest := st2.map (mj_tv B ad)) hlen (by simp [mj_tv, mj_rf]) (by rw [hC.2.1]; exact hd)
    have X₁ := X.noted hW₁
    obtain ⟨t, hst, hm⟩ := mj_core (T := T0.setVm vm₁) hC hR X₁ hL hd (X₁.named hnamed) hCt hf hh h8 hc hsl hK hk
    exact ⟨t, hstep₁ _ (fun acts => by rw [doInvoke_state]; exact hst), hm⟩
  · exact False.elim h
theorem k_ldcw {M : mj_M} {pc : Nat} {v : Int} {idx : Nat} (hd : decode M.2.1 pc = .ok (.ldc_w idx, 3)) (hw : Cond.constant M.1.cls idx (Int32.ofInt v) ∈ mj_wd) : mj_ok M pc (o_ic v (pc + 3)) := by
  intro Q K hK ls st sh FR IA LA n kc ks h
  intro p l e s m args below meth c D cs B A ad0 n0 ad H locs lsr hC hR hL
  exact lv_ldcw hC.1 hC.2.1 hC.2.2.2.2.1 (hC.2.2.2.2.2.1 _ hw) hd (hK _ _ _ _ _ _ _ _ _ _ h p l e s m args below meth c D cs B A ad0 n0 ad H locs lsr hC hR hL)
def o_sal (L : Nat) (sc : Nat → Int) (nx : Nat) : mj_Sem := fun _ K pc ls st sh FR IA LA n kc ks => match st with
  | .inl j :: .inr (.inr (.inr 1)) :: st => ∃ i : Nat, mj_w j = (i : Int) ∧ i < L ∧ K nx ls (.inl (sc i) :: st) sh FR IA LA n kc ks
  | _ => False
theorem k_sal {M : mj_M} {pc : Nat} (hd : decode M.2.1 pc = .ok (.iaload, 1)) (hl : M.1.name = "law") : mj_ok M pc (o_sal M.2.2.2.2.2.2.1 M.2.2.2.2.2.2.2 (pc + 1)) := by
  intro Q K hK ls st sh FR IA LA n kc ks h
  rcases st with _ | ⟨j | j, _ | ⟨q | q | q | q, st⟩⟩ <;> first | exact False.elim h | skip
  rcases q with _ | _ | q <;> first | exact False.elim h | skip
  obtain ⟨i, hj, hi, h⟩ := h
  intro p l e s m args below meth c D cs B A ad0 n0 ad H locs lsr hC hR hL
  obtain ⟨hX, hb, hnA⟩ := hC.2.2.2.2.2.2.2.2.2.2.2.2.1 hl
  refine va_sld hC.1 hC.2.1 hX hb hnA hR.2.2.1 (mj_vpin hj hi) hd ?_
  rw [mj_clampi hj]
  exact hK _ _ _ _ _ _ _ _ _ _ h p l e s m args below meth c D cs B A ad0 n0 ad H locs lsr hC hR hL
def o_slen (L nx : Nat) : mj_Sem := fun _ K pc ls st sh FR IA LA n kc ks => match st with
  | .inr (.inr (.inr 1)) :: st => K nx ls (.inl (L : Int) :: st) sh FR IA LA n kc ks
  | _ => False
theorem k_slen {M : mj_M} {pc : Nat} (hd : decode M.2.1 pc = .ok (.arraylength, 1)) (hl : M.1.name = "law") : mj_ok M pc (o_slen M.2.2.2.2.2.2.1 (pc + 1)) := by
  intro Q K hK ls st sh FR IA LA n kc ks h
  rcases st with _ | ⟨q | q | q | q, st⟩ <;> first | exact False.elim h | skip
  rcases q with _ | _ | q <;> first | exact False.elim h | skip
  intro p l e s m args below meth c D cs B A ad0 n0 ad H locs lsr hC hR hL
  obtain ⟨hX, hb, hnA⟩ := hC.2.2.2.2.2.2.2.2.2.2.2.2.1 hl
  refine va_slen hC.1 hC.2.1 hX hb hnA hR.2.2.1 hd ?_
  rw [← Int32.ofInt_eq_ofNat]
  exact hK _ _ _ _ _ _ _ _ _ _ h p l e s m args below meth c D cs B A ad0 n0 ad H locs lsr hC hR hL
theorem mj_c0 {M : mj_M} : mj_Code M [] := fun _ h => absurd h List.not_mem_nil
theorem mj_c1 {M : mj_M} {pc : Nat} {o : mj_Sem} {r : List (Nat × mj_Sem)} (h : mj_ok M pc o) (hr : mj_Code M r) : mj_Code M ((pc, o) :: r) := List.forall_mem_cons.mpr ⟨h, hr⟩
