/-! THE LAW'S ENTRY -/
theorem en_K {args : Array Value} {s : State} (hw : ∀ w ∈ mj_wd, w.before args s = true) : ∃ (D : va_G) (cs : Nat → ClassId), va_K D vwCl (mj_ty cs) s := by
  have h1 : ∀ ci : Nat, ∃ q : ClassId × (Nat → Nat), ∀ r, vwCl[ci]? = some r → u_Kn s r.1 r.2.1 r.2.2 q.1 q.2 := by
    intro ci
    rcases ci with _ | _ | _ | _ | _ | _ | _ | ci
    · obtain ⟨c, i, h⟩ := u_known (n := 4) hw h_T.2.1 (hw _ w_19)
      exact ⟨(c, i), fun r hr => by cases hr; exact h⟩
    · obtain ⟨c, i, h⟩ := u_known (n := 10) hw h_C.2.1 (hw _ w_27)
      exact ⟨(c, i), fun r hr => by cases hr; exact h⟩
    · obtain ⟨c, i, h⟩ := u_known (n := 3) hw h_F.2.1 (hw _ w_211)
      exact ⟨(c, i), fun r hr => by cases hr; exact h⟩
    · obtain ⟨c, i, h⟩ := u_known (n := 13) hw h_N.2.1 (hw _ w_33)
      exact ⟨(c, i), fun r hr => by cases hr; exact h⟩
    · obtain ⟨c, i, h⟩ := u_known (n := 10) hw h_R.2.1 (hw _ w_205)
      exact ⟨(c, i), fun r hr => by cases hr; exact h⟩
    · obtain ⟨c, i, h⟩ := u_known (n := 9) hw h_W.2.1 (hw _ w_264)
      exact ⟨(c, i), fun r hr => by cases hr; exact h⟩
    · obtain ⟨c, i, h⟩ := u_known (n := 30) hw h_M.2.1 (hw _ w_840)
      exact ⟨(c, i), fun r hr => by cases hr; exact h⟩
    · exact ⟨(0, fun _ => 0), fun r hr => by cases hr⟩
  have h2 : ∀ ty : FieldType, Cond.arrayClass ty ∈ mj_wd → ∃ cA : ClassId, ArrOfT s cA ty ∧ s.vm.findClass ("[" ++ ty.toString) = some cA := by
    intro ty hty
    obtain ⟨cA, kA, comp, g1, g2, g3⟩ := Cond.arrayClass_spec (hw _ hty)
    exact ⟨cA, fun n z => ⟨fun k h => (by cases h), kA, g2, comp, g3⟩, g1⟩
  obtain ⟨F, hF⟩ := Classical.axiomOfChoice h1
  obtain ⟨c0, a0, b0⟩ := h2 .int w_118
  obtain ⟨c1, a1, b1⟩ := h2 .byte w_226
  obtain ⟨c2, a2, b2⟩ := h2 .boolean w_298
  obtain ⟨c3, a3, b3⟩ := h2 .long w_154
  refine ⟨(fun ci => (F ci).1, fun ci => (F ci).2), fun k => match k with | 0 => c0 | 1 => c1 | 2 => c2 | _ => c3, fun c q hq => hF c q hq, ?_⟩
  intro k q hq
  rcases k with _ | _ | _ | _ | k
  · cases hq
    exact ⟨a0, b0⟩
  · cases hq
    exact ⟨a1, b1⟩
  · cases hq
    exact ⟨a2, b2⟩
  · cases hq
    exact ⟨a3, b3⟩
  · cases hq
theorem en_eql {args : Array Value} {s : State} {t : Term} {z : Int64} (h : (Cond.eq t (.long z)).before args s = true) : t.eval args s none [] s = some (.long z) := va_eqI (by simpa [Cond.before, Cond.holds] using h) rfl
theorem en_S {b : Nat} {s : State} (ht : ∀ w ∈ lw_tbl, w.before #[Value.ref b] s = true) (hg : (Jvm.Cond.and given_1 narrow_1).before #[Value.ref b] s = true) : ∃ tb, mj_Sx tb (fun q => s.heap.size ≤ q) s := by
  have hs := flat_of_before _ hg
  have hA : ∀ a : Nat, a < s.heap.size → ¬ (fun q => s.heap.size ≤ q) a := fun a h1 h2 => by
    have h2 : s.heap.size ≤ a := h2
    omega
  obtain ⟨tb, h1, h2⟩ := va_Tof (tm := .static mj_ixC mj_ixN mj_ixD) (ty := .long) (N := 6) (f := fun j => .long (Int64.ofBitVec (mj_iw j))) (by decide) (hs (.arrayOf (.static "CircuitTwin$Circuit" "INPUT_WORDS" "[J") .long) (by decide +kernel)) (va_eqt (hs (.eq (.length (.static "CircuitTwin$Circuit" "INPUT_WORDS" "[J")) (.int 6)) (by decide +kernel))) (fun j hj => by
    rcases (show j = 0 ∨ j = 1 ∨ j = 2 ∨ j = 3 ∨ j = 4 ∨ j = 5 by omega) with rfl | rfl | rfl | rfl | rfl | rfl
    · exact en_eql (hs (.eq (.elem (.static "CircuitTwin$Circuit" "INPUT_WORDS" "[J") (.int 0)) (.long (-6148914691236517206))) (by decide +kernel))
    · exact en_eql (hs (.eq (.elem (.static "CircuitTwin$Circuit" "INPUT_WORDS" "[J") (.int 1)) (.long (-3689348814741910324))) (by decide +kernel))
    · exact en_eql (hs (.eq (.elem (.static "CircuitTwin$Circuit" "INPUT_WORDS" "[J") (.int 2)) (.long (-1085102592571150096))) (by decide +kernel))
    · exact en_eql (hs (.eq (.elem (.static "CircuitTwin$Circuit" "INPUT_WORDS" "[J") (.int 3)) (.long (-71777214294589696))) (by decide +kernel))
    · exact en_eql (hs (.eq (.elem (.static "CircuitTwin$Circuit" "INPUT_WORDS" "[J") (.int 4)) (.long (-281470681808896))) (by decide +kernel))
    · exact en_eql (hs (.eq (.elem (.static "CircuitTwin$Circuit" "INPUT_WORDS" "[J") (.int 5)) (.long (-4294967296))) (by decide +kernel))) hA
  exact ⟨tb, va_Zref (ht (.laysStatic "CircuitTwin$Circuit" "INPUT_WORDS" "[J") (List.mem_of_getElem? (i := 280) (by decide +kernel))) (ht (.initialized "CircuitTwin$Circuit") (List.mem_of_getElem? (i := 95) (by decide +kernel))) h1 hA, h2⟩
theorem en_Ts {args : Array Value} {s : State} {nm d : String} (hl : (Cond.laysStatic Bundle.tN nm d).before args s = true) (hr : (Cond.isRef (.static Bundle.tN nm d)).before args s = true) : mj_Ts nm d (fun q => s.heap.size ≤ q) s := by
  obtain ⟨c, k, i, f, a, cell, h1, h2, h3, h4, h5, h6, h7, h8, h9⟩ := Cond.laysStatic_spec hl
  obtain ⟨u, hu⟩ := Cond.staticRefV h2 h3 h4 h5 h6 hr
  refine ⟨c, k, i, f, a, cell, u.v, h1, h2, h3, h4, h5, h6, h7, h8, h9, hu, ?_, fun h => ?_⟩
  · obtain ⟨v, hv⟩ := u
    exact hv
  · have := (Array.getElem?_eq_some_iff.mp h5).1
    have h : s.heap.size ≤ a := h
    omega
theorem en_not {args : Array Value} {s : State} {x y : String} (h : (Cond.not (.castable x y)).before args s = true) : (Cond.castable x y).before #[] s = false := by
  cases hb : (Cond.castable x y).before #[] s with
  | false => rfl
  | true =>
    have h1 : (Cond.castable x y).before args s = true := va_tabs rfl rfl hb
    simp only [Cond.before, Cond.holds, Cond.value] at h h1
    simp_all
theorem en_str {args : Array Value} {s : State} {own tx : String} {k : Nat} (h1 : (Cond.stringRef own k tx).before args s = true) (h2 : (Cond.exactly (.string own k) "java/lang/String").before args s = true) : ∃ a, vk_R own k tx a s := by
  obtain ⟨a, c, cell, kk, h3, -⟩ := Cond.exactly_spec h2
  exact ⟨a, vk_R.of h1 h3⟩
theorem en_N {b : Nat} {s : State} (ht : ∀ w ∈ lw_tbl, w.before #[Value.ref b] s = true) (hg : (Jvm.Cond.and given_1 narrow_1).before #[Value.ref b] s = true) : mj_Nw (fun q => s.heap.size ≤ q) s := by
  have hs := flat_of_before _ hg
  refine ⟨?_, ?_, en_Ts (ht _ (List.mem_of_getElem? (i := 441) (by decide +kernel))) (hs (.isRef (.static "java/lang/Throwable" "UNASSIGNED_STACK" "[Ljava/lang/StackTraceElement;")) (by decide +kernel)), en_Ts (ht _ (List.mem_of_getElem? (i := 443) (by decide +kernel))) (hs (.isRef (.static "java/lang/Throwable" "SUPPRESSED_SENTINEL" "Ljava/util/List;")) (by decide +kernel)), ?_⟩
  · intro q hq
    simp only [mj_wn, List.mem_cons, List.not_mem_nil, or_false] at hq
    rcases hq with rfl | rfl | rfl | rfl
    · exact va_Nw.of rfl (ht _ (List.mem_of_getElem? (i := 121) (by decide +kernel)))
    · exact va_Nw.of rfl (ht _ (List.mem_of_getElem? (i := 299) (by decide +kernel)))
    · exact va_Nw.of rfl (ht _ (List.mem_of_getElem? (i := 305) (by decide +kernel)))
    · exact va_Nw.of rfl (ht _ (List.mem_of_getElem? (i := 358) (by decide +kernel)))
  · intro q hq
    simp only [mj_tw, List.mem_cons, List.not_mem_nil, or_false] at hq
    rcases hq with rfl | rfl | rfl | rfl | rfl | rfl | rfl | rfl | rfl | rfl | rfl | rfl
    · exact va_tabs rfl rfl (ht _ (List.mem_of_getElem? (i := 418) (by decide +kernel)))
    · exact va_tabs rfl rfl (ht _ (List.mem_of_getElem? (i := 420) (by decide +kernel)))
    · exact va_tabs rfl rfl (ht _ (List.mem_of_getElem? (i := 422) (by decide +kernel)))
    · exact va_tabs rfl rfl (ht _ (List.mem_of_getElem? (i := 416) (by decide +kernel)))
    · exact en_not (hs (.not (.castable "java/lang/IllegalArgumentException" "java/lang/IllegalStateException")) (by decide +kernel))
    · exact en_not (hs (.not (.castable "java/lang/IllegalArgumentException" "java/util/NoSuchElementException")) (by decide +kernel))
    · exact en_not (hs (.not (.castable "java/lang/IllegalStateException" "java/lang/IllegalArgumentException")) (by decide +kernel))
    · exact va_tabs rfl rfl (ht _ (List.mem_of_getElem? (i := 483) (by decide +kernel)))
    · exact en_not (hs (.not (.castable "java/lang/IllegalStateException" "java/util/NoSuchElementException")) (by decide +kernel))
    · exact en_not (hs (.not (.castable "java/util/NoSuchElementException" "java/lang/IllegalArgumentException")) (by decide +kernel))
    · exact en_not (hs (.not (.castable "java/util/NoSuchElementException" "java/lang/IllegalStateException")) (by decide +kernel))
    · exact va_tabs rfl rfl (ht _ (List.mem_of_getElem? (i := 653) (by decide +kernel)))
  · intro q hq
    simp only [mj_wr, List.mem_cons, List.not_mem_nil, or_false] at hq
    rcases hq with rfl | rfl | rfl | rfl | rfl | rfl | rfl | rfl | rfl | rfl | rfl
    · exact en_str (ht _ (List.mem_of_getElem? (i := 455) (by decide +kernel))) (hs (.exactly (.string "CircuitTwin" 38) "java/lang/String") (by decide +kernel))
    · exact en_str (ht _ (List.mem_of_getElem? (i := 490) (by decide +kernel))) (hs (.exactly (.string "CircuitTwin" 49) "java/lang/String") (by decide +kernel))
    · exact en_str (ht _ (List.mem_of_getElem? (i := 512) (by decide +kernel))) (hs (.exactly (.string "CircuitTwin" 174) "java/lang/String") (by decide +kernel))
    · exact en_str (ht _ (List.mem_of_getElem? (i := 660) (by decide +kernel))) (hs (.exactly (.string "CircuitTwin" 99) "java/lang/String") (by decide +kernel))
    · exact en_str (ht _ (List.mem_of_getElem? (i := 681) (by decide +kernel))) (hs (.exactly (.string "CircuitTwin" 180) "java/lang/String") (by decide +kernel))
    · exact en_str (ht _ (List.mem_of_getElem? (i := 685) (by decide +kernel))) (hs (.exactly (.string "CircuitTwin" 182) "java/lang/String") (by decide +kernel))
    · exact en_str (ht _ (List.mem_of_getElem? (i := 701) (by decide +kernel))) (hs (.exactly (.string "CircuitTwin" 186) "java/lang/String") (by decide +kernel))
    · exact en_str (ht _ (List.mem_of_getElem? (i := 724) (by decide +kernel))) (hs (.exactly (.string "CircuitTwin" 120) "java/lang/String") (by decide +kernel))
    · exact en_str (ht _ (List.mem_of_getElem? (i := 783) (by decide +kernel))) (hs (.exactly (.string "CircuitTwin" 184) "java/lang/String") (by decide +kernel))
    · exact en_str (ht _ (List.mem_of_getElem? (i := 914) (by decide +kernel))) (hs (.exactly (.string "CircuitTwin" 160) "java/lang/String") (by decide +kernel))
    · exact en_str (ht _ (List.mem_of_getElem? (i := 931) (by decide +kernel))) (hs (.exactly (.string "CircuitTwin" 172) "java/lang/String") (by decide +kernel))
