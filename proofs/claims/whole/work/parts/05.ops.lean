theorem mj_i2l (x : Int) : (Int32.ofInt x).toInt64 = Int64.ofBitVec (BitVec.ofInt 64 (mj_w x)) := by
  rw [← mj_toInt]
  rfl
theorem mj_l2i (x : BitVec 64) : (Int64.ofBitVec x).toInt32 = Int32.ofInt x.toInt := by
  refine Int32.toInt_inj.mp ?_
  rw [Int64.toInt_toInt32, Int32.toInt_ofInt]
  rfl
def mj_b (z : Int) : Int := (z + 128) % 256 - 128
theorem mj_i2b (x : Int) : (Int32.ofInt x).toInt8.toInt32 = Int32.ofInt (mj_b x) := by
  rw [← Int32.ofInt_int8ToInt, Int32.toInt_toInt8, mj_toInt]
  congr 1
  show (mj_w x).bmod 256 = mj_b x
  unfold Int.bmod mj_w mj_b
  dsimp only
  split <;> omega
def mj_lc (x y : BitVec 64) : Int := if y.toInt < x.toInt then 1 else if x = y then 0 else -1
theorem mj_lcmp (x y : BitVec 64) : lg_cmp (Int64.ofBitVec x) (Int64.ofBitVec y) = Int32.ofInt (mj_lc x y) := by
  unfold lg_cmp mj_lc
  have h1 : (Int64.ofBitVec x > Int64.ofBitVec y) ↔ y.toInt < x.toInt := Int64.lt_iff_toInt_lt
  have h2 : (Int64.ofBitVec x = Int64.ofBitVec y) ↔ x = y := ⟨fun h => congrArg Int64.toBitVec h, fun h => by rw [h]⟩
  by_cases a : y.toInt < x.toInt
  · rw [if_pos (h1.mpr a), if_pos a]; rfl
  · rw [if_neg (fun q => a (h1.mp q)), if_neg a]
    by_cases b : x = y
    · rw [if_pos (h2.mpr b), if_pos b]; rfl
    · rw [if_neg (fun q => b (h2.mp q)), if_neg b]; rfl
def o_ic (v : Int) (nx : Nat) : mj_Sem := fun Q K pc ls st sh FR IA LA n kc ks => K nx ls (.inl v :: st) sh FR IA LA n kc ks
theorem k_iconst {M : mj_M} {pc : Nat} {v : Int} (hd : decode M.2.1 pc = .ok (.iconst v, 1)) : mj_ok M pc (o_ic v (pc + 1)) := by
  intro Q K hK ls st sh FR IA LA n kc ks h
  intro p l e s m args below meth c D cs B A ad0 n0 ad H locs lsr hC hR hL
  exact lv_iconst hC.1 hC.2.1 hd rfl (hK _ _ _ _ _ _ _ _ _ _ h p l e s m args below meth c D cs B A ad0 n0 ad H locs lsr hC hR hL)
theorem k_bipush {M : mj_M} {pc : Nat} {v : Int} (hd : decode M.2.1 pc = .ok (.bipush v, 2)) (hv : (Int8.ofInt v).toInt32 = Int32.ofInt v) : mj_ok M pc (o_ic v (pc + 2)) := by
  intro Q K hK ls st sh FR IA LA n kc ks h
  intro p l e s m args below meth c D cs B A ad0 n0 ad H locs lsr hC hR hL
  exact lv_bipush hC.1 hC.2.1 hd hv (hK _ _ _ _ _ _ _ _ _ _ h p l e s m args below meth c D cs B A ad0 n0 ad H locs lsr hC hR hL)
theorem k_sipush {M : mj_M} {pc : Nat} {v : Int} (hd : decode M.2.1 pc = .ok (.sipush v, 3)) (hv : (Int16.ofInt v).toInt32 = Int32.ofInt v) : mj_ok M pc (o_ic v (pc + 3)) := by
  intro Q K hK ls st sh FR IA LA n kc ks h
  intro p l e s m args below meth c D cs B A ad0 n0 ad H locs lsr hC hR hL
  exact lv_sipush hC.1 hC.2.1 hd hv (hK _ _ _ _ _ _ _ _ _ _ h p l e s m args below meth c D cs B A ad0 n0 ad H locs lsr hC hR hL)
theorem k_ldc {M : mj_M} {pc : Nat} {v : Int} {idx : Nat} (hd : decode M.2.1 pc = .ok (.ldc idx, 2)) (hw : Cond.constant M.1.cls idx (Int32.ofInt v) ∈ mj_wd) : mj_ok M pc (o_ic v (pc + 2)) := by
  intro Q K hK ls st sh FR IA LA n kc ks h
  intro p l e s m args below meth c D cs B A ad0 n0 ad H locs lsr hC hR hL
  exact lv_ldc hC.1 hC.2.1 hC.2.2.2.2.1 (hC.2.2.2.2.2.1 _ hw) hd (hK _ _ _ _ _ _ _ _ _ _ h p l e s m args below meth c D cs B A ad0 n0 ad H locs lsr hC hR hL)
def o_lc (v : BitVec 64) (nx : Nat) : mj_Sem := fun Q K pc ls st sh FR IA LA n kc ks => K nx ls (.inr (.inl v) :: st) sh FR IA LA n kc ks
theorem k_lconst {M : mj_M} {pc : Nat} {k : Fin 2} {v : BitVec 64} (hd : decode M.2.1 pc = .ok (.lconst k, 1)) (hv : Int64.ofNat (k : Nat) = Int64.ofBitVec v) : mj_ok M pc (o_lc v (pc + 1)) := by
  intro Q K hK ls st sh FR IA LA n kc ks h
  intro p l e s m args below meth c D cs B A ad0 n0 ad H locs lsr hC hR hL
  exact lv_lconst hC.1 hC.2.1 hd hv (hK _ _ _ _ _ _ _ _ _ _ h p l e s m args below meth c D cs B A ad0 n0 ad H locs lsr hC hR hL)
theorem k_ldc2 {M : mj_M} {pc : Nat} {v : BitVec 64} {idx : Nat} (hd : decode M.2.1 pc = .ok (.ldc2_w idx, 3)) (hw : Cond.constantLong M.1.cls idx (Int64.ofBitVec v) ∈ mj_wd) : mj_ok M pc (o_lc v (pc + 3)) := by
  intro Q K hK ls st sh FR IA LA n kc ks h
  intro p l e s m args below meth c D cs B A ad0 n0 ad H locs lsr hC hR hL
  exact lv_ldc2 hC.1 hC.2.1 hC.2.2.2.2.1 (hC.2.2.2.2.2.1 _ hw) hd (hK _ _ _ _ _ _ _ _ _ _ h p l e s m args below meth c D cs B A ad0 n0 ad H locs lsr hC hR hL)
def o_il (i nx : Nat) : mj_Sem := fun Q K pc ls st sh FR IA LA n kc ks => match mj_get ls i with
  | some (.inl x) => K nx ls ((.inl x) :: st) sh FR IA LA n kc ks
  | _ => False
theorem k_iloadn {M : mj_M} {pc : Nat} {k : Fin 4} {i : Nat} (hd : decode M.2.1 pc = .ok (.iload_n k, 1)) (hi : (k : Nat) = i) : mj_ok M pc (o_il i (pc + 1)) := by
  intro Q K hK ls st sh FR IA LA n kc ks h
  unfold o_il at h
  split at h
  · rename_i x hx
    intro p l e s m args below meth c D cs B A ad0 n0 ad H locs lsr hC hR hL
    exact lv_iload_n hC.1 hC.2.1 hd hi (hL.2.2 i _ hx) (hK _ _ _ _ _ _ _ _ _ _ h p l e s m args below meth c D cs B A ad0 n0 ad H locs lsr hC hR hL)
  · exact False.elim h
theorem k_iload {M : mj_M} {pc : Nat} {i : Nat} (hd : decode M.2.1 pc = .ok (.iload i, 2)) : mj_ok M pc (o_il i (pc + 2)) := by
  intro Q K hK ls st sh FR IA LA n kc ks h
  unfold o_il at h
  split at h
  · rename_i x hx
    intro p l e s m args below meth c D cs B A ad0 n0 ad H locs lsr hC hR hL
    exact lv_iload hC.1 hC.2.1 hd (hL.2.2 i _ hx) (hK _ _ _ _ _ _ _ _ _ _ h p l e s m args below meth c D cs B A ad0 n0 ad H locs lsr hC hR hL)
  · exact False.elim h
def o_ll (i nx : Nat) : mj_Sem := fun Q K pc ls st sh FR IA LA n kc ks => match mj_get ls i with
  | some (.inr (.inl x)) => K nx ls ((.inr (.inl x)) :: st) sh FR IA LA n kc ks
  | _ => False
theorem k_lloadn {M : mj_M} {pc : Nat} {k : Fin 4} {i : Nat} (hd : decode M.2.1 pc = .ok (.lload_n k, 1)) (hi : (k : Nat) = i) : mj_ok M pc (o_ll i (pc + 1)) := by
  intro Q K hK ls st sh FR IA LA n kc ks h
  unfold o_ll at h
  split at h
  · rename_i x hx
    intro p l e s m args below meth c D cs B A ad0 n0 ad H locs lsr hC hR hL
    exact lv_lload_n hC.1 hC.2.1 hd hi (hL.2.2 i _ hx) (hK _ _ _ _ _ _ _ _ _ _ h p l e s m args below meth c D cs B A ad0 n0 ad H locs lsr hC hR hL)
  · exact False.elim h
theorem k_lload {M : mj_M} {pc : Nat} {i : Nat} (hd : decode M.2.1 pc = .ok (.lload i, 2)) : mj_ok M pc (o_ll i (pc + 2)) := by
  intro Q K hK ls st sh FR IA LA n kc ks h
  unfold o_ll at h
  split at h
  · rename_i x hx
    intro p l e s m args below meth c D cs B A ad0 n0 ad H locs lsr hC hR hL
    exact lv_lload hC.1 hC.2.1 hd (hL.2.2 i _ hx) (hK _ _ _ _ _ _ _ _ _ _ h p l e s m args below meth c D cs B A ad0 n0 ad H locs lsr hC hR hL)
  · exact False.elim h
def o_al (i nx : Nat) : mj_Sem := fun Q K pc ls st sh FR IA LA n kc ks => match mj_get ls i with
  | some (.inr (.inr (.inl x))) => K nx ls (.inr (.inr (.inl x)) :: st) sh FR IA LA n kc ks
  | some (.inr (.inr (.inr 1))) => K nx ls (.inr (.inr (.inr 1)) :: st) sh FR IA LA n kc ks
  | _ => False
theorem k_aloadn {M : mj_M} {pc : Nat} {k : Fin 4} {i : Nat} (hd : decode M.2.1 pc = .ok (.aload_n k, 1)) (hi : (k : Nat) = i) : mj_ok M pc (o_al i (pc + 1)) := by
  intro Q K hK ls st sh FR IA LA n kc ks h
  unfold o_al at h
  split at h
  · rename_i x hx
    intro p l e s m args below meth c D cs B A ad0 n0 ad H locs lsr hC hR hL
    exact lv_aload_n hC.1 hC.2.1 hd hi (hL.2.2 i _ hx) (hK _ _ _ _ _ _ _ _ _ _ h p l e s m args below meth c D cs B A ad0 n0 ad H locs lsr hC hR hL)
  · rename_i hx
    intro p l e s m args below meth c D cs B A ad0 n0 ad H locs lsr hC hR hL
    exact lv_aload_n hC.1 hC.2.1 hd hi (hL.2.2 i _ hx) (hK _ _ _ _ _ _ _ _ _ _ h p l e s m args below meth c D cs B A ad0 n0 ad H locs lsr hC hR hL)
  · exact False.elim h
theorem k_aload {M : mj_M} {pc : Nat} {i : Nat} (hd : decode M.2.1 pc = .ok (.aload i, 2)) : mj_ok M pc (o_al i (pc + 2)) := by
  intro Q K hK ls st sh FR IA LA n kc ks h
  unfold o_al at h
  split at h
  · rename_i x hx
    intro p l e s m args below meth c D cs B A ad0 n0 ad H locs lsr hC hR hL
    exact lv_aload hC.1 hC.2.1 hd (hL.2.2 i _ hx) (hK _ _ _ _ _ _ _ _ _ _ h p l e s m args below meth c D cs B A ad0 n0 ad H locs lsr hC hR hL)
  · rename_i hx
    intro p l e s m args below meth c D cs B A ad0 n0 ad H locs lsr hC hR hL
    exact lv_aload hC.1 hC.2.1 hd (hL.2.2 i _ hx) (hK _ _ _ _ _ _ _ _ _ _ h p l e s m args below meth c D cs B A ad0 n0 ad H locs lsr hC hR hL)
  · exact False.elim h
def o_is (i nx : Nat) : mj_Sem := fun Q K pc ls st sh FR IA LA n kc ks => match st with
  | (.inl x) :: st => K nx (mj_s1 ls i (.inl x)) st sh FR IA LA n kc ks
  | _ => False
theorem k_istoren {M : mj_M} {pc : Nat} {k : Fin 4} {i : Nat} (hd : decode M.2.1 pc = .ok (.istore_n k, 1)) (hi : (k : Nat) = i) (hn : i < M.2.2.1) : mj_ok M pc (o_is i (pc + 1)) := by
  intro Q K hK ls st sh FR IA LA n kc ks h
  rcases st with _ | ⟨x | x, st⟩ <;> first | exact False.elim h | skip
  intro p l e s m args below meth c D cs B A ad0 n0 ad H locs lsr hC hR hL
  exact lv_istore_n hC.1 hC.2.1 hd hi hL.has hn rfl fun ls' hl' => hK _ _ _ _ _ _ _ _ _ _ h p l e s m args below meth c D cs B A ad0 n0 ad H locs ls' hC hR (mj_Lr.s1 hl')
theorem k_istore {M : mj_M} {pc : Nat} {i : Nat} (hd : decode M.2.1 pc = .ok (.istore i, 2)) (hn : i < M.2.2.1) : mj_ok M pc (o_is i (pc + 2)) := by
  intro Q K hK ls st sh FR IA LA n kc ks h
  rcases st with _ | ⟨x | x, st⟩ <;> first | exact False.elim h | skip
  intro p l e s m args below meth c D cs B A ad0 n0 ad H locs lsr hC hR hL
  exact lv_istore hC.1 hC.2.1 hd hL.has hn rfl fun ls' hl' => hK _ _ _ _ _ _ _ _ _ _ h p l e s m args below meth c D cs B A ad0 n0 ad H locs ls' hC hR (mj_Lr.s1 hl')
def o_ls (i nx : Nat) : mj_Sem := fun Q K pc ls st sh FR IA LA n kc ks => match st with
  | (.inr (.inl x)) :: st => K nx (mj_s2 ls i (.inr (.inl x))) st sh FR IA LA n kc ks
  | _ => False
theorem k_lstoren {M : mj_M} {pc : Nat} {k : Fin 4} {i : Nat} (hd : decode M.2.1 pc = .ok (.lstore_n k, 1)) (hi : (k : Nat) = i) (hn : i + 1 < M.2.2.1) : mj_ok M pc (o_ls i (pc + 1)) := by
  intro Q K hK ls st sh FR IA LA n kc ks h
  rcases st with _ | ⟨x | x | x, st⟩ <;> first | exact False.elim h | skip
  intro p l e s m args below meth c D cs B A ad0 n0 ad H locs lsr hC hR hL
  exact lv_lstore_n hC.1 hC.2.1 hd hi hL.has hn rfl fun ls' hl' => hK _ _ _ _ _ _ _ _ _ _ h p l e s m args below meth c D cs B A ad0 n0 ad H locs ls' hC hR (mj_Lr.s2 hl')
theorem k_lstore {M : mj_M} {pc : Nat} {i : Nat} (hd : decode M.2.1 pc = .ok (.lstore i, 2)) (hn : i + 1 < M.2.2.1) : mj_ok M pc (o_ls i (pc + 2)) := by
  intro Q K hK ls st sh FR IA LA n kc ks h
  rcases st with _ | ⟨x | x | x, st⟩ <;> first | exact False.elim h | skip
  intro p l e s m args below meth c D cs B A ad0 n0 ad H locs lsr hC hR hL
  exact lv_lstore hC.1 hC.2.1 hd hL.has hn rfl fun ls' hl' => hK _ _ _ _ _ _ _ _ _ _ h p l e s m args below meth c D cs B A ad0 n0 ad H locs ls' hC hR (mj_Lr.s2 hl')
def o_as (i nx : Nat) : mj_Sem := fun Q K pc ls st sh FR IA LA n kc ks => match st with
  | (.inr (.inr (.inl x))) :: st => K nx (mj_s1 ls i (.inr (.inr (.inl x)))) st sh FR IA LA n kc ks
  | _ => False
theorem k_astoren {M : mj_M} {pc : Nat} {k : Fin 4} {i : Nat} (hd : decode M.2.1 pc = .ok (.astore_n k, 1)) (hi : (k : Nat) = i) (hn : i < M.2.2.1) : mj_ok M pc (o_as i (pc + 1)) := by
  intro Q K hK ls st sh FR IA LA n kc ks h
  rcases st with _ | ⟨x | x | x | x, st⟩ <;> first | exact False.elim h | skip
  intro p l e s m args below meth c D cs B A ad0 n0 ad H locs lsr hC hR hL
  exact lv_astore_n hC.1 hC.2.1 hd hi hL.has hn rfl fun ls' hl' => hK _ _ _ _ _ _ _ _ _ _ h p l e s m args below meth c D cs B A ad0 n0 ad H locs ls' hC hR (mj_Lr.s1 hl')
theorem k_astore {M : mj_M} {pc : Nat} {i : Nat} (hd : decode M.2.1 pc = .ok (.astore i, 2)) (hn : i < M.2.2.1) : mj_ok M pc (o_as i (pc + 2)) := by
  intro Q K hK ls st sh FR IA LA n kc ks h
  rcases st with _ | ⟨x | x | x | x, st⟩ <;> first | exact False.elim h | skip
  intro p l e s m args below meth c D cs B A ad0 n0 ad H locs lsr hC hR hL
  exact lv_astore hC.1 hC.2.1 hd hL.has hn rfl fun ls' hl' => hK _ _ _ _ _ _ _ _ _ _ h p l e s m args below meth c D cs B A ad0 n0 ad H locs ls' hC hR (mj_Lr.s1 hl')
def o_inc (i : Nat) (v : Int) (nx : Nat) : mj_Sem := fun Q K pc ls st sh FR IA LA n kc ks => match mj_get ls i with
  | some (.inl x) => ∃ z, mj_w (x + v) = z ∧ K nx (mj_s1 ls i (.inl z)) st sh FR IA LA n kc ks
  | _ => False
theorem k_iinc {M : mj_M} {pc : Nat} {i : Nat} {v : Int} (hd : decode M.2.1 pc = .ok (.iinc i v, 3)) (hn : i < M.2.2.1) : mj_ok M pc (o_inc i v (pc + 3)) := by
  intro Q K hK ls st sh FR IA LA n kc ks h
  unfold o_inc at h
  split at h
  · rename_i x hx
    obtain ⟨z, hz, h⟩ := h
    intro p l e s m args below meth c D cs B A ad0 n0 ad H locs lsr hC hR hL
    have hm := mj_lv_in B ad ls 0 i _ hx
    rw [Nat.zero_add] at hm
    obtain ⟨k, hk⟩ := List.getElem?_of_mem hm
    have ev : Int32.ofInt x + Int32.ofInt v = Int32.ofInt z := by rw [← Int32.ofInt_add, ← mj_ofw, hz]
    exact lv_iinc hC.1 hC.2.1 hd hL.has hk ev hn rfl fun ls' hl' => hK _ _ _ _ _ _ _ _ _ _ h p l e s m args below meth c D cs B A ad0 n0 ad H locs ls' hC hR (mj_Lr.s1 hl')
  · exact False.elim h
def o_iadd (nx : Nat) : mj_Sem := fun Q K pc ls st sh FR IA LA n kc ks => match st with
  | .inl y :: .inl x :: st => ∃ z, mj_w (x + y) = z ∧ K nx ls (.inl z :: st) sh FR IA LA n kc ks
  | _ => False
theorem k_iadd {M : mj_M} {pc : Nat} (hd : decode M.2.1 pc = .ok (.iadd, 1)) : mj_ok M pc (o_iadd (pc + 1)) := by
  intro Q K hK ls st sh FR IA LA n kc ks h
  rcases st with _ | ⟨y | y, _ | ⟨x | x, st⟩⟩ <;> first | exact False.elim h | skip
  obtain ⟨z, hz, h⟩ := h
  intro p l e s m args below meth c D cs B A ad0 n0 ad H locs lsr hC hR hL
  refine lv_iadd hC.1 hC.2.1 hd ?_
  rw [show Int32.ofInt x + Int32.ofInt y = Int32.ofInt z by rw [← Int32.ofInt_add, ← mj_ofw, hz]]
  exact hK _ _ _ _ _ _ _ _ _ _ h p l e s m args below meth c D cs B A ad0 n0 ad H locs lsr hC hR hL
def o_isub (nx : Nat) : mj_Sem := fun Q K pc ls st sh FR IA LA n kc ks => match st with
  | .inl y :: .inl x :: st => ∃ z, mj_w (x - y) = z ∧ K nx ls (.inl z :: st) sh FR IA LA n kc ks
  | _ => False
theorem k_isub {M : mj_M} {pc : Nat} (hd : decode M.2.1 pc = .ok (.isub, 1)) : mj_ok M pc (o_isub (pc + 1)) := by
  intro Q K hK ls st sh FR IA LA n kc ks h
  rcases st with _ | ⟨y | y, _ | ⟨x | x, st⟩⟩ <;> first | exact False.elim h | skip
  obtain ⟨z, hz, h⟩ := h
  intro p l e s m args below meth c D cs B A ad0 n0 ad H locs lsr hC hR hL
  refine lv_isub hC.1 hC.2.1 hd ?_
  rw [show Int32.ofInt x - Int32.ofInt y = Int32.ofInt z by rw [← Int32.ofInt_sub, ← mj_ofw, hz]]
  exact hK _ _ _ _ _ _ _ _ _ _ h p l e s m args below meth c D cs B A ad0 n0 ad H locs lsr hC hR hL
def o_imul (nx : Nat) : mj_Sem := fun Q K pc ls st sh FR IA LA n kc ks => match st with
  | .inl y :: .inl x :: st => ∃ z, mj_w (x * y) = z ∧ K nx ls (.inl z :: st) sh FR IA LA n kc ks
  | _ => False
theorem k_imul {M : mj_M} {pc : Nat} (hd : decode M.2.1 pc = .ok (.imul, 1)) : mj_ok M pc (o_imul (pc + 1)) := by
  intro Q K hK ls st sh FR IA LA n kc ks h
  rcases st with _ | ⟨y | y, _ | ⟨x | x, st⟩⟩ <;> first | exact False.elim h | skip
  obtain ⟨z, hz, h⟩ := h
  intro p l e s m args below meth c D cs B A ad0 n0 ad H locs lsr hC hR hL
  refine lv_imul hC.1 hC.2.1 hd ?_
  rw [show Int32.ofInt x * Int32.ofInt y = Int32.ofInt z by rw [← Int32.ofInt_mul, ← mj_ofw, hz]]
  exact hK _ _ _ _ _ _ _ _ _ _ h p l e s m args below meth c D cs B A ad0 n0 ad H locs lsr hC hR hL
def o_iand (nx : Nat) : mj_Sem := fun Q K pc ls st sh FR IA LA n kc ks => match st with
  | .inl y :: .inl x :: st => ∃ z, (Int32.ofInt x &&& Int32.ofInt y).toInt = z ∧ K nx ls (.inl z :: st) sh FR IA LA n kc ks
  | _ => False
theorem k_iand {M : mj_M} {pc : Nat} (hd : decode M.2.1 pc = .ok (.iand, 1)) : mj_ok M pc (o_iand (pc + 1)) := by
  intro Q K hK ls st sh FR IA LA n kc ks h
  rcases st with _ | ⟨y | y, _ | ⟨x | x, st⟩⟩ <;> first | exact False.elim h | skip
  obtain ⟨z, hz, h⟩ := h
  intro p l e s m args below meth c D cs B A ad0 n0 ad H locs lsr hC hR hL
  refine lv_iand hC.1 hC.2.1 hd ?_
  rw [show Int32.ofInt x &&& Int32.ofInt y = Int32.ofInt z by rw [← hz, Int32.ofInt_toInt]]
  exact hK _ _ _ _ _ _ _ _ _ _ h p l e s m args below meth c D cs B A ad0 n0 ad H locs lsr hC hR hL
def o_ior (nx : Nat) : mj_Sem := fun Q K pc ls st sh FR IA LA n kc ks => match st with
  | .inl y :: .inl x :: st => ∃ z, (Int32.ofInt x ||| Int32.ofInt y).toInt = z ∧ K nx ls (.inl z :: st) sh FR IA LA n kc ks
  | _ => False
theorem k_ior {M : mj_M} {pc : Nat} (hd : decode M.2.1 pc = .ok (.ior, 1)) : mj_ok M pc (o_ior (pc + 1)) := by
  intro Q K hK ls st sh FR IA LA n kc ks h
  rcases st with _ | ⟨y | y, _ | ⟨x | x, st⟩⟩ <;> first | exact False.elim h | skip
  obtain ⟨z, hz, h⟩ := h
  intro p l e s m args below meth c D cs B A ad0 n0 ad H locs lsr hC hR hL
  refine lv_ior hC.1 hC.2.1 hd ?_
  rw [show Int32.ofInt x ||| Int32.ofInt y = Int32.ofInt z by rw [← hz, Int32.ofInt_toInt]]
  exact hK _ _ _ _ _ _ _ _ _ _ h p l e s m args below meth c D cs B A ad0 n0 ad H locs lsr hC hR hL
def o_ixor (nx : Nat) : mj_Sem := fun Q K pc ls st sh FR IA LA n kc ks => match st with
  | .inl y :: .inl x :: st => ∃ z, (Int32.ofInt x ^^^ Int32.ofInt y).toInt = z ∧ K nx ls (.inl z :: st) sh FR IA LA n kc ks
  | _ => False
theorem k_ixor {M : mj_M} {pc : Nat} (hd : decode M.2.1 pc = .ok (.ixor, 1)) : mj_ok M pc (o_ixor (pc + 1)) := by
  intro Q K hK ls st sh FR IA LA n kc ks h
  rcases st with _ | ⟨y | y, _ | ⟨x | x, st⟩⟩ <;> first | exact False.elim h | skip
  obtain ⟨z, hz, h⟩ := h
  intro p l e s m args below meth c D cs B A ad0 n0 ad H locs lsr hC hR hL
  refine lv_ixor hC.1 hC.2.1 hd ?_
  rw [show Int32.ofInt x ^^^ Int32.ofInt y = Int32.ofInt z by rw [← hz, Int32.ofInt_toInt]]
  exact hK _ _ _ _ _ _ _ _ _ _ h p l e s m args below meth c D cs B A ad0 n0 ad H locs lsr hC hR hL
def o_ishl (nx : Nat) : mj_Sem := fun Q K pc ls st sh FR IA LA n kc ks => match st with
  | .inl y :: .inl x :: st => ∃ z, (Int32.ofInt x <<< (Int32.ofInt y &&& 31)).toInt = z ∧ K nx ls (.inl z :: st) sh FR IA LA n kc ks
  | _ => False
theorem k_ishl {M : mj_M} {pc : Nat} (hd : decode M.2.1 pc = .ok (.ishl, 1)) : mj_ok M pc (o_ishl (pc + 1)) := by
  intro Q K hK ls st sh FR IA LA n kc ks h
  rcases st with _ | ⟨y | y, _ | ⟨x | x, st⟩⟩ <;> first | exact False.elim h | skip
  obtain ⟨z, hz, h⟩ := h
  intro p l e s m args below meth c D cs B A ad0 n0 ad H locs lsr hC hR hL
  refine lv_ishl hC.1 hC.2.1 hd ?_
  rw [show Int32.ofInt x <<< (Int32.ofInt y &&& 31) = Int32.ofInt z by rw [← hz, Int32.ofInt_toInt]]
  exact hK _ _ _ _ _ _ _ _ _ _ h p l e s m args below meth c D cs B A ad0 n0 ad H locs lsr hC hR hL
def o_ishr (nx : Nat) : mj_Sem := fun Q K pc ls st sh FR IA LA n kc ks => match st with
  | .inl y :: .inl x :: st => ∃ z, (Int32.ofInt x >>> (Int32.ofInt y &&& 31)).toInt = z ∧ K nx ls (.inl z :: st) sh FR IA LA n kc ks
  | _ => False
theorem k_ishr {M : mj_M} {pc : Nat} (hd : decode M.2.1 pc = .ok (.ishr, 1)) : mj_ok M pc (o_ishr (pc + 1)) := by
  intro Q K hK ls st sh FR IA LA n kc ks h
  rcases st with _ | ⟨y | y, _ | ⟨x | x, st⟩⟩ <;> first | exact False.elim h | skip
  obtain ⟨z, hz, h⟩ := h
  intro p l e s m args below meth c D cs B A ad0 n0 ad H locs lsr hC hR hL
  refine lv_ishr hC.1 hC.2.1 hd ?_
  rw [show Int32.ofInt x >>> (Int32.ofInt y &&& 31) = Int32.ofInt z by rw [← hz, Int32.ofInt_toInt]]
  exact hK _ _ _ _ _ _ _ _ _ _ h p l e s m args below meth c D cs B A ad0 n0 ad H locs lsr hC hR hL
def o_idiv (nx : Nat) : mj_Sem := fun Q K pc ls st sh FR IA LA n kc ks => match st with
  | .inl y :: .inl x :: st => ¬ mj_w y = 0 ∧ ∃ z, (Int32.ofInt x / Int32.ofInt y).toInt = z ∧ K nx ls (.inl z :: st) sh FR IA LA n kc ks
  | _ => False
theorem k_idiv {M : mj_M} {pc : Nat} (hd : decode M.2.1 pc = .ok (.idiv, 1)) : mj_ok M pc (o_idiv (pc + 1)) := by
  intro Q K hK ls st sh FR IA LA n kc ks h
  rcases st with _ | ⟨y | y, _ | ⟨x | x, st⟩⟩ <;> first | exact False.elim h | skip
  obtain ⟨h0, z, hz, h⟩ := h
  intro p l e s m args below meth c D cs B A ad0 n0 ad H locs lsr hC hR hL
  refine lv_idiv hC.1 hC.2.1 hd (fun q => h0 (by rw [mj_z, mj_eq, mj_w0] at q; exact q)) ?_
  rw [show Int32.ofInt x / Int32.ofInt y = Int32.ofInt z by rw [← hz, Int32.ofInt_toInt]]
  exact hK _ _ _ _ _ _ _ _ _ _ h p l e s m args below meth c D cs B A ad0 n0 ad H locs lsr hC hR hL
def o_irem (nx : Nat) : mj_Sem := fun Q K pc ls st sh FR IA LA n kc ks => match st with
  | .inl y :: .inl x :: st => ¬ mj_w y = 0 ∧ ∃ z, (Int32.ofInt x - Int32.ofInt x / Int32.ofInt y * Int32.ofInt y).toInt = z ∧ K nx ls (.inl z :: st) sh FR IA LA n kc ks
  | _ => False
theorem k_irem {M : mj_M} {pc : Nat} (hd : decode M.2.1 pc = .ok (.irem, 1)) : mj_ok M pc (o_irem (pc + 1)) := by
  intro Q K hK ls st sh FR IA LA n kc ks h
  rcases st with _ | ⟨y | y, _ | ⟨x | x, st⟩⟩ <;> first | exact False.elim h | skip
  obtain ⟨h0, z, hz, h⟩ := h
  intro p l e s m args below meth c D cs B A ad0 n0 ad H locs lsr hC hR hL
  refine lv_irem hC.1 hC.2.1 hd (fun q => h0 (by rw [mj_z, mj_eq, mj_w0] at q; exact q)) ?_
  rw [show Int32.ofInt x - Int32.ofInt x / Int32.ofInt y * Int32.ofInt y = Int32.ofInt z by rw [← hz, Int32.ofInt_toInt]]
  exact hK _ _ _ _ _ _ _ _ _ _ h p l e s m args below meth c D cs B A ad0 n0 ad H locs lsr hC hR hL
def o_iushr (nx : Nat) : mj_Sem := fun Q K pc ls st sh FR IA LA n kc ks => match st with
  | .inl y :: .inl x :: st => ∃ z, ((Int32.ofInt x).toUInt32 >>> ((Int32.ofInt y).toUInt32 &&& Int32.toUInt32 31)).toInt32.toInt = z ∧ K nx ls (.inl z :: st) sh FR IA LA n kc ks
  | _ => False
theorem k_iushr {M : mj_M} {pc : Nat} (hd : decode M.2.1 pc = .ok (.iushr, 1)) : mj_ok M pc (o_iushr (pc + 1)) := by
  intro Q K hK ls st sh FR IA LA n kc ks h
  rcases st with _ | ⟨y | y, _ | ⟨x | x, st⟩⟩ <;> first | exact False.elim h | skip
  obtain ⟨z, hz, h⟩ := h
  intro p l e s m args below meth c D cs B A ad0 n0 ad H locs lsr hC hR hL
  exact lv_iushr hC.1 hC.2.1 hd (by rw [← hz, Int32.ofInt_toInt]) (hK _ _ _ _ _ _ _ _ _ _ h p l e s m args below meth c D cs B A ad0 n0 ad H locs lsr hC hR hL)
def o_ladd (nx : Nat) : mj_Sem := fun Q K pc ls st sh FR IA LA n kc ks => match st with
  | .inr (.inl y) :: .inr (.inl x) :: st => K nx ls (.inr (.inl (x + y)) :: st) sh FR IA LA n kc ks
  | _ => False
theorem k_ladd {M : mj_M} {pc : Nat} (hd : decode M.2.1 pc = .ok (.ladd, 1)) : mj_ok M pc (o_ladd (pc + 1)) := by
  intro Q K hK ls st sh FR IA LA n kc ks h
  rcases st with _ | ⟨y | y | y, _ | ⟨x | x | x, st⟩⟩ <;> first | exact False.elim h | skip
  intro p l e s m args below meth c D cs B A ad0 n0 ad H locs lsr hC hR hL
  exact lv_ladd hC.1 hC.2.1 hd (hK _ _ _ _ _ _ _ _ _ _ h p l e s m args below meth c D cs B A ad0 n0 ad H locs lsr hC hR hL)
def o_lsub (nx : Nat) : mj_Sem := fun Q K pc ls st sh FR IA LA n kc ks => match st with
  | .inr (.inl y) :: .inr (.inl x) :: st => K nx ls (.inr (.inl (x - y)) :: st) sh FR IA LA n kc ks
  | _ => False
theorem k_lsub {M : mj_M} {pc : Nat} (hd : decode M.2.1 pc = .ok (.lsub, 1)) : mj_ok M pc (o_lsub (pc + 1)) := by
  intro Q K hK ls st sh FR IA LA n kc ks h
  rcases st with _ | ⟨y | y | y, _ | ⟨x | x | x, st⟩⟩ <;> first | exact False.elim h | skip
  intro p l e s m args below meth c D cs B A ad0 n0 ad H locs lsr hC hR hL
  exact lv_lsub hC.1 hC.2.1 hd (hK _ _ _ _ _ _ _ _ _ _ h p l e s m args below meth c D cs B A ad0 n0 ad H locs lsr hC hR hL)
def o_lmul (nx : Nat) : mj_Sem := fun Q K pc ls st sh FR IA LA n kc ks => match st with
  | .inr (.inl y) :: .inr (.inl x) :: st => K nx ls (.inr (.inl (x * y)) :: st) sh FR IA LA n kc ks
  | _ => False
theorem k_lmul {M : mj_M} {pc : Nat} (hd : decode M.2.1 pc = .ok (.lmul, 1)) : mj_ok M pc (o_lmul (pc + 1)) := by
  intro Q K hK ls st sh FR IA LA n kc ks h
  rcases st with _ | ⟨y | y | y, _ | ⟨x | x | x, st⟩⟩ <;> first | exact False.elim h | skip
  intro p l e s m args below meth c D cs B A ad0 n0 ad H locs lsr hC hR hL
  exact lv_lmul hC.1 hC.2.1 hd (hK _ _ _ _ _ _ _ _ _ _ h p l e s m args below meth c D cs B A ad0 n0 ad H locs lsr hC hR hL)
def o_land (nx : Nat) : mj_Sem := fun Q K pc ls st sh FR IA LA n kc ks => match st with
  | .inr (.inl y) :: .inr (.inl x) :: st => K nx ls (.inr (.inl (x &&& y)) :: st) sh FR IA LA n kc ks
  | _ => False
theorem k_land {M : mj_M} {pc : Nat} (hd : decode M.2.1 pc = .ok (.land, 1)) : mj_ok M pc (o_land (pc + 1)) := by
  intro Q K hK ls st sh FR IA LA n kc ks h
  rcases st with _ | ⟨y | y | y, _ | ⟨x | x | x, st⟩⟩ <;> first | exact False.elim h | skip
  intro p l e s m args below meth c D cs B A ad0 n0 ad H locs lsr hC hR hL
  exact lv_land hC.1 hC.2.1 hd (hK _ _ _ _ _ _ _ _ _ _ h p l e s m args below meth c D cs B A ad0 n0 ad H locs lsr hC hR hL)
def o_lor (nx : Nat) : mj_Sem := fun Q K pc ls st sh FR IA LA n kc ks => match st with
  | .inr (.inl y) :: .inr (.inl x) :: st => K nx ls (.inr (.inl (x ||| y)) :: st) sh FR IA LA n kc ks
  | _ => False
theorem k_lor {M : mj_M} {pc : Nat} (hd : decode M.2.1 pc = .ok (.lor, 1)) : mj_ok M pc (o_lor (pc + 1)) := by
  intro Q K hK ls st sh FR IA LA n kc ks h
  rcases st with _ | ⟨y | y | y, _ | ⟨x | x | x, st⟩⟩ <;> first | exact False.elim h | skip
  intro p l e s m args below meth c D cs B A ad0 n0 ad H locs lsr hC hR hL
  exact lv_lor hC.1 hC.2.1 hd (hK _ _ _ _ _ _ _ _ _ _ h p l e s m args below meth c D cs B A ad0 n0 ad H locs lsr hC hR hL)
def o_lxor (nx : Nat) : mj_Sem := fun Q K pc ls st sh FR IA LA n kc ks => match st with
  | .inr (.inl y) :: .inr (.inl x) :: st => K nx ls (.inr (.inl (x ^^^ y)) :: st) sh FR IA LA n kc ks
  | _ => False
theorem k_lxor {M : mj_M} {pc : Nat} (hd : decode M.2.1 pc = .ok (.lxor, 1)) : mj_ok M pc (o_lxor (pc + 1)) := by
  intro Q K hK ls st sh FR IA LA n kc ks h
  rcases st with _ | ⟨y | y | y, _ | ⟨x | x | x, st⟩⟩ <;> first | exact False.elim h | skip
  intro p l e s m args below meth c D cs B A ad0 n0 ad H locs lsr hC hR hL
  exact lv_lxor hC.1 hC.2.1 hd (hK _ _ _ _ _ _ _ _ _ _ h p l e s m args below meth c D cs B A ad0 n0 ad H locs lsr hC hR hL)
def o_lshl (nx : Nat) : mj_Sem := fun Q K pc ls st sh FR IA LA n kc ks => match st with
  | .inl y :: .inr (.inl x) :: st => ∃ z, (Int64.ofBitVec x <<< ((Int32.ofInt y).toInt64 &&& 63)).toBitVec = z ∧ K nx ls (.inr (.inl z) :: st) sh FR IA LA n kc ks
  | _ => False
theorem k_lshl {M : mj_M} {pc : Nat} (hd : decode M.2.1 pc = .ok (.lshl, 1)) : mj_ok M pc (o_lshl (pc + 1)) := by
  intro Q K hK ls st sh FR IA LA n kc ks h
  rcases st with _ | ⟨y | y, _ | ⟨x | x | x, st⟩⟩ <;> first | exact False.elim h | skip
  obtain ⟨z, hz, h⟩ := h
  intro p l e s m args below meth c D cs B A ad0 n0 ad H locs lsr hC hR hL
  exact lv_lshl hC.1 hC.2.1 hd (by rw [← hz]; rfl) (hK _ _ _ _ _ _ _ _ _ _ h p l e s m args below meth c D cs B A ad0 n0 ad H locs lsr hC hR hL)
def o_lshr (nx : Nat) : mj_Sem := fun Q K pc ls st sh FR IA LA n kc ks => match st with
  | .inl y :: .inr (.inl x) :: st => ∃ z, (Int64.ofBitVec x >>> ((Int32.ofInt y).toInt64 &&& 63)).toBitVec = z ∧ K nx ls (.inr (.inl z) :: st) sh FR IA LA n kc ks
  | _ => False
theorem k_lshr {M : mj_M} {pc : Nat} (hd : decode M.2.1 pc = .ok (.lshr, 1)) : mj_ok M pc (o_lshr (pc + 1)) := by
  intro Q K hK ls st sh FR IA LA n kc ks h
  rcases st with _ | ⟨y | y, _ | ⟨x | x | x, st⟩⟩ <;> first | exact False.elim h | skip
  obtain ⟨z, hz, h⟩ := h
  intro p l e s m args below meth c D cs B A ad0 n0 ad H locs lsr hC hR hL
  exact lv_lshr hC.1 hC.2.1 hd (by rw [← hz]; rfl) (hK _ _ _ _ _ _ _ _ _ _ h p l e s m args below meth c D cs B A ad0 n0 ad H locs lsr hC hR hL)
def o_lushr (nx : Nat) : mj_Sem := fun Q K pc ls st sh FR IA LA n kc ks => match st with
  | .inl y :: .inr (.inl x) :: st => ∃ z, ((Int64.ofBitVec x).toUInt64 >>> ((Int32.ofInt y).toInt64.toUInt64 &&& Int64.toUInt64 63)).toInt64.toBitVec = z ∧ K nx ls (.inr (.inl z) :: st) sh FR IA LA n kc ks
  | _ => False
theorem k_lushr {M : mj_M} {pc : Nat} (hd : decode M.2.1 pc = .ok (.lushr, 1)) : mj_ok M pc (o_lushr (pc + 1)) := by
  intro Q K hK ls st sh FR IA LA n kc ks h
  rcases st with _ | ⟨y | y, _ | ⟨x | x | x, st⟩⟩ <;> first | exact False.elim h | skip
  obtain ⟨z, hz, h⟩ := h
  intro p l e s m args below meth c D cs B A ad0 n0 ad H locs lsr hC hR hL
  exact lv_lushr hC.1 hC.2.1 hd (by rw [← hz]; rfl) (hK _ _ _ _ _ _ _ _ _ _ h p l e s m args below meth c D cs B A ad0 n0 ad H locs lsr hC hR hL)
def o_i2l (nx : Nat) : mj_Sem := fun Q K pc ls st sh FR IA LA n kc ks => match st with
  | .inl x :: st => K nx ls (.inr (.inl (BitVec.ofInt 64 (mj_w x))) :: st) sh FR IA LA n kc ks
  | _ => False
theorem k_i2l {M : mj_M} {pc : Nat} (hd : decode M.2.1 pc = .ok (.i2l, 1)) : mj_ok M pc (o_i2l (pc + 1)) := by
  intro Q K hK ls st sh FR IA LA n kc ks h
  rcases st with _ | ⟨x | x, st⟩ <;> first | exact False.elim h | skip
  intro p l e s m args below meth c D cs B A ad0 n0 ad H locs lsr hC hR hL
  exact lv_i2l hC.1 hC.2.1 hd (mj_i2l x) (hK _ _ _ _ _ _ _ _ _ _ h p l e s m args below meth c D cs B A ad0 n0 ad H locs lsr hC hR hL)
def o_l2i (nx : Nat) : mj_Sem := fun Q K pc ls st sh FR IA LA n kc ks => match st with
  | .inr (.inl x) :: st => ∃ z, mj_w x.toInt = z ∧ K nx ls (.inl z :: st) sh FR IA LA n kc ks
  | _ => False
theorem k_l2i {M : mj_M} {pc : Nat} (hd : decode M.2.1 pc = .ok (.l2i, 1)) : mj_ok M pc (o_l2i (pc + 1)) := by
  intro Q K hK ls st sh FR IA LA n kc ks h
  rcases st with _ | ⟨x | x | x, st⟩ <;> first | exact False.elim h | skip
  obtain ⟨z, hz, h⟩ := h
  intro p l e s m args below meth c D cs B A ad0 n0 ad H locs lsr hC hR hL
  exact lv_l2i hC.1 hC.2.1 hd (by rw [mj_l2i, ← mj_ofw, hz]) (hK _ _ _ _ _ _ _ _ _ _ h p l e s m args below meth c D cs B A ad0 n0 ad H locs lsr hC hR hL)
def o_i2b (nx : Nat) : mj_Sem := fun Q K pc ls st sh FR IA LA n kc ks => match st with
  | .inl x :: st => ∃ z, mj_b x = z ∧ K nx ls (.inl z :: st) sh FR IA LA n kc ks
  | _ => False
theorem k_i2b {M : mj_M} {pc : Nat} (hd : decode M.2.1 pc = .ok (.i2b, 1)) : mj_ok M pc (o_i2b (pc + 1)) := by
  intro Q K hK ls st sh FR IA LA n kc ks h
  rcases st with _ | ⟨x | x, st⟩ <;> first | exact False.elim h | skip
  obtain ⟨z, hz, h⟩ := h
  intro p l e s m args below meth c D cs B A ad0 n0 ad H locs lsr hC hR hL
  exact lv_i2b hC.1 hC.2.1 hd (by rw [mj_i2b, hz]) (hK _ _ _ _ _ _ _ _ _ _ h p l e s m args below meth c D cs B A ad0 n0 ad H locs lsr hC hR hL)
def o_lcmp (nx : Nat) : mj_Sem := fun Q K pc ls st sh FR IA LA n kc ks => match st with
  | .inr (.inl y) :: .inr (.inl x) :: st => ∃ z, mj_lc x y = z ∧ K nx ls (.inl z :: st) sh FR IA LA n kc ks
  | _ => False
theorem k_lcmp {M : mj_M} {pc : Nat} (hd : decode M.2.1 pc = .ok (.lcmp, 1)) : mj_ok M pc (o_lcmp (pc + 1)) := by
  intro Q K hK ls st sh FR IA LA n kc ks h
  rcases st with _ | ⟨y | y | y, _ | ⟨x | x | x, st⟩⟩ <;> first | exact False.elim h | skip
  obtain ⟨z, hz, h⟩ := h
  intro p l e s m args below meth c D cs B A ad0 n0 ad H locs lsr hC hR hL
  refine W.lcmp hC.1 hC.2.1 hd ?_
  rw [mj_lcmp, hz]
  exact hK _ _ _ _ _ _ _ _ _ _ h p l e s m args below meth c D cs B A ad0 n0 ad H locs lsr hC hR hL
def o_dup (nx : Nat) : mj_Sem := fun Q K pc ls st sh FR IA LA n kc ks => match st with
  | v :: st => mj_ct v = 1 ∧ K nx ls (v :: v :: st) sh FR IA LA n kc ks
  | _ => False
theorem k_dup {M : mj_M} {pc : Nat} (hd : decode M.2.1 pc = .ok (.dup, 1)) : mj_ok M pc (o_dup (pc + 1)) := by
  intro Q K hK ls st sh FR IA LA n kc ks h
  rcases st with _ | ⟨v, st⟩ <;> first | exact False.elim h | skip
  obtain ⟨hv, h⟩ := h
  intro p l e s m args below meth c D cs B A ad0 n0 ad H locs lsr hC hR hL
  exact lv_dup hC.1 hC.2.1 hd ((mj_tv_cat B ad v).trans hv) (hK _ _ _ _ _ _ _ _ _ _ h p l e s m args below meth c D cs B A ad0 n0 ad H locs lsr hC hR hL)
def o_pop (nx : Nat) : mj_Sem := fun Q K pc ls st sh FR IA LA n kc ks => match st with
  | v :: st => mj_ct v = 1 ∧ K nx ls st sh FR IA LA n kc ks
  | _ => False
theorem k_pop {M : mj_M} {pc : Nat} (hd : decode M.2.1 pc = .ok (.pop, 1)) : mj_ok M pc (o_pop (pc + 1)) := by
  intro Q K hK ls st sh FR IA LA n kc ks h
  rcases st with _ | ⟨v, st⟩ <;> first | exact False.elim h | skip
  obtain ⟨hv, h⟩ := h
  intro p l e s m args below meth c D cs B A ad0 n0 ad H locs lsr hC hR hL
  exact lv_pop hC.1 hC.2.1 hd ((mj_tv_cat B ad v).trans hv) (hK _ _ _ _ _ _ _ _ _ _ h p l e s m args below meth c D cs B A ad0 n0 ad H locs lsr hC hR hL)
def o_dup2 (nx : Nat) : mj_Sem := fun Q K pc ls st sh FR IA LA n kc ks => match st with
  | v :: u :: st => mj_ct v = 1 ∧ mj_ct u = 1 ∧ K nx ls (v :: u :: v :: u :: st) sh FR IA LA n kc ks
  | _ => False
theorem k_dup2 {M : mj_M} {pc : Nat} (hd : decode M.2.1 pc = .ok (.dup2, 1)) : mj_ok M pc (o_dup2 (pc + 1)) := by
  intro Q K hK ls st sh FR IA LA n kc ks h
  rcases st with _ | ⟨v, _ | ⟨u, st⟩⟩ <;> first | exact False.elim h | skip
  obtain ⟨hv, hu, h⟩ := h
  intro p l e s m args below meth c D cs B A ad0 n0 ad H locs lsr hC hR hL
  exact lv_dup2_11 hC.1 hC.2.1 hd ((mj_tv_cat B ad v).trans hv) ((mj_tv_cat B ad u).trans hu) (hK _ _ _ _ _ _ _ _ _ _ h p l e s m args below meth c D cs B A ad0 n0 ad H locs lsr hC hR hL)
def o_ifeq (tgt : Nat) (nx : Nat) : mj_Sem := fun Q K pc ls st sh FR IA LA n kc ks => match st with
  | .inl x :: st => (mj_w x = 0 → K tgt ls st sh FR IA LA n kc ks) ∧ (¬ (mj_w x = 0) → K nx ls st sh FR IA LA n kc ks)
  | _ => False
theorem k_ifeq {M : mj_M} {pc : Nat} {off : Int} {tgt : Nat} (hd : decode M.2.1 pc = .ok (.ifCond .eq off, 3)) (ht : (pc : Int) + off = (tgt : Int)) : mj_ok M pc (o_ifeq tgt (pc + 3)) := by
  intro Q K hK ls st sh FR IA LA n kc ks h
  rcases st with _ | ⟨x | x, st⟩ <;> first | exact False.elim h | skip
  intro p l e s m args below meth c D cs B A ad0 n0 ad H locs lsr hC hR hL
  exact lv_if_eq hC.1 hC.2.1 hd ht (fun q => hK _ _ _ _ _ _ _ _ _ _ (h.1 (by rw [mj_z, mj_eq, mj_w0] at q; exact q)) p l e s m args below meth c D cs B A ad0 n0 ad H locs lsr hC hR hL) (fun q => hK _ _ _ _ _ _ _ _ _ _ (h.2 (fun z => q (by rw [mj_z, mj_eq, mj_w0]; exact z))) p l e s m args below meth c D cs B A ad0 n0 ad H locs lsr hC hR hL)
def o_iceq (tgt : Nat) (nx : Nat) : mj_Sem := fun Q K pc ls st sh FR IA LA n kc ks => match st with
  | .inl y :: .inl x :: st => (mj_w x = mj_w y → K tgt ls st sh FR IA LA n kc ks) ∧ (¬ (mj_w x = mj_w y) → K nx ls st sh FR IA LA n kc ks)
  | _ => False
theorem k_iceq {M : mj_M} {pc : Nat} {off : Int} {tgt : Nat} (hd : decode M.2.1 pc = .ok (.if_icmp .eq off, 3)) (ht : (pc : Int) + off = (tgt : Int)) : mj_ok M pc (o_iceq tgt (pc + 3)) := by
  intro Q K hK ls st sh FR IA LA n kc ks h
  rcases st with _ | ⟨y | y, _ | ⟨x | x, st⟩⟩ <;> first | exact False.elim h | skip
  intro p l e s m args below meth c D cs B A ad0 n0 ad H locs lsr hC hR hL
  exact lv_icmp_eq hC.1 hC.2.1 hd ht (fun q => hK _ _ _ _ _ _ _ _ _ _ (h.1 (by rw [mj_eq] at q; exact q)) p l e s m args below meth c D cs B A ad0 n0 ad H locs lsr hC hR hL) (fun q => hK _ _ _ _ _ _ _ _ _ _ (h.2 (fun z => q (by rw [mj_eq]; exact z))) p l e s m args below meth c D cs B A ad0 n0 ad H locs lsr hC hR hL)
def o_ifne (tgt : Nat) (nx : Nat) : mj_Sem := fun Q K pc ls st sh FR IA LA n kc ks => match st with
  | .inl x :: st => (¬ mj_w x = 0 → K tgt ls st sh FR IA LA n kc ks) ∧ (¬ (¬ mj_w x = 0) → K nx ls st sh FR IA LA n kc ks)
  | _ => False
theorem k_ifne {M : mj_M} {pc : Nat} {off : Int} {tgt : Nat} (hd : decode M.2.1 pc = .ok (.ifCond .ne off, 3)) (ht : (pc : Int) + off = (tgt : Int)) : mj_ok M pc (o_ifne tgt (pc + 3)) := by
  intro Q K hK ls st sh FR IA LA n kc ks h
  rcases st with _ | ⟨x | x, st⟩ <;> first | exact False.elim h | skip
  intro p l e s m args below meth c D cs B A ad0 n0 ad H locs lsr hC hR hL
  exact lv_if_ne hC.1 hC.2.1 hd ht (fun q => hK _ _ _ _ _ _ _ _ _ _ (h.1 (fun z => q (by rw [mj_z, mj_eq, mj_w0]; exact z))) p l e s m args below meth c D cs B A ad0 n0 ad H locs lsr hC hR hL) (fun q => hK _ _ _ _ _ _ _ _ _ _ (h.2 (fun z => z (by rw [mj_z, mj_eq, mj_w0] at q; exact q))) p l e s m args below meth c D cs B A ad0 n0 ad H locs lsr hC hR hL)
def o_icne (tgt : Nat) (nx : Nat) : mj_Sem := fun Q K pc ls st sh FR IA LA n kc ks => match st with
  | .inl y :: .inl x :: st => (¬ mj_w x = mj_w y → K tgt ls st sh FR IA LA n kc ks) ∧ (¬ (¬ mj_w x = mj_w y) → K nx ls st sh FR IA LA n kc ks)
  | _ => False
theorem k_icne {M : mj_M} {pc : Nat} {off : Int} {tgt : Nat} (hd : decode M.2.1 pc = .ok (.if_icmp .ne off, 3)) (ht : (pc : Int) + off = (tgt : Int)) : mj_ok M pc (o_icne tgt (pc + 3)) := by
  intro Q K hK ls st sh FR IA LA n kc ks h
  rcases st with _ | ⟨y | y, _ | ⟨x | x, st⟩⟩ <;> first | exact False.elim h | skip
  intro p l e s m args below meth c D cs B A ad0 n0 ad H locs lsr hC hR hL
  exact lv_icmp_ne hC.1 hC.2.1 hd ht (fun q => hK _ _ _ _ _ _ _ _ _ _ (h.1 (fun z => q (by rw [mj_eq]; exact z))) p l e s m args below meth c D cs B A ad0 n0 ad H locs lsr hC hR hL) (fun q => hK _ _ _ _ _ _ _ _ _ _ (h.2 (fun z => z (by rw [mj_eq] at q; exact q))) p l e s m args below meth c D cs B A ad0 n0 ad H locs lsr hC hR hL)
def o_iflt (tgt : Nat) (nx : Nat) : mj_Sem := fun Q K pc ls st sh FR IA LA n kc ks => match st with
  | .inl x :: st => (mj_w x < 0 → K tgt ls st sh FR IA LA n kc ks) ∧ (¬ (mj_w x < 0) → K nx ls st sh FR IA LA n kc ks)
  | _ => False
theorem k_iflt {M : mj_M} {pc : Nat} {off : Int} {tgt : Nat} (hd : decode M.2.1 pc = .ok (.ifCond .lt off, 3)) (ht : (pc : Int) + off = (tgt : Int)) : mj_ok M pc (o_iflt tgt (pc + 3)) := by
  intro Q K hK ls st sh FR IA LA n kc ks h
  rcases st with _ | ⟨x | x, st⟩ <;> first | exact False.elim h | skip
  intro p l e s m args below meth c D cs B A ad0 n0 ad H locs lsr hC hR hL
  exact lv_if_lt hC.1 hC.2.1 hd ht (fun q => hK _ _ _ _ _ _ _ _ _ _ (h.1 (by rw [mj_z, mj_lt, mj_w0] at q; exact q)) p l e s m args below meth c D cs B A ad0 n0 ad H locs lsr hC hR hL) (fun q => hK _ _ _ _ _ _ _ _ _ _ (h.2 (fun z => q (by rw [mj_z, mj_lt, mj_w0]; exact z))) p l e s m args below meth c D cs B A ad0 n0 ad H locs lsr hC hR hL)
def o_iclt (tgt : Nat) (nx : Nat) : mj_Sem := fun Q K pc ls st sh FR IA LA n kc ks => match st with
  | .inl y :: .inl x :: st => (mj_w x < mj_w y → K tgt ls st sh FR IA LA n kc ks) ∧ (¬ (mj_w x < mj_w y) → K nx ls st sh FR IA LA n kc ks)
  | _ => False
theorem k_iclt {M : mj_M} {pc : Nat} {off : Int} {tgt : Nat} (hd : decode M.2.1 pc = .ok (.if_icmp .lt off, 3)) (ht : (pc : Int) + off = (tgt : Int)) : mj_ok M pc (o_iclt tgt (pc + 3)) := by
  intro Q K hK ls st sh FR IA LA n kc ks h
  rcases st with _ | ⟨y | y, _ | ⟨x | x, st⟩⟩ <;> first | exact False.elim h | skip
  intro p l e s m args below meth c D cs B A ad0 n0 ad H locs lsr hC hR hL
  exact lv_icmp_lt hC.1 hC.2.1 hd ht (fun q => hK _ _ _ _ _ _ _ _ _ _ (h.1 (by rw [mj_lt] at q; exact q)) p l e s m args below meth c D cs B A ad0 n0 ad H locs lsr hC hR hL) (fun q => hK _ _ _ _ _ _ _ _ _ _ (h.2 (fun z => q (by rw [mj_lt]; exact z))) p l e s m args below meth c D cs B A ad0 n0 ad H locs lsr hC hR hL)
def o_ifge (tgt : Nat) (nx : Nat) : mj_Sem := fun Q K pc ls st sh FR IA LA n kc ks => match st with
  | .inl x :: st => (0 ≤ mj_w x → K tgt ls st sh FR IA LA n kc ks) ∧ (¬ (0 ≤ mj_w x) → K nx ls st sh FR IA LA n kc ks)
  | _ => False
theorem k_ifge {M : mj_M} {pc : Nat} {off : Int} {tgt : Nat} (hd : decode M.2.1 pc = .ok (.ifCond .ge off, 3)) (ht : (pc : Int) + off = (tgt : Int)) : mj_ok M pc (o_ifge tgt (pc + 3)) := by
  intro Q K hK ls st sh FR IA LA n kc ks h
  rcases st with _ | ⟨x | x, st⟩ <;> first | exact False.elim h | skip
  intro p l e s m args below meth c D cs B A ad0 n0 ad H locs lsr hC hR hL
  exact lv_if_ge hC.1 hC.2.1 hd ht (fun q => hK _ _ _ _ _ _ _ _ _ _ (h.1 (by rw [mj_z, mj_le, mj_w0] at q; exact q)) p l e s m args below meth c D cs B A ad0 n0 ad H locs lsr hC hR hL) (fun q => hK _ _ _ _ _ _ _ _ _ _ (h.2 (fun z => q (by rw [mj_z, mj_le, mj_w0]; exact z))) p l e s m args below meth c D cs B A ad0 n0 ad H locs lsr hC hR hL)
def o_icge (tgt : Nat) (nx : Nat) : mj_Sem := fun Q K pc ls st sh FR IA LA n kc ks => match st with
  | .inl y :: .inl x :: st => (mj_w y ≤ mj_w x → K tgt ls st sh FR IA LA n kc ks) ∧ (¬ (mj_w y ≤ mj_w x) → K nx ls st sh FR IA LA n kc ks)
  | _ => False
theorem k_icge {M : mj_M} {pc : Nat} {off : Int} {tgt : Nat} (hd : decode M.2.1 pc = .ok (.if_icmp .ge off, 3)) (ht : (pc : Int) + off = (tgt : Int)) : mj_ok M pc (o_icge tgt (pc + 3)) := by
  intro Q K hK ls st sh FR IA LA n kc ks h
  rcases st with _ | ⟨y | y, _ | ⟨x | x, st⟩⟩ <;> first | exact False.elim h | skip
  intro p l e s m args below meth c D cs B A ad0 n0 ad H locs lsr hC hR hL
  exact lv_icmp_ge hC.1 hC.2.1 hd ht (fun q => hK _ _ _ _ _ _ _ _ _ _ (h.1 (by rw [mj_le] at q; exact q)) p l e s m args below meth c D cs B A ad0 n0 ad H locs lsr hC hR hL) (fun q => hK _ _ _ _ _ _ _ _ _ _ (h.2 (fun z => q (by rw [mj_le]; exact z))) p l e s m args below meth c D cs B A ad0 n0 ad H locs lsr hC hR hL)
def o_ifgt (tgt : Nat) (nx : Nat) : mj_Sem := fun Q K pc ls st sh FR IA LA n kc ks => match st with
  | .inl x :: st => (0 < mj_w x → K tgt ls st sh FR IA LA n kc ks) ∧ (¬ (0 < mj_w x) → K nx ls st sh FR IA LA n kc ks)
  | _ => False
theorem k_ifgt {M : mj_M} {pc : Nat} {off : Int} {tgt : Nat} (hd : decode M.2.1 pc = .ok (.ifCond .gt off, 3)) (ht : (pc : Int) + off = (tgt : Int)) : mj_ok M pc (o_ifgt tgt (pc + 3)) := by
  intro Q K hK ls st sh FR IA LA n kc ks h
  rcases st with _ | ⟨x | x, st⟩ <;> first | exact False.elim h | skip
  intro p l e s m args below meth c D cs B A ad0 n0 ad H locs lsr hC hR hL
  exact lv_if_gt hC.1 hC.2.1 hd ht (fun q => hK _ _ _ _ _ _ _ _ _ _ (h.1 (by rw [mj_z, mj_lt, mj_w0] at q; exact q)) p l e s m args below meth c D cs B A ad0 n0 ad H locs lsr hC hR hL) (fun q => hK _ _ _ _ _ _ _ _ _ _ (h.2 (fun z => q (by rw [mj_z, mj_lt, mj_w0]; exact z))) p l e s m args below meth c D cs B A ad0 n0 ad H locs lsr hC hR hL)
def o_icgt (tgt : Nat) (nx : Nat) : mj_Sem := fun Q K pc ls st sh FR IA LA n kc ks => match st with
  | .inl y :: .inl x :: st => (mj_w y < mj_w x → K tgt ls st sh FR IA LA n kc ks) ∧ (¬ (mj_w y < mj_w x) → K nx ls st sh FR IA LA n kc ks)
  | _ => False
theorem k_icgt {M : mj_M} {pc : Nat} {off : Int} {tgt : Nat} (hd : decode M.2.1 pc = .ok (.if_icmp .gt off, 3)) (ht : (pc : Int) + off = (tgt : Int)) : mj_ok M pc (o_icgt tgt (pc + 3)) := by
  intro Q K hK ls st sh FR IA LA n kc ks h
  rcases st with _ | ⟨y | y, _ | ⟨x | x, st⟩⟩ <;> first | exact False.elim h | skip
  intro p l e s m args below meth c D cs B A ad0 n0 ad H locs lsr hC hR hL
  exact lv_icmp_gt hC.1 hC.2.1 hd ht (fun q => hK _ _ _ _ _ _ _ _ _ _ (h.1 (by rw [mj_lt] at q; exact q)) p l e s m args below meth c D cs B A ad0 n0 ad H locs lsr hC hR hL) (fun q => hK _ _ _ _ _ _ _ _ _ _ (h.2 (fun z => q (by rw [mj_lt]; exact z))) p l e s m args below meth c D cs B A ad0 n0 ad H locs lsr hC hR hL)
def o_ifle (tgt : Nat) (nx : Nat) : mj_Sem := fun Q K pc ls st sh FR IA LA n kc ks => match st with
  | .inl x :: st => (mj_w x ≤ 0 → K tgt ls st sh FR IA LA n kc ks) ∧ (¬ (mj_w x ≤ 0) → K nx ls st sh FR IA LA n kc ks)
  | _ => False
theorem k_ifle {M : mj_M} {pc : Nat} {off : Int} {tgt : Nat} (hd : decode M.2.1 pc = .ok (.ifCond .le off, 3)) (ht : (pc : Int) + off = (tgt : Int)) : mj_ok M pc (o_ifle tgt (pc + 3)) := by
  intro Q K hK ls st sh FR IA LA n kc ks h
  rcases st with _ | ⟨x | x, st⟩ <;> first | exact False.elim h | skip
  intro p l e s m args below meth c D cs B A ad0 n0 ad H locs lsr hC hR hL
  exact lv_if_le hC.1 hC.2.1 hd ht (fun q => hK _ _ _ _ _ _ _ _ _ _ (h.1 (by rw [mj_z, mj_le, mj_w0] at q; exact q)) p l e s m args below meth c D cs B A ad0 n0 ad H locs lsr hC hR hL) (fun q => hK _ _ _ _ _ _ _ _ _ _ (h.2 (fun z => q (by rw [mj_z, mj_le, mj_w0]; exact z))) p l e s m args below meth c D cs B A ad0 n0 ad H locs lsr hC hR hL)
def o_icle (tgt : Nat) (nx : Nat) : mj_Sem := fun Q K pc ls st sh FR IA LA n kc ks => match st with
  | .inl y :: .inl x :: st => (mj_w x ≤ mj_w y → K tgt ls st sh FR IA LA n kc ks) ∧ (¬ (mj_w x ≤ mj_w y) → K nx ls st sh FR IA LA n kc ks)
  | _ => False
theorem k_icle {M : mj_M} {pc : Nat} {off : Int} {tgt : Nat} (hd : decode M.2.1 pc = .ok (.if_icmp .le off, 3)) (ht : (pc : Int) + off = (tgt : Int)) : mj_ok M pc (o_icle tgt (pc + 3)) := by
  intro Q K hK ls st sh FR IA LA n kc ks h
  rcases st with _ | ⟨y | y, _ | ⟨x | x, st⟩⟩ <;> first | exact False.elim h | skip
  intro p l e s m args below meth c D cs B A ad0 n0 ad H locs lsr hC hR hL
  exact lv_icmp_le hC.1 hC.2.1 hd ht (fun q => hK _ _ _ _ _ _ _ _ _ _ (h.1 (by rw [mj_le] at q; exact q)) p l e s m args below meth c D cs B A ad0 n0 ad H locs lsr hC hR hL) (fun q => hK _ _ _ _ _ _ _ _ _ _ (h.2 (fun z => q (by rw [mj_le]; exact z))) p l e s m args below meth c D cs B A ad0 n0 ad H locs lsr hC hR hL)
def o_goto (tgt : Nat) : mj_Sem := fun Q K pc ls st sh FR IA LA n kc ks => K tgt ls st sh FR IA LA n kc ks
theorem k_goto {M : mj_M} {pc : Nat} {off : Int} {tgt : Nat} (hd : decode M.2.1 pc = .ok (.goto off, 3)) (ht : (pc : Int) + off = (tgt : Int)) : mj_ok M pc (o_goto tgt) := by
  intro Q K hK ls st sh FR IA LA n kc ks h
  intro p l e s m args below meth c D cs B A ad0 n0 ad H locs lsr hC hR hL
  exact lv_goto hC.1 hC.2.1 hd ht (hK _ _ _ _ _ _ _ _ _ _ h p l e s m args below meth c D cs B A ad0 n0 ad H locs lsr hC hR hL)
def o_tsw (ts : List Nat) (dflt : Nat) : mj_Sem := fun Q K pc ls st sh FR IA LA n kc ks => match st with
  | .inl x :: st => (∀ i t : Nat, ts[i]? = some t → mj_w x = (i : Int) → K t ls st sh FR IA LA n kc ks) ∧ ((mj_w x < 0 ∨ (ts.length : Int) ≤ mj_w x) → K dflt ls st sh FR IA LA n kc ks)
  | _ => False
theorem k_tsw {M : mj_M} {pc : Nat} {d lo hi : Int} {offs : Array Int} {len dflt : Nat} {ts : List Nat} (hd : decode M.2.1 pc = .ok (.tableswitch d lo hi offs, len)) (hlo : lo = 0) (hhi : hi + 1 = (ts.length : Int)) (ht : (pc : Int) + d = (dflt : Int)) (ho : ∀ i : Nat, i < ts.length → (offs[i]?).map (fun o => (pc : Int) + o) = (ts[i]?).map (fun t => (t : Int))) : mj_ok M pc (o_tsw ts dflt) := by
  intro Q K hK ls st sh FR IA LA n kc ks h
  rcases st with _ | ⟨x | x, st⟩ <;> first | exact False.elim h | skip
  intro p l e s m args below meth c D cs B A ad0 n0 ad H locs lsr hC hR hL
  have ex : (Int32.ofInt x).toInt = mj_w x := mj_toInt x
  by_cases hx : mj_w x < 0 ∨ (ts.length : Int) ≤ mj_w x
  · exact lv_tableOut hC.1 hC.2.1 hd (by rw [ex]; omega) ht (hK _ _ _ _ _ _ _ _ _ _ (h.2 hx) p l e s m args below meth c D cs B A ad0 n0 ad H locs lsr hC hR hL)
  · have hi : (mj_w x).toNat < ts.length := by omega
    have h1 := ho (mj_w x).toNat hi
    obtain ⟨t, ht1⟩ : ∃ t, ts[(mj_w x).toNat]? = some t := ⟨_, List.getElem?_eq_getElem hi⟩
    rw [ht1] at h1
    obtain ⟨o, ho1, ho3⟩ := Option.map_eq_some_iff.mp h1
    refine lv_tableIn (off := o) (tgt := t) hC.1 hC.2.1 hd (by rw [ex]; omega) (by rw [ex]; omega) (by rw [ex, hlo, Int.sub_zero]; exact ho1) ho3 ?_
    exact hK _ _ _ _ _ _ _ _ _ _ (h.1 _ t ht1 (by omega)) p l e s m args below meth c D cs B A ad0 n0 ad H locs lsr hC hR hL
def o_ial (nx : Nat) : mj_Sem := fun Q K pc ls st sh FR IA LA n kc ks => match st with
  | .inl j :: .inr (.inr (.inl q)) :: st => ∃ len i : Nat, mj_is sh n q 0 len ∧ mj_w j = (i : Int) ∧ i < len ∧ K nx ls (.inl (IA q i) :: st) sh FR IA LA n kc ks
  | _ => False
theorem k_ial {M : mj_M} {pc : Nat} (hd : decode M.2.1 pc = .ok (.iaload, 1)) : mj_ok M pc (o_ial (pc + 1)) := by
  intro Q K hK ls st sh FR IA LA n kc ks h
  rcases st with _ | ⟨j | j, _ | ⟨q | q | q | q, st⟩⟩ <;> first | exact False.elim h | skip
  obtain ⟨len, i, hq, hj, hi, h⟩ := h
  intro p l e s m args below meth c D cs B A ad0 n0 ad H locs lsr hC hR hL
  refine va_iald hC.1 hC.2.1 hC.2.2.2.2.2.2.2.1 hR.1 q 0 (mj_W_arr hq (by decide)) rfl (mj_vpin hj hi) hd ?_
  rw [mj_clampi hj]
  exact hK _ _ _ _ _ _ _ _ _ _ h p l e s m args below meth c D cs B A ad0 n0 ad H locs lsr hC hR hL
def o_bal (nx : Nat) : mj_Sem := fun Q K pc ls st sh FR IA LA n kc ks => match st with
  | .inl j :: .inr (.inr (.inl q)) :: st => ∃ len i : Nat, mj_is sh n q 1 len ∧ mj_w j = (i : Int) ∧ i < len ∧ K nx ls (.inl (IA q i) :: st) sh FR IA LA n kc ks
  | _ => False
theorem k_bal {M : mj_M} {pc : Nat} (hd : decode M.2.1 pc = .ok (.baload, 1)) : mj_ok M pc (o_bal (pc + 1)) := by
  intro Q K hK ls st sh FR IA LA n kc ks h
  rcases st with _ | ⟨j | j, _ | ⟨q | q | q | q, st⟩⟩ <;> first | exact False.elim h | skip
  obtain ⟨len, i, hq, hj, hi, h⟩ := h
  intro p l e s m args below meth c D cs B A ad0 n0 ad H locs lsr hC hR hL
  refine va_bald hC.1 hC.2.1 hC.2.2.2.2.2.2.2.1 hR.1 q 1 (mj_W_arr hq (by decide)) rfl (mj_vpin hj hi) hd ?_
  rw [mj_clampi hj]
  exact hK _ _ _ _ _ _ _ _ _ _ h p l e s m args below meth c D cs B A ad0 n0 ad H locs lsr hC hR hL
def o_zal (nx : Nat) : mj_Sem := fun Q K pc ls st sh FR IA LA n kc ks => match st with
  | .inl j :: .inr (.inr (.inl q)) :: st => ∃ len i : Nat, mj_is sh n q 2 len ∧ mj_w j = (i : Int) ∧ i < len ∧ K nx ls (.inl (IA q i) :: st) sh FR IA LA n kc ks
  | _ => False
theorem k_zal {M : mj_M} {pc : Nat} (hd : decode M.2.1 pc = .ok (.baload, 1)) : mj_ok M pc (o_zal (pc + 1)) := by
  intro Q K hK ls st sh FR IA LA n kc ks h
  rcases st with _ | ⟨j | j, _ | ⟨q | q | q | q, st⟩⟩ <;> first | exact False.elim h | skip
  obtain ⟨len, i, hq, hj, hi, h⟩ := h
  intro p l e s m args below meth c D cs B A ad0 n0 ad H locs lsr hC hR hL
  refine va_zald hC.1 hC.2.1 hC.2.2.2.2.2.2.2.1 hR.1 q 2 (mj_W_arr hq (by decide)) rfl (mj_vpin hj hi) hd ?_
  rw [mj_clampi hj]
  exact hK _ _ _ _ _ _ _ _ _ _ h p l e s m args below meth c D cs B A ad0 n0 ad H locs lsr hC hR hL
def o_lal (nx : Nat) : mj_Sem := fun Q K pc ls st sh FR IA LA n kc ks => match st with
  | .inl j :: .inr (.inr (.inl q)) :: st => ∃ len i : Nat, mj_is sh n q 3 len ∧ mj_w j = (i : Int) ∧ i < len ∧ K nx ls (.inr (.inl (LA q i)) :: st) sh FR IA LA n kc ks
  | _ => False
theorem k_lal {M : mj_M} {pc : Nat} (hd : decode M.2.1 pc = .ok (.laload, 1)) : mj_ok M pc (o_lal (pc + 1)) := by
  intro Q K hK ls st sh FR IA LA n kc ks h
  rcases st with _ | ⟨j | j, _ | ⟨q | q | q | q, st⟩⟩ <;> first | exact False.elim h | skip
  obtain ⟨len, i, hq, hj, hi, h⟩ := h
  intro p l e s m args below meth c D cs B A ad0 n0 ad H locs lsr hC hR hL
  refine va_lald hC.1 hC.2.1 hC.2.2.2.2.2.2.2.1 hR.1 q 3 (mj_W_la hq) rfl (mj_vpin hj hi) hd ?_
  rw [mj_clampi hj]
  exact hK _ _ _ _ _ _ _ _ _ _ h p l e s m args below meth c D cs B A ad0 n0 ad H locs lsr hC hR hL
def o_ias (nx : Nat) : mj_Sem := fun Q K pc ls st sh FR IA LA n kc ks => match st with
  | .inl x :: .inl j :: .inr (.inr (.inl q)) :: st => ∃ len i : Nat, mj_is sh n q 0 len ∧ mj_w j = (i : Int) ∧ i < len ∧ K nx ls st sh FR (mj_up IA q i x) LA n kc ks
  | _ => False
theorem k_ias {M : mj_M} {pc : Nat} (hd : decode M.2.1 pc = .ok (.iastore, 1)) : mj_ok M pc (o_ias (pc + 1)) := by
  intro Q K hK ls st sh FR IA LA n kc ks h
  rcases st with _ | ⟨x | x, _ | ⟨j | j, _ | ⟨q | q | q | q, st⟩⟩⟩ <;> first | exact False.elim h | skip
  obtain ⟨len, i, hq, hj, hi, h⟩ := h
  intro p l e s m args below meth c D cs B A ad0 n0 ad H locs lsr hC hR hL
  refine va_iast hC.1 hC.2.1 hC.2.2.2.2.2.2.2.1 hR.1 hR.2.1 hR.2.2.1 q 0 (mj_W_arr hq (by decide)) rfl (mj_vpin hj hi) hd fun H1 locs1 hP1 hD1 hS1 => ?_
  rw [mj_clampi hj, mj_W_sa hq (by decide)] at hP1 hD1
  exact hK _ _ _ _ _ _ _ _ _ _ h p l e s m args below meth c D cs B A ad0 n0 ad H1 locs1 lsr hC ⟨hP1, hD1, hS1, hR.2.2.2⟩ hL
def o_bas (nx : Nat) : mj_Sem := fun Q K pc ls st sh FR IA LA n kc ks => match st with
  | .inl x :: .inl j :: .inr (.inr (.inl q)) :: st => ∃ len i : Nat, mj_is sh n q 1 len ∧ mj_w j = (i : Int) ∧ i < len ∧ K nx ls st sh FR (mj_up IA q i (mj_b x)) LA n kc ks
  | _ => False
theorem k_bas {M : mj_M} {pc : Nat} (hd : decode M.2.1 pc = .ok (.bastore, 1)) : mj_ok M pc (o_bas (pc + 1)) := by
  intro Q K hK ls st sh FR IA LA n kc ks h
  rcases st with _ | ⟨x | x, _ | ⟨j | j, _ | ⟨q | q | q | q, st⟩⟩⟩ <;> first | exact False.elim h | skip
  obtain ⟨len, i, hq, hj, hi, h⟩ := h
  intro p l e s m args below meth c D cs B A ad0 n0 ad H locs lsr hC hR hL
  refine va_bast hC.1 hC.2.1 hC.2.2.2.2.2.2.2.1 hR.1 hR.2.1 hR.2.2.1 q 1 (mj_W_arr hq (by decide)) rfl (mj_vpin hj hi) hd fun H1 locs1 hP1 hD1 hS1 => ?_
  rw [mj_clampi hj, show vp_nar .byte (Int32.ofInt x) = Int32.ofInt (mj_b x) from mj_i2b x, mj_W_sa hq (by decide)] at hP1 hD1
  exact hK _ _ _ _ _ _ _ _ _ _ h p l e s m args below meth c D cs B A ad0 n0 ad H1 locs1 lsr hC ⟨hP1, hD1, hS1, hR.2.2.2⟩ hL
def o_zas (nx : Nat) : mj_Sem := fun Q K pc ls st sh FR IA LA n kc ks => match st with
  | .inl x :: .inl j :: .inr (.inr (.inl q)) :: st => ∃ len i : Nat, mj_is sh n q 2 len ∧ mj_w j = (i : Int) ∧ i < len ∧ (x = 0 ∨ x = 1) ∧ K nx ls st sh FR (mj_up IA q i x) LA n kc ks
  | _ => False
theorem k_zas {M : mj_M} {pc : Nat} (hd : decode M.2.1 pc = .ok (.bastore, 1)) : mj_ok M pc (o_zas (pc + 1)) := by
  intro Q K hK ls st sh FR IA LA n kc ks h
  rcases st with _ | ⟨x | x, _ | ⟨j | j, _ | ⟨q | q | q | q, st⟩⟩⟩ <;> first | exact False.elim h | skip
  obtain ⟨len, i, hq, hj, hi, hx, h⟩ := h
  intro p l e s m args below meth c D cs B A ad0 n0 ad H locs lsr hC hR hL
  refine va_zast hC.1 hC.2.1 hC.2.2.2.2.2.2.2.1 hR.1 hR.2.1 hR.2.2.1 q 2 (mj_W_arr hq (by decide)) rfl (mj_vpin hj hi) hd fun H1 locs1 hP1 hD1 hS1 => ?_
  rw [mj_clampi hj, show vp_nar .boolean (Int32.ofInt x) = Int32.ofInt x by rcases hx with rfl | rfl <;> rfl, mj_W_sa hq (by decide)] at hP1 hD1
  exact hK _ _ _ _ _ _ _ _ _ _ h p l e s m args below meth c D cs B A ad0 n0 ad H1 locs1 lsr hC ⟨hP1, hD1, hS1, hR.2.2.2⟩ hL
def o_las (nx : Nat) : mj_Sem := fun Q K pc ls st sh FR IA LA n kc ks => match st with
  | .inr (.inl x) :: .inl j :: .inr (.inr (.inl q)) :: st => ∃ len i : Nat, mj_is sh n q 3 len ∧ mj_w j = (i : Int) ∧ i < len ∧ K nx ls st sh FR IA (mj_up LA q i x) n kc ks
  | _ => False
theorem k_las {M : mj_M} {pc : Nat} (hd : decode M.2.1 pc = .ok (.lastore, 1)) : mj_ok M pc (o_las (pc + 1)) := by
  intro Q K hK ls st sh FR IA LA n kc ks h
  rcases st with _ | ⟨x | x | x, _ | ⟨j | j, _ | ⟨q | q | q | q, st⟩⟩⟩ <;> first | exact False.elim h | skip
  obtain ⟨len, i, hq, hj, hi, h⟩ := h
  intro p l e s m args below meth c D cs B A ad0 n0 ad H locs lsr hC hR hL
  refine va_last hC.1 hC.2.1 hC.2.2.2.2.2.2.2.1 hR.1 hR.2.1 hR.2.2.1 q 3 (mj_W_la hq) rfl (mj_vpin hj hi) hd fun H1 locs1 hP1 hD1 hS1 => ?_
  rw [mj_clampi hj, mj_W_sl hq] at hP1 hD1
  exact hK _ _ _ _ _ _ _ _ _ _ h p l e s m args below meth c D cs B A ad0 n0 ad H1 locs1 lsr hC ⟨hP1, hD1, hS1, hR.2.2.2⟩ hL
def o_alen (t : Nat) (nx : Nat) : mj_Sem := fun Q K pc ls st sh FR IA LA n kc ks => match st with
  | .inr (.inr (.inl q)) :: st => ∃ len : Nat, mj_is sh n q t len ∧ K nx ls (.inl (len : Int) :: st) sh FR IA LA n kc ks
  | _ => False
theorem k_alen {M : mj_M} {pc : Nat} {t : Nat} (hd : decode M.2.1 pc = .ok (.arraylength, 1)) (ht : t < 3) : mj_ok M pc (o_alen t (pc + 1)) := by
  intro Q K hK ls st sh FR IA LA n kc ks h
  rcases st with _ | ⟨q | q | q | q, st⟩ <;> first | exact False.elim h | skip
  obtain ⟨len, hq, h⟩ := h
  intro p l e s m args below meth c D cs B A ad0 n0 ad H locs lsr hC hR hL
  obtain ⟨ty, hty⟩ : ∃ ty, (mj_ty cs)[t]? = some (cs t, ty) := by
    rcases (show t = 0 ∨ t = 1 ∨ t = 2 by omega) with rfl | rfl | rfl
    · exact ⟨_, rfl⟩
    · exact ⟨_, rfl⟩
    · exact ⟨_, rfl⟩
  exact va_alen hC.1 hC.2.1 hC.2.2.2.2.2.2.2.1 hR.1 q t (mj_W_arr hq ht) hty (show Int32.ofNat len = Int32.ofInt (len : Int) from Int32.ofInt_eq_ofNat.symm) hd (hK _ _ _ _ _ _ _ _ _ _ h p l e s m args below meth c D cs B A ad0 n0 ad H locs lsr hC hR hL)
