/-! FIELDS -/
def mj_cl (ci : Nat) (C : String) (T : u_T) (N : Nat) (ty : Nat → FieldType) : Prop := vwCl[ci]? = some (C, T, N) ∧ (∀ w ∈ u_ws C T N, w ∈ mj_wd) ∧ (∀ k, k < N → parseFieldDescriptor (T k).2.2.1 = some (ty k)) ∧ (∀ a, a < N → ∀ b, b < N → a ≠ b → (T a).2.1 ≠ (T b).2.1) ∧ mj_nf ci = N
def o_gI (ci k nx : Nat) : mj_Sem := fun _ K pc ls st sh FR IA LA n kc ks => match st with
  | .inr (.inr (.inl q)) :: st => mj_is sh n q (ci + 4) 0 ∧ K nx ls (.inl (IA q k) :: st) sh FR IA LA n kc ks
  | _ => False
def o_gR (ci k nx : Nat) : mj_Sem := fun _ K pc ls st sh FR IA LA n kc ks => match st with
  | .inr (.inr (.inl q)) :: st => mj_is sh n q (ci + 4) 0 ∧ ∃ r, FR q k = r ∧ K nx ls (.inr (.inr r) :: st) sh FR IA LA n kc ks
  | _ => False
def o_pI (ci k nx : Nat) : mj_Sem := fun _ K pc ls st sh FR IA LA n kc ks => match st with
  | .inl x :: .inr (.inr (.inl q)) :: st => mj_is sh n q (ci + 4) 0 ∧ K nx ls st sh FR (mj_up IA q k x) LA n kc ks
  | _ => False
def o_pZ (ci k nx : Nat) : mj_Sem := fun _ K pc ls st sh FR IA LA n kc ks => match st with
  | .inl x :: .inr (.inr (.inl q)) :: st => mj_is sh n q (ci + 4) 0 ∧ (x = 0 ∨ x = 1) ∧ K nx ls st sh FR (mj_up IA q k x) LA n kc ks
  | _ => False
def o_pR (ci k nx : Nat) : mj_Sem := fun _ K pc ls st sh FR IA LA n kc ks => match st with
  | .inr (.inr (.inl r)) :: .inr (.inr (.inl q)) :: st => mj_is sh n q (ci + 4) 0 ∧ K nx ls st sh (mj_up FR q k (.inl r)) IA LA n kc ks
  | _ => False
def o_gL (ci k nx : Nat) : mj_Sem := fun _ K pc ls st sh FR IA LA n kc ks => match st with
  | .inr (.inr (.inl q)) :: st => mj_is sh n q (ci + 4) 0 ∧ K nx ls (.inr (.inl (LA q k)) :: st) sh FR IA LA n kc ks
  | _ => False
def o_pL (ci k nx : Nat) : mj_Sem := fun _ K pc ls st sh FR IA LA n kc ks => match st with
  | .inr (.inl x) :: .inr (.inr (.inl q)) :: st => mj_is sh n q (ci + 4) 0 ∧ K nx ls st sh FR IA (mj_up LA q k x) n kc ks
  | _ => False
theorem k_gL {M : mj_M} {pc : Nat} {ci k idx N : Nat} {C : String} {T : u_T} {ty : Nat → FieldType} (hcl : mj_cl ci C T N ty) (hk : k < N) (h0 : mj_kd ci k = 2) (hw : Cond.fieldLink M.1.cls idx (T k).1 (T k).2.1 (T k).2.2.1 ∈ mj_wd) (hd : decode M.2.1 pc = .ok (.getfield idx, 3)) : mj_ok M pc (o_gL ci k (pc + 3)) := by
  intro Q K hK ls st sh FR IA LA n kc ks h
  rcases st with _ | ⟨q | q | q | q, st⟩ <;> first | exact False.elim h | skip
  obtain ⟨hq, h⟩ := h
  intro p l e s m args below meth c D cs B A ad0 n0 ad H locs lsr hC hR hL
  exact va_get (v := .long (Int64.ofBitVec (LA q k))) hC.1 hC.2.1 hC.2.2.2.2.2.1 hcl.2.1 hC.2.2.2.2.1 hC.2.2.2.2.2.2.2.1 hR.1 q (mj_W_ob hq) hcl.1 k hk (hC.2.2.2.2.2.1 _ hw) (fun _ z => z) (by rw [mj_fs_at (by rw [hcl.2.2.2.2]; exact hk), h0]; rfl) hd (hK _ _ _ _ _ _ _ _ _ _ h p l e s m args below meth c D cs B A ad0 n0 ad H locs lsr hC hR hL)
theorem k_gI {M : mj_M} {pc : Nat} {ci k idx N : Nat} {C : String} {T : u_T} {ty : Nat → FieldType} (hcl : mj_cl ci C T N ty) (hk : k < N) (h0 : mj_kd ci k = 0) (hw : Cond.fieldLink M.1.cls idx (T k).1 (T k).2.1 (T k).2.2.1 ∈ mj_wd) (hd : decode M.2.1 pc = .ok (.getfield idx, 3)) : mj_ok M pc (o_gI ci k (pc + 3)) := by
  intro Q K hK ls st sh FR IA LA n kc ks h
  rcases st with _ | ⟨q | q | q | q, st⟩ <;> first | exact False.elim h | skip
  obtain ⟨hq, h⟩ := h
  intro p l e s m args below meth c D cs B A ad0 n0 ad H locs lsr hC hR hL
  exact va_get (v := .int (Int32.ofInt (IA q k))) hC.1 hC.2.1 hC.2.2.2.2.2.1 hcl.2.1 hC.2.2.2.2.1 hC.2.2.2.2.2.2.2.1 hR.1 q (mj_W_ob hq) hcl.1 k hk (hC.2.2.2.2.2.1 _ hw) (fun _ z => z) (by rw [mj_fs_at (by rw [hcl.2.2.2.2]; exact hk), h0]; rfl) hd (hK _ _ _ _ _ _ _ _ _ _ h p l e s m args below meth c D cs B A ad0 n0 ad H locs lsr hC hR hL)
theorem k_gR {M : mj_M} {pc : Nat} {ci k idx N : Nat} {C : String} {T : u_T} {ty : Nat → FieldType} (hcl : mj_cl ci C T N ty) (hk : k < N) (h0 : mj_kd ci k = 1) (hw : Cond.fieldLink M.1.cls idx (T k).1 (T k).2.1 (T k).2.2.1 ∈ mj_wd) (hd : decode M.2.1 pc = .ok (.getfield idx, 3)) : mj_ok M pc (o_gR ci k (pc + 3)) := by
  intro Q K hK ls st sh FR IA LA n kc ks h
  rcases st with _ | ⟨q | q | q | q, st⟩ <;> first | exact False.elim h | skip
  obtain ⟨hq, r, hr, h⟩ := h
  intro p l e s m args below meth c D cs B A ad0 n0 ad H locs lsr hC hR hL
  subst hr
  exact va_get (v := mj_rf B ad (FR q k)) hC.1 hC.2.1 hC.2.2.2.2.2.1 hcl.2.1 hC.2.2.2.2.1 hC.2.2.2.2.2.2.2.1 hR.1 q (mj_W_ob hq) hcl.1 k hk (hC.2.2.2.2.2.1 _ hw) (fun _ z => z) (by rw [mj_fs_at (by rw [hcl.2.2.2.2]; exact hk), h0]; rfl) hd (hK _ _ _ _ _ _ _ _ _ _ h p l e s m args below meth c D cs B A ad0 n0 ad H locs lsr hC hR hL)
theorem k_pI {M : mj_M} {pc : Nat} {ci k idx N : Nat} {C : String} {T : u_T} {ty : Nat → FieldType} (hcl : mj_cl ci C T N ty) (hk : k < N) (h0 : mj_kd ci k = 0) (hty : ty k = .int) (hw : Cond.fieldLink M.1.cls idx (T k).1 (T k).2.1 (T k).2.2.1 ∈ mj_wd) (hfin : (T k).2.2.2 = false) (hd : decode M.2.1 pc = .ok (.putfield idx, 3)) : mj_ok M pc (o_pI ci k (pc + 3)) := by
  intro Q K hK ls st sh FR IA LA n kc ks h
  rcases st with _ | ⟨x | x, _ | ⟨q | q | q | q, st⟩⟩ <;> first | exact False.elim h | skip
  obtain ⟨hq, h⟩ := h
  intro p l e s m args below meth c D cs B A ad0 n0 ad H locs lsr hC hR hL
  refine va_put (v := Value.int (Int32.ofInt x)) (ty := .int) hC.1 hC.2.1 hC.2.2.2.2.2.1 hcl.2.1 ty hcl.2.2.1 hcl.2.2.2.1 hC.2.2.2.2.1 hC.2.2.2.2.2.2.2.1 hR.1 hR.2.1 hR.2.2.1 q (mj_W_ob hq) hcl.1 k hk (hC.2.2.2.2.2.1 _ hw) (fun _ z => z) hfin (by rw [hcl.2.2.1 k hk, hty]) rfl rfl (by rw [mj_fs_len, hcl.2.2.2.2]; exact hk) hd fun H1 locs1 hP1 hD1 hS1 => ?_
  rw [mj_W_sI hq (by rw [hcl.2.2.2.2]; exact hk) h0] at hP1 hD1
  exact hK _ _ _ _ _ _ _ _ _ _ h p l e s m args below meth c D cs B A ad0 n0 ad H1 locs1 lsr hC ⟨hP1, hD1, hS1, hR.2.2.2⟩ hL
theorem k_pZ {M : mj_M} {pc : Nat} {ci k idx N : Nat} {C : String} {T : u_T} {ty : Nat → FieldType} (hcl : mj_cl ci C T N ty) (hk : k < N) (h0 : mj_kd ci k = 0) (hty : ty k = .boolean) (hw : Cond.fieldLink M.1.cls idx (T k).1 (T k).2.1 (T k).2.2.1 ∈ mj_wd) (hfin : (T k).2.2.2 = false) (hd : decode M.2.1 pc = .ok (.putfield idx, 3)) : mj_ok M pc (o_pZ ci k (pc + 3)) := by
  intro Q K hK ls st sh FR IA LA n kc ks h
  rcases st with _ | ⟨x | x, _ | ⟨q | q | q | q, st⟩⟩ <;> first | exact False.elim h | skip
  obtain ⟨hq, hx, h⟩ := h
  intro p l e s m args below meth c D cs B A ad0 n0 ad H locs lsr hC hR hL
  refine va_put (v := Value.int (Int32.ofInt x)) (ty := .boolean) hC.1 hC.2.1 hC.2.2.2.2.2.1 hcl.2.1 ty hcl.2.2.1 hcl.2.2.2.1 hC.2.2.2.2.1 hC.2.2.2.2.2.2.2.1 hR.1 hR.2.1 hR.2.2.1 q (mj_W_ob hq) hcl.1 k hk (hC.2.2.2.2.2.1 _ hw) (fun _ z => z) hfin (by rw [hcl.2.2.1 k hk, hty]) (by rcases hx with rfl | rfl <;> rfl) (by rcases hx with rfl | rfl <;> rfl) (by rw [mj_fs_len, hcl.2.2.2.2]; exact hk) hd fun H1 locs1 hP1 hD1 hS1 => ?_
  rw [mj_W_sI hq (by rw [hcl.2.2.2.2]; exact hk) h0] at hP1 hD1
  exact hK _ _ _ _ _ _ _ _ _ _ h p l e s m args below meth c D cs B A ad0 n0 ad H1 locs1 lsr hC ⟨hP1, hD1, hS1, hR.2.2.2⟩ hL
theorem k_pL {M : mj_M} {pc : Nat} {ci k idx N : Nat} {C : String} {T : u_T} {ty : Nat → FieldType} (hcl : mj_cl ci C T N ty) (hk : k < N) (h0 : mj_kd ci k = 2) (hty : ty k = .long) (hw : Cond.fieldLink M.1.cls idx (T k).1 (T k).2.1 (T k).2.2.1 ∈ mj_wd) (hfin : (T k).2.2.2 = false) (hd : decode M.2.1 pc = .ok (.putfield idx, 3)) : mj_ok M pc (o_pL ci k (pc + 3)) := by
  intro Q K hK ls st sh FR IA LA n kc ks h
  rcases st with _ | ⟨x | x | x, _ | ⟨q | q | q | q, st⟩⟩ <;> first | exact False.elim h | skip
  obtain ⟨hq, h⟩ := h
  intro p l e s m args below meth c D cs B A ad0 n0 ad H locs lsr hC hR hL
  refine va_put (v := Value.long (Int64.ofBitVec x)) (ty := .long) hC.1 hC.2.1 hC.2.2.2.2.2.1 hcl.2.1 ty hcl.2.2.1 hcl.2.2.2.1 hC.2.2.2.2.1 hC.2.2.2.2.2.2.2.1 hR.1 hR.2.1 hR.2.2.1 q (mj_W_ob hq) hcl.1 k hk (hC.2.2.2.2.2.1 _ hw) (fun _ z => z) hfin (by rw [hcl.2.2.1 k hk, hty]) rfl rfl (by rw [mj_fs_len, hcl.2.2.2.2]; exact hk) hd fun H1 locs1 hP1 hD1 hS1 => ?_
  rw [mj_W_sL hq (by rw [hcl.2.2.2.2]; exact hk) h0] at hP1 hD1
  exact hK _ _ _ _ _ _ _ _ _ _ h p l e s m args below meth c D cs B A ad0 n0 ad H1 locs1 lsr hC ⟨hP1, hD1, hS1, hR.2.2.2⟩ hL
theorem k_pR {M : mj_M} {pc : Nat} {ci k idx N : Nat} {C : String} {T : u_T} {ty : Nat → FieldType} (hcl : mj_cl ci C T N ty) (hk : k < N) (h0 : mj_kd ci k = 1) (hty : (∃ nn, ty k = .object nn) ∨ ∃ t, ty k = .array t) (hw : Cond.fieldLink M.1.cls idx (T k).1 (T k).2.1 (T k).2.2.1 ∈ mj_wd) (hfin : (T k).2.2.2 = false) (hd : decode M.2.1 pc = .ok (.putfield idx, 3)) : mj_ok M pc (o_pR ci k (pc + 3)) := by
  intro Q K hK ls st sh FR IA LA n kc ks h
  rcases st with _ | ⟨r | r | r | r, _ | ⟨q | q | q | q, st⟩⟩ <;> first | exact False.elim h | skip
  obtain ⟨hq, h⟩ := h
  intro p l e s m args below meth c D cs B A ad0 n0 ad H locs lsr hC hR hL
  refine va_put (v := mj_rf B ad (.inl r)) (ty := ty k) hC.1 hC.2.1 hC.2.2.2.2.2.1 hcl.2.1 ty hcl.2.2.1 hcl.2.2.2.1 hC.2.2.2.2.1 hC.2.2.2.2.2.2.2.1 hR.1 hR.2.1 hR.2.2.1 q (mj_W_ob hq) hcl.1 k hk (hC.2.2.2.2.2.1 _ hw) (fun _ z => z) hfin (hcl.2.2.1 k hk) (by rcases hty with ⟨nn, e⟩ | ⟨t, e⟩ <;> rw [e] <;> rfl) (by rcases hty with ⟨nn, e⟩ | ⟨t, e⟩ <;> rw [e] <;> rfl) (by rw [mj_fs_len, hcl.2.2.2.2]; exact hk) hd fun H1 locs1 hP1 hD1 hS1 => ?_
  rw [mj_W_sR (r := .inl r) hq (by rw [hcl.2.2.2.2]; exact hk) h0] at hP1 hD1
  exact hK _ _ _ _ _ _ _ _ _ _ h p l e s m args below meth c D cs B A ad0 n0 ad H1 locs1 lsr hC ⟨hP1, hD1, hS1, hR.2.2.2⟩ hL
theorem k_pRF {M : mj_M} {pc : Nat} {ci k idx N : Nat} {C : String} {T : u_T} {ty : Nat → FieldType} (hcl : mj_cl ci C T N ty) (hk : k < N) (h0 : mj_kd ci k = 1) (hty : (∃ nn, ty k = .object nn) ∨ ∃ t, ty k = .array t) (hw : Cond.fieldLink M.1.cls idx (T k).1 (T k).2.1 (T k).2.2.1 ∈ mj_wd) (hfin : (T k).2.2.2 = true) (hin : M.1.name = "<init>") (hde : (T k).1 = M.1.cls) (hd : decode M.2.1 pc = .ok (.putfield idx, 3)) : mj_ok M pc (o_pR ci k (pc + 3)) := by
  intro Q K hK ls st sh FR IA LA n kc ks h
  rcases st with _ | ⟨r | r | r | r, _ | ⟨q | q | q | q, st⟩⟩ <;> first | exact False.elim h | skip
  obtain ⟨hq, h⟩ := h
  intro p l e s m args below meth c D cs B A ad0 n0 ad H locs lsr hC hR hL
  refine va_putF (v := mj_rf B ad (.inl r)) (ty := ty k) hC.1 hC.2.1 hC.2.2.2.2.2.1 hcl.2.1 ty hcl.2.2.1 hcl.2.2.2.1 hC.2.2.2.2.1 hC.2.2.2.2.2.2.2.1 hR.1 hR.2.1 hR.2.2.1 q (mj_W_ob hq) hcl.1 k hk (hC.2.2.2.2.2.1 _ hw) (fun _ z => z) hfin (hC.2.2.2.2.2.2.2.2.2.1.trans hin) hde (hcl.2.2.1 k hk) (by rcases hty with ⟨nn, e⟩ | ⟨t, e⟩ <;> rw [e] <;> rfl) (by rcases hty with ⟨nn, e⟩ | ⟨t, e⟩ <;> rw [e] <;> rfl) (by rw [mj_fs_len, hcl.2.2.2.2]; exact hk) hd fun H1 locs1 hP1 hD1 hS1 => ?_
  rw [mj_W_sR (r := .inl r) hq (by rw [hcl.2.2.2.2]; exact hk) h0] at hP1 hD1
  exact hK _ _ _ _ _ _ _ _ _ _ h p l e s m args below meth c D cs B A ad0 n0 ad H1 locs1 lsr hC ⟨hP1, hD1, hS1, hR.2.2.2⟩ hL
/-! THE SCRIPT, THE STATIC TABLE -/
def o_tal (nx : Nat) : mj_Sem := fun _ K pc ls st sh FR IA LA n kc ks => match st with
  | .inl j :: .inr (.inr (.inr 2)) :: st => ∃ i : Nat, mj_w j = (i : Int) ∧ i < 6 ∧ K nx ls (.inr (.inl (mj_iw i)) :: st) sh FR IA LA n kc ks
  | _ => False
theorem k_tal {M : mj_M} {pc : Nat} (hd : decode M.2.1 pc = .ok (.laload, 1)) : mj_ok M pc (o_tal (pc + 1)) := by
  intro Q K hK ls st sh FR IA LA n kc ks h
  rcases st with _ | ⟨j | j, _ | ⟨q | q | q | q, st⟩⟩ <;> first | exact False.elim h | skip
  rcases q with _ | _ | _ | q <;> first | exact False.elim h | skip
  obtain ⟨i, hj, hi, h⟩ := h
  intro p l e s m args below meth c D cs B A ad0 n0 ad H locs lsr hC hR hL
  exact va_tl hC.1 hC.2.1 hC.2.2.2.2.2.2.2.2.2.2.2.2.2.1.2 hR.2.2.1 (mj_vpin hj hi) (v := .long (Int64.ofBitVec (mj_iw i))) (by rw [mj_clampi hj]) hd (hK _ _ _ _ _ _ _ _ _ _ h p l e s m args below meth c D cs B A ad0 n0 ad H locs lsr hC hR hL)
def o_gst (nx : Nat) : mj_Sem := fun _ K pc ls st sh FR IA LA n kc ks => K nx ls (.inr (.inr (.inr 2)) :: st) sh FR IA LA n kc ks
theorem k_gst {M : mj_M} {pc idx : Nat} (hd : decode M.2.1 pc = .ok (.getstatic idx, 3)) (hw : Cond.fieldLink M.1.cls idx mj_ixC mj_ixN mj_ixD ∈ mj_wd) : mj_ok M pc (o_gst (pc + 3)) := by
  intro Q K hK ls st sh FR IA LA n kc ks h
  intro p l e s m args below meth c D cs B A ad0 n0 ad H locs lsr hC hR hL
  exact va_gets hC.1 hC.2.1 hC.2.2.2.2.2.2.2.2.2.2.2.2.2.1.1 hR.2.2.1 hC.2.2.2.2.1 (hC.2.2.2.2.2.1 _ hw) (fun _ z => z) hd (hK _ _ _ _ _ _ _ _ _ _ h p l e s m args below meth c D cs B A ad0 n0 ad H locs lsr hC hR hL)
/-! MAKING -/
def mj_scr (n : Nat) (r : mj_R) : Prop := match r with
  | .inl q => q < n
  | .inr _ => True
def mj_scF (n : Nat) (FR : mj_FR) : Prop := ∀ q k, q < n → mj_scr n (FR q k)
def mj_nw {α : Type} (F : Nat → α) (n : Nat) (x : α) : Nat → α := fun a => if a = n then x else F a
theorem mj_nw_ne {α : Type} {F : Nat → α} {n a : Nat} {x : α} (h : a ≠ n) : mj_nw F n x a = F a := by simp [mj_nw, h]
theorem mj_nw_eq {α : Type} {F : Nat → α} {n : Nat} {x : α} : mj_nw F n x n = x := by simp [mj_nw]
theorem mj_scr_rf {B : mj_B} {ad ad' : Nat → Nat} {n : Nat} (had : ∀ i, i < n → ad' i = ad i) {r : mj_R} (h : mj_scr n r) : mj_rf B ad' r = mj_rf B ad r := by
  rcases r with x | x
  · show Value.ref (ad' x) = Value.ref (ad x)
    rw [had x h]
  · rcases x with _ | _ | x <;> rfl
theorem mj_ce_sc {cs : Nat → ClassId} {B : mj_B} {ad ad' : Nat → Nat} {n : Nat} (had : ∀ i, i < n → ad' i = ad i) {sh : Nat × Nat} {FR : Nat → mj_R} {IA : Nat → Int} {LA : Nat → BitVec 64} (h : ∀ k, mj_scr n (FR k)) : mj_ce cs B ad' sh FR IA LA = mj_ce cs B ad sh FR IA LA := by
  have e : mj_fs B ad' (sh.1 - 4) FR IA LA = mj_fs B ad (sh.1 - 4) FR IA LA := by
    unfold mj_fs
    refine List.map_congr_left fun k _ => ?_
    unfold mj_fv
    rw [mj_scr_rf had (h k)]
  unfold mj_ce
  rw [e]
theorem mj_W_new {cs : Nat → ClassId} {B : mj_B} {ad : Nat → Nat} {sh : mj_Sh} {FR : mj_FR} {IA : mj_FI} {LA : mj_LA} {n q : Nat} {s0 : Nat × Nat} {x : va_E} (hsc : mj_scF n FR)
    (hx : x = mj_ce cs B (mj_nw ad n q) s0 (fun _ => .inr 0) (fun _ => 0) (fun _ => 0)) :
    mj_W cs B ad sh FR IA LA n ++ [(q, x)] = mj_W cs B (mj_nw ad n q) (mj_nw sh n s0) (mj_nw FR n fun _ => .inr 0) (mj_nw IA n fun _ => 0) (mj_nw LA n fun _ => 0) (n + 1) := by
  unfold mj_W
  rw [List.range_succ, List.map_append, List.map_cons, List.map_nil]
  have hs : ∀ i, i < n → mj_nw ad n q i = ad i := fun i hi => mj_nw_ne (by omega)
  congr 1
  · refine List.map_congr_left fun i hi => ?_
    have hi : i < n := List.mem_range.mp hi
    have hne : i ≠ n := by omega
    rw [hs i hi, mj_nw_ne hne, mj_nw_ne hne, mj_nw_ne hne, mj_nw_ne hne, mj_ce_sc hs (hsc i · hi)]
  · rw [mj_nw_eq, mj_nw_eq, mj_nw_eq, mj_nw_eq, mj_nw_eq, hx]
def o_na (t C S nx : Nat) : mj_Sem := fun _ K pc ls st sh FR IA LA n kc ks => match st with
  | .inl x :: st => ∃ N : Nat, mj_w x = (N : Int) ∧ N ≤ 1000000 ∧ mj_scF n FR ∧ mj_scl n ls ∧ mj_scs n st ∧ kc + 1 ≤ C ∧ ks + N ≤ S ∧
      K nx ls (.inr (.inr (.inl n)) :: st) (mj_nw sh n (t, N)) (mj_nw FR n fun _ => .inr 0) (mj_nw IA n fun _ => 0) (mj_nw LA n fun _ => 0) (n + 1) (kc + 1) (ks + N)
  | _ => False
def o_new (ci nf C S nx : Nat) : mj_Sem := fun _ K pc ls st sh FR IA LA n kc ks => mj_scF n FR ∧ mj_scl n ls ∧ mj_scs n st ∧ kc + 1 ≤ C ∧ ks + nf ≤ S ∧
      K nx ls (.inr (.inr (.inl n)) :: st) (mj_nw sh n (ci + 4, 0)) (mj_nw FR n fun _ => .inr 0) (mj_nw IA n fun _ => 0) (mj_nw LA n fun _ => 0) (n + 1) (kc + 1) (ks + nf)
theorem mj_newR {cs : Nat → ClassId} {B : mj_B} {D : va_G} {A : Nat → Prop} {H0 H1 : Heap} {ad0 ad : Nat → Nat} {n0 n q : Nat} {sh : mj_Sh} {FR : mj_FR} {IA : mj_FI} {LA : mj_LA} {H : Heap} {locs : List Loc} {s0 : Nat × Nat} {x : va_E} (hR : mj_Rl cs B D A H0 ad0 n0 sh FR IA LA n ad H locs) (hsc : mj_scF n FR)
    (hx : x = mj_ce cs B (mj_nw ad n q) s0 (fun _ => .inr 0) (fun _ => 0) (fun _ => 0)) (hP1 : va_P D vwCl (mj_W cs B ad sh FR IA LA n ++ [(q, x)]) H1) (hD1 : va_D A (mj_W cs B ad sh FR IA LA n ++ [(q, x)])) (hS1 : va_S A H0 H1 locs) :
    mj_Rl cs B D A H0 ad0 n0 (mj_nw sh n s0) (mj_nw FR n fun _ => .inr 0) (mj_nw IA n fun _ => 0) (mj_nw LA n fun _ => 0) (n + 1) (mj_nw ad n q) H1 locs := by
  rw [mj_W_new hsc hx] at hP1 hD1
  have hn := hR.2.2.2.2
  refine ⟨hP1, hD1, hS1, fun i hi => ?_, by omega⟩
  rw [mj_nw_ne (by omega)]
  exact hR.2.2.2.1 i (by omega)
theorem k_na {M : mj_M} {pc t : Nat} {at0 : ArrayType} {ty : FieldType} (hd : decode M.2.1 pc = .ok (.newarray at0, 2)) (hty : newarray.typeOf at0 = ty) (ht : t = 0 ∧ ty = .int ∨ t = 1 ∧ ty = .byte ∨ t = 2 ∧ ty = .boolean ∨ t = 3 ∧ ty = .long) (hw : Cond.arrayClass ty ∈ mj_wd) : mj_ok M pc (o_na t M.2.2.2.2.1.cells M.2.2.2.2.1.slots (pc + 2)) := by
  intro Q K hK ls st sh FR IA LA n kc ks h
  rcases st with _ | ⟨x | x, st⟩ <;> first | exact False.elim h | skip
  obtain ⟨N, hx, hN, hsF, hsl, hss, hc, hs, h⟩ := h
  intro p l e s m args below meth c D cs B A ad0 n0 ad H locs lsr hC hR hL
  have hcl := mj_clampi hx
  have hneg : ¬ Int32.ofInt x < 0 := by
    rw [mj_z, mj_lt, mj_w0, hx]
    omega
  have hty0 : (mj_ty cs)[t]? = some (cs t, ty) := by
    rcases ht with ⟨rfl, rfl⟩ | ⟨rfl, rfl⟩ | ⟨rfl, rfl⟩ | ⟨rfl, rfl⟩ <;> rfl
  have hwn : ∀ i, i < n → mj_nw ad n 0 i = ad i := fun i hi => mj_nw_ne (by omega)
  refine va_newa hC.1 hC.2.1 (by rw [hty]; exact hC.2.2.2.2.2.1 _ hw) hty hC.2.2.2.2.2.2.2.1 hR.1 hR.2.1 hR.2.2.1 hC.2.2.2.2.2.2.2.2.1 (N' := N) (a0 := if t = 3 then (N, .inr (.inl fun _ => Int64.ofBitVec 0)) else (N, .inl fun _ => Int32.ofInt 0)) ?_ hneg hcl ?_ hc hs hd ?_
  · intro cA
    rcases ht with ⟨rfl, rfl⟩ | ⟨rfl, rfl⟩ | ⟨rfl, rfl⟩ | ⟨rfl, rfl⟩ <;> rfl
  · have hb : componentBytes ty ≤ 8 := by
      rcases ht with ⟨rfl, rfl⟩ | ⟨rfl, rfl⟩ | ⟨rfl, rfl⟩ | ⟨rfl, rfl⟩ <;> decide
    calc N * componentBytes ty ≤ 1000000 * 8 := Nat.mul_le_mul hN hb
      _ ≤ 536870912 := by decide
  · intro q cA H1 hK1 hP1 hD1 hS1
    have hcA : cA = cs t := by
      have h1 := (hC.2.2.2.2.2.2.2.1.2 t _ hty0).2
      have h2 := (hK1.2 4 (cA, ty) rfl).2
      rcases ht with ⟨rfl, rfl⟩ | ⟨rfl, rfl⟩ | ⟨rfl, rfl⟩ | ⟨rfl, rfl⟩
      · exact Option.some.inj (Eq.trans (Eq.symm h2) h1)
      · exact Option.some.inj (Eq.trans (Eq.symm h2) h1)
      · exact Option.some.inj (Eq.trans (Eq.symm h2) h1)
      · exact Option.some.inj (Eq.trans (Eq.symm h2) h1)
    have hs0 : ∀ i, i < n → mj_nw ad n q i = ad i := fun i hi => mj_nw_ne (by omega)
    have hR1 := mj_newR (s0 := (t, N)) hR hsF (by
      rw [hcA]
      rcases ht with ⟨rfl, rfl⟩ | ⟨rfl, rfl⟩ | ⟨rfl, rfl⟩ | ⟨rfl, rfl⟩ <;> rfl) hP1 hD1 hS1
    have hk := hK _ _ _ _ _ _ _ _ _ _ h p l e s m args below meth c D cs B A ad0 n0 (mj_nw ad n q) H1 locs lsr hC hR1 (hL.sc hs0 hsl)
    have e1 : (((.inr (.inr (.inl n)) : mj_V) :: st).map (mj_tv B (mj_nw ad n q))) = .ref q :: st.map (mj_tv B ad) := by
      rw [List.map_cons, mj_scs_tv hs0 hss]
      show Value.ref (mj_nw ad n q n) :: _ = _
      rw [mj_nw_eq]
    rw [e1] at hk
    exact hk
theorem k_new {M : mj_M} {pc ci idx nf : Nat} {C : String} {T : u_T} {ty : Nat → FieldType} (hd : decode M.2.1 pc = .ok (.new idx, 3)) (hcl : mj_cl ci C T nf ty) (hdf : ∀ k, k < nf → defaultValue (ty k) = mj_fv ((0, 0, fun _ => 0), 0) (fun _ => 0) (mj_kd ci k) (.inr 0) 0 0) (hw : Cond.classLink M.1.cls idx C ∈ mj_wd) (hi : Cond.instantiable C nf ∈ mj_wd) (hz : Cond.initialized C ∈ mj_wd) : mj_ok M pc (o_new ci nf M.2.2.2.2.1.cells M.2.2.2.2.1.slots (pc + 3)) := by
  intro Q K hK ls st sh FR IA LA n kc ks h
  obtain ⟨hsF, hsl, hss, hc, hs, h⟩ := h
  intro p l e s m args below meth c D cs B A ad0 n0 ad H locs lsr hC hR hL
  refine va_new (fs := mj_fs B ad ci (fun _ => .inr 0) (fun _ => 0) (fun _ => 0)) hC.1 hC.2.1 hC.2.2.2.2.2.1 hcl.2.1 ty hcl.2.2.1 hC.2.2.2.2.1 (hC.2.2.2.2.2.1 _ hw) (hC.2.2.2.2.2.1 _ hi) (hC.2.2.2.2.2.1 _ hz) hC.2.2.2.2.2.2.2.1 hR.1 hR.2.1 hR.2.2.1 hC.2.2.2.2.2.2.2.2.1 hcl.1 ?_ hc hs hd ?_
  · intro j hj
    rw [hdf j hj]
    unfold vp_V
    rw [List.getD_eq_getElem?_getD, mj_fs_at (by rw [hcl.2.2.2.2]; exact hj)]
    rfl
  · intro q H1 hP1 hD1 hS1
    have hs0 : ∀ i, i < n → mj_nw ad n q i = ad i := fun i hi => mj_nw_ne (by omega)
    have hR1 := mj_newR (s0 := (ci + 4, 0)) hR hsF (by
      rw [mj_ce_ob]
      rfl) hP1 hD1 hS1
    have hk := hK _ _ _ _ _ _ _ _ _ _ h p l e s m args below meth c D cs B A ad0 n0 (mj_nw ad n q) H1 locs lsr hC hR1 (hL.sc hs0 hsl)
    have e1 : (((.inr (.inr (.inl n)) : mj_V) :: st).map (mj_tv B (mj_nw ad n q))) = .ref q :: st.map (mj_tv B ad) := by
      rw [List.map_cons, mj_scs_tv hs0 hss]
      show Value.ref (mj_nw ad n q n) :: _ = _
      rw [mj_nw_eq]
    rw [e1] at hk
    exact hk
/-- Object's constructor -/
def o_oi (nx : Nat) : mj_Sem := fun _ K pc ls st sh FR IA LA n kc ks => match st with
  | .inr (.inr (.inl _)) :: st => mj_cts st ≤ 8 ∧ K nx ls st sh FR IA LA n kc ks
  | _ => False
theorem k_oi {M : mj_M} {pc idx : Nat} (hd : decode M.2.1 pc = .ok (.invokespecial idx, 3)) (hw : Cond.methodLink M.1.cls idx Lib.objectInit ∈ mj_wd) (hi : Cond.instanceMethod Lib.objectInit ∈ mj_wd) (hc0 : Cond.code Lib.objectInit ⟨#[0xb1]⟩ 1 none ∈ mj_wd) (hf : 1 ≤ M.2.2.2.2.1.frames) (hl : 20 ≤ M.2.2.2.2.1.locals) : mj_ok M pc (o_oi (pc + 3)) := by
  intro Q K hK ls st sh FR IA LA n kc ks h
  rcases st with _ | ⟨q | q | q | q, st⟩ <;> first | exact False.elim h | skip
  obtain ⟨h8, h⟩ := h
  intro p l e s m args below meth c D cs B A ad0 n0 ad H locs lsr hC hR hL
  refine W.objInit hC.1 hC.2.1 hC.2.2.2.2.1 (hC.2.2.2.2.2.1 _ hw) (hC.2.2.2.2.2.1 _ hi) (hC.2.2.2.2.2.1 _ hc0) rfl (hL.1.trans hC.2.2.2.1.symm) (a := ad q) (rest := st.map (mj_tv B ad)) rfl hd hf ?_ ?_
  · show 2 * 0 + ((st.map (mj_tv B ad)).map fun v => v.category).sum + 12 ≤ _
    rw [mj_cts_eq]
    omega
  · exact hK _ _ _ _ _ _ _ _ _ _ h p l e s m args below meth c D cs B A ad0 n0 ad H locs lsr hC hR hL
