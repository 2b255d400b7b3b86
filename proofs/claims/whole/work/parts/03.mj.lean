def mj_w (z : Int) : Int := (z + 2147483648) % 4294967296 - 2147483648
theorem mj_w_id {z : Int} (h1 : -2147483648 ≤ z) (h2 : z < 2147483648) : mj_w z = z := by unfold mj_w; omega
theorem mj_w_lo (z : Int) : -2147483648 ≤ mj_w z := by unfold mj_w; omega
theorem mj_w_hi (z : Int) : mj_w z < 2147483648 := by unfold mj_w; omega
theorem mj_toInt (z : Int) : (Int32.ofInt z).toInt = mj_w z := by
  rw [Int32.toInt_ofInt]
  show z.bmod 4294967296 = mj_w z
  unfold Int.bmod mj_w
  dsimp only
  split <;> omega
theorem mj_ofw (z : Int) : Int32.ofInt (mj_w z) = Int32.ofInt z := by rw [← mj_toInt, Int32.ofInt_toInt]
theorem mj_lt (x y : Int) : (Int32.ofInt x < Int32.ofInt y) ↔ mj_w x < mj_w y := by rw [Int32.lt_iff_toInt_lt, mj_toInt, mj_toInt]
theorem mj_le (x y : Int) : (Int32.ofInt x ≤ Int32.ofInt y) ↔ mj_w x ≤ mj_w y := by rw [Int32.le_iff_toInt_le, mj_toInt, mj_toInt]
theorem mj_eq (x y : Int) : (Int32.ofInt x = Int32.ofInt y) ↔ mj_w x = mj_w y := by rw [← Int32.toInt_inj, mj_toInt, mj_toInt]
theorem mj_z : (0 : Int32) = Int32.ofInt 0 := rfl
theorem mj_w0 : mj_w 0 = 0 := by decide
theorem mj_clamp (z : Int) : (Int32.ofInt z).toNatClampNeg = (mj_w z).toNat := by
  show (Int32.ofInt z).toInt.toNat = _
  rw [mj_toInt]
theorem mj_clampi {j : Int} {i : Nat} (h : mj_w j = (i : Int)) : (Int32.ofInt j).toNatClampNeg = i := by rw [mj_clamp, h]; omega
theorem mj_vpin {j : Int} {i n : Nat} (h : mj_w j = (i : Int)) (hi : i < n) : vp_in (Int32.ofInt j) n := by
  unfold vp_in
  rw [mj_clampi h, mj_z, mj_lt, mj_w0, h]
  omega
def mj_rf (B : mj_B) (ad : Nat → Nat) (r : mj_R) : Value := match r with
  | .inl q => .ref (ad q)
  | .inr 0 => .null
  | .inr 1 => .ref B.1.1
  | .inr (_ + 2) => .ref B.2
def mj_tv (B : mj_B) (ad : Nat → Nat) (v : mj_V) : Value := match v with
  | .inl x => .int (Int32.ofInt x)
  | .inr (.inl x) => .long (Int64.ofBitVec x)
  | .inr (.inr r) => mj_rf B ad r
def mj_ct (v : mj_V) : Nat := match v with
  | .inl _ => 1
  | .inr (.inl _) => 2
  | .inr (.inr _) => 1
theorem mj_rf_cat (B : mj_B) (ad : Nat → Nat) (r : mj_R) : (mj_rf B ad r).category = 1 := by
  rcases r with q | q
  · rfl
  · rcases q with _ | _ | q <;> rfl
theorem mj_tv_cat (B : mj_B) (ad : Nat → Nat) (v : mj_V) : (mj_tv B ad v).category = mj_ct v := by
  rcases v with x | x | r
  · rfl
  · rfl
  · exact mj_rf_cat B ad r
def mj_cts : List mj_V → Nat
  | [] => 0
  | v :: r => mj_ct v + mj_cts r
theorem mj_cts_eq (B : mj_B) (ad : Nat → Nat) (st : List mj_V) : ((st.map (mj_tv B ad)).map fun v => v.category).sum = mj_cts st := by
  induction st with
  | nil => rfl
  | cons v r ih => simp only [List.map_cons, List.sum_cons, mj_tv_cat, ih, mj_cts]
def mj_up {α : Type} (F : Nat → Nat → α) (q k : Nat) (x : α) : Nat → Nat → α := fun a b => if a = q then (if b = k then x else F a b) else F a b
theorem mj_up_ne {α : Type} {F : Nat → Nat → α} {q k a : Nat} {x : α} (h : a ≠ q) : mj_up F q k x a = F a := by
  funext b
  simp [mj_up, h]
theorem mj_up_eq {α : Type} {F : Nat → Nat → α} {q k b : Nat} {x : α} : mj_up F q k x q b = if b = k then x else F q b := by simp [mj_up]
/-! the world -/
/-- field k of an object of the class ci: an int (0), a reference (1), a long (2) -/
def mj_fv (B : mj_B) (ad : Nat → Nat) (t : Nat) (r : mj_R) (x : Int) (y : BitVec 64) : Value := match t with
  | 0 => .int (Int32.ofInt x)
  | 1 => mj_rf B ad r
  | _ => .long (Int64.ofBitVec y)
def mj_fs (B : mj_B) (ad : Nat → Nat) (ci : Nat) (FR : Nat → mj_R) (IA : Nat → Int) (LA : Nat → BitVec 64) : List Value := (List.range (mj_nf ci)).map fun k => mj_fv B ad (mj_kd ci k) (FR k) (IA k) (LA k)
def mj_ce (cs : Nat → ClassId) (B : mj_B) (ad : Nat → Nat) (sh : Nat × Nat) (FR : Nat → mj_R) (IA : Nat → Int) (LA : Nat → BitVec 64) : va_E :=
  if sh.1 < 3 then .inl (cs sh.1, sh.2, .inl fun j => Int32.ofInt (IA j))
  else if sh.1 = 3 then .inl (cs 3, sh.2, .inr (.inl fun j => Int64.ofBitVec (LA j)))
  else .inr (sh.1 - 4, mj_fs B ad (sh.1 - 4) FR IA LA)
def mj_W (cs : Nat → ClassId) (B : mj_B) (ad : Nat → Nat) (sh : mj_Sh) (FR : mj_FR) (IA : mj_FI) (LA : mj_LA) (n : Nat) : va_W := (List.range n).map fun q => (ad q, mj_ce cs B ad (sh q) (FR q) (IA q) (LA q))
def mj_ty (cs : Nat → ClassId) : List (ClassId × FieldType) := [(cs 0, .int), (cs 1, .byte), (cs 2, .boolean), (cs 3, .long)]
def mj_is (sh : mj_Sh) (n q t len : Nat) : Prop := q < n ∧ sh q = (t, len)
section WW
variable {cs : Nat → ClassId} {B : mj_B} {ad : Nat → Nat} {sh : mj_Sh} {FR FR' : mj_FR} {IA IA' : mj_FI} {LA LA' : mj_LA} {n q t len i k : Nat}
theorem mj_W_at (h : q < n) : (mj_W cs B ad sh FR IA LA n)[q]? = some (ad q, mj_ce cs B ad (sh q) (FR q) (IA q) (LA q)) := by
  simp [mj_W, List.getElem?_map, List.getElem?_range h]
theorem mj_W_len : (mj_W cs B ad sh FR IA LA n).length = n := by simp [mj_W]
theorem mj_W_set {x : va_E} (hq : q < n) (h2 : ∀ a, a ≠ q → FR' a = FR a) (h3 : ∀ a, a ≠ q → IA' a = IA a) (h4 : ∀ a, a ≠ q → LA' a = LA a)
    (hx : x = mj_ce cs B ad (sh q) (FR' q) (IA' q) (LA' q)) : (mj_W cs B ad sh FR IA LA n).set q (ad q, x) = mj_W cs B ad sh FR' IA' LA' n := by
  refine List.ext_getElem? fun i => ?_
  by_cases hi : i < n
  · by_cases e : q = i
    · subst e
      rw [List.getElem?_set_self (by rw [mj_W_len]; exact hi), mj_W_at hi, hx]
    · rw [List.getElem?_set_ne e, mj_W_at hi, mj_W_at hi, h2 i (Ne.symm e), h3 i (Ne.symm e), h4 i (Ne.symm e)]
  · rw [List.getElem?_eq_none (by rw [List.length_set, mj_W_len]; omega), List.getElem?_eq_none (by rw [mj_W_len]; omega)]
theorem mj_W_arr (h : mj_is sh n q t len) (ht : t < 3) : (mj_W cs B ad sh FR IA LA n)[q]? = some (ad q, .inl (cs t, len, .inl fun j => Int32.ofInt (IA q j))) := by
  rw [mj_W_at h.1, h.2]
  simp only [mj_ce, ht, if_true]
theorem mj_W_la (h : mj_is sh n q 3 len) : (mj_W cs B ad sh FR IA LA n)[q]? = some (ad q, .inl (cs 3, len, .inr (.inl fun j => Int64.ofBitVec (LA q j)))) := by
  rw [mj_W_at h.1, h.2]
  rfl
theorem mj_ce_ob {ci : Nat} {F : Nat → mj_R} {G : Nat → Int} {J : Nat → BitVec 64} : mj_ce cs B ad (ci + 4, len) F G J = .inr (ci, mj_fs B ad ci F G J) := by
  have h1 : ¬ (ci + 4 < 3) := by omega
  have h2 : ¬ (ci + 4 = 3) := by omega
  have h3 : ci + 4 - 4 = ci := by omega
  simp only [mj_ce, h1, h2, h3, if_false]
theorem mj_W_ob {ci : Nat} (h : mj_is sh n q (ci + 4) len) : (mj_W cs B ad sh FR IA LA n)[q]? = some (ad q, .inr (ci, mj_fs B ad ci (FR q) (IA q) (LA q))) := by
  rw [mj_W_at h.1, h.2, mj_ce_ob]
theorem mj_W_sa {x : Int} (h : mj_is sh n q t len) (ht : t < 3) : (mj_W cs B ad sh FR IA LA n).set q (ad q, .inl (cs t, len, .inl (upd (fun j => Int32.ofInt (IA q j)) i (Int32.ofInt x)))) = mj_W cs B ad sh FR (mj_up IA q i x) LA n := by
  refine mj_W_set h.1 (fun _ _ => rfl) (fun a ha => mj_up_ne ha) (fun _ _ => rfl) ?_
  rw [h.2]
  simp only [mj_ce, ht, if_true]
  congr 4
  funext j
  simp only [upd, mj_up_eq]
  split <;> rfl
theorem mj_W_sl {x : BitVec 64} (h : mj_is sh n q 3 len) : (mj_W cs B ad sh FR IA LA n).set q (ad q, .inl (cs 3, len, .inr (.inl (vp_updL (fun j => Int64.ofBitVec (LA q j)) i (Int64.ofBitVec x))))) = mj_W cs B ad sh FR IA (mj_up LA q i x) n := by
  refine mj_W_set h.1 (fun _ _ => rfl) (fun _ _ => rfl) (fun a ha => mj_up_ne ha) ?_
  rw [h.2]
  show (Sum.inl (cs 3, len, Sum.inr (Sum.inl (vp_updL (fun j => Int64.ofBitVec (LA q j)) i (Int64.ofBitVec x)))) : va_E) = Sum.inl (cs 3, len, Sum.inr (Sum.inl fun j => Int64.ofBitVec (mj_up LA q i x q j)))
  congr 5
  funext j
  simp only [vp_updL, mj_up_eq]
  split <;> rfl
theorem mj_fs_at {ci : Nat} {F : Nat → mj_R} {G : Nat → Int} {J : Nat → BitVec 64} (h : k < mj_nf ci) : (mj_fs B ad ci F G J)[k]? = some (mj_fv B ad (mj_kd ci k) (F k) (G k) (J k)) := by
  simp [mj_fs, List.getElem?_map, List.getElem?_range h]
theorem mj_fs_len {ci : Nat} {F : Nat → mj_R} {G : Nat → Int} {J : Nat → BitVec 64} : (mj_fs B ad ci F G J).length = mj_nf ci := by simp [mj_fs]
theorem mj_fs_set {ci : Nat} {F F' : Nat → mj_R} {G G' : Nat → Int} {J J' : Nat → BitVec 64} {v : Value} (hk : k < mj_nf ci) (h : ∀ i, i ≠ k → F' i = F i ∧ G' i = G i ∧ J' i = J i) (hv : v = mj_fv B ad (mj_kd ci k) (F' k) (G' k) (J' k)) : (mj_fs B ad ci F G J).set k v = mj_fs B ad ci F' G' J' := by
  refine List.ext_getElem? fun i => ?_
  by_cases hi : i < mj_nf ci
  · by_cases e : k = i
    · subst e
      rw [List.getElem?_set_self (by rw [mj_fs_len]; exact hi), mj_fs_at hi, hv]
    · rw [List.getElem?_set_ne e, mj_fs_at hi, mj_fs_at hi, (h i (Ne.symm e)).1, (h i (Ne.symm e)).2.1, (h i (Ne.symm e)).2.2]
  · rw [List.getElem?_eq_none (by rw [List.length_set, mj_fs_len]; omega), List.getElem?_eq_none (by rw [mj_fs_len]; omega)]
theorem mj_W_sI {ci : Nat} {x : Int} (h : mj_is sh n q (ci + 4) len) (hk : k < mj_nf ci) (h0 : mj_kd ci k = 0) : (mj_W cs B ad sh FR IA LA n).set q (ad q, .inr (ci, (mj_fs B ad ci (FR q) (IA q) (LA q)).set k (Value.int (Int32.ofInt x)))) = mj_W cs B ad sh FR (mj_up IA q k x) LA n := by
  refine mj_W_set h.1 (fun _ _ => rfl) (fun a ha => mj_up_ne ha) (fun _ _ => rfl) ?_
  rw [h.2, mj_ce_ob, mj_fs_set (G' := mj_up IA q k x q) hk (fun i hi => ⟨rfl, by rw [mj_up_eq, if_neg hi], rfl⟩) (by rw [h0, mj_up_eq, if_pos rfl]; rfl)]
theorem mj_W_sL {ci : Nat} {x : BitVec 64} (h : mj_is sh n q (ci + 4) len) (hk : k < mj_nf ci) (h0 : mj_kd ci k = 2) : (mj_W cs B ad sh FR IA LA n).set q (ad q, .inr (ci, (mj_fs B ad ci (FR q) (IA q) (LA q)).set k (Value.long (Int64.ofBitVec x)))) = mj_W cs B ad sh FR IA (mj_up LA q k x) n := by
  refine mj_W_set h.1 (fun _ _ => rfl) (fun _ _ => rfl) (fun a ha => mj_up_ne ha) ?_
  rw [h.2, mj_ce_ob, mj_fs_set (J' := mj_up LA q k x q) hk (fun i hi => ⟨rfl, rfl, by rw [mj_up_eq, if_neg hi]⟩) (by rw [h0, mj_up_eq, if_pos rfl]; rfl)]
theorem mj_W_sR {ci : Nat} {r : mj_R} (h : mj_is sh n q (ci + 4) len) (hk : k < mj_nf ci) (h0 : mj_kd ci k = 1) : (mj_W cs B ad sh FR IA LA n).set q (ad q, .inr (ci, (mj_fs B ad ci (FR q) (IA q) (LA q)).set k (mj_rf B ad r))) = mj_W cs B ad sh (mj_up FR q k r) IA LA n := by
  refine mj_W_set h.1 (fun a ha => mj_up_ne ha) (fun _ _ => rfl) (fun _ _ => rfl) ?_
  rw [h.2, mj_ce_ob, mj_fs_set (F' := mj_up FR q k r q) hk (fun i hi => ⟨by rw [mj_up_eq, if_neg hi], rfl, rfl⟩) (by rw [h0, mj_up_eq, if_pos rfl]; rfl)]
end WW
/-! locals -/
def mj_get : mj_L → Nat → Option mj_V
  | [], _ => none
  | x :: _, 0 => x
  | _ :: r, i + 1 => mj_get r i
def mj_set : mj_L → Nat → Option mj_V → mj_L
  | [], _, _ => []
  | _ :: r, 0, v => v :: r
  | x :: r, i + 1, v => x :: mj_set r i v
def mj_kl (ls : mj_L) (i : Nat) : mj_L := match i with
  | 0 => ls
  | j + 1 => match mj_get ls j with
    | some (.inr (.inl _)) => mj_set ls j none
    | _ => ls
def mj_ko (x : Option mj_V) : Option mj_V := match x with
  | some (.inr (.inl _)) => none
  | y => y
/-- store: in one pass, so that chains of stores stay cheap -/
def mj_s1 : mj_L → Nat → mj_V → mj_L
  | [], _, _ => []
  | _ :: r, 0, v => some v :: r
  | x :: r, 1, v => mj_ko x :: mj_set r 0 (some v)
  | x :: r, i + 2, v => x :: mj_s1 r (i + 1) v
theorem mj_s1_eq : ∀ (ls : mj_L) (i : Nat) (v : mj_V), mj_s1 ls i v = mj_set (mj_kl ls i) i (some v)
  | [], 0, _ => rfl
  | [], i + 1, _ => rfl
  | _ :: _, 0, _ => rfl
  | x :: r, 1, v => by
    rcases x with _ | x | x | x <;> rfl
  | x :: r, i + 2, v => by
    have ih := mj_s1_eq r (i + 1) v
    have e : mj_kl (x :: r) (i + 2) = x :: mj_kl r (i + 1) := by
      simp only [mj_kl, mj_get]
      split <;> simp_all [mj_set]
    rw [e]
    show x :: mj_s1 r (i + 1) v = x :: mj_set (mj_kl r (i + 1)) (i + 1) (some v)
    rw [ih]
def mj_s2 (ls : mj_L) (i : Nat) (v : mj_V) : mj_L := mj_set (mj_s1 ls i v) (i + 1) none
theorem mj_get_set : ∀ (ls : mj_L) (i k : Nat) (v : Option mj_V) (x : mj_V), mj_get (mj_set ls i v) k = some x → (k = i ∧ v = some x) ∨ (k ≠ i ∧ mj_get ls k = some x)
  | [], _, _, _, _, h => by simp [mj_set, mj_get] at h
  | _ :: _, 0, 0, _, _, h => Or.inl ⟨rfl, h⟩
  | _ :: _, 0, k + 1, _, _, h => Or.inr ⟨by omega, h⟩
  | _ :: _, i + 1, 0, _, _, h => Or.inr ⟨by omega, h⟩
  | _ :: r, i + 1, k + 1, v, x, h => by
    rcases mj_get_set r i k v x h with ⟨e, f⟩ | ⟨e, f⟩
    · exact Or.inl ⟨by omega, f⟩
    · exact Or.inr ⟨by omega, f⟩
theorem mj_get_kl {ls : mj_L} {i k : Nat} {x : mj_V} (h : mj_get (mj_kl ls i) k = some x) : mj_get ls k = some x ∧ ¬ (k + 1 = i ∧ mj_ct x = 2) := by
  cases i with
  | zero => exact ⟨h, fun z => by omega⟩
  | succ j =>
    unfold mj_kl at h
    dsimp only at h
    split at h
    · rcases mj_get_set _ _ _ _ _ h with ⟨_, e⟩ | ⟨e, f⟩
      · cases e
      · exact ⟨f, fun z => by omega⟩
    · rename_i hn
      refine ⟨h, fun z => ?_⟩
      obtain ⟨z1, z2⟩ := z
      have e : k = j := by omega
      subst e
      rcases x with x | x | x
      · cases z2
      · exact hn x h
      · cases z2
def mj_lv (B : mj_B) (ad : Nat → Nat) : Nat → mj_L → List (Nat × Value)
  | _, [] => []
  | i, none :: r => mj_lv B ad (i + 1) r
  | i, some v :: r => (i, mj_tv B ad v) :: mj_lv B ad (i + 1) r
theorem mj_lv_in (B : mj_B) (ad : Nat → Nat) : ∀ (ls : mj_L) (i k : Nat) (v : mj_V), mj_get ls k = some v → (i + k, mj_tv B ad v) ∈ mj_lv B ad i ls
  | [], _, _, _, h => by simp [mj_get] at h
  | none :: _, _, 0, _, h => by cases h
  | some u :: _, i, 0, v, h => by
    cases h
    exact List.mem_cons_self
  | none :: r, i, k + 1, v, h => by
    have := mj_lv_in B ad r (i + 1) k v h
    rw [show i + (k + 1) = i + 1 + k by omega]
    exact this
  | some u :: r, i, k + 1, v, h => by
    have := mj_lv_in B ad r (i + 1) k v h
    rw [show i + (k + 1) = i + 1 + k by omega]
    exact List.mem_cons_of_mem _ this
theorem mj_lv_out (B : mj_B) (ad : Nat → Nat) : ∀ (ls : mj_L) (i : Nat) (q : Nat × Value), q ∈ mj_lv B ad i ls → ∃ k v, q = (i + k, mj_tv B ad v) ∧ mj_get ls k = some v
  | [], _, _, h => by cases h
  | none :: r, i, q, h => by
    obtain ⟨k, v, e, f⟩ := mj_lv_out B ad r (i + 1) q h
    exact ⟨k + 1, v, by rw [e, show i + (k + 1) = i + 1 + k by omega], f⟩
  | some u :: r, i, q, h => by
    rcases List.mem_cons.mp h with e | h
    · exact ⟨0, u, e, rfl⟩
    · obtain ⟨k, v, e, f⟩ := mj_lv_out B ad r (i + 1) q h
      exact ⟨k + 1, v, by rw [e, show i + (k + 1) = i + 1 + k by omega], f⟩
def mj_Lr (B : mj_B) (ad : Nat → Nat) (lsr : Array Slot) (nL : Nat) (ls : mj_L) : Prop := lsr.size = nL ∧ lv_wf lsr ∧ ∀ (i : Nat) (v : mj_V), mj_get ls i = some v → lsr[i]? = some (.val (mj_tv B ad v))
theorem mj_Lr.has {B : mj_B} {ad : Nat → Nat} {lsr : Array Slot} {nL : Nat} {ls : mj_L} (h : mj_Lr B ad lsr nL ls) : lv_has lsr nL (mj_lv B ad 0 ls) := by
  refine ⟨h.1, h.2.1, fun q hq => ?_⟩
  obtain ⟨k, v, e, f⟩ := mj_lv_out B ad ls 0 q hq
  subst e
  have := h.2.2 k v f
  simpa using this
theorem mj_Lr.s1 {B : mj_B} {ad : Nat → Nat} {lsr : Array Slot} {nL i : Nat} {ls : mj_L} {v : mj_V} (h : lv_has lsr nL ((i, mj_tv B ad v) :: (mj_lv B ad 0 ls).filter (fun q => !(q.1 == i) && !(q.1 + 1 == i && q.2.category == 2)))) : mj_Lr B ad lsr nL (mj_s1 ls i v) := by
  refine ⟨h.1, h.2.1, fun k x hx => ?_⟩
  rw [mj_s1_eq] at hx
  rcases mj_get_set _ _ _ _ _ hx with ⟨e, f⟩ | ⟨hk, hx⟩
  · subst e
    cases f
    exact h.2.2 (k, _) List.mem_cons_self
  · obtain ⟨hx, hc⟩ := mj_get_kl hx
    have hm := mj_lv_in B ad ls 0 k x hx
    rw [Nat.zero_add] at hm
    refine h.2.2 (k, _) (List.mem_cons_of_mem _ (List.mem_filter.mpr ⟨hm, ?_⟩))
    simp only [mj_tv_cat, Bool.and_eq_true, Bool.not_eq_true', beq_eq_false_iff_ne, Bool.and_eq_false_iff]
    refine ⟨hk, ?_⟩
    by_cases e : k + 1 = i
    · exact Or.inr fun z => hc ⟨e, (mj_tv_cat B ad x).symm.trans z⟩
    · exact Or.inl e
theorem mj_Lr.s2 {B : mj_B} {ad : Nat → Nat} {lsr : Array Slot} {nL i : Nat} {ls : mj_L} {v : mj_V} (h : lv_has lsr nL ((i, mj_tv B ad v) :: (mj_lv B ad 0 ls).filter (fun q => !(q.1 == i) && (!(q.1 == i + 1) && !(q.1 + 1 == i && q.2.category == 2))))) : mj_Lr B ad lsr nL (mj_s2 ls i v) := by
  refine ⟨h.1, h.2.1, fun k x hx => ?_⟩
  unfold mj_s2 at hx
  rw [mj_s1_eq] at hx
  rcases mj_get_set _ _ _ _ _ hx with ⟨e, f⟩ | ⟨hk2, hx⟩
  · cases f
  rcases mj_get_set _ _ _ _ _ hx with ⟨e, f⟩ | ⟨hk, hx⟩
  · subst e
    cases f
    exact h.2.2 (k, _) List.mem_cons_self
  · obtain ⟨hx, hc⟩ := mj_get_kl hx
    have hm := mj_lv_in B ad ls 0 k x hx
    rw [Nat.zero_add] at hm
    refine h.2.2 (k, _) (List.mem_cons_of_mem _ (List.mem_filter.mpr ⟨hm, ?_⟩))
    simp only [mj_tv_cat, Bool.and_eq_true, Bool.not_eq_true', beq_eq_false_iff_ne, Bool.and_eq_false_iff]
    refine ⟨hk, hk2, ?_⟩
    by_cases e : k + 1 = i
    · exact Or.inr fun z => hc ⟨e, (mj_tv_cat B ad x).symm.trans z⟩
    · exact Or.inl e
