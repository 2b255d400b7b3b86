/-! CIRCUIT: enter -/
def mj_pl (P : mj_O → mj_FI → mj_LA → Prop) (sh : mj_Sh) (FR : mj_FR) (n : Nat) : mj_Q := fun o sh' FR' IA' LA' n' => sh' = sh ∧ FR' = FR ∧ n' = n ∧ P o IA' LA'
theorem nat_xor1 (a : Nat) : a ^^^ 1 = 2 * (a / 2) + (a + 1) % 2 := by
  have h1 : (a ^^^ 1) / 2 = a / 2 := by
    rw [Nat.xor_div_two]
    simp
  have h2 : (a ^^^ 1) % 2 = (a + 1) % 2 := by
    have h3 := @Nat.xor_mod_two_eq_one a 1
    omega
  omega
theorem nu_xorb {x y : Int} (h1 : 0 ≤ x) (h2 : x < 2147483647) (hy : y = 0 ∨ y = 1) : (Int32.ofInt x ^^^ Int32.ofInt y).toInt = if y = 0 then x else if x % 2 = 0 then x + 1 else x - 1 := by
  rcases hy with hy | hy
  · subst hy
    rw [if_pos rfl]
    show ((Int32.ofInt x).toBitVec ^^^ 0#32).toInt = x
    rw [BitVec.xor_zero]
    show (Int32.ofInt x).toInt = x
    rw [mj_toInt, mj_w_id (by omega) (by omega)]
  · subst hy
    rw [if_neg (by decide)]
    show ((Int32.ofInt x).toBitVec ^^^ 1#32).toInt = _
    have hx : ((Int32.ofInt x).toBitVec.toNat : Int) = x := by
      rw [nu_ofInt_toNat]
      omega
    have hn : ((Int32.ofInt x).toBitVec ^^^ 1#32).toNat = 2 * ((Int32.ofInt x).toBitVec.toNat / 2) + ((Int32.ofInt x).toBitVec.toNat + 1) % 2 := by
      rw [BitVec.toNat_xor]
      exact nat_xor1 _
    rw [nu_toInt_small (by omega), hn]
    split <;> omega
theorem C_h_congr {r r' : Nat → BitVec 64} {f f' : BitVec 64} : ∀ W, (∀ w, w < W → r w ^^^ f = r' w ^^^ f') → C_h r f W = C_h r' f' W
  | 0, _ => rfl
  | W + 1, h => by
    have ih := C_h_congr W (fun w hw => h w (by omega))
    have e : C_h r f W ^^^ r W ^^^ f = C_h r' f' W ^^^ r' W ^^^ f' := by rw [BitVec.xor_assoc, h W (by omega), ih, ← BitVec.xor_assoc]
    simp only [C_h]
    rw [e]
theorem C_si_refl {LA : mj_LA} {c s W : Nat} : C_si LA c s c s W := fun w _ => by rw [if_pos rfl, BitVec.xor_self]
theorem C_si_symm {LA : mj_LA} {c s d t W : Nat} (hm : LA d 9 = LA c 9) (h : C_si LA c s d t W) : C_si LA d t c s W := fun w hw => by
  have := h w hw
  rw [BitVec.xor_comm, this, hm]
  by_cases e : C_sb (C_rw LA c s 0) = C_sb (C_rw LA d t 0)
  · rw [if_pos e, if_pos e.symm]
  · rw [if_neg e, if_neg (fun z => e z.symm)]
theorem C_si_trans {LA : mj_LA} {c s d t e u W : Nat} (hm : LA d 9 = LA c 9) (h1 : C_si LA c s d t W) (h2 : C_si LA d t e u W) : C_si LA c s e u W := fun w hw => by
  have q1 := h1 w hw
  have q2 := h2 w hw
  have e0 : C_rw LA c s w ^^^ C_rw LA e u w = (C_rw LA c s w ^^^ C_rw LA d t w) ^^^ (C_rw LA d t w ^^^ C_rw LA e u w) := by
    rw [BitVec.xor_assoc, ← BitVec.xor_assoc (C_rw LA d t w), BitVec.xor_self, BitVec.zero_xor]
  rw [e0, q1, q2, hm]
  have b1 := C_sb_in (C_rw LA c s 0)
  have b2 := C_sb_in (C_rw LA d t 0)
  have b3 := C_sb_in (C_rw LA e u 0)
  by_cases e1 : C_sb (C_rw LA c s 0) = C_sb (C_rw LA d t 0)
  · rw [if_pos e1, BitVec.zero_xor, e1]
  · rw [if_neg e1]
    by_cases e2 : C_sb (C_rw LA d t 0) = C_sb (C_rw LA e u 0)
    · rw [if_pos e2, BitVec.xor_zero, ← e2, if_neg e1]
    · rw [if_neg e2, BitVec.xor_self, if_pos (by omega)]
theorem C_si_hs {LA : mj_LA} {c s d t W : Nat} (hm : LA d 9 = LA c 9) (h : C_si LA c s d t W) : C_hs LA c s W = C_hs LA d t W := by
  unfold C_hs
  refine C_h_congr W (fun w hw => ?_)
  have q := h w hw
  unfold C_fl
  rw [hm]
  have e0 : C_rw LA c s w = (C_rw LA c s w ^^^ C_rw LA d t w) ^^^ C_rw LA d t w := by rw [BitVec.xor_assoc, BitVec.xor_self, BitVec.xor_zero]
  have b1 := C_sb_in (C_rw LA c s 0)
  have b2 := C_sb_in (C_rw LA d t 0)
  rw [e0, q]
  by_cases e1 : C_sb (C_rw LA c s 0) = C_sb (C_rw LA d t 0)
  · rw [if_pos e1, BitVec.zero_xor, e1]
  · rw [if_neg e1]
    by_cases e2 : C_sb (C_rw LA c s 0) = 0
    · rw [if_pos e2, if_neg (by omega), BitVec.xor_zero, BitVec.xor_comm]
    · rw [if_neg e2, if_pos (by omega), BitVec.xor_zero, BitVec.xor_comm (LA c 9), BitVec.xor_assoc, BitVec.xor_self, BitVec.xor_zero]
/-- the literal of t that has the function of slot s -/
def C_lt (own : Nat → Int) (LA : mj_LA) (c t s : Nat) : Int := own t + if C_sb (C_rw LA c t 0) = C_sb (C_rw LA c s 0) then 0 else 1
/-- the slots en have been entered, ld lead -/
def se_V (IA : mj_FI) (LA : mj_LA) (c b W : Nat) (en ld : List Nat) : Prop :=
  (∀ s ∈ en, s < 315 ∧ LA (c + 11) s = C_hs LA c s W) ∧ bk_V (IA (c + 13)) (LA (c + 11)) ld ∧ IA c 3 = (ld.length : Int) ∧ ld.Sublist en ∧ en.Nodup ∧ ld.Pairwise (fun t u => ¬ C_si LA c t c u W) ∧
  (∀ s ∈ en, ∃ t ∈ ld, C_si LA c t c s W ∧ IA (c + 12) s = C_lt (IA (b + 2)) LA c t s) ∧ (∀ xs t ys, en = xs ++ t :: ys → t ∈ ld → ∀ u ∈ xs, ¬ C_si LA c u c t W)
theorem bk_add {B : Nat → Int} {H : Nat → BitVec 64} {ld : List Nat} {s p k : Nat} (h : bk_V B H ld) (hs : s < 315) (hl : ld.length < 315) (hp : p < 512) (hB : B p = -1) (hk : k < 512) (e : p = (bk_h (H s) + k) % 512) (hj : ∀ j, j < k → ¬ B ((bk_h (H s) + j) % 512) = -1) (hns : ¬ s ∈ ld) : bk_V (mj_u B p s) H (ld ++ [s]) := by
  obtain ⟨v1, v2, ps, v3, v4, v5, v6⟩ := h
  refine ⟨fun q hq => ?_, fun t ht => ?_, p :: ps, fun q hq hn => ?_, by rw [List.length_append, List.length_cons, List.length_singleton]; omega, by rw [List.length_append, List.length_singleton]; omega, fun q r hq hr he hn => ?_⟩
  · by_cases z : q = p
    · exact Or.inr ⟨s, by simp, by rw [z, mj_u_at]⟩
    · rw [mj_u_ne z]
      rcases v1 q hq with w | ⟨t, t1, t2⟩
      · exact Or.inl w
      · exact Or.inr ⟨t, List.mem_append_left _ t1, t2⟩
  · have nz : ∀ q : Nat, ¬ B q = -1 → ¬ mj_u B p s q = -1 := by
      intro q hq
      unfold mj_u
      split
      · omega
      · exact hq
    rcases List.mem_append.mp ht with ht | ht
    · obtain ⟨t1, k', t2, t3, t4⟩ := v2 t ht
      refine ⟨t1, k', t2, ?_, fun j hj => nz _ (t4 j hj)⟩
      rw [mj_u_ne]
      · exact t3
      · intro z
        rw [z, hB] at t3
        omega
    · have : t = s := by simpa using ht
      subst this
      exact ⟨hs, k, hk, by rw [← e, mj_u_at], fun j hj' => nz _ (hj j hj')⟩
  · by_cases z : q = p
    · rw [z]
      exact List.mem_cons_self
    · rw [mj_u_ne z] at hn
      exact List.mem_cons_of_mem _ (v3 q hq hn)
  · have hin : ∀ x, x < 512 → ¬ B x = (s : Int) := by
      intro x hx z
      rcases v1 x hx with w | ⟨t, t1, t2⟩
      · omega
      · have : t = s := by omega
        subst this
        exact hns t1
    by_cases z1 : q = p
    · by_cases z2 : r = p
      · rw [z1, z2]
      · rw [z1, mj_u_at, mj_u_ne z2] at he
        exact absurd he.symm (hin r hr)
    · rw [mj_u_ne z1] at he hn
      by_cases z2 : r = p
      · rw [z2, mj_u_at] at he
        exact absurd he (hin q hq)
      · rw [mj_u_ne z2] at he
        exact v6 q r hq hr he hn
theorem bk_H {B : Nat → Int} {H H' : Nat → BitVec 64} {ld : List Nat} (h : bk_V B H ld) (e : ∀ t ∈ ld, H' t = H t) : bk_V B H' ld := ⟨h.1, fun t ht => by rw [e t ht]; exact h.2.1 t ht, h.2.2⟩
theorem nd_two : ∀ (l : List Nat) (u t : Nat), u ∈ l → t ∈ l → u ≠ t → [u, t].Sublist l ∨ [t, u].Sublist l
  | [], u, t, h, _, _ => by simp at h
  | x :: r, u, t, hu, ht, hne => by
    rcases List.mem_cons.mp hu with e | hu2
    · rcases List.mem_cons.mp ht with e2 | ht2
      · exact absurd (e.trans e2.symm) hne
      · subst e
        exact Or.inl (List.Sublist.cons_cons _ (List.singleton_sublist.mpr ht2))
    · rcases List.mem_cons.mp ht with e2 | ht2
      · subst e2
        exact Or.inr (List.Sublist.cons_cons _ (List.singleton_sublist.mpr hu2))
      · rcases nd_two r u t hu2 ht2 hne with q | q
        · exact Or.inl (List.Sublist.cons _ q)
        · exact Or.inr (List.Sublist.cons _ q)
theorem app_last {en xs ys : List Nat} {s y : Nat} (h : en ++ [s] = xs ++ y :: ys) (hy : y ≠ s) : ∃ zs, en = xs ++ y :: zs := by
  rcases List.eq_nil_or_concat ys with e | ⟨zs, z, e⟩
  · subst e
    have := List.append_inj' h rfl
    have h2 := this.2
    simp at h2
    exact absurd h2.symm hy
  · subst e
    refine ⟨zs, ?_⟩
    have h2 : en ++ [s] = (xs ++ y :: zs) ++ [z] := by rw [h]; simp
    exact (List.append_inj' h2 rfl).1
theorem app_pre {en xs ys : List Nat} {s u : Nat} (h : en ++ [s] = xs ++ s :: ys) (hs : ¬ s ∈ en) (hn : (en ++ [s]).Nodup) (hu : u ∈ xs) : u ∈ en := by
  have h1 : u ∈ en ++ [s] := by
    rw [h]
    exact List.mem_append_left _ hu
  rcases List.mem_append.mp h1 with q | q
  · exact q
  · have e : u = s := by simpa using q
    subst e
    rw [h, List.nodup_append] at hn
    exact absurd rfl (hn.2.2 u hu u List.mem_cons_self)
section CC
variable {sh : mj_Sh} {FR : mj_FR} {IA : mj_FI} {LA : mj_LA} {n c b : Nat}
set_option maxHeartbeats 2000000 in
theorem ct_C_enter (h : isC sh FR n c b) (hN : isNet sh FR n b) (hap : c + 13 < b ∨ b + 8 < c ∨ (c < b ∧ b + 8 < c + 10)) {s W : Nat} {en ld : List Nat} (hs : s < 315) (hW : IA c 8 = (W : Int)) (hW2 : W ≤ 256) (hV : se_V IA LA c b W en ld) (hsn : ¬ s ∈ en) (hlen : en.length < 315) (hown : ∀ t ∈ en ++ [s], 0 ≤ IA (b + 2) t ∧ IA (b + 2) t ≤ 2001 ∧ IA (b + 2) t % 2 = 0) :
    mj_Ct m_C_enter [.inr (.inr (.inl c)), .inl s] sh FR IA LA n (mj_pl (fun o J K => o = .inl none ∧ K = mj_up LA (c + 11) s (C_hs LA c s W) ∧ (∀ q, q ≠ c → q ≠ c + 12 → q ≠ c + 13 → J q = IA q) ∧ (∀ k, k ≠ 3 → J c k = IA c k) ∧ ∃ ld', se_V J K c b W (en ++ [s]) ld') sh FR n) := by
  have hC := h
  obtain ⟨h0, r0, r4, r5, r6, r7, a4, a5, a6, a7⟩ := h
  generalize hK : mj_up LA (c + 11) s (C_hs LA c s W) = K
  have kr : ∀ t w, C_rw K c t w = C_rw LA c t w := fun t w => by
    unfold C_rw
    rw [← hK, mj_up_ne (by omega)]
  have k9 : K c 9 = LA c 9 := by rw [← hK, mj_up_ne (by omega)]
  have ksi : ∀ t u, C_si K c t c u W ↔ C_si LA c t c u W := fun t u => by
    unfold C_si
    simp only [kr, k9]
  have khs : ∀ t, C_hs K c t W = C_hs LA c t W := fun t => by
    have e : C_rw K c t = C_rw LA c t := funext fun w => kr t w
    unfold C_hs C_fl
    rw [e, k9]
  have klt : ∀ own t u, C_lt own K c t u = C_lt own LA c t u := fun own t u => by
    unfold C_lt
    rw [kr, kr]
  have kh : ∀ t, t ≠ s → K (c + 11) t = LA (c + 11) t := fun t ht => by rw [← hK, mj_up_k ht]
  have khs' : K (c + 11) s = C_hs K c s W := by rw [khs, ← hK, mj_up_at]
  obtain ⟨v1, v2, v3, v4, v5, v6, v7, v8⟩ := hV
  have hen : ∀ t ∈ en, t ≠ s := fun t ht e => hsn (e ▸ ht)
  have hV' : bk_V (IA (c + 13)) (K (c + 11)) ld := bk_H v2 (fun t ht => kh t (hen t (v4.subset ht)))
  have hld : ld.length ≤ en.length := v4.length_le
  have hid : ∀ t ∈ ld, IA (c + 12) t = IA (b + 2) t := by
    intro t ht
    obtain ⟨u, u1, u2, u3⟩ := v7 t (v4.subset ht)
    have : u = t := by
      by_cases z : u = t
      · exact z
      · exfalso
        have hp : ∀ a d, [a, d].Sublist ld → ¬ C_si LA c a c d W := fun a d z => List.pairwise_iff_forall_sublist.mp v6 z
        rcases nd_two ld u t u1 ht z with q | q
        · exact hp _ _ q u2
        · exact hp _ _ q (C_si_symm rfl u2)
    subst this
    rw [u3]
    unfold C_lt
    rw [if_pos rfl, Int.add_zero]
  have hh : ∀ t ∈ ld, C_si K c t c s W → K (c + 11) t = K (c + 11) s := fun t ht hsi => by
    rw [kh t (hen t (v4.subset ht)), (v1 t (v4.subset ht)).2, khs', khs]
    exact C_si_hs rfl ((ksi t s).mp hsi)
  refine mj_Ct_of (by decide +kernel) (by decide) (Nat.le_of_ble_eq_true rfl) ?_
  refine mj_go z_C_enter [] 60 ?_
  refine And.intro h0 (Exists.intro _ (And.intro r5 ?_))
  refine And.intro h0 (And.intro (Nat.le_of_ble_eq_true rfl) (And.intro (Nat.le_of_ble_eq_true rfl) (And.intro (Nat.le_of_ble_eq_true rfl) (Exists.intro _ (And.intro (ct_C_hashOf hC hs hW hW2) ?_)))))
  rintro r9 sh9 FR9 IA9 LA9 n9 ⟨z0, z1, z2, z3, z4, z5⟩
  subst z0
  replace z1 := z1.symm
  subst z1
  replace z2 := z2.symm
  subst z2
  replace z3 := z3.symm
  subst z3
  replace z4 := z4.symm
  subst z4
  replace z5 := z5.symm
  subst z5
  refine And.intro (Or.inl rfl) ?_
  refine Exists.intro _ (Exists.intro (s) (And.intro a5 (And.intro (by first | (rw [mj_w_id (by omega) (by omega)]; done) | (rw [mj_w_id (by omega) (by omega)]; omega) | (unfold mj_w; omega)) (And.intro (by omega) ?_))))
  rw [hK]
  refine And.intro h0 (And.intro (Nat.le_of_ble_eq_true rfl) (And.intro (Nat.le_of_ble_eq_true rfl) (And.intro (Nat.le_of_ble_eq_true rfl) (Exists.intro _ (And.intro (ct_C_bucketFor (LA := K) hC hC hs hW hW2 hV') ?_)))))
  rintro o1 sh9 FR9 J1 LA9 n9 ⟨z1, z2, z3, z4, hp1⟩
  replace z1 := z1.symm
  subst z1
  replace z2 := z2.symm
  subst z2
  replace z3 := z3.symm
  subst z3
  replace z4 := z4.symm
  subst z4
  obtain ⟨hJ, p, ho, hp, hq⟩ := hp1
  replace hJ := hJ.symm
  subst hJ
  subst ho
  have w1 : ∀ t ∈ en ++ [s], t < 315 ∧ K (c + 11) t = C_hs K c t W := fun t ht => by
    rcases List.mem_append.mp ht with ht | ht
    · rw [kh t (hen t ht), khs]
      exact v1 t ht
    · have : t = s := by simpa using ht
      subst this
      exact ⟨hs, khs'⟩
  have w5 : (en ++ [s]).Nodup := by
    rw [List.nodup_append]
    refine ⟨v5, by simp, fun x hx y hy e => ?_⟩
    have : y = s := by simpa using hy
    subst this
    subst e
    exact hsn hx
  refine And.intro (Or.inl rfl) ?_
  refine And.intro h0 (Exists.intro _ (And.intro r7 ?_))
  refine Exists.intro _ (Exists.intro (p) (And.intro a7 (And.intro (by first | (rw [mj_w_id (by omega) (by omega)]; done) | (rw [mj_w_id (by omega) (by omega)]; omega) | (unfold mj_w; omega)) (And.intro (by omega) ?_))))
  rcases hq with ⟨t, t1, t2, t3, t4⟩ | ⟨hB, hno, k, q1, q2, q3⟩
  · have tlt := (v1 t (v4.subset t1)).1
    rw [t2]
    refine And.intro (fun e => ?_) (fun e => ?_)
    · refine And.intro h0 (Exists.intro _ (And.intro r6 ?_))
      refine And.intro h0 (Exists.intro _ (And.intro r6 ?_))
      refine Exists.intro _ (Exists.intro (t) (And.intro a6 (And.intro (by first | (rw [mj_w_id (by omega) (by omega)]; done) | (rw [mj_w_id (by omega) (by omega)]; omega) | (unfold mj_w; omega)) (And.intro (by omega) ?_))))
      rw [hid t t1]
      refine And.intro h0 (And.intro (Nat.le_of_ble_eq_true rfl) (And.intro (Nat.le_of_ble_eq_true rfl) (And.intro (Nat.le_of_ble_eq_true rfl) (Exists.intro _ (And.intro (ct_C_startBit (LA := K) hC tlt) ?_)))))
      rintro r9 sh9 FR9 IA9 LA9 n9 ⟨z0, z1, z2, z3, z4, z5⟩
      subst z0
      replace z1 := z1.symm
      subst z1
      replace z2 := z2.symm
      subst z2
      replace z3 := z3.symm
      subst z3
      replace z4 := z4.symm
      subst z4
      replace z5 := z5.symm
      subst z5
      refine And.intro (Or.inl rfl) ?_
      have ho := hown t (List.mem_append_left _ (v4.subset t1))
      have b1 := C_sb_in (C_rw K c t 0)
      have b2 := C_sb_in (C_rw K c s 0)
      refine Exists.intro (IA (b + 2) t + C_sb (C_rw K c t 0)) (And.intro ((nu_xorb ho.1 (by omega) b1).trans (by rcases b1 with e | e <;> rw [e] <;> simp [ho.2.2])) ?_)
      refine And.intro h0 (And.intro (Nat.le_of_ble_eq_true rfl) (And.intro (Nat.le_of_ble_eq_true rfl) (And.intro (Nat.le_of_ble_eq_true rfl) (Exists.intro _ (And.intro (ct_C_startBit (LA := K) hC hs) ?_)))))
      rintro r9 sh9 FR9 IA9 LA9 n9 ⟨z0, z1, z2, z3, z4, z5⟩
      subst z0
      replace z1 := z1.symm
      subst z1
      replace z2 := z2.symm
      subst z2
      replace z3 := z3.symm
      subst z3
      replace z4 := z4.symm
      subst z4
      replace z5 := z5.symm
      subst z5
      refine And.intro (Or.inl rfl) ?_
      refine Exists.intro (C_lt (IA (b + 2)) K c t s) (And.intro ((nu_xorb (by omega) (by omega) b2).trans (by unfold C_lt; rcases b1 with e | e <;> rcases b2 with e2 | e2 <;> rw [e, e2] <;> simp <;> omega)) ?_)
      refine Exists.intro _ (Exists.intro (s) (And.intro a6 (And.intro (by first | (rw [mj_w_id (by omega) (by omega)]; done) | (rw [mj_w_id (by omega) (by omega)]; omega) | (unfold mj_w; omega)) (And.intro (by omega) ?_))))
      refine ⟨⟨rfl, rfl, rfl, rfl, rfl, fun q h1 h2 h3 => mj_up_ne h2, fun k _ => by rw [mj_up_ne (by omega)], ld, w1, ?_, ?_, v4.trans (List.sublist_append_left _ _), w5, ?_, ?_, ?_⟩, Nat.le_of_ble_eq_true rfl, Nat.le_of_ble_eq_true rfl⟩
      · rw [mj_up_ne (by omega)]
        exact hV'
      · rw [mj_up_ne (by omega)]
        exact v3
      · exact v6.imp (fun q z => q ((ksi _ _).mp z))
      · intro u hu
        rw [mj_up_ne (show b + 2 ≠ c + 12 by omega), mj_up_row]
        rcases List.mem_append.mp hu with hu | hu
        · obtain ⟨y, y1, y2, y3⟩ := v7 u hu
          exact ⟨y, y1, (ksi _ _).mpr y2, by rw [mj_u_ne (hen u hu), klt]; exact y3⟩
        · have : u = s := by simpa using hu
          subst this
          exact ⟨t, t1, t4, mj_u_at⟩
      · intro xs y ys he hy u hu
        rw [ksi]
        have hy2 : y ∈ en := v4.subset hy
        obtain ⟨zs, hz⟩ := app_last he (fun z => hen y hy2 z)
        exact v8 xs y zs hz hy u hu
    · have e := Classical.not_not.mp e
      simp (disch := (clear e; omega)) only [mj_w_id] at e
      omega
  · rw [hB]
    have hns : ¬ s ∈ ld := fun z => hsn (v4.subset z)
    have hnsi : ∀ t ∈ ld, ¬ C_si K c t c s W := fun t ht z => hno t ht ⟨hh t ht z, z⟩
    refine And.intro (fun e => ?_) (fun e => ?_)
    · exact absurd rfl e
    · refine And.intro h0 (Exists.intro _ (And.intro r7 ?_))
      refine Exists.intro _ (Exists.intro (p) (And.intro a7 (And.intro (by first | (rw [mj_w_id (by omega) (by omega)]; done) | (rw [mj_w_id (by omega) (by omega)]; omega) | (unfold mj_w; omega)) (And.intro (by omega) ?_))))
      refine And.intro h0 (Exists.intro _ (And.intro r6 ?_))
      refine And.intro h0 (Exists.intro _ (And.intro r0 ?_))
      refine And.intro hN.1 (Exists.intro _ (And.intro hN.2.2.1 ?_))
      refine Exists.intro _ (Exists.intro (s) (And.intro hN.2.2.2.2.2.2.2.2.2.2.1 (And.intro (by first | (rw [mj_w_id (by omega) (by omega)]; done) | (rw [mj_w_id (by omega) (by omega)]; omega) | (unfold mj_w; omega)) (And.intro (by omega) ?_))))
      rw [mj_up_ne (show b + 2 ≠ c + 13 by omega)]
      refine Exists.intro _ (Exists.intro (s) (And.intro a6 (And.intro (by first | (rw [mj_w_id (by omega) (by omega)]; done) | (rw [mj_w_id (by omega) (by omega)]; omega) | (unfold mj_w; omega)) (And.intro (by omega) ?_))))
      refine And.intro rfl ?_
      refine And.intro h0 ?_
      rw [mj_up_ne (show c ≠ c + 12 by omega), mj_up_ne (show c ≠ c + 13 by omega), v3]
      refine Exists.intro (((ld.length + 1 : Nat) : Int)) (And.intro (by first | (rw [mj_w_id (by omega) (by omega)]; done) | (rw [mj_w_id (by omega) (by omega)]; omega) | (unfold mj_w; omega)) ?_)
      refine And.intro h0 ?_
      refine ⟨⟨rfl, rfl, rfl, rfl, rfl, fun q h1 h2 h3 => by rw [mj_up_ne h1, mj_up_ne h2, mj_up_ne h3], fun k hk => by rw [mj_up_k hk, mj_up_ne (by omega), mj_up_ne (by omega)], ld ++ [s], w1, ?_, ?_, ?_, w5, ?_, ?_, ?_⟩, Nat.le_of_ble_eq_true rfl, Nat.le_of_ble_eq_true rfl⟩
      · rw [mj_up_ne (by omega), mj_up_ne (by omega), mj_up_row]
        exact bk_add hV' hs (by omega) hp hB q1 q2 q3 hns
      · rw [mj_up_at, List.length_append, List.length_singleton]
      · exact v4.append (List.Sublist.refl _)
      · rw [List.pairwise_append]
        refine ⟨v6.imp (fun q z => q ((ksi _ _).mp z)), List.pairwise_singleton _ _, fun t ht u hu => ?_⟩
        have : u = s := by simpa using hu
        subst this
        exact hnsi t ht
      · intro u hu
        rw [mj_up_ne (show b + 2 ≠ c by omega), mj_up_ne (show b + 2 ≠ c + 12 by omega), mj_up_ne (show b + 2 ≠ c + 13 by omega), mj_up_ne (show c + 12 ≠ c by omega), mj_up_row]
        rcases List.mem_append.mp hu with hu | hu
        · obtain ⟨y, y1, y2, y3⟩ := v7 u hu
          exact ⟨y, List.mem_append_left _ y1, (ksi _ _).mpr y2, by rw [mj_u_ne (hen u hu), klt, mj_up_ne (by omega)]; exact y3⟩
        · have : u = s := by simpa using hu
          subst this
          exact ⟨u, by simp, C_si_refl, by rw [mj_u_at]; unfold C_lt; rw [if_pos rfl, Int.add_zero]⟩
      · intro xs y ys he hy u hu
        rcases List.mem_append.mp hy with hy | hy
        · rw [ksi]
          have hy2 : y ∈ en := v4.subset hy
          obtain ⟨zs, hz⟩ := app_last he (fun z => hen y hy2 z)
          exact v8 xs y zs hz hy u hu
        · have : y = s := by simpa using hy
          subst this
          have hu2 : u ∈ en := app_pre he hsn w5 hu
          intro z
          obtain ⟨t, t1, t2, t3⟩ := v7 u hu2
          exact hnsi t t1 ((ksi _ _).mpr (C_si_trans rfl t2 ((ksi _ _).mp z)))
end CC
