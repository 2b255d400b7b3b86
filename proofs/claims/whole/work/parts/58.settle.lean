/-! CIRCUIT: settle -/
def C_W (I : Nat) : Nat := if I < 6 then 1 else 2 ^ (I - 6)
def C_mk (I : Nat) : BitVec 64 := if I < 6 then (1#64 <<< (2 ^ I)) - 1#64 else 0xFFFFFFFFFFFFFFFF#64
theorem C_W_le {I : Nat} (h : I ≤ 14) : 1 ≤ C_W I ∧ C_W I ≤ 256 := by
  unfold C_W
  split
  · omega
  · have h1 : 2 ^ (I - 6) ≤ 2 ^ 8 := Nat.pow_le_pow_right (by decide) (by omega)
    have h2 : 0 < 2 ^ (I - 6) := Nat.two_pow_pos _
    omega
theorem nu_shl1 : ∀ k : Fin 31, (Int32.ofInt 1 <<< (Int32.ofInt (k.val : Int) &&& 31)).toInt = ((2 ^ k.val : Nat) : Int) := by decide +kernel
theorem nu_lshl1 : ∀ k : Fin 6, (Int64.ofBitVec 1#64 <<< ((Int32.ofInt ((2 ^ k.val : Nat) : Int)).toInt64 &&& 63)).toBitVec = 1#64 <<< (2 ^ k.val) := by decide +kernel
/-- the tables of slots: what the words of a circuit with the fanins l, r must be -/
def tb_E (IA : mj_FI) (LA : mj_LA) (c b I : Nat) (gs : List Nat) : Prop := (∀ w, w < C_W I → C_rw LA c 0 w = 0#64) ∧ (∀ k, k < I → ∀ w, w < C_W I → C_rw LA c (1 + k) w = C_iw k w (C_mk I)) ∧
  (∀ s ∈ gs, ∀ w, w < C_W I → C_rw LA c s w = C_gw LA c (nF (IA (b + 1)) (IA (b + 3)) s) (nF (IA (b + 1)) (IA (b + 4)) s) (IA (b + 3) s) (IA (b + 4) s) w)
/-- se_V sees the words of what was entered alone -/
theorem se_V_row {IA J : mj_FI} {LA K : mj_LA} {c b W : Nat} {en ld : List Nat} (h : se_V IA LA c b W en ld) (hW : 1 ≤ W) (h1 : K (c + 11) = LA (c + 11)) (h9 : K c 9 = LA c 9) (hr : ∀ s ∈ en, ∀ w, w < W → C_rw K c s w = C_rw LA c s w) (e13 : J (c + 13) = IA (c + 13)) (e12 : J (c + 12) = IA (c + 12)) (e3 : J c 3 = IA c 3) (eb : J (b + 2) = IA (b + 2)) : se_V J K c b W en ld := by
  obtain ⟨v1, v2, v3, v4, v5, v6, v7, v8⟩ := h
  have h0 : ∀ s ∈ en, C_rw K c s 0 = C_rw LA c s 0 := fun s hs => hr s hs 0 (by omega)
  have hsi : ∀ s ∈ en, ∀ t ∈ en, C_si K c s c t W ↔ C_si LA c s c t W := fun s hs t ht => by
    unfold C_si
    rw [h0 s hs, h0 t ht, h9]
    exact ⟨fun z w hw => by rw [← hr s hs w hw, ← hr t ht w hw]; exact z w hw, fun z w hw => by rw [hr s hs w hw, hr t ht w hw]; exact z w hw⟩
  have hhs : ∀ s ∈ en, C_hs K c s W = C_hs LA c s W := fun s hs => by
    unfold C_hs
    have e : C_fl K c s = C_fl LA c s := by
      unfold C_fl
      rw [h0 s hs, h9]
    rw [e]
    exact C_h_congr W (fun w hw => by rw [hr s hs w hw])
  refine ⟨fun s hs => ⟨(v1 s hs).1, by rw [h1, hhs s hs]; exact (v1 s hs).2⟩, by rw [e13, h1]; exact v2, by rw [e3]; exact v3, v4, v5, ?_, fun s hs => ?_, fun xs t ys he ht u hu => ?_⟩
  · refine List.Pairwise.imp_of_mem ?_ v6
    intro a d ha hd q z
    exact q ((hsi a (v4.subset ha) d (v4.subset hd)).mp z)
  · obtain ⟨t, t1, t2, t3⟩ := v7 s hs
    refine ⟨t, t1, (hsi t (v4.subset t1) s hs).mpr t2, ?_⟩
    rw [e12, eb, t3]
    unfold C_lt
    rw [h0 t (v4.subset t1), h0 s hs]
  · have u1 : u ∈ en := by rw [he]; exact List.mem_append_left _ hu
    rw [hsi u u1 t (v4.subset ht)]
    exact v8 xs t ys he ht u hu
/-- what settle may change -/
def se_f (IA J : mj_FI) (LA K : mj_LA) (c : Nat) : Prop := (∀ q, q ≠ c → q ≠ c + 12 → q ≠ c + 13 → J q = IA q) ∧ (∀ k, k ≠ 3 → k ≠ 8 → J c k = IA c k) ∧ (∀ q, q ≠ c → q ≠ c + 10 → q ≠ c + 11 → K q = LA q) ∧ (∀ j, j < 256 → K (c + 10) j = LA (c + 10) j)
theorem se_f.trans {IA J J' : mj_FI} {LA K K' : mj_LA} {c : Nat} (h1 : se_f IA J LA K c) (h2 : se_f J J' K K' c) : se_f IA J' LA K' c :=
  ⟨fun q a b d => (h2.1 q a b d).trans (h1.1 q a b d), fun k a b => (h2.2.1 k a b).trans (h1.2.1 k a b), fun q a b d => (h2.2.2.1 q a b d).trans (h1.2.2.1 q a b d), fun j hj => (h2.2.2.2 j hj).trans (h1.2.2.2 j hj)⟩
theorem C_st_f {J : mj_FI} {LA : mj_LA} {c s W : Nat} {f : Nat → BitVec 64} (hs : 1 ≤ s) : se_f J J LA (C_st LA c s f W) c :=
  ⟨fun _ _ _ _ => rfl, fun _ _ _ => rfl, fun q _ h _ => C_st_o h, fun j hj => by unfold C_st; rw [if_neg (by omega)]⟩
