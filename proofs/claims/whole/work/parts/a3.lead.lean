/-! THE TWO SIDES COUPLED: leaders -/
theorem mk_in {I v : Nat} (hv : v < 2 ^ I) : (C_mk I).getLsbD (v % 64) = true := by
  by_cases e : I < 6
  · have h1 : 2 ^ I ≤ 2 ^ 6 := Nat.pow_le_pow_right (by decide) (by omega)
    rw [show C_mk I = (1#64 <<< (2 ^ I)) - 1#64 from if_pos e]
    have := mk_bit ⟨I, e⟩ ⟨v % 64, by omega⟩
    simp only [] at this
    rw [this]
    exact decide_eq_true (by omega)
  · rw [show C_mk I = 0xFFFFFFFFFFFFFFFF#64 from if_neg e]
    exact ones_bit (by omega)
section PP
variable {IA : mj_FI} {LA : mj_LA} {x c b m I O G : Nat} {od ld : List Nat}
/-- input k at vector v -/
theorem in_bit (h : cS IA LA c b m I O G od ld) {k v : Nat} (hk : k < I) (hv : v < 2 ^ I) : C_bt LA c (1 + k) 0 v = decide (v / 2 ^ k % 2 = 1) := by
  have hN := h.N
  have hE := h.2.2.2.1.2.1 k hk (v / 64) (by omega)
  have sp : 64 * (v / 64) + v % 64 = v := by omega
  unfold C_bt C_lw
  rw [hE, if_pos (by decide), BitVec.xor_zero]
  unfold C_iw
  by_cases e : k < 6
  · have q := iw_bits ⟨k, e⟩ ⟨v % 64, by omega⟩
    simp only [] at q
    have q2 := k6_md (w := v / 64) (i := v % 64) e
    rw [sp] at q2
    rw [if_pos e, BitVec.getLsbD_and, q, mk_in hv, Bool.and_true, q2]
  · have q2 := (k6_dv (w := v / 64) (i := v % 64) e (by omega)).1
    rw [sp] at q2
    rw [if_neg e, q2]
    by_cases z : v / 64 / 2 ^ (k - 6) % 2 = 0
    · rw [if_pos z, BitVec.getLsbD_zero, decide_eq_false (by omega)]
    · rw [if_neg z, ones_bit (by omega), decide_eq_true (by omega)]
theorem sl_val (h : cS IA LA c b m I O G od ld) {t v : Nat} (ht : t ≤ I) (hv : v < 2 ^ I) : C_bt LA c t 0 v = (decide (1 ≤ t) && decide (v / 2 ^ (t - 1) % 2 = 1)) := by
  rcases Nat.eq_zero_or_pos t with z | z
  · subst z
    have hN := h.N
    unfold C_bt C_lw
    rw [h.2.2.2.1.1 (v / 64) (by omega), if_pos (by decide), BitVec.xor_zero, BitVec.getLsbD_zero]
    rfl
  · have := in_bit h (k := t - 1) (by omega) hv
    rw [show 1 + (t - 1) = t by omega] at this
    rw [this, decide_eq_true (show 1 ≤ t from z), Bool.true_and]
theorem in_ne1 (h : cS IA LA c b m I O G od ld) {a d : Nat} (hd : d ≤ I) (hne : a < d) : ¬ C_si LA c a c d (C_W I) := by
  intro hs
  have hI := h.1.1.2.1
  have hW := (C_W_le hI).1
  have hN := h.N
  rw [si_lw (I := I) h.2.2.1 h.2.2.1 hW 0 0] at hs
  rcases hs with q | q
  · have hp : 2 ^ (d - 1) < 2 ^ I := Nat.pow_lt_pow_right (by decide) (by omega)
    have key : C_bt LA c a 0 (2 ^ (d - 1)) = C_bt LA c d 0 (2 ^ (d - 1)) := by
      unfold C_bt
      rw [q _ (by omega)]
    rw [sl_val h (by omega) hp, sl_val h hd hp, Nat.div_self (Nat.two_pow_pos _), decide_eq_true (show 1 ≤ d by omega)] at key
    have e1 : (decide (1 ≤ a) && decide (2 ^ (d - 1) / 2 ^ (a - 1) % 2 = 1)) = false := by
      rcases Nat.eq_zero_or_pos a with z | z
      · subst z
        rfl
      · rw [Nat.pow_div (by omega) (by decide), show d - 1 - (a - 1) = (d - a - 1) + 1 by omega, Nat.pow_succ, decide_eq_false (show ¬ 2 ^ (d - a - 1) * 2 % 2 = 1 by omega), Bool.and_false]
    rw [e1] at key
    exact absurd key (by decide)
  · have e0 : ∀ t, t ≤ I → (C_lw LA c t 0 0).getLsbD 0 = false := fun t ht => by
      have : C_bt LA c t 0 0 = false := by
        rw [sl_val h ht (Nat.two_pow_pos I), Nat.zero_div]
        simp
      exact this
    have q0 := q 0 (by omega)
    have q1 : (C_lw LA c a 0 0).getLsbD 0 = (C_lw LA c d 0 0 ^^^ C_mk I).getLsbD 0 := by rw [q0]
    rw [BitVec.getLsbD_xor, e0 a (by omega), e0 d hd, C_mk0] at q1
    exact absurd q1 (by decide)
theorem in_ne (h : cS IA LA c b m I O G od ld) {a d : Nat} (ha : a ≤ I) (hd : d ≤ I) (hne : a ≠ d) : ¬ C_si LA c a c d (C_W I) := by
  rcases Nat.lt_or_gt_of_ne hne with q | q
  · exact in_ne1 h hd q
  · exact fun z => in_ne1 h ha q (C_si_symm rfl z)
/-- the order in which slots are entered -/
def en_R (IA : mj_FI) (b I a d : Nat) : Prop := (a ≤ I ∧ d ≤ I) ∨ ar_lx (IA (b + 6)) (IA (b + 2)) a d
theorem en_pw (hA : nA IA b m I O G od) : (List.range (I + 1) ++ od).Pairwise (en_R IA b I) := by
  rw [List.pairwise_append]
  refine ⟨List.pairwise_of_forall_mem_list (fun a ha d hd => ?_), hA.2.2.1.2.2.2.1.imp (fun h => Or.inr h), fun a ha d hd => Or.inr (Or.inl ?_)⟩
  · rw [List.mem_range] at ha hd
    exact Or.inl ⟨by omega, by omega⟩
  · rw [List.mem_range] at ha
    have h1 := (hA.dp (Or.inl (by omega : a ≤ I))).2.2.1 (by omega)
    have h2 := (hA.od.2.2 d).mp hd
    have h3 := ((hA.dp (Or.inr h2)).2.2.2 h2).1
    omega
theorem lead_before (h : cS IA LA c b m I O G od ld) {t u : Nat} (ht : t ∈ ld) (hu : nS I G u) (hsi : C_si LA c u c t (C_W I)) : u = t ∨ en_R IA b I t u := by
  have hV := h.2.2.2.2.1
  have hen : t ∈ List.range (I + 1) ++ od := hV.2.2.2.1.subset ht
  obtain ⟨xs, ys, e⟩ := List.append_of_mem hen
  have hu2 : u ∈ List.range (I + 1) ++ od := h.en.mpr hu
  rw [e] at hu2
  rcases List.mem_append.mp hu2 with q | q
  · exact absurd hsi (hV.2.2.2.2.2.2.2 xs t ys e ht u q)
  · rcases List.mem_cons.mp q with q | q
    · exact Or.inl q
    · have pw := en_pw h.1
      rw [e, List.pairwise_append] at pw
      exact Or.inr ((List.pairwise_cons.mp pw.2.1).1 u q)
/-- a slot's variable leads back to it -/
theorem own_so (h : cp IA LA x c b m I O G od ld) {s : Nat} (hs : nS I G s) : IA (b + 1) (IA (b + 2) s / 2).toNat = (s : Int) ∧ 0 ≤ IA (b + 2) s ∧ IA (b + 2) s ≤ 2 * (m : Int) ∧ IA (b + 2) s % 2 = 0 := by
  obtain ⟨w1, w2, w3, w4, w5, w6, w7, w8, w9, V, wg, wo⟩ := h.W
  rcases Nat.eq_zero_or_pos s with z | z
  · subst z
    have e := h.1.1.2.2.2.2
    rw [e]
    exact ⟨V.1, by omega, by omega, by omega⟩
  · obtain ⟨j, j1, j2, j3, j4⟩ := V.2.2 s z (by unfold nS lf_g at hs; omega)
    rw [j3, show (2 * (j : Int) / 2).toNat = j by omega]
    exact ⟨j4, by omega, by omega, by omega⟩
theorem cp.va (h : cp IA LA x c b m I O G od ld) {s : Nat} (hs : nS I G s) : 2 * M_va IA x (rN I s) = IA (b + 2) s := by
  have hI := h.W.2.1
  have h2 := own_so h hs
  have hN := h.2.1
  unfold M_va
  rcases hs with e | e
  · rw [rN_i e]
    rcases Nat.eq_zero_or_pos s with z | z
    · rw [if_pos z, z, h.1.1.2.2.2.2]
      rfl
    · have h3 := hN.2.2.2.2.2.1 (s - 1) (by omega)
      rw [show 1 + (s - 1) = s by omega] at h3
      rw [if_neg (by omega), if_pos (by omega), show 14 * x + s - 1 = 14 * x + (s - 1) by omega, h3]
      omega
  · unfold lf_g at e
    have h3 := (hN.2.2.2.2.2.2.1 (s - I - 1) (by omega)).1
    rw [show I + 1 + (s - I - 1) = s by omega] at h3
    have e2 : rN I s = 15 + (s - I - 1) := by unfold rN; rw [if_neg (by omega)]
    rw [e2, if_neg (by omega), if_neg (by omega), show 300 * x + (15 + (s - I - 1)) - 15 = 300 * x + (s - I - 1) by omega, h3]
    omega
theorem cp.vr (h : cp IA LA x c b m I O G od ld) : M_vr IA x I G := by
  have hN := h.2.1
  refine ⟨fun k hk => ?_, fun k hk => ?_, fun r hr => ?_⟩
  · rw [hN.2.2.2.2.2.1 k hk]
    exact (own_so h (Or.inl (by omega))).2.1
  · rw [(hN.2.2.2.2.2.2.1 k hk).1]
    exact (own_so h (Or.inr ⟨by omega, by omega⟩)).2.1
  · obtain ⟨hs, e⟩ := rI_N hr
    have hv := h.va hs
    have ho := own_so h hs
    rw [e] at hv
    have hm := h.W.1
    refine ⟨by omega, ?_⟩
    rw [show (M_va IA x r) = IA (b + 2) (rI I r) / 2 by omega, h.row (by omega), ho.1, rho_N, e]
theorem lit_va (h : cp IA LA x c b m I O G od ld) {z : Int} (hz : tw_sd IA b z) : IA (b + 2) (wr_sl IA b z) = 2 * (z / 2) := by
  obtain ⟨w1, w2, w3, w4, w5, w6, w7, w8, w9, V, wg, wo⟩ := h.W
  have h2 := hz.st h.W
  rcases Nat.eq_zero_or_pos (z / 2).toNat with q | q
  · have e := h2.2.2.1
    rw [q, V.1] at e
    rw [show wr_sl IA b z = 0 by omega, h.1.1.2.2.2.2]
    omega
  · rcases V.2.1 _ q (by omega) with e | ⟨_, _, e, _⟩
    · exact absurd e hz.2
    · unfold wr_sl
      rw [e]
      omega
/-- the least of a kind is one alone -/
theorem M_be_u (h : cp IA LA x c b m I O G od ld) {lit z z' : Int} (h1 : M_be IA LA I G x lit 630 z) (h2 : M_be IA LA I G x lit 630 z') : z = z' := by
  have key : ∀ u v : Int, M_be IA LA I G x lit 630 u → M_be IA LA I G x lit 630 v → M_dl IA x u < M_dl IA x v ∨ (M_dl IA x u = M_dl IA x v ∧ u ≤ v) := by
    intro u v hu hv
    have hs := h.st.mp hv.1
    have hr := h.ro hs
    have hI := h.W.2.1
    have hG := h.W.2.2.2.1
    have hlt := rN_lt hI hG (h.sl hs)
    have e : 2 * M_va IA x (M_ro IA x v) + (((v % 2).toNat : Nat) : Int) = v := by
      rw [hr, h.va (h.sl hs), lit_va h hs]
      omega
    have := hu.2.2 (M_ro IA x v) (v % 2).toNat (by omega) (by omega) (by rw [hr]; exact rN_is (h.sl hs)) (by rw [e]; exact hv.2.1)
    rw [e] at this
    exact this
  have a1 := key z z' h1 h2
  have a2 := key z' z h2 h1
  omega
theorem lw_b0 {t : Nat} (hm : LA c 9 = C_mk I) (a : Int) : (C_lw LA c t a 0).getLsbD 0 = ((C_rw LA c t 0).getLsbD 0 ^^ decide (a % 2 = 1)) := by
  unfold C_lw
  rw [hm, BitVec.getLsbD_xor]
  by_cases e : a % 2 = 0
  · rw [if_pos e, BitVec.getLsbD_zero, decide_eq_false (by omega)]
  · rw [if_neg e, C_mk0, decide_eq_true (by omega)]
/-- what the class takes for the leader -/
theorem cS.zc (h : cS IA LA c b m I O G od ld) {s : Nat} (hs : nS I G s) (lit : Int) : ∃ t ∈ ld, nS I G t ∧ (C_sg (IA (c + 12) s) lit = IA (b + 2) t ∨ C_sg (IA (c + 12) s) lit = IA (b + 2) t + 1) ∧ ∀ w, w < C_W I → C_lw LA c t (C_sg (IA (c + 12) s) lit) w = C_lw LA c s lit w := by
  obtain ⟨t, ht, h1, h2, h3, h4, h5, h6⟩ := h.led hs
  have hW := (C_W_le h.1.1.2.1).1
  refine ⟨t, ht, h3, ?_, ?_⟩
  · rw [h2]
    unfold C_lt C_sg
    split <;> split <;> (try split) <;> omega
  · rcases (si_lw (I := I) h.2.2.1 h.2.2.1 hW (C_sg (IA (c + 12) s) lit) lit).mp h1 with q | q
    · exact q
    · exfalso
      have q0 : (C_lw LA c t (C_sg (IA (c + 12) s) lit) 0).getLsbD 0 = (C_lw LA c s lit 0 ^^^ C_mk I).getLsbD 0 := by rw [q 0 (by omega)]
      rw [BitVec.getLsbD_xor, C_mk0, lw_b0 h.2.2.1, lw_b0 h.2.2.1] at q0
      have e : (decide (C_sg (IA (c + 12) s) lit % 2 = 1)) = (((C_rw LA c t 0).getLsbD 0 ^^ (C_rw LA c s 0).getLsbD 0) ^^ decide (lit % 2 = 1)) := by
        rw [h2]
        unfold C_lt C_sg
        rw [C_sb_bit, C_sb_bit]
        by_cases el : lit % 2 = 0
        · rw [if_pos el, decide_eq_false (show ¬ lit % 2 = 1 by omega)]
          cases (C_rw LA c t 0).getLsbD 0 <;> cases (C_rw LA c s 0).getLsbD 0 <;> simp <;> omega
        · rw [if_neg el, decide_eq_true (show lit % 2 = 1 by omega)]
          cases (C_rw LA c t 0).getLsbD 0 <;> cases (C_rw LA c s 0).getLsbD 0 <;> simp <;> omega
      rw [e] at q0
      revert q0
      cases (C_rw LA c t 0).getLsbD 0 <;> cases (C_rw LA c s 0).getLsbD 0 <;> cases decide (lit % 2 = 1) <;> simp
theorem q_be (h : cp IA LA x c b m I O G od ld) {lit : Int} (hl : tw_sd IA b lit) : M_be IA LA I G x lit 630 (C_sg (IA (c + 12) (wr_sl IA b lit)) lit) := by
  have hs := h.sl hl
  obtain ⟨t, ht, nt, hp, hw⟩ := h.1.zc hs lit
  have hW := (C_W_le h.W.2.1).1
  generalize hz : C_sg (IA (c + 12) (wr_sl IA b lit)) lit = z at *
  have ho := own_so h nt
  have hsd : tw_sd IA b z := by
    refine ⟨⟨by omega, by rw [h.W.2.2.2.2.2.1]; omega⟩, ?_⟩
    rw [show z / 2 = IA (b + 2) t / 2 by omega, ho.1]
    omega
  have hsl : wr_sl IA b z = t := by
    unfold wr_sl
    rw [show z / 2 = IA (b + 2) t / 2 by omega, ho.1]
    omega
  have hro := h.ro hsd
  rw [hsl] at hro
  refine ⟨h.st.mpr hsd, ?_, ?_⟩
  · rw [h.ro hl, hro]
    exact (h.eq h hs nt).mpr (fun w q => (hw w q).symm)
  · intro r i hi hr1 hr he
    obtain ⟨nu, eu⟩ := rI_N hr
    generalize rI I r = u at nu eu
    subst eu
    have hva := h.va nu
    rw [hva] at he ⊢
    have ou := own_so h nu
    rw [h.ro hl] at he
    have he2 := (h.eq h hs nu).mp he
    have he3 : ∀ w, w < C_W I → C_lw LA c u (IA (b + 2) u + (i : Int)) w = C_lw LA c t z w := fun w q => by rw [hw w q, he2 w q]
    have hsi := (si_lw (I := I) h.1.2.2.1 h.1.2.2.1 hW (IA (b + 2) u + (i : Int)) z).mpr (Or.inl he3)
    have same : u = t → z = IA (b + 2) t + (i : Int) := fun e => by
      rw [e] at he3
      by_cases ep : (IA (b + 2) t + (i : Int)) % 2 = z % 2
      · omega
      · exact (lw_ne hW he3 (fun w _ => lw_x1 h.1.2.2.1 ep)).elim
    unfold M_dl
    rw [hro, h.2.2.1 t nt, h.2.2.1 _ nu]
    rcases lead_before h.1 ht nu hsi with e | e
    · have := same e
      rw [e]
      exact Or.inr ⟨rfl, by omega⟩
    · rcases e with ⟨e1, e2⟩ | e
      · by_cases e3 : u = t
        · have := same e3
          rw [e3]
          exact Or.inr ⟨rfl, by omega⟩
        · exact absurd hsi (in_ne h.1 e2 e1 e3)
      · rcases e with e | ⟨e, e2⟩
        · exact Or.inl e
        · exact Or.inr ⟨e, by omega⟩
theorem q_lead (h : cp IA LA x c b m I O G od ld) {lit z : Int} (hl : tw_sd IA b lit) (hz : M_be IA LA I G x lit 630 z) : z = C_sg (IA (c + 12) (wr_sl IA b lit)) lit := M_be_u h hz (q_be h hl)
end PP
