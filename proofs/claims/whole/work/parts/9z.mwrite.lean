/-! THE REFERENCE: write -/
/-- the numbering, when n gates have a number -/
def nb_P (B : mj_FI) (c I G : Nat) (wl : List Nat) (n : Nat) (num : Nat → Int) : Prop := (∀ r, r ≤ I → num r = (r : Int)) ∧ (∀ r, I < r → r < 15 → num r = 0) ∧ ∀ k, k < G → (ng_N B k = 1 → wr_rk (ng_N B) (ng_D B) (ng_o B c) wl k < n → num (15 + k) = ((I + 1 + wr_rk (ng_N B) (ng_D B) (ng_o B c) wl k : Nat) : Int)) ∧ (¬ (ng_N B k = 1 ∧ wr_rk (ng_N B) (ng_D B) (ng_o B c) wl k < n) → num (15 + k) = 0)
def nb_w (B : mj_FI) (c G : Nat) (wl : List Nat) : Prop := wl.Nodup ∧ (∀ k, k ∈ wl ↔ k < G) ∧ wl.Pairwise (fun a d => ng_o B c a < ng_o B c d)
theorem nb_P.rng {B : mj_FI} {c I G n : Nat} {wl : List Nat} {num : Nat → Int} (h : nb_P B c I G wl n num) (hw : nb_w B c G wl) (hI : I ≤ 14) (hG : G ≤ 300) {r : Nat} (hr : M_is I G r) : 0 ≤ num r ∧ num r ≤ 314 := by
  obtain ⟨p1, p2, p3⟩ := h
  unfold M_is at hr
  by_cases e : r ≤ I
  · rw [p1 r e]
    omega
  · obtain ⟨k, hk⟩ : ∃ k, r = 15 + k := ⟨r - 15, by omega⟩
    subst hk
    obtain ⟨q1, q2⟩ := p3 k (by omega)
    by_cases z : ng_N B k = 1 ∧ wr_rk (ng_N B) (ng_D B) (ng_o B c) wl k < n
    · have hm := (hw.2.1 k).mpr (by omega)
      have h1 := wr_rk_n (D := ng_D B) (ow := ng_o B c) hw.1 hm z.1
      have h2 := wr_ct_le (P := fun g => decide (ng_N B g = 1)) (l := wl)
      have h3 : wl.length ≤ G := nd_len G wl 0 hw.1 (fun x hx => ⟨by omega, by have := (hw.2.1 x).mp hx; omega⟩)
      rw [q1 z.1 z.2]
      omega
    · rw [q2 z]
      omega
/-- the next gate is the one of rank n -/
theorem ng_next {B J : mj_FI} {c I G n : Nat} {wl : List Nat} {z : Int} (hw : nb_w B c G wl) (h74 : J 74 = B 74) (h76 : J 76 = B 76) (h62 : J 62 = B 62) (hp : nb_P B c I G wl n (J 75)) (hn : n < wr_ct (fun k => decide (ng_N B k = 1)) wl) (hz : ng_b J c G z) : ∃ k : Nat, z = (k : Int) ∧ k < G ∧ ng_N B k = 1 ∧ wr_rk (ng_N B) (ng_D B) (ng_o B c) wl k = n := by
  obtain ⟨w1, w2, w3⟩ := hw
  obtain ⟨p1, p2, p3⟩ := hp
  obtain ⟨s, hs, s1, s2⟩ := wr_rk_sur (D := ng_D B) (ow := ng_o B c) w1 w3 hn
  have sG := (w2 s).mp hs
  have sc : ng_c J s := ⟨by rw [h76]; exact s1, by rw [(p3 s sG).2 (by omega)]; decide⟩
  rcases hz with ⟨h1, h2⟩ | ⟨b, h1, h2, h3, h4⟩
  · exact absurd sc (h2 s sG)
  · have bm := (w2 b).mpr h2
    have bN : ng_N B b = 1 := by have := h3.1; rw [h76] at this; exact this
    have br : ¬ wr_rk (ng_N B) (ng_D B) (ng_o B c) wl b < n := by
      intro hlt
      have := h3.2
      rw [(p3 b h2).1 bN hlt] at this
      omega
    have hmin := h4 s sG sc
    have hmin : ¬ (ng_D B s < ng_D B b ∨ (ng_D B s = ng_D B b ∧ ng_o B c s < ng_o B c b)) := by
      have e1 : ng_D J = ng_D B := by funext k; unfold ng_D; rw [h74]
      have e2 : ng_o J c = ng_o B c := by funext k; unfold ng_o; rw [h62]
      rw [e1, e2] at hmin
      exact hmin
    have nlt : ¬ wr_lt (ng_D B) (ng_o B c) b s = true := by
      intro hlt
      have := wr_rk_lt w1 bm bN hlt
      omega
    have nlt : ¬ (ng_D B b < ng_D B s ∨ (ng_D B b = ng_D B s ∧ ng_o B c b < ng_o B c s)) := fun q => nlt (decide_eq_true q)
    have eD : ng_D B b = ng_D B s := by omega
    have eo : ng_o B c b = ng_o B c s := by omega
    have er : wr_rk (ng_N B) (ng_D B) (ng_o B c) wl b = wr_rk (ng_N B) (ng_D B) (ng_o B c) wl s := by
      unfold wr_rk wr_lt
      rw [eD, eo]
    exact ⟨b, h1, h2, bN, er.trans s2⟩
theorem nb_P.step {B : mj_FI} {c I G n k : Nat} {wl : List Nat} {num : Nat → Int} (hw : nb_w B c G wl) (hI : I ≤ 14) (h : nb_P B c I G wl n num) (hk : k < G) (h1 : ng_N B k = 1) (h2 : wr_rk (ng_N B) (ng_D B) (ng_o B c) wl k = n) : nb_P B c I G wl (n + 1) (mj_u num (15 + k) ((I + 1 + n : Nat) : Int)) := by
  obtain ⟨w1, w2, w3⟩ := hw
  obtain ⟨p1, p2, p3⟩ := h
  refine ⟨fun r hr => by rw [mj_u_ne (by omega)]; exact p1 r hr, fun r a b => by rw [mj_u_ne (by omega)]; exact p2 r a b, fun j hj => ?_⟩
  by_cases e : j = k
  · subst e
    rw [mj_u_at]
    exact ⟨fun _ _ => by rw [h2], fun z => absurd ⟨h1, by omega⟩ z⟩
  · rw [mj_u_ne (by omega)]
    obtain ⟨q1, q2⟩ := p3 j hj
    refine ⟨fun a b => q1 a ?_, fun z => q2 (fun y => z ⟨y.1, by omega⟩)⟩
    by_cases e2 : wr_rk (ng_N B) (ng_D B) (ng_o B c) wl j = n
    · exact absurd (wr_rk_inj w1 w3 ((w2 j).mpr hj) ((w2 k).mpr hk) a h1 (e2.trans h2.symm)) e
    · omega
theorem nb_P_co {B B2 : mj_FI} {c I G n : Nat} {wl : List Nat} {num : Nat → Int} (h74 : B2 74 = B 74) (h76 : B2 76 = B 76) (h62 : B2 62 = B 62) (h : nb_P B c I G wl n num) : nb_P B2 c I G wl n num := by
  have e1 : ng_D B2 = ng_D B := by funext k; unfold ng_D; rw [h74]
  have e2 : ng_o B2 c = ng_o B c := by funext k; unfold ng_o; rw [h62]
  have e3 : ng_N B2 = ng_N B := by funext k; unfold ng_N; rw [h76]
  unfold nb_P at h ⊢
  rw [e1, e2, e3]
  exact h
theorem M_S_co {IA J : mj_FI} (f : ∀ q, 55 ≤ q → q ≤ 68 → J q = IA q) {c I O G : Nat} {od : List Nat} (h : M_S IA c I O G od) : M_S J c I O G od := by
  obtain ⟨⟨hI, hI2⟩, ⟨hG, hG2⟩, ⟨hO, hO2⟩, hrr, hv, hd, hos, hsr, hfan, ho, hol, hdp, hpw⟩ := h
  have e66 := f 66 (by decide) (by decide)
  have e67 := f 67 (by decide) (by decide)
  have e63 := f 63 (by decide) (by decide)
  have e64 := f 64 (by decide) (by decide)
  refine ⟨⟨by rw [f 55 (by decide) (by decide)]; exact hI, hI2⟩, ⟨by rw [f 56 (by decide) (by decide)]; exact hG, hG2⟩, ⟨by rw [f 57 (by decide) (by decide)]; exact hO, hO2⟩, by unfold M_rr; rw [e66]; exact hrr, M_vr_co (f 61 (by decide) (by decide)) (f 62 (by decide) (by decide)) e66 hv, M_dr_co e67 hd, fun k hk => by rw [M_st_co e66, f 65 (by decide) (by decide)]; exact hos k hk, fun lit hl => by rw [M_ro_co e66]; exact hsr lit ((M_st_co e66).mp hl), fun k hk => by rw [M_st_co e66, M_st_co e66, e63, e64]; exact hfan k hk, ho, fun i s z => by rw [f 68 (by decide) (by decide)]; exact hol i s z, fun k hk => by rw [M_ro_co e66, M_ro_co e66, e63, e64, e67]; exact hdp k hk, by rw [e67]; exact hpw⟩
/-- the state behind choose -/
def mw_B (B : mj_FI) (c I O G : Nat) (od wl : List Nat) : Prop := M_S B c I O G od ∧ nb_w B c G wl ∧ (∀ lit, M_st B c lit → M_st B c (B 73 (M_ro B c lit)) ∧ M_is I G (M_tr B c lit)) ∧ (∀ k, k < G → (B 76 (15 + k) = 0 ∨ B 76 (15 + k) = 1) ∧ 0 ≤ B 74 (15 + k) ∧ B 74 (15 + k) ≤ 300) ∧ (∀ k, k < G → B 76 (15 + k) = 1 → (∀ j, j < G → (ch_X B c k = 15 + j ∨ ch_Y B c k = 15 + j) → B 76 (15 + j) = 1 ∧ B 74 (15 + j) < B 74 (15 + k)))
theorem mw_B_co {B B2 : mj_FI} (f : ∀ q, q ≠ 52 → q ≠ 54 → q ≠ 75 → B2 q = B q) {c I O G : Nat} {od wl : List Nat} (h : mw_B B c I O G od wl) : mw_B B2 c I O G od wl := by
  obtain ⟨h1, h2, h3, h4, h5⟩ := h
  have e66 := f 66 (by decide) (by decide) (by decide)
  have e73 := f 73 (by decide) (by decide) (by decide)
  have e74 := f 74 (by decide) (by decide) (by decide)
  have e76 := f 76 (by decide) (by decide) (by decide)
  have eX : ch_X B2 c = ch_X B c := funext fun k => by unfold ch_X; rw [M_tr_f e66 e73, f 63 (by decide) (by decide) (by decide)]
  have eY : ch_Y B2 c = ch_Y B c := funext fun k => by unfold ch_Y; rw [M_tr_f e66 e73, f 64 (by decide) (by decide) (by decide)]
  have eo : ng_o B2 c = ng_o B c := by funext k; unfold ng_o; rw [f 62 (by decide) (by decide) (by decide)]
  refine ⟨M_S_co (fun q q1 q2 => f q (by omega) (by omega) (by omega)) h1, ?_, fun lit hl => ?_, ?_, ?_⟩
  · unfold nb_w at h2 ⊢
    rw [eo]
    exact h2
  · rw [M_st_co e66, e73, M_ro_co e66, M_tr_f e66 e73]
    exact h3 lit ((M_st_co e66).mp hl)
  · rw [e74, e76]; exact h4
  · rw [e74, e76, eX, eY]; exact h5
section MM
variable {sh : mj_Sh} {FR : mj_FR} {LA : mj_LA} {n : Nat}
set_option maxHeartbeats 2000000 in
/-- the last loop: the gates -/
theorem mw_gates (h : isM sh FR n) {B : mj_FI} {c I O G g : Nat} {od wl : List Nat} {bin : Bool} {rv : Int} {tx : List Int} {sn : Nat → Nat} (hc : c < 2) (hB : mw_B B c I O G od wl) (hg : g = wr_ct (fun k => decide (ng_N B k = 1)) wl) (hp : nb_P B c I G wl g (B 75)) (hsn : ∀ i, i < g → sn i < G ∧ ng_N B (sn i) = 1 ∧ wr_rk (ng_N B) (ng_D B) (ng_o B c) wl (sn i) = i) (hl : tx.length ≤ 400) {P : mj_O → mj_FI → Prop}
    (hP : ∀ (J : mj_FI) (ty : List Int), mw_T B J ty → ty = tx ++ wr_q bin I sn (fun k => M_wl B (B 75) c (B 63 (300 * c + k))) (fun k => M_wl B (B 75) c (B 64 (300 * c + k))) g → P (.inl (some (.inl (ty.length : Int)))) J) :
    ∀ (t m : Nat) (J : mj_FI) (y7 : Option mj_V), m + t = g → mw_T B J (tx ++ wr_q bin I sn (fun k => M_wl B (B 75) c (B 63 (300 * c + k))) (fun k => M_wl B (B 75) c (B 64 (300 * c + k))) m) → mj_G m_M_write (mj_po P sh FR LA n) 274 [some (.inr (.inr (.inl 52))), some (.inl c), some (.inl (if bin = true then 1 else 0)), some (.inl rv), some (.inl c), some (.inl g), some (.inl m), y7] [] sh FR J LA n 0 0 := by
  obtain ⟨hS, hw, hb3, hb4, hb5⟩ := id hB
  obtain ⟨⟨hI, hI2⟩, ⟨hG, hG2⟩, ⟨hO, hO2⟩, hrr, hv, hd, hos, hsr, hfan, ho, hol, hdp, hpw⟩ := id hS
  have hgG : g ≤ G := by
    rw [hg]
    have h2 := wr_ct_le (P := fun g => decide (ng_N B g = 1)) (l := wl)
    have h3 : wl.length ≤ G := nd_len G wl 0 hw.1 (fun x hx => ⟨by omega, by have := (hw.2.1 x).mp hx; omega⟩)
    omega
  intro t
  induction t with
  | zero =>
    intro m J y7 hm hT
    have e : m = g := by omega
    subst e
    have key := hP J _ hT rfl
    refine mj_go z_M_write [] 60 ?_
    refine And.intro (fun d => ?_) (fun d => ?_)
    · refine And.intro h.o ?_
      rw [hT.2.2.1]
      exact ⟨⟨rfl, rfl, rfl, rfl, key⟩, Nat.le_of_ble_eq_true rfl, Nat.le_of_ble_eq_true rfl⟩
    · simp (disch := (clear d; omega)) only [mj_w_id] at d
      omega
  | succ t ih =>
    intro m J y7 hm hT
    have q12 := wr_q_len (bin := bin) (I := I) (sn := sn) (l := fun k => M_wl B (B 75) c (B 63 (300 * c + k))) (r := fun k => M_wl B (B 75) c (B 64 (300 * c + k))) m
    obtain ⟨s1, s2, s3⟩ := hsn m (by omega)
    generalize hk : sn m = k at s1 s2 s3
    have e55 : J 55 c = (I : Int) := by rw [hT.1 55 (by decide) (by decide)]; exact hI
    have hkv : B 75 (15 + k) = ((I + 1 + m : Nat) : Int) := by rw [(hp.2.2 k s1).1 s2 (by omega), s3]
    have less : ∀ r, M_is I G r → (∀ j, j < G → r = 15 + j → B 76 (15 + j) = 1 ∧ B 74 (15 + j) < B 74 (15 + k)) → 0 ≤ B 75 r ∧ B 75 r < ((I + 1 + m : Nat) : Int) := by
      intro r hr hj
      refine ⟨(hp.rng hw hI2 hG2 hr).1, ?_⟩
      by_cases e : r ≤ I
      · rw [hp.1 r e]
        omega
      · obtain ⟨j, ej⟩ : ∃ j, r = 15 + j := ⟨r - 15, by unfold M_is at hr; omega⟩
        subst ej
        have jG : j < G := by unfold M_is at hr; omega
        obtain ⟨j1, j2⟩ := hj j jG rfl
        have hlt := wr_rk_lt (N := ng_N B) (D := ng_D B) (ow := ng_o B c) (s := j) (t := k) hw.1 ((hw.2.1 j).mpr jG) j1 (decide_eq_true (Or.inl j2))
        rw [s3] at hlt
        rw [(hp.2.2 j jG).1 j1 (by omega)]
        omega
    obtain ⟨f1, f2⟩ := hfan k s1
    have hX := less _ (hb3 _ f1).2 (fun j jG e => hb5 k s1 s2 j jG (Or.inl e))
    have hY := less _ (hb3 _ f2).2 (fun j jG e => hb5 k s1 s2 j jG (Or.inr e))
    have hfirst : ∀ i, i < k → ¬ B 75 (15 + i) = ((I + 1 + m : Nat) : Int) ∧ 0 ≤ B 75 (15 + i) ∧ B 75 (15 + i) ≤ 1000 := by
      intro i hi
      have r1 := hp.rng hw hI2 hG2 (r := 15 + i) (Or.inr (by omega))
      refine ⟨fun e => ?_, r1.1, by omega⟩
      obtain ⟨p1, p2⟩ := hp.2.2 i (by omega)
      by_cases z : ng_N B i = 1 ∧ wr_rk (ng_N B) (ng_D B) (ng_o B c) wl i < g
      · rw [p1 z.1 z.2] at e
        have := wr_rk_inj (D := ng_D B) hw.1 hw.2.2 ((hw.2.1 i).mpr (by omega)) ((hw.2.1 k).mpr s1) z.1 s2 (by omega)
        omega
      · rw [p2 z] at e
        omega
    have cg := ct_M_writeGate (LA := LA) (bin := bin) h hc hrr hT (by rw [List.length_append]; omega) (by omega) (by omega) hkv hfirst ⟨f1, (hb3 _ f1).1, hX⟩ ⟨f2, (hb3 _ f2).1, hY⟩
    have nx := fun J2 (hT2 : mw_T B J2 (tx ++ wr_q bin I sn (fun k => M_wl B (B 75) c (B 63 (300 * c + k))) (fun k => M_wl B (B 75) c (B 64 (300 * c + k))) (m + 1))) => ih (m + 1) J2 y7 (by omega) hT2
    clear hP ih less hfirst hX hY hol hdp hpw hkv
    refine mj_go z_M_write [274] 60 ?_
    refine And.intro (fun d => ?_) (fun d => ?_)
    · simp (disch := (clear d; omega)) only [mj_w_id] at d
      omega
    · clear d
      refine And.intro h.o (Exists.intro _ (And.intro h.r5 ?_))
      refine Exists.intro _ (Exists.intro (c) (And.intro h.a5 (And.intro (by first | (rw [mj_w_id (by omega) (by omega)]; done) | (rw [mj_w_id (by omega) (by omega)]; omega) | (unfold mj_w; omega)) (And.intro (by omega) ?_))))
      rw [e55]
      refine Exists.intro (((I + 1 : Nat) : Int)) (And.intro (by first | (rw [mj_w_id (by omega) (by omega)]; done) | (rw [mj_w_id (by omega) (by omega)]; omega) | (unfold mj_w; omega)) ?_)
      refine Exists.intro (((I + 1 + m : Nat) : Int)) (And.intro (by first | (rw [mj_w_id (by omega) (by omega)]; done) | (rw [mj_w_id (by omega) (by omega)]; omega) | (unfold mj_w; omega)) ?_)
      refine And.intro h.o (And.intro (Nat.le_of_ble_eq_true rfl) (And.intro (Nat.le_of_ble_eq_true rfl) (And.intro (Nat.le_of_ble_eq_true rfl) (Exists.intro _ (And.intro (cg) ?_)))))
      rintro o1 sh9 FR9 J2 LA9 n9 ⟨z1, z2, z3, z4, hp1⟩
      replace z1 := z1.symm
      subst z1
      replace z2 := z2.symm
      subst z2
      replace z3 := z3.symm
      subst z3
      replace z4 := z4.symm
      subst z4
      obtain ⟨ho1, hT2⟩ := hp1
      subst ho1
      refine And.intro (Or.inl rfl) ?_
      refine Exists.intro (((m + 1 : Nat) : Int)) (And.intro (by first | (rw [mj_w_id (by omega) (by omega)]; done) | (rw [mj_w_id (by omega) (by omega)]; omega) | (unfold mj_w; omega)) ?_)
      refine nx J2 ?_
      simp only [wr_q]
      rw [hk, ← List.append_assoc]
      exact hT2
set_option maxHeartbeats 2000000 in
/-- the outputs -/
theorem mw_outs (h : isM sh FR n) {B : mj_FI} {c I O G g : Nat} {od wl : List Nat} {bin : Bool} {rv : Int} {tx : List Int} {Q : mj_Q} (hc : c < 2) (hB : mw_B B c I O G od wl) (hp : nb_P B c I G wl g (B 75)) (hl : tx.length ≤ 200)
    (hQ : ∀ (J : mj_FI) (y7 : Option mj_V), mw_T B J (tx ++ wr_o (fun k => M_wl B (B 75) c (B 65 (16 * c + k))) O) → mj_G m_M_write Q 274 [some (.inr (.inr (.inl 52))), some (.inl c), some (.inl (if bin = true then 1 else 0)), some (.inl rv), some (.inl c), some (.inl g), some (.inl 0), y7] [] sh FR J LA n 0 0) :
    ∀ (t k : Nat) (J : mj_FI) (y7 : Option mj_V), k + t = O → mw_T B J (tx ++ wr_o (fun k => M_wl B (B 75) c (B 65 (16 * c + k))) k) → mj_G m_M_write Q 228 [some (.inr (.inr (.inl 52))), some (.inl c), some (.inl (if bin = true then 1 else 0)), some (.inl rv), some (.inl c), some (.inl g), some (.inl k), y7] [] sh FR J LA n 0 0 := by
  obtain ⟨hS, hw, hb3, hb4, hb5⟩ := id hB
  obtain ⟨⟨hI, hI2⟩, ⟨hG, hG2⟩, ⟨hO, hO2⟩, hrr, hv, hd, hos, hsr, hfan, ho, hol, hdp, hpw⟩ := id hS
  intro t
  induction t with
  | zero =>
    intro k J y7 hk hT
    have e : k = O := by omega
    subst e
    have e57 : J 57 c = (k : Int) := by rw [hT.1 57 (by decide) (by decide)]; exact hO
    have key := hQ J y7 hT
    clear hQ hol hdp hpw
    refine mj_go z_M_write [274] 60 ?_
    refine And.intro h.o (Exists.intro _ (And.intro h.r7 ?_))
    refine Exists.intro _ (Exists.intro (c) (And.intro h.a7 (And.intro (by first | (rw [mj_w_id (by omega) (by omega)]; done) | (rw [mj_w_id (by omega) (by omega)]; omega) | (unfold mj_w; omega)) (And.intro (by omega) ?_))))
    rw [e57]
    refine And.intro (fun d => ?_) (fun d => ?_)
    · exact key
    · simp (disch := (clear d; omega)) only [mj_w_id] at d
      omega
  | succ t ih =>
    intro k J y7 hk hT
    have o4 := wr_o_len (f := fun k => M_wl B (B 75) c (B 65 (16 * c + k))) k
    have e57 : J 57 c = (O : Int) := by rw [hT.1 57 (by decide) (by decide)]; exact hO
    have e65 : J 65 = B 65 := hT.1 65 (by decide) (by decide)
    have e75 : J 75 = B 75 := hT.1 75 (by decide) (by decide)
    have st := hos k (by omega)
    obtain ⟨b1, b2⟩ := hb3 _ st
    have rg := hp.rng hw hI2 hG2 b2
    have wv := ct_M_written (LA := LA) (J := J) h hc (hT.1 66 (by decide) (by decide)) (hT.1 73 (by decide) (by decide)) hrr st b1 (by rw [e75]; exact ⟨rg.1, by omega⟩)
    rw [e75] at wv
    have hv2 : M_wl B (B 75) c (B 65 (16 * c + k)) < 1000 := by
      unfold M_wl
      omega
    have nx := fun J2 hT2 => ih (k + 1) J2 y7 (by omega) hT2
    have lt : (tx ++ wr_o (fun k => M_wl B (B 75) c (B 65 (16 * c + k))) k).length + 4 ≤ 8192 := by rw [List.length_append]; omega
    clear hQ ih hol hdp hpw
    refine mj_go z_M_write [228] 60 ?_
    refine And.intro h.o (Exists.intro _ (And.intro h.r7 ?_))
    refine Exists.intro _ (Exists.intro (c) (And.intro h.a7 (And.intro (by first | (rw [mj_w_id (by omega) (by omega)]; done) | (rw [mj_w_id (by omega) (by omega)]; omega) | (unfold mj_w; omega)) (And.intro (by omega) ?_))))
    rw [e57]
    refine And.intro (fun d => ?_) (fun d => ?_)
    · simp (disch := (clear d; omega)) only [mj_w_id] at d
      omega
    · clear d
      refine And.intro h.o (Exists.intro _ (And.intro h.r15 ?_))
      refine Exists.intro (((16 * c : Nat) : Int)) (And.intro (by first | (rw [mj_w_id (by omega) (by omega)]; done) | (rw [mj_w_id (by omega) (by omega)]; omega) | (unfold mj_w; omega)) ?_)
      refine Exists.intro (((16 * c + k : Nat) : Int)) (And.intro (by first | (rw [mj_w_id (by omega) (by omega)]; done) | (rw [mj_w_id (by omega) (by omega)]; omega) | (unfold mj_w; omega)) ?_)
      refine Exists.intro _ (Exists.intro (16 * c + k) (And.intro h.a15 (And.intro (by first | (rw [mj_w_id (by omega) (by omega)]; done) | (rw [mj_w_id (by omega) (by omega)]; omega) | (unfold mj_w; omega)) (And.intro (by omega) ?_))))
      rw [e65]
      refine And.intro h.o (And.intro (Nat.le_of_ble_eq_true rfl) (And.intro (Nat.le_of_ble_eq_true rfl) (And.intro (Nat.le_of_ble_eq_true rfl) (Exists.intro _ (And.intro (wv) ?_)))))
      rintro r9 sh9 FR9 IA9 LA9 n9 ⟨z0, z1, z2, z3, z4, z5⟩
      subst z0
      replace z1 := z1.symm
      subst z1
      replace z2 := z2.symm
      subst z2
      replace z3 := z3.symm
      subst z3
      replace z4 := z4.symm
      subst z4
      replace z5 := z5.symm
      subst z5
      refine And.intro (Or.inl rfl) ?_
      refine And.intro h.o (And.intro (Nat.le_of_ble_eq_true rfl) (And.intro (Nat.le_of_ble_eq_true rfl) (And.intro (Nat.le_of_ble_eq_true rfl) (Exists.intro _ (And.intro (ct_M_putNumber h hT lt hv2) ?_)))))
      rintro o1 sh9 FR9 J2 LA9 n9 ⟨z1, z2, z3, z4, hp1⟩
      replace z1 := z1.symm
      subst z1
      replace z2 := z2.symm
      subst z2
      replace z3 := z3.symm
      subst z3
      replace z4 := z4.symm
      subst z4
      obtain ⟨ho1, hT2⟩ := hp1
      subst ho1
      refine And.intro (Or.inl rfl) ?_
      refine Exists.intro (((k + 1 : Nat) : Int)) (And.intro (by first | (rw [mj_w_id (by omega) (by omega)]; done) | (rw [mj_w_id (by omega) (by omega)]; omega) | (unfold mj_w; omega)) ?_)
      refine nx J2 ?_
      simp only [wr_o]
      rw [← List.append_assoc]
      exact hT2
set_option maxHeartbeats 2000000 in
/-- the numbers of the gates -/
theorem mw_nums (h : isM sh FR n) {B : mj_FI} {c I O G g : Nat} {od wl : List Nat} {bin : Bool} {rv : Int} {tx : List Int} {Q : mj_Q} (hc : c < 2) (hB : mw_B B c I O G od wl) (hg : g = wr_ct (fun k => decide (ng_N B k = 1)) wl)
    (hQ : ∀ (B2 J : mj_FI) (y7 : Option mj_V), (∀ q, q ≠ 75 → B2 q = B q) → nb_P B c I G wl g (B2 75) → mw_T B2 J tx → mj_G m_M_write Q 228 [some (.inr (.inr (.inl 52))), some (.inl c), some (.inl (if bin = true then 1 else 0)), some (.inl rv), some (.inl c), some (.inl g), some (.inl 0), y7] [] sh FR J LA n 0 0) :
    ∀ (t m : Nat) (B2 J : mj_FI) (y7 : Option mj_V), m + t = g → (∀ q, q ≠ 75 → B2 q = B q) → nb_P B c I G wl m (B2 75) → mw_T B2 J tx → mj_G m_M_write Q 182 [some (.inr (.inr (.inl 52))), some (.inl c), some (.inl (if bin = true then 1 else 0)), some (.inl rv), some (.inl c), some (.inl g), some (.inl m), y7] [] sh FR J LA n 0 0 := by
  obtain ⟨hS, hw, hb3, hb4, hb5⟩ := id hB
  obtain ⟨⟨hI, hI2⟩, ⟨hG, hG2⟩, ⟨hO, hO2⟩, hrr, hv, hd, hos, hsr, hfan, ho, hol, hdp, hpw⟩ := id hS
  have hgG : g ≤ G := by
    rw [hg]
    have h2 := wr_ct_le (P := fun g => decide (ng_N B g = 1)) (l := wl)
    have h3 : wl.length ≤ G := nd_len G wl 0 hw.1 (fun x hx => ⟨by omega, by have := (hw.2.1 x).mp hx; omega⟩)
    omega
  have how : ∀ k, k < G → 0 ≤ B 62 (300 * c + k) ∧ B 62 (300 * c + k) ≤ 2001 := by
    intro k hk
    have h1 := hv.2.1 k hk
    have h2 := (hv.va hI2 (r := 15 + k) (Or.inr (by omega))).2.1
    unfold M_va at h2
    rw [if_neg (by omega), if_neg (by omega), show 300 * c + (15 + k) - 15 = 300 * c + k by omega] at h2
    omega
  intro t
  induction t with
  | zero =>
    intro m B2 J y7 hm f hp hT
    have e : m = g := by omega
    subst e
    have key := hQ B2 J y7 f hp hT
    clear hQ hol hdp hpw
    refine mj_go z_M_write [228] 60 ?_
    refine And.intro (fun d => ?_) (fun d => ?_)
    · exact key
    · simp (disch := (clear d; omega)) only [mj_w_id] at d
      omega
  | succ t ih =>
    intro m B2 J y7 hm f hp hT
    have fJ : ∀ q, q ≠ 52 → q ≠ 54 → q ≠ 75 → J q = B q := fun q q1 q2 q3 => by rw [hT.1 q q1 q2]; exact f q q3
    have e55 : J 55 c = (I : Int) := by rw [fJ 55 (by decide) (by decide) (by decide)]; exact hI
    have e56 : J 56 c = (G : Int) := by rw [fJ 56 (by decide) (by decide) (by decide)]; exact hG
    have e75 : J 75 = B2 75 := hT.1 75 (by decide) (by decide)
    have cn := ct_M_nextGate (LA := LA) (IA := J) h hc e56 hG2 (fun k hk => by
      have := hp.rng hw hI2 hG2 (r := 15 + k) (Or.inr (by omega))
      have b := hb4 k hk
      rw [e75, fJ 76 (by decide) (by decide) (by decide), fJ 74 (by decide) (by decide) (by decide)]
      exact ⟨b.1, by omega, by omega⟩) (by rw [fJ 62 (by decide) (by decide) (by decide)]; exact how)
    have nxt : ∀ z, ng_b J c G z → ∃ k : Nat, z = (k : Int) ∧ k < G ∧ ng_N B k = 1 ∧ wr_rk (ng_N B) (ng_D B) (ng_o B c) wl k = m := fun z hz => ng_next hw (fJ 74 (by decide) (by decide) (by decide)) (fJ 76 (by decide) (by decide) (by decide)) (fJ 62 (by decide) (by decide) (by decide)) (by rw [e75]; exact hp) (by omega) hz
    have nx : ∀ k : Nat, k < G → ng_N B k = 1 → wr_rk (ng_N B) (ng_D B) (ng_o B c) wl k = m → ∀ y7 : Option mj_V, mj_G m_M_write Q 182 [some (.inr (.inr (.inl 52))), some (.inl c), some (.inl (if bin = true then 1 else 0)), some (.inl rv), some (.inl c), some (.inl g), some (.inl ((m + 1 : Nat) : Int)), y7] [] sh FR (mj_up J 75 (15 + k) ((I + 1 + m : Nat) : Int)) LA n 0 0 := fun k k1 k2 k3 y7 => ih (m + 1) (mj_up B2 75 (15 + k) ((I + 1 + m : Nat) : Int)) _ y7 (by omega) (fun q hq => by rw [mj_up_ne hq]; exact f q hq) (by rw [mj_up_row]; exact hp.step hw hI2 k1 k2 k3) (hT.up (by decide) (by decide))
    clear hQ ih hol hdp hpw
    refine mj_go z_M_write [182] 60 ?_
    refine And.intro (fun d => ?_) (fun d => ?_)
    · simp (disch := (clear d; omega)) only [mj_w_id] at d
      omega
    · clear d
      refine And.intro h.o (And.intro (Nat.le_of_ble_eq_true rfl) (And.intro (Nat.le_of_ble_eq_true rfl) (And.intro (Nat.le_of_ble_eq_true rfl) (Exists.intro _ (And.intro (cn) ?_)))))
      rintro o1 sh9 FR9 J2 LA9 n9 ⟨z1, z2, z3, z4, hp1⟩
      replace z1 := z1.symm
      subst z1
      replace z2 := z2.symm
      subst z2
      replace z3 := z3.symm
      subst z3
      replace z4 := z4.symm
      subst z4
      obtain ⟨hj, z, ho1, hp1⟩ := hp1
      replace hj := hj.symm
      subst hj
      subst ho1
      obtain ⟨k, hz, k1, k2, k3⟩ := nxt z hp1
      subst hz
      refine And.intro (Or.inl rfl) ?_
      refine And.intro h.o (Exists.intro _ (And.intro h.r28 ?_))
      refine Exists.intro (((15 + k : Nat) : Int)) (And.intro (by first | (rw [mj_w_id (by omega) (by omega)]; done) | (rw [mj_w_id (by omega) (by omega)]; omega) | (unfold mj_w; omega)) ?_)
      refine And.intro h.o (Exists.intro _ (And.intro h.r5 ?_))
      refine Exists.intro _ (Exists.intro (c) (And.intro h.a5 (And.intro (by first | (rw [mj_w_id (by omega) (by omega)]; done) | (rw [mj_w_id (by omega) (by omega)]; omega) | (unfold mj_w; omega)) (And.intro (by omega) ?_))))
      rw [e55]
      refine Exists.intro (((I + 1 : Nat) : Int)) (And.intro (by first | (rw [mj_w_id (by omega) (by omega)]; done) | (rw [mj_w_id (by omega) (by omega)]; omega) | (unfold mj_w; omega)) ?_)
      refine Exists.intro (((I + 1 + m : Nat) : Int)) (And.intro (by first | (rw [mj_w_id (by omega) (by omega)]; done) | (rw [mj_w_id (by omega) (by omega)]; omega) | (unfold mj_w; omega)) ?_)
      refine Exists.intro _ (Exists.intro (15 + k) (And.intro h.a28 (And.intro (by first | (rw [mj_w_id (by omega) (by omega)]; done) | (rw [mj_w_id (by omega) (by omega)]; omega) | (unfold mj_w; omega)) (And.intro (by omega) ?_))))
      refine Exists.intro (((m + 1 : Nat) : Int)) (And.intro (by first | (rw [mj_w_id (by omega) (by omega)]; done) | (rw [mj_w_id (by omega) (by omega)]; omega) | (unfold mj_w; omega)) ?_)
      exact nx k k1 k2 k3 _
end MM
