/-! THE TWO SIDES COUPLED: reading a text -/
/-- a row without repeats that holds all below G -/
theorem mo_all {D : Nat → Int} {G : Nat} (h : ∀ k, k < G → 1 ≤ D (15 + k) ∧ D (15 + k) ≤ (G : Int)) : (mo_d D G G).length = G := by
  refine Nat.le_antisymm (nd_len G _ 0 (mo_d_nd G) (fun k hk => ⟨Nat.zero_le _, by have := (mo_d_mem.mp hk).1; omega⟩)) (cov_len G _ (fun k hk => mo_d_mem.mpr ⟨hk, (h k hk).1, (h k hk).2⟩))
section LL
variable {I G : Nat} {L R X Y : Nat → Nat} {dep D ow : Nat → Int} {pl ws w0 : List Nat}
/-- fan-ins as slots and as rows -/
def fX (I G : Nat) (L R X Y : Nat → Nat) : Prop := ∀ k, k < G → X k = rN I (L (I + 1 + k)) ∧ Y k = rN I (R (I + 1 + k)) ∧ nS I G (L (I + 1 + k)) ∧ nS I G (R (I + 1 + k))
theorem ld_D (hI : I ≤ 14) (hX : fX I G L R X Y) (d0 : ∀ s, s ≤ I → dep s = 0) (d1 : ∀ s, lf_g I G s → 1 ≤ dep s ∧ dep s = 1 + max (dep (L s)) (dep (R s))) (hM : ma_I X Y G D pl) (hS : ma_S X Y G D) : ∀ s, nS I G s → D (rN I s) = dep s := by
  have dp : ∀ s, nS I G s → 0 ≤ dep s := fun s hs => by
    rcases hs with e | e
    · rw [d0 s e]
      omega
    · have := (d1 s e).1
      omega
  have base : ∀ s, s ≤ I → D (rN I s) = dep s := fun s e => by rw [rN_i e, d0 s e, hM.1 s (by omega)]
  have key : ∀ (n s : Nat), nS I G s → dep s ≤ (n : Int) → D (rN I s) = dep s := by
    intro n
    induction n with
    | zero =>
      intro s hs hd
      rcases hs with e | e
      · exact base s e
      · have := (d1 s e).1
        omega
    | succ n ih =>
      intro s hs hd
      rcases hs with e | e
      · exact base s e
      · have e2 := e
        unfold lf_g at e2
        have es : I + 1 + (s - I - 1) = s := by omega
        have er : rN I s = 15 + (s - I - 1) := by unfold rN; rw [if_neg (by omega)]
        obtain ⟨x1, x2, x3, x4⟩ := hX (s - I - 1) (by omega)
        rw [es] at x1 x2 x3 x4
        have h3 := (d1 s e).2
        have h4 := Int.le_max_left (dep (L s)) (dep (R s))
        have h5 := Int.le_max_right (dep (L s)) (dep (R s))
        have i1 := ih _ x3 (by omega)
        have i2 := ih _ x4 (by omega)
        have p1 := dp _ x3
        have p2 := dp _ x4
        rw [er]
        rcases hM.2.2.1 (s - I - 1) (by omega) with ⟨q, _⟩ | ⟨_, _, q, _⟩
        · have := hS _ (by omega) q
          rw [x1, x2, i1, i2] at this
          omega
        · rw [q, x1, x2, i1, i2, h3]
  intro s hs
  exact key (dep s).toNat s hs (by have := dp s hs; omega)
theorem ld_all (hI : I ≤ 14) (hX : fX I G L R X Y) (d0 : ∀ s, s ≤ I → dep s = 0) (d1 : ∀ s, lf_g I G s → 1 ≤ dep s ∧ dep s = 1 + max (dep (L s)) (dep (R s))) (hM : ma_I X Y G D pl) (hS : ma_S X Y G D) (hG : G ≤ 300) : (mo_d D G G).length = G := by
  refine mo_all (fun k hk => ?_)
  have h1 := ld_D hI hX d0 d1 hM hS (I + 1 + k) (Or.inr ⟨by omega, by omega⟩)
  rw [rN_g] at h1
  have h2 := (d1 (I + 1 + k) ⟨by omega, by omega⟩).1
  have h3 := hM.2.2.2.2.2 (15 + k) (by omega)
  have h4 := hM.len
  omega
/-- gates that wait for ever keep the reference from placing all -/
theorem ld_stuck (hI : I ≤ 14) (hG : G ≤ 300) (hX : fX I G L R X Y) (hw0 : ∀ s, s ∈ w0 ↔ lf_g I G s) (hF : ar_F L R w0 dep ws) (hM : ma_I X Y G D pl) : ¬ (mo_d D G G).length = G := by
  intro hl
  have hall := nodup_all (mo_d_nd G) hl (fun k hk => (mo_d_mem.mp hk).1)
  obtain ⟨f1, f2, f3, f4, f5, f6⟩ := hF
  have key : ∀ (n s : Nat), s ∈ ws → D (rN I s) ≤ (n : Int) → False := by
    intro n
    induction n with
    | zero =>
      intro s hs hd
      have e := (hw0 s).mp (f2.subset hs)
      have e2 := e
      unfold lf_g at e2
      have er : rN I s = 15 + (s - I - 1) := by unfold rN; rw [if_neg (by omega)]
      have := (mo_d_mem.mp (hall (s - I - 1) (by omega))).2.1
      rw [er] at hd
      omega
    | succ n ih =>
      intro s hs hd
      have e := (hw0 s).mp (f2.subset hs)
      have e2 := e
      unfold lf_g at e2
      have es : I + 1 + (s - I - 1) = s := by omega
      have er : rN I s = 15 + (s - I - 1) := by unfold rN; rw [if_neg (by omega)]
      obtain ⟨x1, x2, x3, x4⟩ := hX (s - I - 1) (by omega)
      rw [es] at x1 x2 x3 x4
      have lt : ∀ u, nS I G u → u < 315 := fun u hu => by
        unfold nS lf_g at hu
        omega
      rcases hM.2.2.1 (s - I - 1) (by omega) with ⟨q, _⟩ | ⟨_, _, q, _⟩
      · have := (mo_d_mem.mp (hall (s - I - 1) (by omega))).2.1
        omega
      · rw [x1, x2] at q
        rw [er] at hd
        have h4 := Int.le_max_left (D (rN I (L s))) (D (rN I (R s)))
        have h5 := Int.le_max_right (D (rN I (L s))) (D (rN I (R s)))
        rcases f5 s hs with z | z
        · exact ih _ ((f3 _ (lt _ x3)).mpr z) (by omega)
        · exact ih _ ((f3 _ (lt _ x4)).mpr z) (by omega)
  cases hws : ws with
  | nil => exact f1 hws
  | cons s r =>
    have hs : s ∈ ws := by rw [hws]; exact List.mem_cons_self
    exact key (D (rN I s)).toNat s hs (by omega)
/-- loops are the same -/
theorem ld_loop (hI : I ≤ 14) (hX : fX I G L R X Y) {k : Nat} (hk : k < G) : lf_R L R (lf_g I G) (I + 1 + k) (I + 1 + k) ↔ mb_R X Y G k (15 + k) := by
  constructor
  · intro q S h1 h2 h3
    have := q (fun u => S (rN I u)) (by show S (rN I (L (I + 1 + k))); rw [← (hX k hk).1]; exact h1) (by show S (rN I (R (I + 1 + k))); rw [← (hX k hk).2.1]; exact h2) (fun u hu hs => by
      have e := hu
      unfold lf_g at e
      have es : I + 1 + (u - I - 1) = u := by omega
      have er : rN I u = 15 + (u - I - 1) := by unfold rN; rw [if_neg (by omega)]
      have hs : S (rN I u) := hs
      rw [er] at hs
      have h4 := h3 (u - I - 1) (by omega) hs
      obtain ⟨x1, x2, x3, x4⟩ := hX (u - I - 1) (by omega)
      rw [es] at x1 x2
      rw [x1, x2] at h4
      exact h4)
    have this : S (rN I (I + 1 + k)) := this
    rw [rN_g] at this
    exact this
  · intro q S h1 h2 h3
    have e : ∀ j, rI I (15 + j) = I + 1 + j := fun j => by
      unfold rI
      rw [if_neg (by omega)]
      omega
    have := q (fun r => S (rI I r)) (by
      show S (rI I (X k))
      rw [(hX k hk).1, rI_rN hI (hX k hk).2.2.1]
      exact h1) (by
      show S (rI I (Y k))
      rw [(hX k hk).2.1, rI_rN hI (hX k hk).2.2.2]
      exact h2) (fun j hj hs => by
      have hs : S (rI I (15 + j)) := hs
      rw [e j] at hs
      have h4 := h3 (I + 1 + j) ⟨by omega, by omega⟩ hs
      show S (rI I (X j)) ∧ S (rI I (Y j))
      rw [(hX j hj).1, (hX j hj).2.1, rI_rN hI (hX j hj).2.2.1, rI_rN hI (hX j hj).2.2.2]
      exact h4)
    have this : S (rI I (15 + k)) := this
    rw [e k] at this
    exact this
/-- a gate on a loop waits -/
theorem ld_wait (hI : I ≤ 14) (hG : G ≤ 300) (hX : fX I G L R X Y) (hw0 : ∀ s, s ∈ w0 ↔ lf_g I G s) (hF : ar_F L R w0 dep ws) {s : Nat} (hs : lf_g I G s) (hl : lf_R L R (lf_g I G) s s) : s ∈ ws := by
  obtain ⟨f1, f2, f3, f4, f5, f6⟩ := hF
  have lt : ∀ u, nS I G u → u < 315 := fun u hu => by
    unfold nS lf_g at hu
    omega
  have nf : ∀ u, lf_g I G u → nS I G (L u) ∧ nS I G (R u) := fun u hu => by
    have e := hu
    unfold lf_g at e
    obtain ⟨x1, x2, x3, x4⟩ := hX (u - I - 1) (by omega)
    rw [show I + 1 + (u - I - 1) = u by omega] at x3 x4
    exact ⟨x3, x4⟩
  rw [f3 s (lt s (Or.inr hs))]
  apply Classical.byContradiction
  intro hn
  have hd := f4 s (lt s (Or.inr hs))
  have step : ∀ u, lf_g I G u → ¬ dep u = 1000000 → dep (L u) < dep u ∧ dep (R u) < dep u := fun u hu hn => by
    have h3 := (f6 u ((hw0 u).mpr hu) hn).2.2
    have h4 := Int.le_max_left (dep (L u)) (dep (R u))
    have h5 := Int.le_max_right (dep (L u)) (dep (R u))
    omega
  have h0 := step s hs hn
  have := hl (fun u => dep u < dep s) h0.1 h0.2 (fun u hu hs2 => by
    have hs2 : dep u < dep s := hs2
    have h1 := step u hu (by omega)
    exact ⟨show dep (L u) < dep s by omega, show dep (R u) < dep s by omega⟩)
  have this : dep s < dep s := this
  omega
def it (f : Nat → Nat) (s : Nat) : Nat → Nat
  | 0 => s
  | n + 1 => f (it f s n)
/-- among gates that wait for each other there is a loop -/
theorem ld_some (hG : G ≤ 300) (hX : fX I G L R X Y) (hI : I ≤ 14) (hw0 : ∀ s, s ∈ w0 ↔ lf_g I G s) (hF : ar_F L R w0 dep ws) : ∃ s ∈ ws, lf_R L R (lf_g I G) s s := by
  obtain ⟨f1, f2, f3, f4, f5, f6⟩ := hF
  have lt : ∀ u, nS I G u → u < 315 := fun u hu => by
    unfold nS lf_g at hu
    omega
  have gt : ∀ u, u ∈ ws → lf_g I G u := fun u hu => (hw0 u).mp (f2.subset hu)
  have nf : ∀ u, lf_g I G u → nS I G (L u) ∧ nS I G (R u) := fun u hu => by
    have e := hu
    unfold lf_g at e
    obtain ⟨x1, x2, x3, x4⟩ := hX (u - I - 1) (by omega)
    rw [show I + 1 + (u - I - 1) = u by omega] at x3 x4
    exact ⟨x3, x4⟩
  have hf : ∀ u : Nat, ∃ v, u ∈ ws → v ∈ ws ∧ (v = L u ∨ v = R u) := fun u => by
    by_cases h : u ∈ ws
    · have hn := nf u (gt u h)
      rcases f5 u h with q | q
      · exact ⟨L u, fun _ => ⟨(f3 _ (lt _ hn.1)).mpr q, Or.inl rfl⟩⟩
      · exact ⟨R u, fun _ => ⟨(f3 _ (lt _ hn.2)).mpr q, Or.inr rfl⟩⟩
    · exact ⟨0, fun z => absurd z h⟩
  obtain ⟨f, hf⟩ := Classical.axiomOfChoice hf
  obtain ⟨s, hs⟩ : ∃ s, s ∈ ws := by
    cases hws : ws with
    | nil => exact absurd hws f1
    | cons s r => exact ⟨s, List.mem_cons_self⟩
  have hit : ∀ n, it f s n ∈ ws := by
    intro n
    induction n with
    | zero => exact hs
    | succ n ih => exact (hf _ ih).1
  have reach : ∀ (n i : Nat), lf_R L R (lf_g I G) (it f s i) (it f s (i + n + 1)) := by
    intro n
    induction n with
    | zero =>
      intro i S h1 h2 _
      rcases (hf _ (hit i)).2 with q | q
      · show S (f (it f s i))
        rw [q]
        exact h1
      · show S (f (it f s i))
        rw [q]
        exact h2
    | succ n ih =>
      intro i S h1 h2 h3
      have h4 := ih i S h1 h2 h3
      have h5 := h3 _ (gt _ (hit (i + n + 1))) h4
      rcases (hf _ (hit (i + n + 1))).2 with q | q
      · show S (f (it f s (i + n + 1)))
        rw [q]
        exact h5.1
      · show S (f (it f s (i + n + 1)))
        rw [q]
        exact h5.2
  apply Classical.byContradiction
  intro hno
  have inj : ∀ i j, i < j → ¬ it f s i = it f s j := fun i j hij e => by
    have := reach (j - i - 1) i
    rw [show i + (j - i - 1) + 1 = j by omega, ← e] at this
    exact hno ⟨_, hit i, this⟩
  have h1 := nd_map (f := it f s) (List.range (ws.length + 1)) List.nodup_range (fun a _ d _ e => by
    rcases Nat.lt_trichotomy a d with q | q | q
    · exact absurd e (inj a d q)
    · exact q
    · exact absurd e.symm (inj d a q))
  have h2 := nd_sub _ ws h1 (fun y hy => by
    obtain ⟨a, _, e⟩ := List.mem_map.mp hy
    rw [← e]
    exact hit a)
  rw [List.length_map, List.length_range] at h2
  omega
/-- the least gate on a loop -/
theorem ld_least (hI : I ≤ 14) (hG : G ≤ 300) (hX : fX I G L R X Y) (hw0 : ∀ s, s ∈ w0 ↔ lf_g I G s) (hp : w0.Pairwise (fun a d => ow a < ow d)) (hF : ar_F L R w0 dep ws) {v v' : Int} (hv : lf_v (lf_g I G) L R ow ws v) (hv' : mg_v X Y I G ow G v') : v = v' := by
  rcases hv with ⟨xs, s, ys, e, hxs, hs, ev⟩ | ⟨hno, _⟩
  · have hsw : s ∈ ws := by rw [e]; simp
    have hg := (hw0 s).mp (hF.2.1.subset hsw)
    have hg2 := hg
    unfold lf_g at hg2
    have es : I + 1 + (s - I - 1) = s := by omega
    have hl : mb_R X Y G (s - I - 1) (15 + (s - I - 1)) := by
      rw [← ld_loop hI hX (by omega), es]
      exact hs
    rcases hv' with ⟨_, q⟩ | ⟨k, k1, k2, k3, k4⟩
    · exact absurd hl (q _ (by omega))
    · have h1 := k4 _ (by omega) hl
      rw [es] at h1
      have hk := (ld_loop hI hX k1).mpr k2
      have hkw := ld_wait hI hG hX hw0 hF ⟨by omega, by omega⟩ hk
      rw [e] at hkw
      have pw := hp.sublist hF.2.1
      rw [e, List.pairwise_append] at pw
      rcases List.mem_append.mp hkw with q | q
      · exact absurd hk (hxs _ q)
      · rcases List.mem_cons.mp q with q | q
        · rw [ev, k3, q]
        · have := (List.pairwise_cons.mp pw.2.1).1 _ q
          omega
  · obtain ⟨s, h1, h2⟩ := ld_some hG hX hI hw0 hF
    exact absurd h2 (hno s h1)
end LL
/-- the two readings of a text come to the same -/
theorem ld_eq {Jc Jm : mj_FI} {b m I O G : Nat} {so ow le ri ou : Nat → Int} (hW : nW Jc b m I O G) (e1 : Jc (b + 1) = so) (e2 : Jc (b + 2) = ow) (e3 : Jc (b + 3) = le) (e4 : Jc (b + 4) = ri) (e5 : Jc (b + 5) = ou) (hc : rt_c Jc 29 b m I O G) (hm : mc_r I O G so ow le ri ou Jm) :
    (¬ Jc 29 1 = 0 ∧ Jm 52 21 = Jc 29 1 ∧ Jm 52 22 = Jc 29 2) ∨
    (Jc 29 1 = 0 ∧ Jc 29 2 = 0 ∧ Jm 52 21 = 0 ∧ md_mn (nUx le ri ou I O G) so (-1) ∧ ∃ (D : Nat → Int) (pl : List Nat), ma_I (mRow I so le) (mRow I so ri) G D pl ∧ (mo_d D G G).length = G ∧ (∀ r, r < 315 → Jm 67 (630 + r) = D r) ∧ (∀ (i s : Nat), (mo_d D G G)[i]? = some s → Jm 68 (600 + i) = (s : Int)) ∧ ∀ s, nS I G s → D (rN I s) = Jc (b + 6) s) := by
  subst e1 e2 e3 e4 e5
  have hI := hW.2.1
  have hG := hW.2.2.2.1
  have hw0 : ∀ s, s ∈ nt_wl Jc b m ↔ lf_g I G s := fun s => nt_wl_g hW
  have hU : ∀ lit, nU Jc b I O G lit ↔ nUx (Jc (b + 3)) (Jc (b + 4)) (Jc (b + 5)) I O G lit := fun lit => Iff.rfl
  have hXf : nNo Jc b I O G → fX I G (nF (Jc (b + 1)) (Jc (b + 3))) (nF (Jc (b + 1)) (Jc (b + 4))) (mRow I (Jc (b + 1)) (Jc (b + 3))) (mRow I (Jc (b + 1)) (Jc (b + 4))) := fun hn k hk => by
    obtain ⟨⟨a1, a2, a3, a4⟩, b1, b2, b3, b4⟩ := hW.fan hn (s := I + 1 + k) ⟨by omega, by omega⟩
    refine ⟨?_, ?_, nS_of hW (by omega) a3, nS_of hW (by omega) b3⟩
    · unfold mRow
      rw [a3, rho_N]
      omega
    · unfold mRow
      rw [b3, rho_N]
      omega
  rcases hc with ⟨c1, c2, ⟨lit, l1, l2, l3⟩, c4⟩ | ⟨hn, c1, dep, ws, hF, hv⟩ | ⟨hn, c1, c2, od, hT, hr⟩
  · refine Or.inl ⟨by omega, ?_⟩
    rcases hm with ⟨m1, m2, m3⟩ | ⟨m1, _⟩
    · refine ⟨by omega, ?_⟩
      rcases m3 with ⟨z, _⟩ | ⟨n1, n2, ⟨lit', k1, k2, k3⟩, n4⟩
      · omega
      · have q1 := n4 lit ((hU lit).mp l1) l2
        have q2 := c4 lit' ((hU lit').mpr k1) k2
        omega
    · rcases m1 with ⟨_, z⟩ | ⟨z, _⟩
      · exact absurd l2 (z lit ((hU lit).mp l1))
      · omega
  · rcases hm with ⟨m1, m2, m3⟩ | ⟨m1, D, pl, mI, mS, mm⟩
    · rcases m3 with ⟨z, _⟩ | ⟨n1, n2, ⟨lit', k1, k2, k3⟩, n4⟩
      · omega
      · exact absurd k2 (hn lit' ((hU lit').mpr k1))
    · rcases mm with ⟨_, q, _⟩ | ⟨q, q2, q3⟩
      · exact absurd q (ld_stuck hI hG (hXf hn) hw0 hF mI)
      · exact Or.inl ⟨by omega, by omega, (ld_least hI hG (hXf hn) hw0 (nt_wl_pw hW m (Nat.le_refl _)) hF hv q3).symm⟩
  · have d0 : ∀ s, s ≤ I → Jc (b + 6) s = 0 := fun s hs => hT.2.1 s (by omega) (fun z => by
      have := (hw0 s).mp z
      unfold lf_g at this
      omega)
    have d1 : ∀ s, lf_g I G s → 1 ≤ Jc (b + 6) s ∧ Jc (b + 6) s = 1 + max (Jc (b + 6) (nF (Jc (b + 1)) (Jc (b + 3)) s)) (Jc (b + 6) (nF (Jc (b + 1)) (Jc (b + 4)) s)) := fun s hs => by
      have := hT.1 s ((hw0 s).mpr hs)
      exact ⟨this.2.1, this.2.2.2⟩
    rcases hm with ⟨m1, m2, m3⟩ | ⟨m1, D, pl, mI, mS, mm⟩
    · rcases m3 with ⟨z, _⟩ | ⟨n1, n2, ⟨lit', k1, k2, k3⟩, n4⟩
      · omega
      · exact absurd k2 (hn lit' ((hU lit').mpr k1))
    · rcases mm with ⟨q, q2, q3, q4⟩ | ⟨q, _⟩
      · exact Or.inr ⟨c1, c2, q, m1, D, pl, mI, q2, q3, q4, ld_D hI (hXf hn) d0 d1 mI mS⟩
      · exact absurd (ld_all hI (hXf hn) d0 d1 mI mS hG) q
