/-! THE LAW: queries on both sides -/
def lwF (sh : mj_Sh) (k : Int) : mj_Q := fun o sh2 FR2 IA2 LA2 n2 => sh2 = sh ∧ n2 = 78 ∧ ∃ z : Int, o = .inl (some (.inl z)) ∧ (∃ b1 b2 b3, Iv sh FR2 IA2 LA2 b1 b2 b3) ∧ IA2 52 0 = k ∧ (k = 0 → LA2 77 0 = BitVec.ofInt 64 (mj_w z))
def lwFz (sh : mj_Sh) (k : Int) : mj_Q := fun o sh2 FR2 IA2 LA2 n2 => sh2 = sh ∧ n2 = 78 ∧ ∃ z : Int, o = .inl (some (.inl z)) ∧ (z = 0 ∨ z = 1) ∧ (∃ b1 b2 b3, Iv sh FR2 IA2 LA2 b1 b2 b3) ∧ IA2 52 0 = k ∧ (k = 0 → LA2 77 0 = BitVec.ofInt 64 (mj_w z))
def lwFl (sh : mj_Sh) (k : Int) : mj_Q := fun o sh2 FR2 IA2 LA2 n2 => sh2 = sh ∧ n2 = 78 ∧ ∃ z : BitVec 64, o = .inl (some (.inr (.inl z))) ∧ (∃ b1 b2 b3, Iv sh FR2 IA2 LA2 b1 b2 b3) ∧ IA2 52 0 = k ∧ (k = 0 → LA2 77 0 = z)
/-- a call on both sides: the class's by the law's helper, then the reference's -/
def lwM (sh : mj_Sh) (NM : mj_M) (as : List mj_V) (Fi : Int → mj_Q) : mj_Q := fun o sh1 FR1 IA1 LA1 n1 => sh1 = sh ∧ n1 = 78 ∧ ∃ k : Int, o = .inl (some (.inl k)) ∧ (0 ≤ k ∧ k ≤ 2) ∧ ∃ Q2 : mj_Q, mj_Ct NM as sh FR1 IA1 LA1 78 Q2 ∧ ∀ o2 sh2 FR2 IA2 LA2 n2, Q2 o2 sh2 FR2 IA2 LA2 n2 → Fi k o2 sh2 FR2 IA2 LA2 n2
def lwC (sh : mj_Sh) (FR : mj_FR) (IA : mj_FI) (LA : mj_LA) (NL NM : mj_M) (asL asM : List mj_V) (Fi : Int → mj_Q) : Prop := ∃ Q1 : mj_Q, mj_Ct NL asL sh FR IA LA 78 Q1 ∧ ∀ o sh1 FR1 IA1 LA1 n1, Q1 o sh1 FR1 IA1 LA1 n1 → lwM sh NM asM Fi o sh1 FR1 IA1 LA1 n1
def kl (LA K : mj_LA) : Prop := K = LA ∨ ∃ v, K = mj_up LA 77 0 v
theorem kl.lw {LA K : mj_LA} (h : kl LA K) : M_lw K = M_lw LA := by
  rcases h with h | ⟨v, h⟩
  · rw [h]
  · rw [h, M_lw_up]
theorem kl.bt {LA K : mj_LA} (h : kl LA K) : M_bt K = M_bt LA := by
  rcases h with h | ⟨v, h⟩
  · rw [h]
  · rw [h, M_bt_up]
theorem kl.eq {LA K : mj_LA} (h : kl LA K) : M_eq K = M_eq LA := by
  rcases h with h | ⟨v, h⟩
  · rw [h]
  · rw [h, M_eq_up]
theorem kl.oe {IA : mj_FI} {LA K : mj_LA} (h : kl LA K) : M_oe IA K = M_oe IA LA := by
  rcases h with h | ⟨v, h⟩
  · rw [h]
  · rw [h, M_oe_up]
theorem kl.be {IA : mj_FI} {LA K : mj_LA} (h : kl LA K) : M_be IA K = M_be IA LA := by
  rcases h with h | ⟨v, h⟩
  · rw [h]
  · rw [h, M_be_up]
theorem kl.nl {LA K : mj_LA} (h : kl LA K) : M_nl K = M_nl LA := by
  rcases h with h | ⟨v, h⟩
  · rw [h]
  · rw [h, M_nl_up]
section LL
variable {sh : mj_Sh} {FR : mj_FR} {IA : mj_FI} {LA : mj_LA} {b1 b2 b3 : Nat}
theorem Iv.t0 (h : Iv sh FR IA LA b1 b2 b3) : mj_is sh 78 0 4 0 := h.1.1
theorem Iv.a7 (h : Iv sh FR IA LA b1 b2 b3) : mj_is sh 78 77 3 1 := h.2.2.1
theorem po_q {P : mj_O → Prop} {o : mj_O} {sh1 : mj_Sh} {FR1 : mj_FR} {IA1 : mj_FI} {LA1 : mj_LA} {n n1 : Nat} (h : mj_po (fun o J => J = IA ∧ P o) sh FR LA n o sh1 FR1 IA1 LA1 n1) : sh1 = sh ∧ FR1 = FR ∧ IA1 = IA ∧ LA1 = LA ∧ n1 = n ∧ P o := ⟨h.1, h.2.1, h.2.2.2.2.1, h.2.2.1, h.2.2.2.1, h.2.2.2.2.2⟩
theorem pu_q {o0 o : mj_O} {sh1 : mj_Sh} {FR1 : mj_FR} {IA1 : mj_FI} {LA1 : mj_LA} {n n1 : Nat} (h : mj_pu o0 sh FR IA LA n o sh1 FR1 IA1 LA1 n1) : sh1 = sh ∧ FR1 = FR ∧ IA1 = IA ∧ LA1 = LA ∧ n1 = n ∧ o = o0 := ⟨h.2.1, h.2.2.1, h.2.2.2.1, h.2.2.2.2.1, h.2.2.2.2.2, h.1⟩
theorem lw_query {NL NM : mj_M} {asL asM : List mj_V} {Q1 : mj_Q} {P1 : mj_O → Prop} {P2 : mj_O → mj_FI → Prop} {kd : Nat → Int} (hI : Iv sh FR IA LA b1 b2 b3) (hL : mj_Ct NL asL sh FR IA LA 78 (lH Q1 kd)) (hQ : ∀ o sh1 FR1 IA1 LA1 n1, Q1 o sh1 FR1 IA1 LA1 n1 → sh1 = sh ∧ FR1 = FR ∧ IA1 = IA ∧ LA1 = LA ∧ n1 = 78 ∧ P1 o)
    (hM : ∀ K, kl LA K → ∃ Q2 : mj_Q, mj_Ct NM asM sh FR IA K 78 Q2 ∧ ∀ o sh1 FR1 J K1 n1, Q2 o sh1 FR1 J K1 n1 → sh1 = sh ∧ FR1 = FR ∧ K1 = K ∧ n1 = 78 ∧ P2 o J)
    (hok : ∀ z o J, P1 (.inl (some (.inl z))) → P2 o J → J = mj_up IA 52 0 0 ∧ o = .inl (some (.inl z))) (hbad : ∀ e o J, P1 (.inr e) → P2 o J → J = mj_up IA 52 0 (kd e) ∧ (1 ≤ kd e ∧ kd e ≤ 2) ∧ ∃ z : Int, o = .inl (some (.inl z))) (hkd : ∀ e, 0 ≤ kd e ∧ kd e ≤ 2) : lwC sh FR IA LA NL NM asL asM (lwF sh) := by
  refine ⟨_, hL, ?_⟩
  rintro o sh1 FR1 IA1 LA1 n1 (⟨z, LA2, e1, hq, e2⟩ | ⟨e, hq, e1⟩)
  · obtain ⟨q1, q2, q3, q4, q5, q6⟩ := hQ _ _ _ _ _ _ hq
    subst q1 q2 q3 q4 q5 e1 e2
    obtain ⟨Q2, k1, k2⟩ := hM _ (Or.inr ⟨BitVec.ofInt 64 (mj_w z), rfl⟩)
    refine ⟨rfl, rfl, 0, rfl, ⟨by omega, by omega⟩, Q2, k1, fun o2 sh2 FR2 IA2 LA2 n2 h2 => ?_⟩
    obtain ⟨r1, r2, r3, r4, r5⟩ := k2 _ _ _ _ _ _ h2
    obtain ⟨s1, s2⟩ := hok z _ _ q6 r5
    subst r1 r2 r3 r4 s1 s2
    exact ⟨rfl, rfl, z, rfl, ⟨b1, b2, b3, hI.q up77⟩, mj_up_at, fun _ => up77_at⟩
  · obtain ⟨q1, q2, q3, q4, q5, q6⟩ := hQ _ _ _ _ _ _ hq
    subst q1 q2 q3 q4 q5 e1
    obtain ⟨Q2, k1, k2⟩ := hM _ (Or.inl rfl)
    refine ⟨rfl, rfl, kd e, rfl, hkd e, Q2, k1, fun o2 sh2 FR2 IA2 LA2 n2 h2 => ?_⟩
    obtain ⟨r1, r2, r3, r4, r5⟩ := k2 _ _ _ _ _ _ h2
    obtain ⟨s1, s2, z, s3⟩ := hbad e _ _ q6 r5
    subst r1 r2 r3 r4 s1 s3
    exact ⟨rfl, rfl, z, rfl, ⟨b1, b2, b3, hI.q (fun _ _ => rfl)⟩, mj_up_at, fun z => by omega⟩
/-- no such circuit -/
theorem lw_bad {NL NM : mj_M} {asL asM : List mj_V} {e : Nat} {kd : Nat → Int} (hI : Iv sh FR IA LA b1 b2 b3) (hL : mj_Ct NL asL sh FR IA LA 78 (lH (mj_pu (.inr e) sh FR IA LA 78) kd)) (hM : mj_Ct NM asM sh FR IA LA 78 (mj_pu (.inl (some (.inl 0))) sh FR (mj_up IA 52 0 1) LA 78)) (hk : kd e = 1) : lwC sh FR IA LA NL NM asL asM (lwF sh) := by
  refine ⟨_, hL, ?_⟩
  rintro o sh1 FR1 IA1 LA1 n1 (⟨z, LA2, e1, hq, e2⟩ | ⟨e', hq, e1⟩)
  · have := hq.1
    cases this
  · obtain ⟨q1, q2, q3, q4, q5, q6⟩ := pu_q hq
    cases q6
    subst q1 q2 q3 q4 q5 e1
    refine ⟨rfl, rfl, kd e, rfl, by omega, _, hM, fun o2 sh2 FR2 IA2 LA2 n2 h2 => ?_⟩
    obtain ⟨r0, r1, r2, r3, r4, r5⟩ := h2
    subst r0 r1 r2 r3 r4 r5
    exact ⟨rfl, rfl, 0, rfl, ⟨b1, b2, b3, hI.q (fun _ _ => rfl)⟩, by rw [mj_up_at, hk], fun z => by omega⟩
theorem st_value (hI : Iv sh FR IA LA b1 b2 b3) {x lit v : Int} (ix : mj_i x) (il : mj_i lit) (iv : mj_i v) : lwC sh FR IA LA m_L_value m_M_value [.inr (.inr (.inl 0)), .inl x, .inl lit, .inl v, .inr (.inr (.inl 77))] [.inr (.inr (.inl 52)), .inl x, .inl lit, .inl v] (lwF sh) := by
  by_cases hx : x = 0 ∨ x = 1
  · obtain ⟨n, c, b, m, I, O, G, od, ld, e, hn, ht, h⟩ := hI.c hx
    subst e
    refine lw_query (P2 := M_an IA (M_st IA n lit ∧ 0 ≤ v ∧ v < ((2 ^ I : Nat) : Int)) (fun o => o = .inl (some (.inl (if M_bt LA I n (M_ro IA n lit) lit v.toNat = true then 1 else 0))))) hI (ct_L_value hI.t0 hI.a7 (ct_T_value hI.1 ht h.1 il iv) (fun o s f i l k hq => ?_)) (fun o s f i l k hq => po_q hq) (fun K hK => ⟨_, ct_M_value hI.2.1 hn h.2.1.1 h.W.2.1 il iv hI.rr, fun o s f J K1 n1 hq => ⟨hq.1, hq.2.1, hq.2.2.1, hq.2.2.2.1, ?_⟩⟩) (fun z o J p1 p2 => ?_) (fun e o J p1 p2 => ?_) (fun e => ⟨by decide, by decide⟩)
    · obtain ⟨q1, q2, q3, q4, q5, q6⟩ := po_q hq
      refine ⟨q1, q5, ?_⟩
      rcases q6 with ⟨_, _, e⟩ | ⟨_, e⟩
      · exact Or.inl ⟨_, e⟩
      · exact Or.inr e
    · have h5 := hq.2.2.2.2
      rw [hK.bt] at h5
      exact h5
    · rcases p1 with ⟨a1, a2, a3⟩ | ⟨_, a3⟩
      · cases a3
        rcases p2 with ⟨_, d2, d3⟩ | ⟨d1, _⟩
        · refine ⟨d2, ?_⟩
          rw [d3, h.ro a1, h.bt (h.sl a1) (by have := h.1.N; omega)]
        · exact absurd ⟨h.st.mpr a1, a2⟩ d1
      · cases a3
    · rcases p1 with ⟨a1, a2, a3⟩ | ⟨a1, a3⟩
      · cases a3
      · rcases p2 with ⟨d1, _⟩ | ⟨_, d2, d3⟩
        · exact absurd ⟨h.st.mp d1.1, d1.2⟩ a1
        · exact ⟨d2, ⟨by decide, by decide⟩, 0, d3⟩
  · exact lw_bad hI (ct_L_value hI.t0 hI.a7 (ct_T_valueX hI.1 ix hx) (fun o s f i l k hq => ⟨(pu_q hq).1, (pu_q hq).2.2.2.2.1, Or.inr (pu_q hq).2.2.2.2.2⟩)) (ct_M_valueX hI.2.1 ix hx) rfl
end LL
