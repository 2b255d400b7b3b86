/-! CIRCUIT: bucketFor -/
theorem cov_len : ∀ (k : Nat) (l : List Nat), (∀ x, x < k → x ∈ l) → k ≤ l.length
  | 0, _, _ => Nat.zero_le _
  | k + 1, l, h => by
    have h2 := cov_len k (l.filter (fun x => decide (x ≠ k))) (fun x hx => by
      rw [List.mem_filter]
      refine ⟨h x (by omega), ?_⟩
      simp
      omega)
    have h4 := ar_len (P := fun x => decide (x ≠ k)) l
    have h5 : 0 < (l.filter (fun s => !decide (s ≠ k))).length := List.length_pos_of_mem (a := k) (by rw [List.mem_filter]; exact ⟨h k (by omega), by simp⟩)
    omega
/-- the bucket at which the search for a hash begins -/
def bk_h (x : BitVec 64) : Nat := (x >>> 55).toNat
theorem bk_h_lt (x : BitVec 64) : bk_h x < 512 := by
  unfold bk_h
  rw [BitVec.toNat_ushiftRight, Nat.shiftRight_eq_div_pow]
  have := x.isLt
  omega
/-- the buckets B hold the leaders ld -/
def bk_V (B : Nat → Int) (H : Nat → BitVec 64) (ld : List Nat) : Prop := (∀ p, p < 512 → B p = -1 ∨ ∃ t ∈ ld, B p = (t : Int)) ∧
  (∀ t ∈ ld, t < 315 ∧ ∃ k, k < 512 ∧ B ((bk_h (H t) + k) % 512) = (t : Int) ∧ ∀ j, j < k → ¬ B ((bk_h (H t) + j) % 512) = -1) ∧ ∃ ps : List Nat, (∀ p, p < 512 → ¬ B p = -1 → p ∈ ps) ∧ ps.length ≤ ld.length ∧ ld.length ≤ 315 ∧ ∀ p q, p < 512 → q < 512 → B p = B q → ¬ B p = -1 → p = q
/-- where the function of slot s of d is held, or its free bucket -/
def bk_q (B : Nat → Int) (LA : mj_LA) (c d s W : Nat) (ld : List Nat) (p : Nat) : Prop := p < 512 ∧
  ((∃ t ∈ ld, B p = (t : Int) ∧ LA (c + 11) t = LA (d + 11) s ∧ C_si LA c t d s W) ∨
   (B p = -1 ∧ (∀ t ∈ ld, ¬ (LA (c + 11) t = LA (d + 11) s ∧ C_si LA c t d s W)) ∧ ∃ k, k < 512 ∧ p = (bk_h (LA (d + 11) s) + k) % 512 ∧ ∀ j, j < k → ¬ B ((bk_h (LA (d + 11) s) + j) % 512) = -1))
section CC
variable {sh : mj_Sh} {FR : mj_FR} {IA : mj_FI} {LA : mj_LA} {n c b : Nat}
set_option maxHeartbeats 1000000 in
theorem ct_C_bucketFor (h : isC sh FR n c b) {d b2 : Nat} (h2 : isC sh FR n d b2) {s W : Nat} {ld : List Nat} (hs : s < 315) (hW : IA c 8 = (W : Int)) (hW2 : W ≤ 256) (hV : bk_V (IA (c + 13)) (LA (c + 11)) ld) : mj_Ct m_C_bucketFor [.inr (.inr (.inl c)), .inr (.inr (.inl d)), .inl s] sh FR IA LA n (mj_po (fun o J => J = IA ∧ ∃ p : Nat, o = .inl (some (.inl p)) ∧ bk_q (IA (c + 13)) LA c d s W ld p) sh FR LA n) := by
  have hC := h
  have hC2 := h2
  obtain ⟨h0, r0, r4, r5, r6, r7, a4, a5, a6, a7⟩ := h
  obtain ⟨g0, k0, k4, k5, k6, k7, b4, b5, b6, b7⟩ := h2
  have hlt := bk_h_lt (LA (d + 11) s)
  generalize hh : bk_h (LA (d + 11) s) = h0' at hlt
  obtain ⟨v1, v2, ps, v3, v4, v5, _⟩ := hV
  have loop : ∀ (t k : Nat) (x : Option mj_V), k + t = 512 → (∀ j, j < k → ∃ u ∈ ld, IA (c + 13) ((h0' + j) % 512) = (u : Int) ∧ ¬ (LA (c + 11) u = LA (d + 11) s ∧ C_si LA c u d s W)) →
      mj_G m_C_bucketFor (mj_po (fun o J => J = IA ∧ ∃ p : Nat, o = .inl (some (.inl p)) ∧ bk_q (IA (c + 13)) LA c d s W ld p) sh FR LA n) 14 [some (.inr (.inr (.inl c))), some (.inr (.inr (.inl d))), some (.inl s), some (.inl ((((h0' + k) % 512 : Nat) : Int))), some (.inl k), x] [] sh FR IA LA n 0 0 := by
    intro t
    induction t with
    | zero =>
      intro k x hk hin
      exfalso
      have := cov_len 512 ps (fun p hp => v3 p hp (by
        obtain ⟨u, _, u2, _⟩ := hin ((p + 512 - h0') % 512) (by omega)
        have e : (h0' + (p + 512 - h0') % 512) % 512 = p := by omega
        rw [e] at u2
        omega))
      omega
    | succ t ih =>
      intro k x hk hin
      have hp : (h0' + k) % 512 < 512 := Nat.mod_lt _ (by decide)
      have hv := v1 _ hp
      refine mj_go z_C_bucketFor [14, 47] 60 ?_
      refine And.intro (fun e => ?_) (fun e => ?_)
      · simp (disch := (clear e; omega)) only [mj_w_id] at e
        omega
      · refine And.intro h0 (Exists.intro _ (And.intro r7 ?_))
        refine Exists.intro _ (Exists.intro ((h0' + k) % 512) (And.intro a7 (And.intro (by first | (rw [mj_w_id (by omega) (by omega)]; done) | (rw [mj_w_id (by omega) (by omega)]; omega) | (unfold mj_w; omega)) (And.intro (by omega) ?_))))
        have hret : bk_q (IA (c + 13)) LA c d s W ld ((h0' + k) % 512) → mj_G m_C_bucketFor (mj_po (fun o J => J = IA ∧ ∃ p : Nat, o = .inl (some (.inl p)) ∧ bk_q (IA (c + 13)) LA c d s W ld p) sh FR LA n) 47 [some (.inr (.inr (.inl c))), some (.inr (.inr (.inl d))), some (.inl s), some (.inl ((((h0' + k) % 512 : Nat) : Int))), some (.inl k), some (.inl (IA (c + 13) ((h0' + k) % 512)))] [] sh FR IA LA n 0 0 := by
          intro hq
          refine mj_go z_C_bucketFor [14] 60 ?_
          exact ⟨⟨rfl, rfl, rfl, rfl, rfl, _, rfl, hq⟩, Nat.le_of_ble_eq_true rfl, Nat.le_of_ble_eq_true rfl⟩
        rcases hv with hv | ⟨u, u1, u2⟩
        · rw [hv] at hret ⊢
          refine And.intro (fun e2 => ?_) (fun e2 => ?_)
          · refine hret ⟨hp, Or.inr ⟨hv, fun u u1 u2 => ?_, k, by omega, by rw [hh], fun j hj => ?_⟩⟩
            · obtain ⟨_, k', w1, w2, w3⟩ := v2 u u1
              rw [u2.1, hh] at w2 w3
              by_cases z : k < k'
              · exact w3 k z hv
              · by_cases z2 : k = k'
                · subst z2
                  rw [hv] at w2
                  omega
                · obtain ⟨y, y1, y2, y3⟩ := hin k' (by omega)
                  rw [w2] at y2
                  have : u = y := by omega
                  subst this
                  exact y3 u2
            · rw [hh]
              obtain ⟨y, y1, y2, y3⟩ := hin j hj
              omega
          · exact absurd rfl e2
        · have ult := (v2 u u1).1
          rw [u2] at hret ⊢
          refine And.intro (fun e2 => ?_) (fun e2 => ?_)
          · simp (disch := (clear e2; omega)) only [mj_w_id] at e2
            omega
          · refine And.intro h0 (And.intro (Nat.le_of_ble_eq_true rfl) (And.intro (Nat.le_of_ble_eq_true rfl) (And.intro (Nat.le_of_ble_eq_true rfl) (Exists.intro _ (And.intro (ct_C_isSame hC hC2 ult hs hW hW2) ?_)))))
            rintro o1 sh9 FR9 J1 LA9 n9 ⟨z1, z2, z3, z4, hp1⟩
            replace z1 := z1.symm
            subst z1
            replace z2 := z2.symm
            subst z2
            replace z3 := z3.symm
            subst z3
            replace z4 := z4.symm
            subst z4
            obtain ⟨hJ, hq⟩ := hp1
            subst hJ
            rcases hq with ⟨q1, q2⟩ | ⟨q1, q2⟩
            · subst q1
              refine And.intro (Or.inl rfl) ?_
              refine And.intro (fun e3 => ?_) (fun e3 => ?_)
              · exact absurd e3 (by decide)
              · exact hret ⟨hp, Or.inl ⟨u, u1, u2, q2⟩⟩
            · subst q1
              refine And.intro (Or.inl rfl) ?_
              refine And.intro (fun e3 => ?_) (fun e3 => ?_)
              · refine Exists.intro ((((h0' + k) % 512 + 1 : Nat) : Int)) (And.intro (by first | (rw [mj_w_id (by omega) (by omega)]; done) | (rw [mj_w_id (by omega) (by omega)]; omega) | (unfold mj_w; omega)) ?_)
                refine And.intro (by decide) ?_
                refine Exists.intro (((((h0' + (k + 1)) % 512 : Nat) : Int))) (And.intro ((nu_rem (by omega) (by omega) (by omega) (by omega)).trans (by omega)) ?_)
                refine Exists.intro (((k + 1 : Nat) : Int)) (And.intro (by first | (rw [mj_w_id (by omega) (by omega)]; done) | (rw [mj_w_id (by omega) (by omega)]; omega) | (unfold mj_w; omega)) ?_)
                refine ih (k + 1) _ (by omega) (fun j hj => ?_)
                by_cases z : j = k
                · subst z
                  exact ⟨u, u1, u2, q2⟩
                · exact hin j (by omega)
              · exact absurd (by decide) e3
  refine mj_Ct_of (by decide +kernel) (by decide) (Nat.le_of_ble_eq_true rfl) ?_
  refine mj_go z_C_bucketFor [14] 60 ?_
  refine And.intro g0 (Exists.intro _ (And.intro k5 ?_))
  refine Exists.intro _ (Exists.intro (s) (And.intro b5 (And.intro (by first | (rw [mj_w_id (by omega) (by omega)]; done) | (rw [mj_w_id (by omega) (by omega)]; omega) | (unfold mj_w; omega)) (And.intro (by omega) ?_))))
  refine Exists.intro (LA (d + 11) s >>> 55) (And.intro (nu_lushr _ (by decide)) ?_)
  refine Exists.intro (((h0' : Nat) : Int)) (And.intro ((by rw [nu_toInt64 (by rw [show (LA (d + 11) s >>> 55).toNat = h0' from hh]; omega), show (LA (d + 11) s >>> 55).toNat = h0' from hh, mj_w_id (by omega) (by omega)])) ?_)
  have hl := loop 512 0 none (by omega) (fun j hj => by omega)
  rw [show (h0' + 0) % 512 = h0' by omega] at hl
  exact hl
end CC
