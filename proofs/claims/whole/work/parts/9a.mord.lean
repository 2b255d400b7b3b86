/-! THE REFERENCE: arrange, the order -/
def mo_k (D : Nat → Int) (d : Nat) : Nat → List Nat
  | 0 => []
  | k + 1 => mo_k D d k ++ (if D (15 + k) = (d : Int) then [k] else [])
def mo_d (D : Nat → Int) (G : Nat) : Nat → List Nat
  | 0 => []
  | d + 1 => mo_d D G d ++ mo_k D (d + 1) G
theorem mo_k_mem {D : Nat → Int} {d : Nat} : ∀ {K k : Nat}, k ∈ mo_k D d K ↔ k < K ∧ D (15 + k) = (d : Int)
  | 0, k => by simp [mo_k]
  | K + 1, k => by
    rw [mo_k, List.mem_append, mo_k_mem]
    split
    · next c =>
      constructor
      · rintro (z | z)
        · exact ⟨by omega, z.2⟩
        · have : k = K := by simpa using z
          subst this
          exact ⟨by omega, c⟩
      · rintro ⟨z1, z2⟩
        by_cases e : k = K
        · exact Or.inr (by simp [e])
        · exact Or.inl ⟨by omega, z2⟩
    · next c =>
      constructor
      · rintro (z | z)
        · exact ⟨by omega, z.2⟩
        · cases z
      · rintro ⟨z1, z2⟩
        by_cases e : k = K
        · subst e
          exact absurd z2 c
        · exact Or.inl ⟨by omega, z2⟩
theorem mo_d_mem {D : Nat → Int} {G : Nat} : ∀ {d k : Nat}, k ∈ mo_d D G d ↔ k < G ∧ 1 ≤ D (15 + k) ∧ D (15 + k) ≤ (d : Int)
  | 0, k => by
    simp only [mo_d, List.not_mem_nil, false_iff]
    omega
  | d + 1, k => by
    rw [mo_d, List.mem_append, mo_d_mem, mo_k_mem]
    omega
theorem mo_k_nd {D : Nat → Int} {d : Nat} : ∀ K, (mo_k D d K).Nodup
  | 0 => by simp [mo_k]
  | K + 1 => by
    rw [mo_k, List.nodup_append]
    refine ⟨mo_k_nd K, by split <;> simp, fun a ha c hc e => ?_⟩
    have h1 := (mo_k_mem.mp ha).1
    split at hc
    · have : c = K := by simpa using hc
      omega
    · cases hc
theorem mo_d_nd {D : Nat → Int} {G : Nat} : ∀ d, (mo_d D G d).Nodup
  | 0 => by simp [mo_d]
  | d + 1 => by
    rw [mo_d, List.nodup_append]
    refine ⟨mo_d_nd d, mo_k_nd G, fun a ha c hc e => ?_⟩
    have h1 := mo_d_mem.mp ha
    have h2 := mo_k_mem.mp hc
    subst e
    omega
theorem mo_d_pw {D : Nat → Int} {G : Nat} : ∀ d, (mo_d D G d).Pairwise (fun a c => D (15 + a) ≤ D (15 + c))
  | 0 => by simp [mo_d]
  | d + 1 => by
    rw [mo_d, List.pairwise_append]
    refine ⟨mo_d_pw d, List.pairwise_of_forall_mem_list (fun a ha c hc => ?_), fun a ha c hc => ?_⟩
    · have h1 := (mo_k_mem.mp ha).2
      have h2 := (mo_k_mem.mp hc).2
      omega
    · have h1 := mo_d_mem.mp ha
      have h2 := mo_k_mem.mp hc
      omega
theorem mo_len {D : Nat → Int} {G d k : Nat} (hk : k ≤ G) : (mo_d D G d ++ mo_k D (d + 1) k).length ≤ G := by
  refine nd_len G _ 0 ?_ (fun x hx => ⟨Nat.zero_le _, ?_⟩)
  · rw [List.nodup_append]
    refine ⟨mo_d_nd d, mo_k_nd k, fun a ha c hc e => ?_⟩
    have h1 := mo_d_mem.mp ha
    have h2 := mo_k_mem.mp hc
    subst e
    omega
  · rcases List.mem_append.mp hx with z | z
    · have := (mo_d_mem.mp z).1
      omega
    · have := (mo_k_mem.mp z).1
      omega
theorem mo_lt {D : Nat → Int} {G d k : Nat} (hk : k < G) (hD : D (15 + k) = ((d + 1 : Nat) : Int)) : (mo_d D G d ++ mo_k D (d + 1) k).length < G := by
  have h := mo_len (D := D) (G := G) (d := d) (k := k + 1) (by omega)
  rw [mo_k, if_pos hD, ← List.append_assoc, List.length_append] at h
  simp at h ⊢
  omega
/-- the row 68 holds the list from 600 on, all else as J0 -/
def mo_J (J0 J : mj_FI) (l : List Nat) : Prop := (∀ q, q ≠ 68 → J q = J0 q) ∧ (∀ j, j < 600 → J 68 j = J0 68 j) ∧ ∀ (i s : Nat), l[i]? = some s → J 68 (600 + i) = (s : Int)
theorem mo_J_up {J0 J : mj_FI} {l : List Nat} {k : Nat} (h : mo_J J0 J l) : mo_J J0 (mj_up J 68 (600 + l.length) k) (l ++ [k]) := by
  refine ⟨fun q hq => by rw [mj_up_ne hq]; exact h.1 q hq, fun j hj => by rw [mj_up_row, mj_u_ne (by omega)]; exact h.2.1 j hj, fun i s hi => ?_⟩
  rw [mj_up_row]
  by_cases e : i < l.length
  · rw [mj_u_ne (by omega)]
    rw [List.getElem?_append_left e] at hi
    exact h.2.2 i s hi
  · rw [List.getElem?_append_right (by omega)] at hi
    have e2 : i = l.length := by
      have := (List.getElem?_eq_some_iff.mp hi).1
      simp at this
      omega
    subst e2
    rw [mj_u_at]
    simp at hi
    rw [hi]
section MM
variable {sh : mj_Sh} {FR : mj_FR} {IA : mj_FI} {LA : mj_LA} {n : Nat}
/-- what arrange leaves -/
def ma_q (X Y : Nat → Nat) (G : Nat) (IA : mj_FI) (o : mj_O) (J : mj_FI) : Prop := ∃ (D : Nat → Int) (pl : List Nat), o = .inl (some (.inl ((mo_d D G G).length : Int))) ∧ ma_I X Y G D pl ∧ ma_S X Y G D ∧ (∀ q, q ≠ 67 → q ≠ 68 → J q = IA q) ∧ (∀ r, r < 315 → J 67 (630 + r) = D r) ∧ (∀ j, j < 630 → J 67 j = IA 67 j) ∧ (∀ j, j < 600 → J 68 j = IA 68 j) ∧ ∀ (i s : Nat), (mo_d D G G)[i]? = some s → J 68 (600 + i) = (s : Int)
set_option maxHeartbeats 2000000 in
theorem ma_ord (h : isM sh FR n) {G : Nat} {X Y : Nat → Nat} (hG : IA 56 2 = (G : Int)) (hG2 : G ≤ 300) {J0 : mj_FI} {D : Nat → Int} {pl : List Nat} {y4 y5 y6 : Option mj_V} (hJ : ma_J IA J0 D) (hI : ma_I X Y G D pl) (hS : ma_S X Y G D) :
    mj_G m_M_arrange (mj_po (ma_q X Y G IA) sh FR LA n) 179 [some (.inr (.inr (.inl 52))), some (.inl 600), some (.inl 0), some (.inl 0), y4, y5, y6] [] sh FR J0 LA n 0 0 := by
  have out : ∀ (t d : Nat) (J : mj_FI) (y5 : Option mj_V), d + t = G → mo_J J0 J (mo_d D G d) → mj_G m_M_arrange (mj_po (ma_q X Y G IA) sh FR LA n) 182 [some (.inr (.inr (.inl 52))), some (.inl 600), some (.inl ((mo_d D G d).length : Int)), some (.inl 0), some (.inl ((d + 1 : Nat) : Int)), y5, y6] [] sh FR J LA n 0 0 := by
    intro t
    induction t with
    | zero =>
      intro d J y5 hd hJ1
      have e56 : J 56 2 = (G : Int) := by rw [hJ1.1 56 (by decide), hJ.1 56 (by decide)]; exact hG
      have hd : d = G := by omega
      subst hd
      refine mj_go z_M_arrange [182] 60 ?_
      refine And.intro h.o (Exists.intro _ (And.intro h.r6 ?_))
      refine Exists.intro _ (Exists.intro (2) (And.intro h.a6 (And.intro (by first | (rw [mj_w_id (by omega) (by omega)]; done) | (rw [mj_w_id (by omega) (by omega)]; omega) | (unfold mj_w; omega)) (And.intro (by omega) ?_))))
      rw [e56]
      refine And.intro (fun c => ?_) (fun c => ?_)
      · exact ⟨⟨rfl, rfl, rfl, rfl, ⟨D, pl, rfl, hI, hS, fun q h1 h2 => by rw [hJ1.1 q h2, hJ.1 q h1], fun r hr => by rw [hJ1.1 67 (by decide)]; exact hJ.2.1 r hr, fun j hj => by rw [hJ1.1 67 (by decide)]; exact hJ.2.2 j hj, fun j hj => by rw [hJ1.2.1 j hj, hJ.1 68 (by decide)], hJ1.2.2⟩⟩, Nat.le_of_ble_eq_true rfl, Nat.le_of_ble_eq_true rfl⟩
      · simp (disch := (clear c; omega)) only [mj_w_id] at c
        omega
    | succ t ih =>
      intro d J y5 hd hJ1
      have inn : ∀ (u k : Nat) (J : mj_FI), k + u = G → mo_J J0 J (mo_d D G d ++ mo_k D (d + 1) k) → mj_G m_M_arrange (mj_po (ma_q X Y G IA) sh FR LA n) 196 [some (.inr (.inr (.inl 52))), some (.inl 600), some (.inl ((mo_d D G d ++ mo_k D (d + 1) k).length : Int)), some (.inl 0), some (.inl ((d + 1 : Nat) : Int)), some (.inl k), y6] [] sh FR J LA n 0 0 := by
        intro u
        induction u with
        | zero =>
          intro k J hk hJ1
          have e56 : J 56 2 = (G : Int) := by rw [hJ1.1 56 (by decide), hJ.1 56 (by decide)]; exact hG
          have hk : k = G := by omega
          subst hk
          refine mj_go z_M_arrange [182, 196] 60 ?_
          refine And.intro h.o (Exists.intro _ (And.intro h.r6 ?_))
          refine Exists.intro _ (Exists.intro (2) (And.intro h.a6 (And.intro (by first | (rw [mj_w_id (by omega) (by omega)]; done) | (rw [mj_w_id (by omega) (by omega)]; omega) | (unfold mj_w; omega)) (And.intro (by omega) ?_))))
          rw [e56]
          refine And.intro (fun c => ?_) (fun c => ?_)
          · refine Exists.intro (((d + 1 + 1 : Nat) : Int)) (And.intro (by first | (rw [mj_w_id (by omega) (by omega)]; done) | (rw [mj_w_id (by omega) (by omega)]; omega) | (unfold mj_w; omega)) ?_)
            exact ih (d + 1) J _ (by omega) hJ1
          · simp (disch := (clear c; omega)) only [mj_w_id] at c
            omega
        | succ u ihu =>
          intro k J hk hJ1
          have e56 : J 56 2 = (G : Int) := by rw [hJ1.1 56 (by decide), hJ.1 56 (by decide)]; exact hG
          have jk : J 67 (645 + k) = D (15 + k) := by
            rw [hJ1.1 67 (by decide), show 645 + k = 630 + (15 + k) by omega]
            exact hJ.2.1 (15 + k) (by omega)
          have dk := hI.2.2.2.2.2 (15 + k) (by omega)
          have hl := hI.len
          have hlen := mo_len (D := D) (G := G) (d := d) (k := k) (by omega)
          have hnx := ihu (k + 1)
          have hs := fun (c : D (15 + k) = ((d + 1 : Nat) : Int)) => mo_lt (D := D) (d := d) (by omega : k < G) c
          have hl2 : mo_d D G d ++ mo_k D (d + 1) (k + 1) = (mo_d D G d ++ mo_k D (d + 1) k) ++ (if D (15 + k) = ((d + 1 : Nat) : Int) then [k] else []) := by rw [mo_k, List.append_assoc]
          rw [hl2] at hnx
          clear ihu ih hl2
          generalize mo_d D G d ++ mo_k D (d + 1) k = l at hnx hlen hJ1 hs
          refine mj_go z_M_arrange [196] 60 ?_
          refine And.intro h.o (Exists.intro _ (And.intro h.r6 ?_))
          refine Exists.intro _ (Exists.intro (2) (And.intro h.a6 (And.intro (by first | (rw [mj_w_id (by omega) (by omega)]; done) | (rw [mj_w_id (by omega) (by omega)]; omega) | (unfold mj_w; omega)) (And.intro (by omega) ?_))))
          rw [e56]
          refine And.intro (fun c => ?_) (fun c => ?_)
          · simp (disch := (clear c; omega)) only [mj_w_id] at c
            omega
          · clear c
            refine And.intro h.o (Exists.intro _ (And.intro h.r17 ?_))
            refine Exists.intro (((645 + k : Nat) : Int)) (And.intro (by first | (rw [mj_w_id (by omega) (by omega)]; done) | (rw [mj_w_id (by omega) (by omega)]; omega) | (unfold mj_w; omega)) ?_)
            refine Exists.intro _ (Exists.intro (645 + k) (And.intro h.a17 (And.intro (by first | (rw [mj_w_id (by omega) (by omega)]; done) | (rw [mj_w_id (by omega) (by omega)]; omega) | (unfold mj_w; omega)) (And.intro (by omega) ?_))))
            rw [jk]
            refine And.intro (fun c => ?_) (fun c => ?_)
            · simp (disch := (clear c; omega)) only [mj_w_id] at c
              rw [if_pos c, List.length_append, List.length_singleton] at hnx
              have hs := hs c
              refine And.intro h.o (Exists.intro _ (And.intro h.r18 ?_))
              refine Exists.intro (((600 + l.length : Nat) : Int)) (And.intro (by first | (rw [mj_w_id (by omega) (by omega)]; done) | (rw [mj_w_id (by omega) (by omega)]; omega) | (unfold mj_w; omega)) ?_)
              refine Exists.intro _ (Exists.intro (600 + l.length) (And.intro h.a18 (And.intro (by first | (rw [mj_w_id (by omega) (by omega)]; done) | (rw [mj_w_id (by omega) (by omega)]; omega) | (unfold mj_w; omega)) (And.intro (by omega) ?_))))
              refine Exists.intro (((l.length + 1 : Nat) : Int)) (And.intro (by first | (rw [mj_w_id (by omega) (by omega)]; done) | (rw [mj_w_id (by omega) (by omega)]; omega) | (unfold mj_w; omega)) ?_)
              refine Exists.intro (((k + 1 : Nat) : Int)) (And.intro (by first | (rw [mj_w_id (by omega) (by omega)]; done) | (rw [mj_w_id (by omega) (by omega)]; omega) | (unfold mj_w; omega)) ?_)
              exact hnx _ (by omega) (mo_J_up hJ1)
            · simp (disch := (clear c; omega)) only [mj_w_id] at c
              rw [if_neg c, List.append_nil] at hnx
              refine Exists.intro (((k + 1 : Nat) : Int)) (And.intro (by first | (rw [mj_w_id (by omega) (by omega)]; done) | (rw [mj_w_id (by omega) (by omega)]; omega) | (unfold mj_w; omega)) ?_)
              exact hnx _ (by omega) hJ1
      have e56 : J 56 2 = (G : Int) := by rw [hJ1.1 56 (by decide), hJ.1 56 (by decide)]; exact hG
      have q := inn G 0 J (by omega) (by simpa [mo_k] using hJ1)
      rw [mo_k, List.append_nil] at q
      refine mj_go z_M_arrange [196] 60 ?_
      refine And.intro h.o (Exists.intro _ (And.intro h.r6 ?_))
      refine Exists.intro _ (Exists.intro (2) (And.intro h.a6 (And.intro (by first | (rw [mj_w_id (by omega) (by omega)]; done) | (rw [mj_w_id (by omega) (by omega)]; omega) | (unfold mj_w; omega)) (And.intro (by omega) ?_))))
      rw [e56]
      refine And.intro (fun c => ?_) (fun c => ?_)
      · simp (disch := (clear c; omega)) only [mj_w_id] at c
        omega
      · exact q
  refine mj_go z_M_arrange [182] 60 ?_
  exact out G 0 J0 _ (by omega) ⟨fun _ _ => rfl, fun _ _ => rfl, fun i s hi => by simp [mo_d] at hi⟩
theorem ct_M_arrange (h : isM sh FR n) {G : Nat} {X Y : Nat → Nat} (hG : IA 56 2 = (G : Int)) (hG2 : G ≤ 300)
    (hX : ∀ k, k < G → (0 ≤ IA 63 (600 + k) ∧ IA 63 (600 + k) ≤ 2001 ∧ IA 66 (2002 + (IA 63 (600 + k) / 2).toNat) = (X k : Int) ∧ X k < 315) ∧ 0 ≤ IA 64 (600 + k) ∧ IA 64 (600 + k) ≤ 2001 ∧ IA 66 (2002 + (IA 64 (600 + k) / 2).toNat) = (Y k : Int) ∧ Y k < 315) :
    mj_Ct m_M_arrange [.inr (.inr (.inl 52))] sh FR IA LA n (mj_po (ma_q X Y G IA) sh FR LA n) := by
  have init : ∀ (t r : Nat) (J : mj_FI), r + t = 315 → ma_J IA J (fun i => if i < r then (if i < 15 then 0 else -1) else IA 67 (630 + i)) → mj_G m_M_arrange (mj_po (ma_q X Y G IA) sh FR LA n) 6 [some (.inr (.inr (.inl 52))), some (.inl 600), some (.inl r), none, none, none, none] [] sh FR J LA n 0 0 := by
    intro t
    induction t with
    | zero =>
      intro r J hr hJ
      have e : r = 315 := by omega
      subst e
      have hI : ma_I X Y G (fun i => if i < 315 then (if i < 15 then 0 else -1) else IA 67 (630 + i)) [] := by
        refine ⟨fun r hr => ?_, fun r h1 h2 => ?_, fun k hk => Or.inl ⟨?_, by simp⟩, by simp, fun k hk => (by simp at hk), fun r hr => ?_⟩
        · simp only []
          rw [if_pos (by omega), if_pos (by omega)]
        · simp only []
          rw [if_pos (by omega), if_neg (by omega)]
        · simp only []
          rw [if_pos (by omega), if_neg (by omega)]
        · simp only []
          rw [if_pos hr]
          split <;> simp
      refine mj_go z_M_arrange [44, 6] 60 ?_
      refine And.intro (fun c => ?_) (fun c => ?_)
      · exact ma_pass h hG hG2 hX (fun J D pl y4 y5 y6 hJ hI hS => ma_ord h hG hG2 hJ hI hS) (G + 1) J _ [] _ _ _ (by simp) hJ hI
      · exact absurd c (by decide)
    | succ t ih =>
      intro r J hr hJ
      have fin : ∀ x : Int, x = (if r < 15 then 0 else -1) → mj_G m_M_arrange (mj_po (ma_q X Y G IA) sh FR LA n) 33 [some (.inr (.inr (.inl 52))), some (.inl 600), some (.inl r), none, none, none, none] [.inl x, .inl ((630 + r : Nat) : Int), .inr (.inr (.inl 67))] sh FR J LA n 0 0 := by
        intro x hx
        have hJ' := ma_J_up (r := r) (x := x) hJ
        refine mj_go z_M_arrange [6] 60 ?_
        refine Exists.intro _ (Exists.intro (630 + r) (And.intro h.a17 (And.intro (by first | (rw [mj_w_id (by omega) (by omega)]; done) | (rw [mj_w_id (by omega) (by omega)]; omega) | (unfold mj_w; omega)) (And.intro (by omega) ?_))))
        refine Exists.intro (((r + 1 : Nat) : Int)) (And.intro (by first | (rw [mj_w_id (by omega) (by omega)]; done) | (rw [mj_w_id (by omega) (by omega)]; omega) | (unfold mj_w; omega)) ?_)
        refine ih (r + 1) _ (by omega) ?_
        have e : mj_u (fun i => if i < r then (if i < 15 then (0 : Int) else -1) else IA 67 (630 + i)) r x = (fun i => if i < r + 1 then (if i < 15 then 0 else -1) else IA 67 (630 + i)) := by
          funext i
          unfold mj_u
          by_cases e : i = r
          · subst e
            rw [if_pos rfl, if_pos (by omega), hx]
          · rw [if_neg e]
            simp only []
            by_cases e2 : i < r
            · rw [if_pos e2, if_pos (show i < r + 1 by omega)]
            · rw [if_neg e2, if_neg (show ¬ i < r + 1 by omega)]
        rw [e] at hJ'
        exact hJ'
      refine mj_go z_M_arrange [6, 33] 60 ?_
      refine And.intro (fun c => ?_) (fun c => ?_)
      · simp (disch := (clear c; omega)) only [mj_w_id] at c
        omega
      · clear c
        refine And.intro h.o (Exists.intro _ (And.intro h.r17 ?_))
        refine Exists.intro (((630 + r : Nat) : Int)) (And.intro (by first | (rw [mj_w_id (by omega) (by omega)]; done) | (rw [mj_w_id (by omega) (by omega)]; omega) | (unfold mj_w; omega)) ?_)
        refine And.intro (fun c => ?_) (fun c => ?_)
        · simp (disch := (clear c; omega)) only [mj_w_id] at c
          exact fin _ (by rw [if_neg (by omega)])
        · simp (disch := (clear c; omega)) only [mj_w_id] at c
          exact fin _ (by rw [if_pos (by omega)])
  refine mj_Ct_of (by decide +kernel) (by decide) (Nat.le_of_ble_eq_true rfl) ?_
  refine mj_go z_M_arrange [6] 60 ?_
  refine init 315 0 IA (by omega) ⟨fun _ _ => rfl, fun r hr => ?_, fun _ _ => rfl⟩
  simp
end MM
