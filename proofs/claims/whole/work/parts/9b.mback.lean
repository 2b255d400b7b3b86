/-! THE REFERENCE: comesBack -/
/-- reached from gate g: in every closed set that holds its fan-ins -/
def mb_R (X Y : Nat → Nat) (G g r : Nat) : Prop := ∀ S : Nat → Prop, S (X g) → S (Y g) → (∀ k, k < G → S (15 + k) → S (X k) ∧ S (Y k)) → S r
def mb_add (tr : List Nat) (x : Nat) : List Nat := if x ∈ tr then tr else tr ++ [x]
theorem mb_add_mem {tr : List Nat} {x y : Nat} : y ∈ mb_add tr x ↔ y ∈ tr ∨ y = x := by
  unfold mb_add
  split
  · next c =>
    constructor
    · exact Or.inl
    · rintro (z | z)
      · exact z
      · rw [z]; exact c
  · simp
theorem mb_add_len {tr : List Nat} {x : Nat} : tr.length ≤ (mb_add tr x).length := by
  unfold mb_add
  split <;> simp
theorem mb_add_lt {tr : List Nat} {x : Nat} (h : ¬ x ∈ tr) : tr.length < (mb_add tr x).length := by
  unfold mb_add
  rw [if_neg h]
  simp
def mb_I (X Y : Nat → Nat) (G g : Nat) (IA J : mj_FI) (tr : List Nat) : Prop := (∀ q, q ≠ 72 → J q = IA q) ∧ (∀ r, r < 315 → J 72 r = if r ∈ tr then 1 else 0) ∧ tr.Nodup ∧ (∀ r ∈ tr, r < 315 ∧ mb_R X Y G g r)
theorem mb_I.len {X Y : Nat → Nat} {G g : Nat} {IA J : mj_FI} {tr : List Nat} (h : mb_I X Y G g IA J tr) : tr.length ≤ 315 := nd_len 315 tr 0 h.2.2.1 (fun x hx => ⟨Nat.zero_le _, by have := (h.2.2.2 x hx).1; omega⟩)
theorem mb_I_add {X Y : Nat → Nat} {G g x : Nat} {IA J : mj_FI} {tr : List Nat} (h : mb_I X Y G g IA J tr) (hx : x < 315) (hr : mb_R X Y G g x) : mb_I X Y G g IA (mj_up J 72 x 1) (mb_add tr x) := by
  refine ⟨fun q hq => by rw [mj_up_ne hq]; exact h.1 q hq, fun r hr => ?_, ?_, fun r hr2 => ?_⟩
  · rw [mj_up_row]
    by_cases e : r = x
    · subst e
      rw [mj_u_at, if_pos (mb_add_mem.mpr (Or.inr rfl))]
    · rw [mj_u_ne e, h.2.1 r hr]
      by_cases c : r ∈ tr
      · rw [if_pos c, if_pos (mb_add_mem.mpr (Or.inl c))]
      · rw [if_neg c, if_neg (fun z => by rcases mb_add_mem.mp z with z | z; exact c z; exact e z)]
  · unfold mb_add
    split
    · exact h.2.2.1
    · next c =>
      rw [List.nodup_append]
      refine ⟨h.2.2.1, by simp, fun a ha b hb e => ?_⟩
      have : b = x := by simpa using hb
      subst this
      subst e
      exact c ha
  · rcases mb_add_mem.mp hr2 with z | z
    · exact h.2.2.2 r z
    · rw [z]
      exact ⟨hx, hr⟩
section MM
variable {sh : mj_Sh} {FR : mj_FR} {IA : mj_FI} {LA : mj_LA} {n : Nat}
abbrev mX (IA : mj_FI) (G : Nat) (X Y : Nat → Nat) : Prop := ∀ k, k < G → (0 ≤ IA 63 (600 + k) ∧ IA 63 (600 + k) ≤ 2001 ∧ IA 66 (2002 + (IA 63 (600 + k) / 2).toNat) = (X k : Int) ∧ X k < 315) ∧ 0 ≤ IA 64 (600 + k) ∧ IA 64 (600 + k) ≤ 2001 ∧ IA 66 (2002 + (IA 64 (600 + k) / 2).toNat) = (Y k : Int) ∧ Y k < 315
def mb_q (X Y : Nat → Nat) (G g : Nat) (IA : mj_FI) (o : mj_O) (J : mj_FI) : Prop := (∀ q, q ≠ 72 → J q = IA q) ∧ ((o = .inl (some (.inl 1)) ∧ mb_R X Y G g (15 + g)) ∨ (o = .inl (some (.inl 0)) ∧ ¬ mb_R X Y G g (15 + g)))
set_option maxHeartbeats 2000000 in
theorem mb_loop (h : isM sh FR n) {G g : Nat} {X Y : Nat → Nat} (hg : g < G) (hG : IA 56 2 = (G : Int)) (hG2 : G ≤ 300) (hX : mX IA G X Y) : ∀ (t : Nat) (J : mj_FI) (tr : List Nat) (y3 y4 y5 : Option mj_V), 315 < tr.length + t → mb_I X Y G g IA J tr → X g ∈ tr → Y g ∈ tr →
    mj_G m_M_comesBack (mj_po (mb_q X Y G g IA) sh FR LA n) 66 [some (.inr (.inr (.inl 52))), some (.inl g), some (.inl 1), y3, y4, y5] [] sh FR J LA n 0 0 := by
  intro t
  induction t with
  | zero =>
    intro J tr y3 y4 y5 ht hI
    have := hI.len
    omega
  | succ t ih =>
    intro J0 tr0 y3 y4 y5 ht hI0 x0 y0
    have pass : ∀ (u k : Nat) (J : mj_FI) (tr : List Nat) (mo : Int) (y4 y5 : Option mj_V), k + u = G → mb_I X Y G g IA J tr → X g ∈ tr → Y g ∈ tr → ((mo = 0 ∧ tr0.length ≤ tr.length ∧ (∀ i, i < k → 15 + i ∈ tr → X i ∈ tr ∧ Y i ∈ tr)) ∨ (mo = 1 ∧ tr0.length < tr.length)) →
        mj_G m_M_comesBack (mj_po (mb_q X Y G g IA) sh FR LA n) 74 [some (.inr (.inr (.inl 52))), some (.inl g), some (.inl mo), some (.inl k), y4, y5] [] sh FR J LA n 0 0 := by
      intro u
      induction u with
      | zero =>
        intro k J tr mo y4 y5 hk hI hx hy hmo
        have e56 : J 56 2 = (G : Int) := by rw [hI.1 56 (by decide)]; exact hG
        refine mj_go z_M_comesBack [66] 60 ?_
        refine And.intro h.o (Exists.intro _ (And.intro h.r6 ?_))
        refine Exists.intro _ (Exists.intro (2) (And.intro h.a6 (And.intro (by first | (rw [mj_w_id (by omega) (by omega)]; done) | (rw [mj_w_id (by omega) (by omega)]; omega) | (unfold mj_w; omega)) (And.intro (by omega) ?_))))
        rw [e56]
        refine And.intro (fun d => ?_) (fun d => ?_)
        · rcases hmo with ⟨z1, zl, z2⟩ | ⟨z1, z2⟩
          · subst z1
            have q := hI.2.1 (15 + g) (by omega)
            refine mj_go z_M_comesBack [] 60 ?_
            refine And.intro (fun e => ?_) (fun e => ?_)
            · refine And.intro h.o (Exists.intro _ (And.intro h.r25 ?_))
              refine Exists.intro (((15 + g : Nat) : Int)) (And.intro (by first | (rw [mj_w_id (by omega) (by omega)]; done) | (rw [mj_w_id (by omega) (by omega)]; omega) | (unfold mj_w; omega)) ?_)
              refine Exists.intro _ (Exists.intro (15 + g) (And.intro h.a25 (And.intro (by first | (rw [mj_w_id (by omega) (by omega)]; done) | (rw [mj_w_id (by omega) (by omega)]; omega) | (unfold mj_w; omega)) (And.intro (by omega) ?_))))
              rw [q]
              by_cases c : 15 + g ∈ tr
              · rw [if_pos c]
                exact ⟨Or.inr rfl, ⟨rfl, rfl, rfl, rfl, hI.1, Or.inl ⟨rfl, (hI.2.2.2 _ c).2⟩⟩, Nat.le_of_ble_eq_true rfl, Nat.le_of_ble_eq_true rfl⟩
              · rw [if_neg c]
                exact ⟨Or.inl rfl, ⟨rfl, rfl, rfl, rfl, hI.1, Or.inr ⟨rfl, fun z => c (z (· ∈ tr) hx hy (fun i hi => z2 i (by omega)))⟩⟩, Nat.le_of_ble_eq_true rfl, Nat.le_of_ble_eq_true rfl⟩
            · exact absurd (show mj_w 0 = 0 by decide) e
          · subst z1
            exact ih J tr _ _ _ (by omega) hI hx hy
        · simp (disch := (clear d; omega)) only [mj_w_id] at d
          omega
      | succ u ihu =>
        intro k J tr mo y4 y5 hk hI hx hy hmo
        have e56 : J 56 2 = (G : Int) := by rw [hI.1 56 (by decide)]; exact hG
        have e63 : J 63 = IA 63 := hI.1 63 (by decide)
        have e64 : J 64 = IA 64 := hI.1 64 (by decide)
        have e66 : J 66 = IA 66 := hI.1 66 (by decide)
        obtain ⟨⟨a1, a2, a3, a4⟩, b1, b2, b3, b4⟩ := hX k (by omega)
        have hl := hI.len
        have jk := hI.2.1 (15 + k) (by omega)
        have skip : (15 + k ∈ tr → X k ∈ tr ∧ Y k ∈ tr) → mj_G m_M_comesBack (mj_po (mb_q X Y G g IA) sh FR LA n) 179 [some (.inr (.inr (.inl 52))), some (.inl g), some (.inl mo), some (.inl k), y4, y5] [] sh FR J LA n 0 0 := by
          intro hz
          refine mj_go z_M_comesBack [74] 60 ?_
          refine Exists.intro (((k + 1 : Nat) : Int)) (And.intro (by first | (rw [mj_w_id (by omega) (by omega)]; done) | (rw [mj_w_id (by omega) (by omega)]; omega) | (unfold mj_w; omega)) ?_)
          refine ihu (k + 1) J tr mo _ _ (by omega) hI hx hy ?_
          rcases hmo with ⟨z1, zl, z2⟩ | z
          · refine Or.inl ⟨z1, zl, fun i hi => ?_⟩
            by_cases e : i = k
            · subst e
              exact hz
            · exact z2 i (by omega)
          · exact Or.inr z
        have put : ∀ m2 : Int, 15 + k ∈ tr → ((m2 = 1 ∧ tr0.length < (mb_add (mb_add tr (X k)) (Y k)).length) ∨ (m2 = 0 ∧ mo = 0 ∧ X k ∈ tr ∧ Y k ∈ tr)) → mj_G m_M_comesBack (mj_po (mb_q X Y G g IA) sh FR LA n) 162 [some (.inr (.inr (.inl 52))), some (.inl g), some (.inl mo), some (.inl k), some (.inl (X k)), some (.inl (Y k))] [.inl m2] sh FR J LA n 0 0 := by
          intro m2 hm hm2
          have hr := (hI.2.2.2 _ hm).2
          have rx : mb_R X Y G g (X k) := fun S p1 p2 p3 => (p3 k (by omega) (hr S p1 p2 p3)).1
          have ry : mb_R X Y G g (Y k) := fun S p1 p2 p3 => (p3 k (by omega) (hr S p1 p2 p3)).2
          have hI2 := mb_I_add (mb_I_add hI a4 rx) b4 ry
          refine mj_go z_M_comesBack [74] 60 ?_
          refine And.intro h.o (Exists.intro _ (And.intro h.r25 ?_))
          refine Exists.intro _ (Exists.intro (X k) (And.intro h.a25 (And.intro (by first | (rw [mj_w_id (by omega) (by omega)]; done) | (rw [mj_w_id (by omega) (by omega)]; omega) | (unfold mj_w; omega)) (And.intro (by omega) ?_))))
          refine And.intro (Or.inr rfl) ?_
          refine And.intro h.o (Exists.intro _ (And.intro h.r25 ?_))
          refine Exists.intro _ (Exists.intro (Y k) (And.intro h.a25 (And.intro (by first | (rw [mj_w_id (by omega) (by omega)]; done) | (rw [mj_w_id (by omega) (by omega)]; omega) | (unfold mj_w; omega)) (And.intro (by omega) ?_))))
          refine And.intro (Or.inr rfl) ?_
          refine Exists.intro (((k + 1 : Nat) : Int)) (And.intro (by first | (rw [mj_w_id (by omega) (by omega)]; done) | (rw [mj_w_id (by omega) (by omega)]; omega) | (unfold mj_w; omega)) ?_)
          refine ihu (k + 1) _ _ m2 _ _ (by omega) hI2 (mb_add_mem.mpr (Or.inl (mb_add_mem.mpr (Or.inl hx)))) (mb_add_mem.mpr (Or.inl (mb_add_mem.mpr (Or.inl hy)))) ?_
          rcases hm2 with ⟨z1, z2⟩ | ⟨z1, z2, z3, z4⟩
          · exact Or.inr ⟨z1, z2⟩
          · have e1 : mb_add tr (X k) = tr := if_pos z3
            have e2 : mb_add tr (Y k) = tr := if_pos z4
            rw [e1, e2]
            rcases hmo with ⟨w1, w2, w3⟩ | ⟨w1, _⟩
            · refine Or.inl ⟨z1, w2, fun i hi => ?_⟩
              by_cases e : i = k
              · rw [e]
                exact fun _ => ⟨z3, z4⟩
              · exact w3 i (by omega)
            · omega
        have jx := hI.2.1 (X k) a4
        have jy := hI.2.1 (Y k) b4
        have l1 := mb_add_len (tr := tr) (x := X k)
        have l2 := mb_add_len (tr := mb_add tr (X k)) (x := Y k)
        clear ihu ih hX
        refine mj_go z_M_comesBack [74, 162, 179] 60 ?_
        refine And.intro h.o (Exists.intro _ (And.intro h.r6 ?_))
        refine Exists.intro _ (Exists.intro (2) (And.intro h.a6 (And.intro (by first | (rw [mj_w_id (by omega) (by omega)]; done) | (rw [mj_w_id (by omega) (by omega)]; omega) | (unfold mj_w; omega)) (And.intro (by omega) ?_))))
        rw [e56]
        refine And.intro (fun d => ?_) (fun d => ?_)
        · simp (disch := (clear d; omega)) only [mj_w_id] at d
          omega
        · clear d
          refine And.intro h.o (Exists.intro _ (And.intro h.r25 ?_))
          refine Exists.intro (((15 + k : Nat) : Int)) (And.intro (by first | (rw [mj_w_id (by omega) (by omega)]; done) | (rw [mj_w_id (by omega) (by omega)]; omega) | (unfold mj_w; omega)) ?_)
          refine Exists.intro _ (Exists.intro (15 + k) (And.intro h.a25 (And.intro (by first | (rw [mj_w_id (by omega) (by omega)]; done) | (rw [mj_w_id (by omega) (by omega)]; omega) | (unfold mj_w; omega)) (And.intro (by omega) ?_))))
          rw [jk]
          by_cases c : 15 + k ∈ tr
          · rw [if_pos c]
            refine And.intro (fun d => ?_) (fun d => ?_)
            · clear d
              refine And.intro h.o (Exists.intro _ (And.intro h.r13 ?_))
              refine Exists.intro (((600 + k : Nat) : Int)) (And.intro (by first | (rw [mj_w_id (by omega) (by omega)]; done) | (rw [mj_w_id (by omega) (by omega)]; omega) | (unfold mj_w; omega)) ?_)
              refine Exists.intro _ (Exists.intro (600 + k) (And.intro h.a13 (And.intro (by first | (rw [mj_w_id (by omega) (by omega)]; done) | (rw [mj_w_id (by omega) (by omega)]; omega) | (unfold mj_w; omega)) (And.intro (by omega) ?_))))
              rw [e63]
              refine And.intro h.o (And.intro (Nat.le_of_ble_eq_true rfl) (And.intro (Nat.le_of_ble_eq_true rfl) (And.intro (Nat.le_of_ble_eq_true rfl) (Exists.intro _ (And.intro (ct_M_rowAt (c := 2) h (by decide) a1 a2) ?_)))))
              rintro r9 sh9 FR9 IA9 LA9 n9 ⟨z0, z1, z2, z3, z4, z5⟩
              subst z0
              replace z1 := z1.symm
              subst z1
              replace z2 := z2.symm
              subst z2
              replace z3 := z3.symm
              subst z3
              replace z4 := z4.symm
              subst z4
              replace z5 := z5.symm
              subst z5
              refine And.intro (Or.inl rfl) ?_
              rw [e66, show 1001 * 2 + (IA 63 (600 + k) / 2).toNat = 2002 + (IA 63 (600 + k) / 2).toNat by omega, a3]
              refine And.intro h.o (Exists.intro _ (And.intro h.r14 ?_))
              refine Exists.intro (((600 + k : Nat) : Int)) (And.intro (by first | (rw [mj_w_id (by omega) (by omega)]; done) | (rw [mj_w_id (by omega) (by omega)]; omega) | (unfold mj_w; omega)) ?_)
              refine Exists.intro _ (Exists.intro (600 + k) (And.intro h.a14 (And.intro (by first | (rw [mj_w_id (by omega) (by omega)]; done) | (rw [mj_w_id (by omega) (by omega)]; omega) | (unfold mj_w; omega)) (And.intro (by omega) ?_))))
              rw [e64]
              refine And.intro h.o (And.intro (Nat.le_of_ble_eq_true rfl) (And.intro (Nat.le_of_ble_eq_true rfl) (And.intro (Nat.le_of_ble_eq_true rfl) (Exists.intro _ (And.intro (ct_M_rowAt (c := 2) h (by decide) b1 b2) ?_)))))
              rintro r9 sh9 FR9 IA9 LA9 n9 ⟨z0, z1, z2, z3, z4, z5⟩
              subst z0
              replace z1 := z1.symm
              subst z1
              replace z2 := z2.symm
              subst z2
              replace z3 := z3.symm
              subst z3
              replace z4 := z4.symm
              subst z4
              replace z5 := z5.symm
              subst z5
              refine And.intro (Or.inl rfl) ?_
              rw [e66, show 1001 * 2 + (IA 64 (600 + k) / 2).toNat = 2002 + (IA 64 (600 + k) / 2).toNat by omega, b3]
              clear a3 b3
              rcases hmo with ⟨w1, w2, w3⟩ | ⟨w1, w2⟩
              · subst w1
                refine And.intro (fun d => ?_) (fun d => ?_)
                · exact absurd (show mj_w 0 = 0 by decide) d
                · clear d
                  refine And.intro h.o (Exists.intro _ (And.intro h.r25 ?_))
                  refine Exists.intro _ (Exists.intro (X k) (And.intro h.a25 (And.intro (by first | (rw [mj_w_id (by omega) (by omega)]; done) | (rw [mj_w_id (by omega) (by omega)]; omega) | (unfold mj_w; omega)) (And.intro (by omega) ?_))))
                  rw [jx]
                  by_cases cx : X k ∈ tr
                  · rw [if_pos cx]
                    refine And.intro (fun d => ?_) (fun d => ?_)
                    · exact absurd d (by decide)
                    · clear d
                      refine And.intro h.o (Exists.intro _ (And.intro h.r25 ?_))
                      refine Exists.intro _ (Exists.intro (Y k) (And.intro h.a25 (And.intro (by first | (rw [mj_w_id (by omega) (by omega)]; done) | (rw [mj_w_id (by omega) (by omega)]; omega) | (unfold mj_w; omega)) (And.intro (by omega) ?_))))
                      rw [jy]
                      by_cases cy : Y k ∈ tr
                      · rw [if_pos cy]
                        refine And.intro (fun d => ?_) (fun d => ?_)
                        · exact put 0 c (Or.inr ⟨rfl, rfl, cx, cy⟩)
                        · exact absurd d (by decide)
                      · rw [if_neg cy]
                        refine And.intro (fun d => ?_) (fun d => ?_)
                        · exact absurd (show mj_w 0 = 0 by decide) d
                        · refine put 1 c (Or.inl ⟨rfl, ?_⟩)
                          have e1 : mb_add tr (X k) = tr := if_pos cx
                          rw [e1]
                          have := mb_add_lt cy
                          omega
                  · rw [if_neg cx]
                    refine And.intro (fun d => ?_) (fun d => ?_)
                    · refine put 1 c (Or.inl ⟨rfl, ?_⟩)
                      have := mb_add_lt cx
                      omega
                    · exact absurd (show mj_w 0 = 0 by decide) d
              · subst w1
                refine And.intro (fun d => ?_) (fun d => ?_)
                · exact put 1 c (Or.inl ⟨rfl, by omega⟩)
                · exact absurd d (by decide)
            · exact absurd d (by decide)
          · rw [if_neg c]
            refine And.intro (fun d => ?_) (fun d => ?_)
            · exact absurd (show mj_w 0 = 0 by decide) d
            · exact skip (fun z => absurd z c)
    refine mj_go z_M_comesBack [74] 60 ?_
    refine And.intro (fun d => ?_) (fun d => ?_)
    · exact absurd d (by decide)
    · exact pass G 0 J0 tr0 0 _ _ (by omega) hI0 x0 y0 (Or.inl ⟨rfl, Nat.le_refl _, fun i hi => by omega⟩)
set_option maxHeartbeats 1000000 in
theorem ct_M_comesBack (h : isM sh FR n) {G g : Nat} {X Y : Nat → Nat} (hg : g < G) (hG : IA 56 2 = (G : Int)) (hG2 : G ≤ 300) (hX : mX IA G X Y) : mj_Ct m_M_comesBack [.inr (.inr (.inl 52)), .inl g] sh FR IA LA n (mj_po (mb_q X Y G g IA) sh FR LA n) := by
  obtain ⟨⟨a1, a2, a3, a4⟩, b1, b2, b3, b4⟩ := hX g hg
  have loop : ∀ (t r : Nat) (J : mj_FI), r + t = 315 → (∀ q, q ≠ 72 → J q = IA q) → (∀ i, i < r → J 72 i = 0) → mj_G m_M_comesBack (mj_po (mb_q X Y G g IA) sh FR LA n) 2 [some (.inr (.inr (.inl 52))), some (.inl g), some (.inl r), none, none, none] [] sh FR J LA n 0 0 := by
    intro t
    induction t with
    | zero =>
      intro r J hr hf hz
      have e : r = 315 := by omega
      subst e
      have e63 : J 63 = IA 63 := hf 63 (by decide)
      have e64 : J 64 = IA 64 := hf 64 (by decide)
      have e66 : J 66 = IA 66 := hf 66 (by decide)
      have hI : mb_I X Y G g IA J [] := ⟨hf, fun r hr => by rw [hz r hr]; simp, by simp, fun r hr => by simp at hr⟩
      have hI2 := mb_I_add (mb_I_add hI a4 (fun S p1 p2 p3 => p1)) b4 (fun S p1 p2 p3 => p2)
      refine mj_go z_M_comesBack [2, 66] 60 ?_
      refine And.intro (fun c => ?_) (fun c => ?_)
      · refine And.intro h.o (Exists.intro _ (And.intro h.r25 ?_))
        refine And.intro h.o (Exists.intro _ (And.intro h.r13 ?_))
        refine Exists.intro (((600 + g : Nat) : Int)) (And.intro (by first | (rw [mj_w_id (by omega) (by omega)]; done) | (rw [mj_w_id (by omega) (by omega)]; omega) | (unfold mj_w; omega)) ?_)
        refine Exists.intro _ (Exists.intro (600 + g) (And.intro h.a13 (And.intro (by first | (rw [mj_w_id (by omega) (by omega)]; done) | (rw [mj_w_id (by omega) (by omega)]; omega) | (unfold mj_w; omega)) (And.intro (by omega) ?_))))
        rw [e63]
        refine And.intro h.o (And.intro (Nat.le_of_ble_eq_true rfl) (And.intro (Nat.le_of_ble_eq_true rfl) (And.intro (Nat.le_of_ble_eq_true rfl) (Exists.intro _ (And.intro (ct_M_rowAt (c := 2) h (by decide) a1 a2) ?_)))))
        rintro r9 sh9 FR9 IA9 LA9 n9 ⟨z0, z1, z2, z3, z4, z5⟩
        subst z0
        replace z1 := z1.symm
        subst z1
        replace z2 := z2.symm
        subst z2
        replace z3 := z3.symm
        subst z3
        replace z4 := z4.symm
        subst z4
        replace z5 := z5.symm
        subst z5
        refine And.intro (Or.inl rfl) ?_
        rw [e66, show 1001 * 2 + (IA 63 (600 + g) / 2).toNat = 2002 + (IA 63 (600 + g) / 2).toNat by omega, a3]
        refine Exists.intro _ (Exists.intro (X g) (And.intro h.a25 (And.intro (by first | (rw [mj_w_id (by omega) (by omega)]; done) | (rw [mj_w_id (by omega) (by omega)]; omega) | (unfold mj_w; omega)) (And.intro (by omega) ?_))))
        refine And.intro (Or.inr rfl) ?_
        refine And.intro h.o (Exists.intro _ (And.intro h.r25 ?_))
        refine And.intro h.o (Exists.intro _ (And.intro h.r14 ?_))
        refine Exists.intro (((600 + g : Nat) : Int)) (And.intro (by first | (rw [mj_w_id (by omega) (by omega)]; done) | (rw [mj_w_id (by omega) (by omega)]; omega) | (unfold mj_w; omega)) ?_)
        refine Exists.intro _ (Exists.intro (600 + g) (And.intro h.a14 (And.intro (by first | (rw [mj_w_id (by omega) (by omega)]; done) | (rw [mj_w_id (by omega) (by omega)]; omega) | (unfold mj_w; omega)) (And.intro (by omega) ?_))))
        rw [mj_up_ne (show (64 : Nat) ≠ 72 by decide), e64]
        refine And.intro h.o (And.intro (Nat.le_of_ble_eq_true rfl) (And.intro (Nat.le_of_ble_eq_true rfl) (And.intro (Nat.le_of_ble_eq_true rfl) (Exists.intro _ (And.intro (ct_M_rowAt (c := 2) h (by decide) b1 b2) ?_)))))
        rintro r9 sh9 FR9 IA9 LA9 n9 ⟨z0, z1, z2, z3, z4, z5⟩
        subst z0
        replace z1 := z1.symm
        subst z1
        replace z2 := z2.symm
        subst z2
        replace z3 := z3.symm
        subst z3
        replace z4 := z4.symm
        subst z4
        replace z5 := z5.symm
        subst z5
        refine And.intro (Or.inl rfl) ?_
        rw [mj_up_ne (show (66 : Nat) ≠ 72 by decide), e66, show 1001 * 2 + (IA 64 (600 + g) / 2).toNat = 2002 + (IA 64 (600 + g) / 2).toNat by omega, b3]
        refine Exists.intro _ (Exists.intro (Y g) (And.intro h.a25 (And.intro (by first | (rw [mj_w_id (by omega) (by omega)]; done) | (rw [mj_w_id (by omega) (by omega)]; omega) | (unfold mj_w; omega)) (And.intro (by omega) ?_))))
        refine And.intro (Or.inr rfl) ?_
        exact mb_loop h hg hG hG2 hX 316 _ _ _ _ _ (by omega) hI2 (mb_add_mem.mpr (Or.inl (mb_add_mem.mpr (Or.inr rfl)))) (mb_add_mem.mpr (Or.inr rfl))
      · exact absurd c (by decide)
    | succ t ih =>
      intro r J hr hf hz
      refine mj_go z_M_comesBack [2] 60 ?_
      refine And.intro (fun c => ?_) (fun c => ?_)
      · simp (disch := (clear c; omega)) only [mj_w_id] at c
        omega
      · clear c
        refine And.intro h.o (Exists.intro _ (And.intro h.r25 ?_))
        refine Exists.intro _ (Exists.intro (r) (And.intro h.a25 (And.intro (by first | (rw [mj_w_id (by omega) (by omega)]; done) | (rw [mj_w_id (by omega) (by omega)]; omega) | (unfold mj_w; omega)) (And.intro (by omega) ?_))))
        refine And.intro (Or.inl rfl) ?_
        refine Exists.intro (((r + 1 : Nat) : Int)) (And.intro (by first | (rw [mj_w_id (by omega) (by omega)]; done) | (rw [mj_w_id (by omega) (by omega)]; omega) | (unfold mj_w; omega)) ?_)
        refine ih (r + 1) _ (by omega) (fun q hq => by rw [mj_up_ne hq]; exact hf q hq) (fun i hi => ?_)
        rw [mj_up_row]
        by_cases e : i = r
        · rw [e, mj_u_at]
        · rw [mj_u_ne e]
          exact hz i (by omega)
  refine mj_Ct_of (by decide +kernel) (by decide) (Nat.le_of_ble_eq_true rfl) ?_
  refine mj_go z_M_comesBack [2] 60 ?_
  exact loop 315 0 IA (by omega) (fun _ _ => rfl) (fun i hi => by omega)
end MM
