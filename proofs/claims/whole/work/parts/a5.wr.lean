/-! THE TWO SIDES COUPLED: the text that is written -/
theorem wr_o_co {f f' : Nat → Nat} : ∀ O, (∀ k, k < O → f k = f' k) → wr_o f O = wr_o f' O
  | 0, _ => rfl
  | O + 1, h => by
    simp only [wr_o]
    rw [wr_o_co O (fun k hk => h k (by omega)), h O (by omega)]
theorem wr_q_co {bin : Bool} {I : Nat} {sn sn' l l' r r' : Nat → Nat} : ∀ g, (∀ k, k < g → l (sn k) = l' (sn' k) ∧ r (sn k) = r' (sn' k)) → wr_q bin I sn l r g = wr_q bin I sn' l' r' g
  | 0, _ => rfl
  | g + 1, h => by
    simp only [wr_q]
    rw [wr_q_co g (fun k hk => h k (by omega)), (h g (by omega)).1, (h g (by omega)).2]
theorem wr_ct_map {P : Nat → Bool} {f : Nat → Nat} : ∀ l : List Nat, wr_ct P (l.map f) = wr_ct (fun x => P (f x)) l
  | [] => rfl
  | x :: r => by
    have ih := wr_ct_map (P := P) (f := f) r
    unfold wr_ct at ih ⊢
    rw [List.map_cons, List.filter_cons, List.filter_cons]
    by_cases e : P (f x) = true
    · rw [if_pos e, if_pos e, List.length_cons, List.length_cons, ih]
    · rw [if_neg e, if_neg e, ih]
section PP
variable {IA B : mj_FI} {LA : mj_LA} {x c b m I O G : Nat} {od ld : List Nat} {rd : Bool}
theorem sd_of (h : cp IA LA x c b m I O G od ld) {lit : Int} (hl : wr_st IA b lit) : tw_sd IA b lit := by
  obtain ⟨h1, h2, h3, h4⟩ := hl
  refine h.st.mp ⟨h1, h2, ?_⟩
  rw [h.row (by omega)]
  obtain ⟨s, hs⟩ : ∃ s : Nat, IA (b + 1) (lit / 2).toNat = (s : Int) := ⟨(IA (b + 1) (lit / 2).toNat).toNat, by omega⟩
  rw [hs, rho_N]
  omega
theorem st_of (h : cp IA LA x c b m I O G od ld) {lit : Int} (hl : tw_sd IA b lit) : wr_st IA b lit := by
  obtain ⟨h1, h2, h3, h4⟩ := hl.st h.W
  exact ⟨h1, h2, by omega, by omega⟩
theorem sd_le (h : cp IA LA x c b m I O G od ld) {s : Nat} (hs : lf_g I G s) : tw_sd IA b (IA (b + 3) s) ∧ tw_sd IA b (IA (b + 4) s) := by
  obtain ⟨⟨a1, a2, a3, a4⟩, b1, b2, b3, b4⟩ := h.W.fan h.1.1.2.1 hs
  exact ⟨sd_of h ⟨a1, a2, by omega, by omega⟩, sd_of h ⟨b1, b2, by omega, by omega⟩⟩
/-- slots of fan-ins -/
theorem sl_nF {f : Nat → Int} {s : Nat} : wr_sl IA b (f s) = nF (IA (b + 1)) f s := rfl
theorem w_sd (h : cp IA LA x c b m I O G od ld) (rd : Bool) {lit : Int} (hl : tw_sd IA b lit) : tw_sd IA b (wr_F IA c b rd lit) := sd_of h (h.1.H rd lit (st_of h hl)).1
theorem w_nS (h : cp IA LA x c b m I O G od ld) (rd : Bool) {lit : Int} (hl : tw_sd IA b lit) : nS I G (wr_X IA c b rd lit) := h.sl (w_sd h rd hl)
/-- a final literal lies no deeper -/
theorem w_dp (h : cp IA LA x c b m I O G od ld) (rd : Bool) {lit : Int} (hl : tw_sd IA b lit) : IA (b + 6) (wr_X IA c b rd lit) ≤ IA (b + 6) (wr_sl IA b lit) := by
  cases rd with
  | false => exact Int.le_refl _
  | true =>
    have hb := q_be h hl
    have hs := h.sl hl
    have hw := w_sd h true hl
    have e : wr_F IA c b true lit = C_sg (IA (c + 12) (wr_sl IA b lit)) lit := if_pos rfl
    have hlt := rN_lt h.W.2.1 h.W.2.2.2.1 hs
    have e2 : 2 * M_va IA x (rN I (wr_sl IA b lit)) + (((lit % 2).toNat : Nat) : Int) = lit := by
      rw [h.va hs, lit_va h hl]
      omega
    have := hb.2.2 (rN I (wr_sl IA b lit)) (lit % 2).toNat (by omega) (by omega) (rN_is hs) (by rw [e2, h.ro hl]; exact fun w _ => rfl)
    rw [← e] at this
    unfold M_dl at this
    rw [h.ro hw, h.2.2.1 _ hs, h.2.2.1 _ (h.sl hw)] at this
    have e3 : wr_X IA c b true lit = wr_sl IA b (wr_F IA c b true lit) := rfl
    rw [e3]
    omega
/-- what becomes of a literal, on the reference's side -/
theorem w_tu (h : cp IA LA x c b m I O G od ld) (e66 : B 66 = IA 66) (hb : ∀ r, M_is I G r → ch_b IA LA I G x rd r (B 73 r)) {lit : Int} (hl : tw_sd IA b lit) : M_tu B x lit = wr_F IA c b rd lit := by
  have hs := h.sl hl
  have hr := hb _ (rN_is hs)
  have ho := own_so h hs
  have hv := h.va hs
  unfold M_tu
  rw [M_ro_co e66, h.ro hl]
  unfold ch_b at hr
  unfold wr_F
  cases rd with
  | false =>
    rw [if_neg (show ¬ (false = true) by decide)] at hr ⊢
    rw [hr, hv, lit_va h hl]
    unfold M_x1
    split
    · omega
    · rw [if_pos (by omega)]
      omega
  | true =>
    rw [if_pos (show true = true from rfl)] at hr ⊢
    rw [hv] at hr
    have hsd : tw_sd IA b (IA (b + 2) (wr_sl IA b lit)) := by
      refine ⟨⟨ho.2.1, by rw [h.W.2.2.2.2.2.1]; omega⟩, ?_⟩
      rw [ho.1]
      omega
    have hsl : wr_sl IA b (IA (b + 2) (wr_sl IA b lit)) = wr_sl IA b lit := by
      have : wr_sl IA b (IA (b + 2) (wr_sl IA b lit)) = (IA (b + 1) (IA (b + 2) (wr_sl IA b lit) / 2).toNat).toNat := rfl
      rw [this, ho.1]
      omega
    have hz := q_lead h hsd hr
    rw [hsl] at hz
    have e : C_sg (IA (c + 12) (wr_sl IA b lit)) (IA (b + 2) (wr_sl IA b lit)) = IA (c + 12) (wr_sl IA b lit) := if_pos ho.2.2.2
    rw [e] at hz
    rw [hz]
    rfl
theorem w_tr (h : cp IA LA x c b m I O G od ld) (e66 : B 66 = IA 66) (hb : ∀ r, M_is I G r → ch_b IA LA I G x rd r (B 73 r)) {lit : Int} (hl : tw_sd IA b lit) : M_tr B x lit = rN I (wr_X IA c b rd lit) := by
  unfold M_tr
  rw [w_tu h e66 hb hl, M_ro_co e66, h.ro (w_sd h rd hl)]
  rfl
/-- the rows of gate k's fan-ins and of output k -/
theorem w_X (h : cp IA LA x c b m I O G od ld) (eB : ∀ q, 55 ≤ q → q ≤ 68 → B q = IA q) (hb : ∀ r, M_is I G r → ch_b IA LA I G x rd r (B 73 r)) : (∀ k, k < G → ch_X B x k = rN I (wr_X IA c b rd (IA (b + 3) (I + 1 + k))) ∧ ch_Y B x k = rN I (wr_X IA c b rd (IA (b + 4) (I + 1 + k)))) ∧ ∀ k, k < O → ch_O B x k = rN I (wr_X IA c b rd (IA (b + 5) k)) := by
  have e66 := eB 66 (by decide) (by decide)
  refine ⟨fun k hk => ?_, fun k hk => ?_⟩
  · have q := h.2.1.2.2.2.2.2.2.1 k hk
    have hg := sd_le h (s := I + 1 + k) ⟨by omega, by omega⟩
    unfold ch_X ch_Y
    rw [eB 63 (by decide) (by decide), eB 64 (by decide) (by decide), q.2.1, q.2.2]
    exact ⟨w_tr h e66 hb hg.1, w_tr h e66 hb hg.2⟩
  · unfold ch_O
    rw [eB 65 (by decide) (by decide), h.o65 hk]
    exact w_tr h e66 hb (h.1.1.out hk)
/-- the depths in the text are the same -/
theorem w_D (h : cp IA LA x c b m I O G od ld) {om : List Nat} (hom : ∀ k, k < G → k ∈ om) (hom2 : ∀ k ∈ om, k < G) (eB : ∀ q, 55 ≤ q → q ≤ 68 → B q = IA q) (hb : ∀ r, M_is I G r → ch_b IA LA I G x rd r (B 73 r)) {D : Nat → Int} (hD : wr_D IA c b rd od D) (hE : ch_D (ch_X B x) (ch_Y B x) om (B 74)) : ∀ s, nS I G s → D s = B 74 (rN I s) := by
  have hA := h.1.1
  have hI := h.W.2.1
  have hG := h.W.2.2.2.1
  have base : ∀ s, s ≤ I → D s = B 74 (rN I s) := fun s hs => by
    have h1 : ¬ s ∈ od := fun z => by
      have := (hA.od.2.2 s).mp z
      unfold lf_g at this
      omega
    rw [hD.1 s (by omega) h1, rN_i hs, hE.1 s (by omega) (fun k hk => by omega)]
  have key : ∀ (n s : Nat), nS I G s → IA (b + 6) s ≤ (n : Int) → D s = B 74 (rN I s) := by
    intro n
    induction n with
    | zero =>
      intro s hs hd
      rcases hs with e | e
      · exact base s e
      · have := ((hA.dp (Or.inr e)).2.2.2 e).1
        omega
    | succ n ih =>
      intro s hs hd
      rcases hs with e | e
      · exact base s e
      · have hg := sd_le h e
        have e2 := e
        unfold lf_g at e2
        have h3 := ((hA.dp (Or.inr e)).2.2.2 e).2
        have h4 := Int.le_max_left (IA (b + 6) (nF (IA (b + 1)) (IA (b + 3)) s)) (IA (b + 6) (nF (IA (b + 1)) (IA (b + 4)) s))
        have h5 := Int.le_max_right (IA (b + 6) (nF (IA (b + 1)) (IA (b + 3)) s)) (IA (b + 6) (nF (IA (b + 1)) (IA (b + 4)) s))
        have d1 := w_dp h rd hg.1
        have d2 := w_dp h rd hg.2
        rw [sl_nF] at d1 d2
        have hk : s - I - 1 < G := by omega
        have es : I + 1 + (s - I - 1) = s := by omega
        have er : rN I s = 15 + (s - I - 1) := by unfold rN; rw [if_neg (by omega)]
        have q := (w_X h eB hb).1 (s - I - 1) hk
        rw [es] at q
        rw [hD.2.2 s ((hA.od.2.2 s).mpr e), er, hE.2.2 _ (hom _ hk), q.1, q.2, ih _ (w_nS h rd hg.1) (by omega), ih _ (w_nS h rd hg.2) (by omega)]
  intro s hs
  exact key (IA (b + 6) s).toNat s hs (by have := (hA.dp hs).1; omega)
/-- what is needed is the same -/
theorem w_N (h : cp IA LA x c b m I O G od ld) (eB : ∀ q, 55 ≤ q → q ≤ 68 → B q = IA q) (hb : ∀ r, M_is I G r → ch_b IA LA I G x rd r (B 73 r)) {t : Nat} (ht : nS I G t) : wr_N IA c b O rd od t ↔ ch_nd (ch_X B x) (ch_Y B x) (ch_O B x) O G (rN I t) := by
  have hA := h.1.1
  have hI := h.W.2.1
  obtain ⟨hX, hO⟩ := w_X h eB hb
  constructor
  · intro q S h1 h2
    refine q (fun s => S (rN I s)) (fun k hk => by rw [← hO k hk]; exact h1 k hk) (fun g hg hs => ?_)
    have e := (hA.od.2.2 g).mp hg
    unfold lf_g at e
    have es : I + 1 + (g - I - 1) = g := by omega
    have er : rN I g = 15 + (g - I - 1) := by unfold rN; rw [if_neg (by omega)]
    have hs : S (rN I g) := hs
    rw [er] at hs
    have h3 := h2 (g - I - 1) (by omega) hs
    have h4 := hX (g - I - 1) (by omega)
    rw [es] at h4
    rw [h4.1, h4.2] at h3
    exact h3
  · intro q S h1 h2
    have := q (fun r => S (rI I r)) (fun k hk => by
      show S (rI I (ch_O B x k))
      rw [hO k hk, rI_rN hI (w_nS h rd (hA.out hk))]
      exact h1 k hk) (fun k hk hs => by
      have hs : S (rI I (15 + k)) := hs
      have e : rI I (15 + k) = I + 1 + k := by
        unfold rI
        rw [if_neg (by omega)]
        omega
      rw [e] at hs
      have hg := sd_le h (s := I + 1 + k) ⟨by omega, by omega⟩
      have h3 := h2 (I + 1 + k) ((hA.od.2.2 _).mpr ⟨by omega, by omega⟩) hs
      show S (rI I (ch_X B x k)) ∧ S (rI I (ch_Y B x k))
      rw [(hX k hk).1, (hX k hk).2, rI_rN hI (w_nS h rd hg.1), rI_rN hI (w_nS h rd hg.2)]
      exact h3)
    have this : S (rI I (rN I t)) := this
    rw [rI_rN hI ht] at this
    exact this
/-- the gates of the reference by variable -/
def w_wl (IA : mj_FI) (b m I : Nat) : List Nat := (nt_wl IA b m).map (fun s => s - I - 1)
theorem w_wl_nb (h : cp IA LA x c b m I O G od ld) : nb_w IA x G (w_wl IA b m I) := by
  have hW := h.W
  have hN := h.2.1
  refine ⟨nd_map _ (nt_wl_G hW).1 (fun s hs t ht e => ?_), fun k => ?_, ?_⟩
  · have h1 := (nt_wl_g hW).mp hs
    have h2 := (nt_wl_g hW).mp ht
    unfold lf_g at h1 h2
    omega
  · unfold w_wl
    rw [List.mem_map]
    constructor
    · rintro ⟨s, hs, e⟩
      have h1 := (nt_wl_g hW).mp hs
      unfold lf_g at h1
      omega
    · intro hk
      exact ⟨I + 1 + k, (nt_wl_g hW).mpr ⟨by omega, by omega⟩, by omega⟩
  · unfold w_wl
    rw [List.pairwise_map]
    refine (nt_wl_pw hW m (Nat.le_refl _)).imp_of_mem (fun {s t} hs ht q => ?_)
    have h1 := (nt_wl_g hW).mp hs
    have h2 := (nt_wl_g hW).mp ht
    unfold lf_g at h1 h2
    have e1 := (hN.2.2.2.2.2.2.1 (s - I - 1) (by omega)).1
    have e2 := (hN.2.2.2.2.2.2.1 (t - I - 1) (by omega)).1
    rw [show I + 1 + (s - I - 1) = s by omega] at e1
    rw [show I + 1 + (t - I - 1) = t by omega] at e2
    show IA 62 (300 * x + (s - I - 1)) < IA 62 (300 * x + (t - I - 1))
    rw [e1, e2]
    exact q
/-- the same text -/
theorem q_txt (h : cp IA LA x c b m I O G od ld) {om : List Nat} {bin : Bool} (hom : ∀ k, k < G → k ∈ om) (hom2 : ∀ k ∈ om, k < G) (eB : ∀ q, 55 ≤ q → q ≤ 68 → B q = IA q) (hb : ∀ r, M_is I G r → ch_b IA LA I G x rd r (B 73 r)) (h76 : ∀ r, r < 315 → (B 76 r = 0 ∨ B 76 r = 1) ∧ (B 76 r = 1 ↔ ch_nd (ch_X B x) (ch_Y B x) (ch_O B x) O G r)) (hE : ch_D (ch_X B x) (ch_Y B x) om (B 74))
    {num' : Nat → Int} {sn' : Nat → Nat} (n1 : ∀ r, r ≤ I → num' r = (r : Int)) (n2 : ∀ k, k < G → ng_N B k = 1 → num' (15 + k) = ((I + 1 + wr_rk (ng_N B) (ng_D B) (ng_o B x) (w_wl IA b m I) k : Nat) : Int) ∧ sn' (wr_rk (ng_N B) (ng_D B) (ng_o B x) (w_wl IA b m I) k) = k)
    {tx tx' : List Int} (ht : wr_txt IA c b m I O rd bin od tx) (ht' : tx' = wr_h bin I O (wr_ct (fun k => decide (ng_N B k = 1)) (w_wl IA b m I)) ++ ((if bin = true then [] else wr_i I) ++ (wr_o (fun k => M_wl B num' x (B 65 (16 * x + k))) O ++ wr_q bin I sn' (fun k => M_wl B num' x (B 63 (300 * x + k))) (fun k => M_wl B num' x (B 64 (300 * x + k))) (wr_ct (fun k => decide (ng_N B k = 1)) (w_wl IA b m I))))) : tx = tx' := by
  obtain ⟨D, N, num, sn, hD, hN, m1, m2, rfl⟩ := ht
  have hW := h.W
  have hI := hW.2.1
  have hG := hW.2.2.2.1
  have hA := h.1.1
  have e66 := eB 66 (by decide) (by decide)
  have dD := w_D h hom hom2 eB hb hD hE
  have lt315 : ∀ s, nS I G s → s < 315 := fun s hs => by
    unfold nS lf_g at hs
    omega
  -- needed on both sides
  have nn : ∀ s, nS I G s → (N s = 1 ↔ B 76 (rN I s) = 1) := fun s hs => by
    rw [(hN s (lt315 s hs)).2, (h76 _ (rN_lt hI hG hs)).2, w_N h eB hb hs]
  have gk : ∀ s, lf_g I G s → rN I s = 15 + (s - I - 1) := fun s hs => by
    unfold lf_g at hs
    unfold rN
    rw [if_neg (by omega)]
  have ow : ∀ s, lf_g I G s → ng_o B x (s - I - 1) = IA (b + 2) s := fun s hs => by
    unfold lf_g at hs
    have e1 := (h.2.1.2.2.2.2.2.2.1 (s - I - 1) (by omega)).1
    rw [show I + 1 + (s - I - 1) = s by omega] at e1
    show B 62 (300 * x + (s - I - 1)) = _
    rw [eB 62 (by decide) (by decide), e1]
  have dN : ∀ s, lf_g I G s → decide (N s = 1) = decide (ng_N B (s - I - 1) = 1) := fun s hs => by
    have q := nn s (Or.inr hs)
    rw [gk s hs] at q
    exact decide_eq_decide.mpr q
  have rk : ∀ s, lf_g I G s → wr_rk N D (IA (b + 2)) (nt_wl IA b m) s = wr_rk (ng_N B) (ng_D B) (ng_o B x) (w_wl IA b m I) (s - I - 1) := fun s hs => by
    unfold wr_rk w_wl
    rw [wr_ct_map]
    refine wr_ct_congr (fun g hg => ?_)
    have hg := (nt_wl_g hW).mp hg
    have d1 := dD g (Or.inr hg)
    have d2 := dD s (Or.inr hs)
    rw [gk g hg] at d1
    rw [gk s hs] at d2
    rw [dN g hg]
    unfold wr_lt
    rw [ow g hg, ow s hs, d1, d2]
  have gg : wr_ct (wr_pn N) (nt_wl IA b m) = wr_ct (fun k => decide (ng_N B k = 1)) (w_wl IA b m I) := by
    unfold w_wl
    rw [wr_ct_map]
    exact wr_ct_congr (fun g hg => dN g ((nt_wl_g hW).mp hg))
  -- numbers
  have nm : ∀ s, nS I G s → N s = 1 ∨ s ≤ I → num s = num' (rN I s) := fun s hs hn => by
    by_cases e : s ≤ I
    · rw [m1 s e, rN_i e, n1 s e]
    · have hs : lf_g I G s := by
        rcases hs with q | q
        · exact absurd q e
        · exact q
      have hn : N s = 1 := by
        rcases hn with q | q
        · exact q
        · exact absurd q e
      have q := nn s (Or.inr hs)
      rw [gk s hs] at q
      have hs2 := hs
      unfold lf_g at hs2
      rw [(m2 s ((nt_wl_g hW).mpr hs) hn).1, gk s hs, (n2 (s - I - 1) (by omega) (q.mp hn)).1, rk s hs]
  have li : ∀ lit, tw_sd IA b lit → N (wr_X IA c b rd lit) = 1 → (2 * num (wr_X IA c b rd lit) + wr_F IA c b rd lit % 2).toNat = M_wl B num' x lit := fun lit hl hn => by
    unfold M_wl
    rw [w_tr h e66 hb hl, w_tu h e66 hb hl, nm _ (w_nS h rd hl) (Or.inl hn)]
  rw [ht', gg]
  congr 1
  congr 1
  have ndO : ∀ k, k < O → N (wr_X IA c b rd (IA (b + 5) k)) = 1 := fun k hk => by
    have hl := hA.out hk
    rw [(hN _ (lt315 _ (w_nS h rd hl))).2]
    exact fun S h1 h2 => h1 k hk
  have e1 : wr_o (fun k => (2 * num (wr_X IA c b rd (IA (b + 5) k)) + wr_F IA c b rd (IA (b + 5) k) % 2).toNat) O = wr_o (fun k => M_wl B num' x (B 65 (16 * x + k))) O := by
    refine wr_o_co O (fun k hk => ?_)
    show _ = M_wl B num' x (B 65 (16 * x + k))
    rw [eB 65 (by decide) (by decide), h.o65 hk]
    exact li _ (hA.out hk) (ndO k hk)
  rw [e1]
  congr 1
  refine wr_q_co _ (fun i hi => ?_)
  have hnb := w_wl_nb h
  have pw : (w_wl IA b m I).Pairwise (fun a d => ng_o B x a < ng_o B x d) := by
    refine hnb.2.2.imp (fun {a d} q => ?_)
    show B 62 _ < B 62 _
    rw [eB 62 (by decide) (by decide)]
    exact q
  obtain ⟨k, hk, k1, k2⟩ := wr_rk_sur (D := ng_D B) hnb.1 pw hi
  have hkG := (hnb.2.1 k).mp hk
  have e2 := (n2 k hkG k1).2
  rw [k2] at e2
  have hs : lf_g I G (I + 1 + k) := ⟨by omega, by omega⟩
  have es : I + 1 + k - I - 1 = k := by omega
  have hNs : N (I + 1 + k) = 1 := by
    have q := nn _ (Or.inr hs)
    rw [gk _ hs, es] at q
    exact q.mpr k1
  have e3 := (m2 _ ((nt_wl_g hW).mpr hs) hNs).2
  rw [rk _ hs, es, k2] at e3
  rw [e2, e3]
  have hg := sd_le h hs
  have ndG : N (wr_X IA c b rd (IA (b + 3) (I + 1 + k))) = 1 ∧ N (wr_X IA c b rd (IA (b + 4) (I + 1 + k))) = 1 := by
    rw [(hN _ (lt315 _ (w_nS h rd hg.1))).2, (hN _ (lt315 _ (w_nS h rd hg.2))).2]
    have q := (hN _ (lt315 _ (Or.inr hs))).2.mp hNs
    exact ⟨fun S h1 h2 => (h2 _ ((hA.od.2.2 _).mpr hs) (q S h1 h2)).1, fun S h1 h2 => (h2 _ ((hA.od.2.2 _).mpr hs) (q S h1 h2)).2⟩
  have q := h.2.1.2.2.2.2.2.2.1 k hkG
  show _ = M_wl B num' x (B 63 (300 * x + k)) ∧ _ = M_wl B num' x (B 64 (300 * x + k))
  rw [eB 63 (by decide) (by decide), eB 64 (by decide) (by decide), q.2.1, q.2.2]
  exact ⟨li _ hg.1 ndG.1, li _ hg.2 ndG.2⟩
end PP
