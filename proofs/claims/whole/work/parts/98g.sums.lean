/-! ===== layer 2: texts are read; products, sums, conditions ===== -/
theorem PS.takeWord {B : Nat → Nat} {n t s o c : Nat} {σ τ : CS} (h : PS B n t s o c σ τ) {w : Nat} (hw3 : 3 ≤ w) (hw : w < 12) : (∃ j l, fwd B n s ((lw w).map ws) 0 = some (j, l) ∧ s + l ≤ n ∧ f_Reader_takeWord w σ = some (nI j, Att σ (s + l))) ∨ (fwd B n s ((lw w).map ws) 0 = none ∧ f_Reader_takeWord w σ = some (-1, Att σ s)) := by
  obtain ⟨h1, -, ⟨a, ha, e1, e2⟩, -⟩ := h
  have := takeWordC h1 hw3 hw ha e1
  rw [e2] at this
  exact this
theorem PS.eat {B : Nat → Nat} {n t s o c : Nat} {σ τ : CS} (h : PS B n t s o c σ τ) {u : Nat} (hu : u < 40) : f_M_eat u τ = if isWb B n (ws u) s = true then some (1, Bam τ (s + (ws u).length)) else some (0, Bam τ s) := by
  obtain ⟨-, h1, -, ⟨a, ha, e1, e2⟩, h0, -⟩ := h
  rw [eatM h1 ha e1 hu h0, e2]
theorem ws_pos : ∀ s, s < 40 → 3 ≤ s → 2 ≤ (ws s).length ∧ 97 ≤ (ws s).getD 0 0 := by decide +kernel
theorem product_zero (rcC : Nat → Int32 → Int32 → CS → Option (Int32 × CS)) (p x : Int32) {m : Nat} (hm : 0 < m) (σ : CS) : L_Reader_readProduct_8 rcC p m 0 x σ = some (0, σ) := by
  obtain ⟨m, rfl⟩ : ∃ n, m = n + 1 := ⟨m - 1, by omega⟩
  rw [L_Reader_readProduct_8]
  by_cases q : 400 ≤ x
  · rw [if_pos q, grd_s (Or.inl rfl)]
  · rw [if_neg q, if_pos rfl, grd_s (Or.inl rfl)]
theorem product_dead {B : Nat → Nat} {n : Nat} (rcM : Nat → CS → Option (Int32 × CS)) {m : Nat} (hm : 0 < m) {τ : CS} (h : Ddm B n τ) : L_M_product_8 rcM m τ = some (0, τ) := by
  obtain ⟨m, rfl⟩ : ∃ n, m = n + 1 := ⟨m - 1, by omega⟩
  rw [L_M_product_8, if_neg h.n0.2]
theorem product_loop {B : Nat → Nat} {n t o MV : Nat} (rcC : Nat → Int32 → Int32 → CS → Option (Int32 × CS)) (rcM : Nat → CS → Option (Int32 × CS)) (hV : Spc B n t o (fun σ => rcC 5 (nI o) 0 σ) (fun τ => rcM 2 τ) MV false) (ht : t < 10) {σ0 τ0 : CS} {s c : Nat} (hcs : c ≤ s + 12) (hrs : rws σ0 5 + n ≤ 4000 + s) :
    ∀ (d k m m' s1 m1 : Nat) (σ τ : CS), n < s1 + d → d < m → d < m' → k < s1 → PS B n t s1 o (c + m1) σ τ → τ.1 23 = nI s1 → 1 ≤ m1 → s + m1 ≤ s1 → Kep t c σ0 τ0 σ τ → rws σ 5 = rws σ0 5 + m1 → Seg σ τ (rws σ0 5) (450 * t + c) m1 (MV + 1) false →
    ∃ r σ' v τ', L_Reader_readProduct_8 rcC (nI o) m 1 (nI k) σ = some (r, σ') ∧ L_M_product_8 rcM m' τ = some (v, τ') ∧ Kep t c σ0 τ0 σ' τ' ∧ ((r = 1 ∧ Okk B n t s o c (MV + 1) false σ0 τ0 σ' τ') ∨ (r = 0 ∧ Bad B n σ' τ')) := by
  intro d
  induction d with
  | zero =>
    intro k m m' s1 m1 σ τ h1 h2 h3 hk hP
    have := hP.le
    omega
  | succ d ih =>
    intro k m m' s1 m1 σ τ h1 h2 h3 hk hP h23 hm1 hsm K01 r1 g1
    obtain ⟨m, rfl⟩ : ∃ n, m = n + 1 := ⟨m - 1, by omega⟩
    obtain ⟨m', rfl⟩ : ∃ n, m' = n + 1 := ⟨m' - 1, by omega⟩
    obtain ⟨l1, l2, l3⟩ := hP.le
    have hW : WC σ := hP.1.1
    have hB := bt_le hP.2.1 s1
    have h24 : τ.1 24 = 0 := hP.2.2.2.2.1
    have ts1 : f_Reader_takeSign 42 σ = if bt B n s1 = 42 then some (1, Att σ (s1 + 1)) else some (0, Att σ s1) := hP.takeSign 42 (by omega) (by omega)
    have ts2 : f_Reader_takeSign 47 (Att σ s1) = if bt B n s1 = 47 then some (1, Att (Att σ s1) (s1 + 1)) else some (0, Att (Att σ s1) s1) := hP.hereC.takeSign 47 (by omega) (by omega)
    rw [Att_Att, Att_Att] at ts2
    have ba := byteAtM hP.2.1 (k := s1) (by omega)
    have hk4 : ¬ (400 : Int32) ≤ nI k := fun z => absurd ((lit_le 400 (by omega) (by omega)).1 z) (by omega)
    have step : ∀ (x : Nat) (oo : Int32), x ≤ 10021 → 10016 ≤ x → encN x oo 0 → s1 < n → ∃ r σ' v τ', rcC 5 (nI o) 0 (Att σ (s1 + 1)) = some (r, σ') ∧ rcM 2 (Bam τ (s1 + 1)) = some (v, τ') ∧ ((r = 1 ∧ ∃ σ3, f_Reader_emit (nI x) σ' = some (1, σ3) ∧ ∃ r' σ4 v' τ4, L_Reader_readProduct_8 rcC (nI o) m 1 (nI (k + 1)) σ3 = some (r', σ4) ∧ B_M_product_76 rcM (L_M_product_8 rcM m') oo τ' = some (v', τ4) ∧ Kep t c σ0 τ0 σ4 τ4 ∧ ((r' = 1 ∧ Okk B n t s o c (MV + 1) false σ0 τ0 σ4 τ4) ∨ (r' = 0 ∧ Bad B n σ4 τ4))) ∨ (r = 0 ∧ ∃ v' τ4, B_M_product_76 rcM (L_M_product_8 rcM m') oo τ' = some (v', τ4) ∧ Kep t c σ0 τ0 σ' τ4 ∧ Bad B n σ' τ4)) := by
      intro x oo hx1 hx2 he hs1
      have P2 := hP.on (e := s1 + 1) (by omega)
      have hge : s1 + 1 ≤ sk B n (s1 + 1) := sk_ge (by omega)
      have er : rws (Att σ (s1 + 1)) 5 = rws σ 5 := rfl
      obtain ⟨r, σ', v, τ', g2, g3, g4, g5⟩ := hV _ _ _ _ P2 (by omega) (by rw [er]; omega)
      refine ⟨r, σ', v, τ', g2, g3, ?_⟩
      have K12 : Kep t (c + m1) σ τ σ' τ' := (Kep.go t (c + m1) hW (s1 + 1) (s1 + 1)).trans g4 (Nat.le_refl _)
      unfold B_M_product_76
      rcases g5 with ⟨hr, s2, m2, q1, q2, q3, q4, q5⟩ | ⟨hr, q⟩
      · left
        rw [er] at q4 q5
        have hq := q3.le
        obtain ⟨σ3, τ3, e1, e2, e3, e4, e5, e6⟩ := bin_ok K01 r1 g1 K12 q4 q5 q3 ht (by omega) (by omega) hx1 he (fun st => by
          unfold stp
          rw [if_neg (by omega), if_neg (by omega)]
          show (if x ≤ 10012 then _ else if x ≤ 10015 then _ else some (false :: st)) = _
          rw [if_neg (by omega), if_neg (by omega)])
        refine ⟨hr, σ3, e1, ?_⟩
        rw [e2, bnd_s, e4.blanks, bnd_s]
        have K3 : Kep t c σ0 τ0 σ3 (Bam τ3 s2) := e3.trans (c' := c) (Kep.mv t c e4.1.1 (FrC.refl _ _ _) (FrM.f1 _ _ (by decide))) (Nat.le_refl _)
        have S3 : Seg σ3 (Bam τ3 s2) (rws σ0 5) (450 * t + c) (m1 + m2 + 1) (MV + 1) false := ⟨e6.1, e6.2.mono (by omega)⟩
        exact ih (k + 1) m m' s2 (m1 + m2 + 1) σ3 (Bam τ3 s2) (by omega) (by omega) (by omega) (by omega) e4.hereM (Bam_23 _ _) (by omega) (by omega) K3 e5 S3
      · right
        obtain ⟨τ4, w1, w2, w3⟩ := q.1.blanks
        rw [q.1.emits, bnd_s, w1, bnd_s, product_dead rcM (by omega) w3]
        exact ⟨hr, 0, τ4, rfl, (K01.trans K12 (by omega)).dd w2, q.dd w2 w3⟩
    have n42 : nI (bt B n s1) = 42 ↔ bt B n s1 = 42 := eq_lit 42 (by omega) (by omega)
    have n47 : nI (bt B n s1) = 47 ↔ bt B n s1 = 47 := eq_lit 47 (by omega) (by omega)
    have s23 : sF τ 23 (nI s1 + 1) = Bam τ (s1 + 1) := by rw [nI_1]
    rw [L_Reader_readProduct_8, L_M_product_8, if_neg hk4, if_neg i10, if_pos h24, ts1, h23, ba, bnd_s]
    unfold B_M_product_41
    rw [h23, ba, bnd_s, bnd_s, h23, s23]
    unfold B_Reader_readProduct_86
    by_cases q1 : bt B n s1 = 42
    · rw [if_pos q1, if_pos (n42.2 q1), bnd_s, if_neg i10]
      obtain ⟨r, σ', v, τ', g2, g3, g4⟩ := step 10018 4 (by omega) (by omega) (by right; right; exact ⟨by omega, by omega, rfl⟩) (bt_in q1 (by omega))
      rw [g2, g3, bnd_s, bnd_s, if_pos (n42.2 q1)]
      rcases g4 with ⟨rfl, σ3, e1, r', σ4, v', τ4, e2, e3, e4, e5⟩ | ⟨rfl, v', τ4, e3, e4, e5⟩
      · have e1' : f_Reader_emit 10018 σ' = some (1, σ3) := e1
        rw [if_neg i10, e1', bnd_s, if_neg i10, nI_1, e2, e3]
        exact ⟨r', σ4, v', τ4, rfl, rfl, e4, e5⟩
      · rw [if_pos rfl, product_zero rcC _ _ (by omega), e3]
        exact ⟨0, σ', v', τ4, rfl, rfl, e4, Or.inr ⟨rfl, e5⟩⟩
    · rw [if_neg q1, if_neg (fun z => q1 (n42.1 z)), bnd_s, if_pos rfl, ts2]
      by_cases q2 : bt B n s1 = 47
      · rw [if_pos q2, if_pos (n47.2 q2), bnd_s, if_neg i10]
        obtain ⟨r, σ', v, τ', g2, g3, g4⟩ := step 10019 5 (by omega) (by omega) (by right; right; exact ⟨by omega, by omega, rfl⟩) (bt_in q2 (by omega))
        rw [g2, bnd_s, ba, bnd_s, h23, s23, g3, bnd_s, if_neg (fun z => q1 (n42.1 z))]
        rcases g4 with ⟨rfl, σ3, e1, r', σ4, v', τ4, e2, e3, e4, e5⟩ | ⟨rfl, v', τ4, e3, e4, e5⟩
        · have e1' : f_Reader_emit 10019 σ' = some (1, σ3) := e1
          rw [if_neg i10, e1', bnd_s, if_neg i10, nI_1, e2, e3]
          exact ⟨r', σ4, v', τ4, rfl, rfl, e4, e5⟩
        · rw [if_pos rfl, product_zero rcC _ _ (by omega), e3]
          exact ⟨0, σ', v', τ4, rfl, rfl, e4, Or.inr ⟨rfl, e5⟩⟩
      · rw [if_neg q2, if_neg (fun z => q2 (n47.1 z)), bnd_s, if_pos rfl, grd_s (Or.inr rfl)]
        exact ⟨1, _, 0, τ, rfl, rfl, K01.trans (Kep.goC t c τ hW s1) (Nat.le_refl _), Or.inl ⟨rfl, s1, m1, hm1, hsm, hP.hereC, r1, g1⟩⟩
theorem product_ag {B : Nat → Nat} {n t o MV : Nat} (rcC : Nat → Int32 → Int32 → CS → Option (Int32 × CS)) (rcM : Nat → CS → Option (Int32 × CS)) (hV : Spc B n t o (fun σ => rcC 5 (nI o) 0 σ) (fun τ => rcM 2 τ) MV false) (ht : t < 10) : Spc B n t o (fun σ => f_Reader_readProduct rcC (nI o) σ) (fun τ => f_M_product rcM τ) (MV + 1) false := by
  intro s c σ τ hP hcs hrs
  obtain ⟨r, σ', v, τ', g2, g3, g4, g5⟩ := hV s c σ τ hP hcs hrs
  show ∃ r σ' v τ', f_Reader_readProduct rcC (nI o) σ = some (r, σ') ∧ f_M_product rcM τ = some (v, τ') ∧ _
  unfold f_Reader_readProduct f_M_product
  have g2' : rcC 5 (nI o) 0 σ = some (r, σ') := g2
  have g3' : rcM 2 τ = some (v, τ') := g3
  rw [g2', g3', bnd_s, bnd_s]
  rcases g5 with ⟨rfl, s2, m2, q1, q2, q3, q4, q5⟩ | ⟨rfl, q⟩
  · have hq := q3.le
    rw [q3.blanks, bnd_s]
    have K3 : Kep t c σ τ σ' (Bam τ' s2) := g4.trans (c' := c) (Kep.mv t c q3.1.1 (FrC.refl _ _ _) (FrM.f1 _ _ (by decide))) (Nat.le_refl _)
    exact product_loop rcC rcM hV ht hcs hrs (n + 1) 0 FU FU s2 m2 σ' (Bam τ' s2) (by omega) (lt_FU (by omega)) (lt_FU (by omega)) (by omega) q3.hereM (Bam_23 _ _) q1 q2 K3 q4 ⟨q5.1, q5.2.mono (by omega)⟩
  · obtain ⟨τ4, w1, w2, w3⟩ := q.1.blanks
    rw [w1, bnd_s, product_zero rcC _ _ (lt_FU (by omega)), product_dead rcM (lt_FU (by omega)) w3]
    exact ⟨0, σ', 0, τ4, rfl, rfl, g4.dd w2, Or.inr ⟨rfl, q.dd w2 w3⟩⟩
theorem product_DdS {B : Nat → Nat} {n : Nat} (rcM : Nat → CS → Option (Int32 × CS)) (hD : DdS B n (rcM 2)) : DdS B n (f_M_product rcM) := by
  intro τ h
  obtain ⟨v, τ1, g1, g2, g3⟩ := hD τ h
  obtain ⟨τ2, w1, w2, w3⟩ := g3.blanks
  refine ⟨0, τ2, ?_, g2.trans w2, w3⟩
  unfold f_M_product
  rw [g1, bnd_s, w1, bnd_s, product_dead rcM (lt_FU (by omega)) w3]
theorem sum_zero (rcC : Nat → Int32 → Int32 → CS → Option (Int32 × CS)) (p x : Int32) {m : Nat} (hm : 0 < m) (σ : CS) : L_Reader_readSum_8 rcC p m 0 x σ = some (0, σ) := by
  obtain ⟨m, rfl⟩ : ∃ n, m = n + 1 := ⟨m - 1, by omega⟩
  rw [L_Reader_readSum_8]
  by_cases q : 400 ≤ x
  · rw [if_pos q, grd_s (Or.inl rfl)]
  · rw [if_neg q, if_pos rfl, grd_s (Or.inl rfl)]
theorem sum_dead {B : Nat → Nat} {n : Nat} (rcM : Nat → CS → Option (Int32 × CS)) {m : Nat} (hm : 0 < m) {τ : CS} (h : Ddm B n τ) : L_M_sum_8 rcM m τ = some (0, τ) := by
  obtain ⟨m, rfl⟩ : ∃ n, m = n + 1 := ⟨m - 1, by omega⟩
  rw [L_M_sum_8, if_neg h.n0.2]
theorem sum_loop {B : Nat → Nat} {n t o MV : Nat} (rcC : Nat → Int32 → Int32 → CS → Option (Int32 × CS)) (rcM : Nat → CS → Option (Int32 × CS)) (hV : Spc B n t o (fun σ => rcC 4 (nI o) 0 σ) (fun τ => rcM 1 τ) MV false) (ht : t < 10) {σ0 τ0 : CS} {s c : Nat} (hcs : c ≤ s + 12) (hrs : rws σ0 5 + n ≤ 4000 + s) :
    ∀ (d k m m' s1 m1 : Nat) (σ τ : CS), n < s1 + d → d < m → d < m' → k < s1 → PS B n t s1 o (c + m1) σ τ → τ.1 23 = nI s1 → 1 ≤ m1 → s + m1 ≤ s1 → Kep t c σ0 τ0 σ τ → rws σ 5 = rws σ0 5 + m1 → Seg σ τ (rws σ0 5) (450 * t + c) m1 (MV + 1) false →
    ∃ r σ' v τ', L_Reader_readSum_8 rcC (nI o) m 1 (nI k) σ = some (r, σ') ∧ L_M_sum_8 rcM m' τ = some (v, τ') ∧ Kep t c σ0 τ0 σ' τ' ∧ ((r = 1 ∧ Okk B n t s o c (MV + 1) false σ0 τ0 σ' τ') ∨ (r = 0 ∧ Bad B n σ' τ')) := by
  intro d
  induction d with
  | zero =>
    intro k m m' s1 m1 σ τ h1 h2 h3 hk hP
    have := hP.le
    omega
  | succ d ih =>
    intro k m m' s1 m1 σ τ h1 h2 h3 hk hP h23 hm1 hsm K01 r1 g1
    obtain ⟨m, rfl⟩ : ∃ n, m = n + 1 := ⟨m - 1, by omega⟩
    obtain ⟨m', rfl⟩ : ∃ n, m' = n + 1 := ⟨m' - 1, by omega⟩
    obtain ⟨l1, l2, l3⟩ := hP.le
    have hW : WC σ := hP.1.1
    have hB := bt_le hP.2.1 s1
    have h24 : τ.1 24 = 0 := hP.2.2.2.2.1
    have ts1 : f_Reader_takeSign 43 σ = if bt B n s1 = 43 then some (1, Att σ (s1 + 1)) else some (0, Att σ s1) := hP.takeSign 43 (by omega) (by omega)
    have ts2 : f_Reader_takeSign 45 (Att σ s1) = if bt B n s1 = 45 then some (1, Att (Att σ s1) (s1 + 1)) else some (0, Att (Att σ s1) s1) := hP.hereC.takeSign 45 (by omega) (by omega)
    rw [Att_Att, Att_Att] at ts2
    have ba := byteAtM hP.2.1 (k := s1) (by omega)
    have hk4 : ¬ (400 : Int32) ≤ nI k := fun z => absurd ((lit_le 400 (by omega) (by omega)).1 z) (by omega)
    have step : ∀ (x : Nat) (oo : Int32), x ≤ 10021 → 10016 ≤ x → encN x oo 0 → s1 < n → ∃ r σ' v τ', rcC 4 (nI o) 0 (Att σ (s1 + 1)) = some (r, σ') ∧ rcM 1 (Bam τ (s1 + 1)) = some (v, τ') ∧ ((r = 1 ∧ ∃ σ3, f_Reader_emit (nI x) σ' = some (1, σ3) ∧ ∃ r' σ4 v' τ4, L_Reader_readSum_8 rcC (nI o) m 1 (nI (k + 1)) σ3 = some (r', σ4) ∧ B_M_sum_76 rcM (L_M_sum_8 rcM m') oo τ' = some (v', τ4) ∧ Kep t c σ0 τ0 σ4 τ4 ∧ ((r' = 1 ∧ Okk B n t s o c (MV + 1) false σ0 τ0 σ4 τ4) ∨ (r' = 0 ∧ Bad B n σ4 τ4))) ∨ (r = 0 ∧ ∃ v' τ4, B_M_sum_76 rcM (L_M_sum_8 rcM m') oo τ' = some (v', τ4) ∧ Kep t c σ0 τ0 σ' τ4 ∧ Bad B n σ' τ4)) := by
      intro x oo hx1 hx2 he hs1
      have P2 := hP.on (e := s1 + 1) (by omega)
      have hge : s1 + 1 ≤ sk B n (s1 + 1) := sk_ge (by omega)
      have er : rws (Att σ (s1 + 1)) 5 = rws σ 5 := rfl
      obtain ⟨r, σ', v, τ', g2, g3, g4, g5⟩ := hV _ _ _ _ P2 (by omega) (by rw [er]; omega)
      refine ⟨r, σ', v, τ', g2, g3, ?_⟩
      have K12 : Kep t (c + m1) σ τ σ' τ' := (Kep.go t (c + m1) hW (s1 + 1) (s1 + 1)).trans g4 (Nat.le_refl _)
      unfold B_M_sum_76
      rcases g5 with ⟨hr, s2, m2, q1, q2, q3, q4, q5⟩ | ⟨hr, q⟩
      · left
        rw [er] at q4 q5
        have hq := q3.le
        obtain ⟨σ3, τ3, e1, e2, e3, e4, e5, e6⟩ := bin_ok K01 r1 g1 K12 q4 q5 q3 ht (by omega) (by omega) hx1 he (fun st => by
          unfold stp
          rw [if_neg (by omega), if_neg (by omega)]
          show (if x ≤ 10012 then _ else if x ≤ 10015 then _ else some (false :: st)) = _
          rw [if_neg (by omega), if_neg (by omega)])
        refine ⟨hr, σ3, e1, ?_⟩
        rw [e2, bnd_s, e4.blanks, bnd_s]
        have K3 : Kep t c σ0 τ0 σ3 (Bam τ3 s2) := e3.trans (c' := c) (Kep.mv t c e4.1.1 (FrC.refl _ _ _) (FrM.f1 _ _ (by decide))) (Nat.le_refl _)
        have S3 : Seg σ3 (Bam τ3 s2) (rws σ0 5) (450 * t + c) (m1 + m2 + 1) (MV + 1) false := ⟨e6.1, e6.2.mono (by omega)⟩
        exact ih (k + 1) m m' s2 (m1 + m2 + 1) σ3 (Bam τ3 s2) (by omega) (by omega) (by omega) (by omega) e4.hereM (Bam_23 _ _) (by omega) (by omega) K3 e5 S3
      · right
        obtain ⟨τ4, w1, w2, w3⟩ := q.1.blanks
        rw [q.1.emits, bnd_s, w1, bnd_s, sum_dead rcM (by omega) w3]
        exact ⟨hr, 0, τ4, rfl, (K01.trans K12 (by omega)).dd w2, q.dd w2 w3⟩
    have n43 : nI (bt B n s1) = 43 ↔ bt B n s1 = 43 := eq_lit 43 (by omega) (by omega)
    have n45 : nI (bt B n s1) = 45 ↔ bt B n s1 = 45 := eq_lit 45 (by omega) (by omega)
    have s23 : sF τ 23 (nI s1 + 1) = Bam τ (s1 + 1) := by rw [nI_1]
    rw [L_Reader_readSum_8, L_M_sum_8, if_neg hk4, if_neg i10, if_pos h24, ts1, h23, ba, bnd_s]
    unfold B_M_sum_41
    rw [h23, ba, bnd_s, bnd_s, h23, s23]
    unfold B_Reader_readSum_86
    by_cases q1 : bt B n s1 = 43
    · rw [if_pos q1, if_pos (n43.2 q1), bnd_s, if_neg i10]
      obtain ⟨r, σ', v, τ', g2, g3, g4⟩ := step 10016 2 (by omega) (by omega) (by right; right; exact ⟨by omega, by omega, rfl⟩) (bt_in q1 (by omega))
      rw [g2, g3, bnd_s, bnd_s, if_pos (n43.2 q1)]
      rcases g4 with ⟨rfl, σ3, e1, r', σ4, v', τ4, e2, e3, e4, e5⟩ | ⟨rfl, v', τ4, e3, e4, e5⟩
      · have e1' : f_Reader_emit 10016 σ' = some (1, σ3) := e1
        rw [if_neg i10, e1', bnd_s, if_neg i10, nI_1, e2, e3]
        exact ⟨r', σ4, v', τ4, rfl, rfl, e4, e5⟩
      · rw [if_pos rfl, sum_zero rcC _ _ (by omega), e3]
        exact ⟨0, σ', v', τ4, rfl, rfl, e4, Or.inr ⟨rfl, e5⟩⟩
    · rw [if_neg q1, if_neg (fun z => q1 (n43.1 z)), bnd_s, if_pos rfl, ts2]
      by_cases q2 : bt B n s1 = 45
      · rw [if_pos q2, if_pos (n45.2 q2), bnd_s, if_neg i10]
        obtain ⟨r, σ', v, τ', g2, g3, g4⟩ := step 10017 3 (by omega) (by omega) (by right; right; exact ⟨by omega, by omega, rfl⟩) (bt_in q2 (by omega))
        rw [g2, bnd_s, ba, bnd_s, h23, s23, g3, bnd_s, if_neg (fun z => q1 (n43.1 z))]
        rcases g4 with ⟨rfl, σ3, e1, r', σ4, v', τ4, e2, e3, e4, e5⟩ | ⟨rfl, v', τ4, e3, e4, e5⟩
        · have e1' : f_Reader_emit 10017 σ' = some (1, σ3) := e1
          rw [if_neg i10, e1', bnd_s, if_neg i10, nI_1, e2, e3]
          exact ⟨r', σ4, v', τ4, rfl, rfl, e4, e5⟩
        · rw [if_pos rfl, sum_zero rcC _ _ (by omega), e3]
          exact ⟨0, σ', v', τ4, rfl, rfl, e4, Or.inr ⟨rfl, e5⟩⟩
      · rw [if_neg q2, if_neg (fun z => q2 (n45.1 z)), bnd_s, if_pos rfl, grd_s (Or.inr rfl)]
        exact ⟨1, _, 0, τ, rfl, rfl, K01.trans (Kep.goC t c τ hW s1) (Nat.le_refl _), Or.inl ⟨rfl, s1, m1, hm1, hsm, hP.hereC, r1, g1⟩⟩
theorem sum_ag {B : Nat → Nat} {n t o MV : Nat} (rcC : Nat → Int32 → Int32 → CS → Option (Int32 × CS)) (rcM : Nat → CS → Option (Int32 × CS)) (hV : Spc B n t o (fun σ => rcC 4 (nI o) 0 σ) (fun τ => rcM 1 τ) MV false) (ht : t < 10) : Spc B n t o (fun σ => f_Reader_readSum rcC (nI o) σ) (fun τ => f_M_sum rcM τ) (MV + 1) false := by
  intro s c σ τ hP hcs hrs
  obtain ⟨r, σ', v, τ', g2, g3, g4, g5⟩ := hV s c σ τ hP hcs hrs
  show ∃ r σ' v τ', f_Reader_readSum rcC (nI o) σ = some (r, σ') ∧ f_M_sum rcM τ = some (v, τ') ∧ _
  unfold f_Reader_readSum f_M_sum
  have g2' : rcC 4 (nI o) 0 σ = some (r, σ') := g2
  have g3' : rcM 1 τ = some (v, τ') := g3
  rw [g2', g3', bnd_s, bnd_s]
  rcases g5 with ⟨rfl, s2, m2, q1, q2, q3, q4, q5⟩ | ⟨rfl, q⟩
  · have hq := q3.le
    rw [q3.blanks, bnd_s]
    have K3 : Kep t c σ τ σ' (Bam τ' s2) := g4.trans (c' := c) (Kep.mv t c q3.1.1 (FrC.refl _ _ _) (FrM.f1 _ _ (by decide))) (Nat.le_refl _)
    exact sum_loop rcC rcM hV ht hcs hrs (n + 1) 0 FU FU s2 m2 σ' (Bam τ' s2) (by omega) (lt_FU (by omega)) (lt_FU (by omega)) (by omega) q3.hereM (Bam_23 _ _) q1 q2 K3 q4 ⟨q5.1, q5.2.mono (by omega)⟩
  · obtain ⟨τ4, w1, w2, w3⟩ := q.1.blanks
    rw [w1, bnd_s, sum_zero rcC _ _ (lt_FU (by omega)), sum_dead rcM (lt_FU (by omega)) w3]
    exact ⟨0, σ', 0, τ4, rfl, rfl, g4.dd w2, Or.inr ⟨rfl, q.dd w2 w3⟩⟩
theorem sum_DdS {B : Nat → Nat} {n : Nat} (rcM : Nat → CS → Option (Int32 × CS)) (hD : DdS B n (rcM 1)) : DdS B n (f_M_sum rcM) := by
  intro τ h
  obtain ⟨v, τ1, g1, g2, g3⟩ := hD τ h
  obtain ⟨τ2, w1, w2, w3⟩ := g3.blanks
  refine ⟨0, τ2, ?_, g2.trans w2, w3⟩
  unfold f_M_sum
  rw [g1, bnd_s, w1, bnd_s, sum_dead rcM (lt_FU (by omega)) w3]
theorem both_zero (rcC : Nat → Int32 → Int32 → CS → Option (Int32 × CS)) (p x : Int32) {m : Nat} (hm : 0 < m) (σ : CS) : L_Reader_readBoth_8 rcC p m 0 x σ = some (0, σ) := by
  obtain ⟨m, rfl⟩ : ∃ n, m = n + 1 := ⟨m - 1, by omega⟩
  rw [L_Reader_readBoth_8]
  by_cases q : 400 ≤ x
  · rw [if_pos q, grd_s (Or.inl rfl)]
  · rw [if_neg q, if_pos rfl, grd_s (Or.inl rfl)]
theorem both_dead {B : Nat → Nat} {n : Nat} (rcM : Nat → CS → Option (Int32 × CS)) {m : Nat} (hm : 0 < m) {τ : CS} (h : Ddm B n τ) : L_M_ands_4 rcM m τ = some (0, τ) := by
  obtain ⟨m, rfl⟩ : ∃ n, m = n + 1 := ⟨m - 1, by omega⟩
  rw [L_M_ands_4, h.eat, bnd_s, if_pos rfl]
theorem both_loop {B : Nat → Nat} {n t o MV : Nat} (rcC : Nat → Int32 → Int32 → CS → Option (Int32 × CS)) (rcM : Nat → CS → Option (Int32 × CS)) (hV : Spc B n t o (fun σ => rcC 2 (nI o) 0 σ) (fun τ => rcM 5 τ) MV true) (ht : t < 10) {σ0 τ0 : CS} {s c : Nat} (hcs : c ≤ s + 12) (hrs : rws σ0 5 + n ≤ 4000 + s) :
    ∀ (d k m m' s1 m1 : Nat) (σ τ : CS), n < s1 + d → d < m → d < m' → k < s1 → PS B n t s1 o (c + m1) σ τ → 1 ≤ m1 → s + m1 ≤ s1 → Kep t c σ0 τ0 σ τ → rws σ 5 = rws σ0 5 + m1 → Seg σ τ (rws σ0 5) (450 * t + c) m1 (MV + 1) true →
    ∃ r σ' v τ', L_Reader_readBoth_8 rcC (nI o) m 1 (nI k) σ = some (r, σ') ∧ L_M_ands_4 rcM m' τ = some (v, τ') ∧ Kep t c σ0 τ0 σ' τ' ∧ ((r = 1 ∧ Okk B n t s o c (MV + 1) true σ0 τ0 σ' τ') ∨ (r = 0 ∧ Bad B n σ' τ')) := by
  intro d
  induction d with
  | zero =>
    intro k m m' s1 m1 σ τ h1 h2 h3 hk hP
    have := hP.le
    omega
  | succ d ih =>
    intro k m m' s1 m1 σ τ h1 h2 h3 hk hP hm1 hsm K01 r1 g1
    obtain ⟨m, rfl⟩ : ∃ n, m = n + 1 := ⟨m - 1, by omega⟩
    obtain ⟨m', rfl⟩ : ∃ n, m' = n + 1 := ⟨m' - 1, by omega⟩
    obtain ⟨l1, l2, l3⟩ := hP.le
    have hW : WC σ := hP.1.1
    have hk4 : ¬ (400 : Int32) ≤ nI k := fun z => absurd ((lit_le 400 (by omega) (by omega)).1 z) (by omega)
    have ef : fwd B n s1 ((lw 9).map ws) 0 = if isWb B n (ws 36) s1 = true then some (0, (ws 36).length) else none := rfl
    rw [L_Reader_readBoth_8, L_M_ands_4, if_neg hk4, if_neg i10, hP.eat (u := 36) (by omega)]
    have hw := (ws_pos 36 (by omega) (by omega)).1
    rcases hP.takeWord (w := 9) (by omega) (by omega) with ⟨j, l, t1, t2, t3⟩ | ⟨t1, t3⟩
    · rw [ef] at t1
      by_cases q : isWb B n (ws 36) s1 = true
      rotate_left
      · rw [if_neg q] at t1; cases t1
      rw [if_pos q] at t1
      simp only [Option.some.injEq, Prod.mk.injEq] at t1
      obtain ⟨rfl, rfl⟩ := t1
      rw [if_pos q, t3, bnd_s, bnd_s, if_neg (by decide), if_neg i10]
      have P2 := hP.on t2
      have hge : s1 + (ws 36).length ≤ sk B n (s1 + (ws 36).length) := sk_ge t2
      have er : rws (Att σ (s1 + (ws 36).length)) 5 = rws σ 5 := rfl
      obtain ⟨r, σ', v, τ', g2, g3, g4, g5⟩ := hV _ _ _ _ P2 (by omega) (by rw [er]; omega)
      have K12 : Kep t (c + m1) σ τ σ' τ' := (Kep.go t (c + m1) hW (s1 + (ws 36).length) (s1 + (ws 36).length)).trans g4 (Nat.le_refl _)
      have g2' : rcC 2 (nI o) 0 (Att σ (s1 + (ws 36).length)) = some (r, σ') := g2
      have g3' : rcM 5 (Bam τ (s1 + (ws 36).length)) = some (v, τ') := g3
      unfold B_Reader_readBoth_51
      rw [g2', g3', bnd_s, bnd_s]
      rcases g5 with ⟨rfl, s2, m2, q1, q2, q3, q4, q5⟩ | ⟨rfl, q⟩
      · rw [er] at q4 q5
        have hq := q3.le
        obtain ⟨σ3, τ3, e1, e2, e3, e4, e5, e6⟩ := bin_ok (x := 10011) (oo := 8) K01 r1 g1 K12 q4 q5 q3 ht (by omega) (by omega) (by omega) (by right; right; exact ⟨by omega, by omega, rfl⟩) (fun st => rfl)
        have e1' : f_Reader_emit 10011 σ' = some (1, σ3) := e1
        rw [if_neg i10, e1', bnd_s, if_neg i10, e2, bnd_s, nI_1]
        exact ih (k + 1) m m' s2 (m1 + m2 + 1) σ3 τ3 (by omega) (by omega) (by omega) (by omega) e4 (by omega) (by omega) e3 e5 ⟨e6.1, e6.2.mono (by omega)⟩
      · rw [if_pos rfl, both_zero rcC _ _ (by omega), q.1.emits, bnd_s, both_dead rcM (by omega) q.1]
        exact ⟨0, σ', 0, τ', rfl, rfl, K01.trans K12 (by omega), Or.inr ⟨rfl, q⟩⟩
    · rw [ef] at t1
      by_cases q : isWb B n (ws 36) s1 = true
      · rw [if_pos q] at t1; cases t1
      rw [if_neg q, t3, bnd_s, bnd_s, if_pos rfl, if_pos rfl, grd_s (Or.inr rfl)]
      exact ⟨1, _, 0, _, rfl, rfl, K01.trans (Kep.go t c hW s1 s1) (Nat.le_refl _), Or.inl ⟨rfl, s1, m1, hm1, hsm, hP.here, r1, g1⟩⟩
theorem both_ag {B : Nat → Nat} {n t o MV : Nat} (rcC : Nat → Int32 → Int32 → CS → Option (Int32 × CS)) (rcM : Nat → CS → Option (Int32 × CS)) (hV : Spc B n t o (fun σ => rcC 2 (nI o) 0 σ) (fun τ => rcM 5 τ) MV true) (ht : t < 10) : Spc B n t o (fun σ => f_Reader_readBoth rcC (nI o) σ) (fun τ => f_M_ands rcM τ) (MV + 1) true := by
  intro s c σ τ hP hcs hrs
  obtain ⟨r, σ', v, τ', g2, g3, g4, g5⟩ := hV s c σ τ hP hcs hrs
  show ∃ r σ' v τ', f_Reader_readBoth rcC (nI o) σ = some (r, σ') ∧ f_M_ands rcM τ = some (v, τ') ∧ _
  unfold f_Reader_readBoth f_M_ands
  have g2' : rcC 2 (nI o) 0 σ = some (r, σ') := g2
  have g3' : rcM 5 τ = some (v, τ') := g3
  rw [g2', g3', bnd_s, bnd_s]
  rcases g5 with ⟨rfl, s2, m2, q1, q2, q3, q4, q5⟩ | ⟨rfl, q⟩
  · have hq := q3.le
    exact both_loop rcC rcM hV ht hcs hrs (n + 1) 0 FU FU s2 m2 σ' τ' (by omega) (lt_FU (by omega)) (lt_FU (by omega)) (by omega) q3 q1 q2 g4 q4 ⟨q5.1, q5.2.mono (by omega)⟩
  · rw [both_zero rcC _ _ (lt_FU (by omega)), both_dead rcM (lt_FU (by omega)) q.1]
    exact ⟨0, σ', 0, τ', rfl, rfl, g4, Or.inr ⟨rfl, q⟩⟩
theorem both_DdS {B : Nat → Nat} {n : Nat} (rcM : Nat → CS → Option (Int32 × CS)) (hD : DdS B n (rcM 5)) : DdS B n (f_M_ands rcM) := by
  intro τ h
  obtain ⟨v, τ1, g1, g2, g3⟩ := hD τ h
  refine ⟨0, τ1, ?_, g2, g3⟩
  unfold f_M_ands
  rw [g1, bnd_s, both_dead rcM (lt_FU (by omega)) g3]
theorem either_zero (rcC : Nat → Int32 → Int32 → CS → Option (Int32 × CS)) (p x : Int32) {m : Nat} (hm : 0 < m) (σ : CS) : L_Reader_readEither_8 rcC p m 0 x σ = some (0, σ) := by
  obtain ⟨m, rfl⟩ : ∃ n, m = n + 1 := ⟨m - 1, by omega⟩
  rw [L_Reader_readEither_8]
  by_cases q : 400 ≤ x
  · rw [if_pos q, grd_s (Or.inl rfl)]
  · rw [if_neg q, if_pos rfl, grd_s (Or.inl rfl)]
theorem either_dead {B : Nat → Nat} {n : Nat} (rcM : Nat → CS → Option (Int32 × CS)) {m : Nat} (hm : 0 < m) {τ : CS} (h : Ddm B n τ) : L_M_ors_4 rcM m τ = some (0, τ) := by
  obtain ⟨m, rfl⟩ : ∃ n, m = n + 1 := ⟨m - 1, by omega⟩
  rw [L_M_ors_4, h.eat, bnd_s, if_pos rfl]
theorem either_loop {B : Nat → Nat} {n t o MV : Nat} (rcC : Nat → Int32 → Int32 → CS → Option (Int32 × CS)) (rcM : Nat → CS → Option (Int32 × CS)) (hV : Spc B n t o (fun σ => rcC 1 (nI o) 0 σ) (fun τ => rcM 4 τ) MV true) (ht : t < 10) {σ0 τ0 : CS} {s c : Nat} (hcs : c ≤ s + 12) (hrs : rws σ0 5 + n ≤ 4000 + s) :
    ∀ (d k m m' s1 m1 : Nat) (σ τ : CS), n < s1 + d → d < m → d < m' → k < s1 → PS B n t s1 o (c + m1) σ τ → 1 ≤ m1 → s + m1 ≤ s1 → Kep t c σ0 τ0 σ τ → rws σ 5 = rws σ0 5 + m1 → Seg σ τ (rws σ0 5) (450 * t + c) m1 (MV + 1) true →
    ∃ r σ' v τ', L_Reader_readEither_8 rcC (nI o) m 1 (nI k) σ = some (r, σ') ∧ L_M_ors_4 rcM m' τ = some (v, τ') ∧ Kep t c σ0 τ0 σ' τ' ∧ ((r = 1 ∧ Okk B n t s o c (MV + 1) true σ0 τ0 σ' τ') ∨ (r = 0 ∧ Bad B n σ' τ')) := by
  intro d
  induction d with
  | zero =>
    intro k m m' s1 m1 σ τ h1 h2 h3 hk hP
    have := hP.le
    omega
  | succ d ih =>
    intro k m m' s1 m1 σ τ h1 h2 h3 hk hP hm1 hsm K01 r1 g1
    obtain ⟨m, rfl⟩ : ∃ n, m = n + 1 := ⟨m - 1, by omega⟩
    obtain ⟨m', rfl⟩ : ∃ n, m' = n + 1 := ⟨m' - 1, by omega⟩
    obtain ⟨l1, l2, l3⟩ := hP.le
    have hW : WC σ := hP.1.1
    have hk4 : ¬ (400 : Int32) ≤ nI k := fun z => absurd ((lit_le 400 (by omega) (by omega)).1 z) (by omega)
    have ef : fwd B n s1 ((lw 10).map ws) 0 = if isWb B n (ws 37) s1 = true then some (0, (ws 37).length) else none := rfl
    rw [L_Reader_readEither_8, L_M_ors_4, if_neg hk4, if_neg i10, hP.eat (u := 37) (by omega)]
    have hw := (ws_pos 37 (by omega) (by omega)).1
    rcases hP.takeWord (w := 10) (by omega) (by omega) with ⟨j, l, t1, t2, t3⟩ | ⟨t1, t3⟩
    · rw [ef] at t1
      by_cases q : isWb B n (ws 37) s1 = true
      rotate_left
      · rw [if_neg q] at t1; cases t1
      rw [if_pos q] at t1
      simp only [Option.some.injEq, Prod.mk.injEq] at t1
      obtain ⟨rfl, rfl⟩ := t1
      rw [if_pos q, t3, bnd_s, bnd_s, if_neg (by decide), if_neg i10]
      have P2 := hP.on t2
      have hge : s1 + (ws 37).length ≤ sk B n (s1 + (ws 37).length) := sk_ge t2
      have er : rws (Att σ (s1 + (ws 37).length)) 5 = rws σ 5 := rfl
      obtain ⟨r, σ', v, τ', g2, g3, g4, g5⟩ := hV _ _ _ _ P2 (by omega) (by rw [er]; omega)
      have K12 : Kep t (c + m1) σ τ σ' τ' := (Kep.go t (c + m1) hW (s1 + (ws 37).length) (s1 + (ws 37).length)).trans g4 (Nat.le_refl _)
      have g2' : rcC 1 (nI o) 0 (Att σ (s1 + (ws 37).length)) = some (r, σ') := g2
      have g3' : rcM 4 (Bam τ (s1 + (ws 37).length)) = some (v, τ') := g3
      unfold B_Reader_readEither_51
      rw [g2', g3', bnd_s, bnd_s]
      rcases g5 with ⟨rfl, s2, m2, q1, q2, q3, q4, q5⟩ | ⟨rfl, q⟩
      · rw [er] at q4 q5
        have hq := q3.le
        obtain ⟨σ3, τ3, e1, e2, e3, e4, e5, e6⟩ := bin_ok (x := 10012) (oo := 9) K01 r1 g1 K12 q4 q5 q3 ht (by omega) (by omega) (by omega) (by right; right; exact ⟨by omega, by omega, rfl⟩) (fun st => rfl)
        have e1' : f_Reader_emit 10012 σ' = some (1, σ3) := e1
        rw [if_neg i10, e1', bnd_s, if_neg i10, e2, bnd_s, nI_1]
        exact ih (k + 1) m m' s2 (m1 + m2 + 1) σ3 τ3 (by omega) (by omega) (by omega) (by omega) e4 (by omega) (by omega) e3 e5 ⟨e6.1, e6.2.mono (by omega)⟩
      · rw [if_pos rfl, either_zero rcC _ _ (by omega), q.1.emits, bnd_s, either_dead rcM (by omega) q.1]
        exact ⟨0, σ', 0, τ', rfl, rfl, K01.trans K12 (by omega), Or.inr ⟨rfl, q⟩⟩
    · rw [ef] at t1
      by_cases q : isWb B n (ws 37) s1 = true
      · rw [if_pos q] at t1; cases t1
      rw [if_neg q, t3, bnd_s, bnd_s, if_pos rfl, if_pos rfl, grd_s (Or.inr rfl)]
      exact ⟨1, _, 0, _, rfl, rfl, K01.trans (Kep.go t c hW s1 s1) (Nat.le_refl _), Or.inl ⟨rfl, s1, m1, hm1, hsm, hP.here, r1, g1⟩⟩
theorem either_ag {B : Nat → Nat} {n t o MV : Nat} (rcC : Nat → Int32 → Int32 → CS → Option (Int32 × CS)) (rcM : Nat → CS → Option (Int32 × CS)) (hV : Spc B n t o (fun σ => rcC 1 (nI o) 0 σ) (fun τ => rcM 4 τ) MV true) (ht : t < 10) : Spc B n t o (fun σ => f_Reader_readEither rcC (nI o) σ) (fun τ => f_M_ors rcM τ) (MV + 1) true := by
  intro s c σ τ hP hcs hrs
  obtain ⟨r, σ', v, τ', g2, g3, g4, g5⟩ := hV s c σ τ hP hcs hrs
  show ∃ r σ' v τ', f_Reader_readEither rcC (nI o) σ = some (r, σ') ∧ f_M_ors rcM τ = some (v, τ') ∧ _
  unfold f_Reader_readEither f_M_ors
  have g2' : rcC 1 (nI o) 0 σ = some (r, σ') := g2
  have g3' : rcM 4 τ = some (v, τ') := g3
  rw [g2', g3', bnd_s, bnd_s]
  rcases g5 with ⟨rfl, s2, m2, q1, q2, q3, q4, q5⟩ | ⟨rfl, q⟩
  · have hq := q3.le
    exact either_loop rcC rcM hV ht hcs hrs (n + 1) 0 FU FU s2 m2 σ' τ' (by omega) (lt_FU (by omega)) (lt_FU (by omega)) (by omega) q3 q1 q2 g4 q4 ⟨q5.1, q5.2.mono (by omega)⟩
  · rw [either_zero rcC _ _ (lt_FU (by omega)), either_dead rcM (lt_FU (by omega)) q.1]
    exact ⟨0, σ', 0, τ', rfl, rfl, g4, Or.inr ⟨rfl, q⟩⟩
theorem either_DdS {B : Nat → Nat} {n : Nat} (rcM : Nat → CS → Option (Int32 × CS)) (hD : DdS B n (rcM 4)) : DdS B n (f_M_ors rcM) := by
  intro τ h
  obtain ⟨v, τ1, g1, g2, g3⟩ := hD τ h
  refine ⟨0, τ1, ?_, g2, g3⟩
  unfold f_M_ors
  rw [g1, bnd_s, either_dead rcM (lt_FU (by omega)) g3]
