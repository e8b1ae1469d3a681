/-! ===== layer 2: woods and takings ===== -/
def IWoo (σ τ : CS) : Prop := τ.1 102 = nI (rws σ 14) ∧ ∀ i, i < rws σ 14 → τ.2.1 104 i = cel σ 14 i 0 ∧ τ.2.1 105 i = cel σ 14 i 1 ∧ τ.2.1 106 i = cel σ 14 i 2 ∧ Rg (cel σ 14 i 0) 277
def ITak (σ τ : CS) : Prop := τ.1 103 = nI (rws σ 15) ∧ ∀ i, i < rws σ 15 → τ.2.1 107 i = cel σ 15 i 0 ∧ τ.2.1 108 i = cel σ 15 i 1 ∧ τ.2.1 109 i = cel σ 15 i 2 ∧ τ.2.1 110 i = cel σ 15 i 3 ∧ τ.2.1 111 i = cel σ 15 i 4
theorem IWoo.fr {σ τ σ' τ' : CS} (h : IWoo σ τ) (e1 : σ'.1 44 = σ.1 44) (e2 : σ'.2.1 14 = σ.2.1 14) (e3 : τ'.1 102 = τ.1 102) (e4 : τ'.2.1 104 = τ.2.1 104) (e5 : τ'.2.1 105 = τ.2.1 105) (e6 : τ'.2.1 106 = τ.2.1 106) : IWoo σ' τ' := by
  have r : rws σ' 14 = rws σ 14 := by unfold rws; rw [show 3 * 14 + 2 = 44 from rfl, e1]
  have c : ∀ i c, cel σ' 14 i c = cel σ 14 i c := fun i c => by unfold cel; rw [e2]
  unfold IWoo
  simp only [r, c, e3, e4, e5, e6]
  exact h
theorem ITak.fr {σ τ σ' τ' : CS} (h : ITak σ τ) (e1 : σ'.1 47 = σ.1 47) (e2 : σ'.2.1 15 = σ.2.1 15) (e3 : τ'.1 103 = τ.1 103) (e4 : τ'.2.1 107 = τ.2.1 107) (e5 : τ'.2.1 108 = τ.2.1 108) (e6 : τ'.2.1 109 = τ.2.1 109) (e7 : τ'.2.1 110 = τ.2.1 110) (e8 : τ'.2.1 111 = τ.2.1 111) : ITak σ' τ' := by
  have r : rws σ' 15 = rws σ 15 := by unfold rws; rw [show 3 * 15 + 2 = 47 from rfl, e1]
  have c : ∀ i c, cel σ' 15 i c = cel σ 15 i c := fun i c => by unfold cel; rw [e2]
  unfold ITak
  simp only [r, c, e3, e4, e5, e6, e7, e8]
  exact h
theorem IWoo.thr {σ τ : CS} (h : IWoo σ τ) (c : Int32) : IWoo σ (sF τ 0 c) := h.fr rfl rfl rfl rfl rfl rfl
theorem ITak.thr {σ τ : CS} (h : ITak σ τ) (c : Int32) : ITak σ (sF τ 0 c) := h.fr rfl rfl rfl rfl rfl rfl rfl rfl
abbrev JWoo (σ τ σ1 τ1 : CS) : Prop := WC σ1 ∧ IWoo σ1 τ1 ∧ FrC [44] [14] σ σ1 ∧ FrM [0, 102] [104, 105, 106] τ τ1
abbrev JTak (σ τ σ1 τ1 : CS) : Prop := WC σ1 ∧ ITak σ1 τ1 ∧ FrC [47] [15] σ σ1 ∧ FrM [0, 103] [107, 108, 109, 110, 111] τ τ1
theorem JWoo.thr {σ τ : CS} (hW : WC σ) (hP : IWoo σ τ) (c : Int32) : JWoo σ τ σ (sF τ 0 c) := ⟨hW, hP.thr c, FrC.refl _ _ _, FrM.f1 _ _ (by decide)⟩
theorem JWoo.thr2 {σ τ : CS} (hW : WC σ) (hP : IWoo σ τ) (c d : Int32) : JWoo σ τ σ (sF (sF τ 0 c) 0 d) := ⟨hW, (hP.thr c).thr d, FrC.refl _ _ _, (FrM.f1 _ _ (by decide)).trans (FrM.f1 _ _ (by decide))⟩
theorem JTak.thr {σ τ : CS} (hW : WC σ) (hP : ITak σ τ) (c : Int32) : JTak σ τ σ (sF τ 0 c) := ⟨hW, hP.thr c, FrC.refl _ _ _, FrM.f1 _ _ (by decide)⟩
theorem JTak.thr2 {σ τ : CS} (hW : WC σ) (hP : ITak σ τ) (c d : Int32) : JTak σ τ σ (sF (sF τ 0 c) 0 d) := ⟨hW, (hP.thr c).thr d, FrC.refl _ _ _, (FrM.f1 _ _ (by decide)).trans (FrM.f1 _ _ (by decide))⟩
theorem nI_full {a n : Nat} {L : Int32} (hL : L = nI n) (ha : a ≤ n) (hn : n < 2147483648) : nI a = L ↔ ¬ a < n := by
  subst hL
  rw [nI_eq (by omega) hn]
  omega
theorem Rg277 {a : Int32} (h : ¬ (a < 0 ∨ 277 < a)) : Rg a 277 := Rg.of (hi := 277) (n := 277) h rfl (by omega) (by decide)
theorem pm_wood {σ τ : CS} (hW : WC σ) (hP : IWoo σ τ) (a0 a1 a2 : Int32) : AgX (f_FC_wood a0 a1 a2 σ) (f_M_wood a0 a1 a2 τ) (fun c0 => c0 = 0 ∨ c0 = 1) (fun c0 => (if c0 = 0 then (0 : Int32) else 1)) (JWoo σ τ) := by
  have h40 : rws σ 14 ≤ 6 := hW.hlim (t := 14) (by omega)
  unfold f_FC_wood f_M_wood B_FC_wood_31
  simp only [fc_isYear, fm_isYear, fc_within, fm_in, bnd_s]
  by_cases q0 : a0 < 0 ∨ 277 < a0
  · simp only [if_pos q0, if_true, B_FC_wood_32, B_M_wood_40, fm_bad1, bnd_s, if_neg i10]
    exact AgX.mk 1 0 σ 0 _ rfl (Or.inr rfl) rfl rfl (fun z => absurd z (by decide)) (JWoo.thr2 hW hP _ _)
  simp only [if_neg q0, if_neg i10]
  by_cases q1 : a1 < 0 ∨ 100000 < a1
  · simp only [if_pos q1, if_true, B_FC_wood_32, B_M_wood_40, fm_bad1, bnd_s, if_neg i10]
    exact AgX.mk 1 0 σ 0 _ rfl (Or.inr rfl) rfl rfl (fun z => absurd z (by decide)) (JWoo.thr2 hW hP _ _)
  simp only [if_neg q1, if_neg i10]
  by_cases q2 : a2 < 0 ∨ 100000 < a2
  · simp only [if_pos q2, if_true, B_FC_wood_32, B_M_wood_40, fm_bad1, bnd_s, if_neg i10]
    exact AgX.mk 1 0 σ 0 _ rfl (Or.inr rfl) rfl rfl (fun z => absurd z (by decide)) (JWoo.thr2 hW hP _ _)
  simp only [if_neg q2, if_neg i10, B_FC_wood_32, B_M_wood_40, fm_bad0, bnd_s, if_true, va_up, reduceIte, Nat.reduceEqDiff, hP.1, f_Woods_addWood]
  by_cases q3 : rws σ 14 < 6
  · rw [if_neg (fun z => (nI_full (n := 6) (L := 6) rfl h40 (by omega)).mp z q3)]
    simp only [gix_n q3 (show 6 < 2147483648 by omega), rdn (show rws σ 14 < 2147483648 by omega), wrn (show rws σ 14 < 2147483648 by omega)]
    obtain ⟨σ1, e1, A1⟩ := tb_add hW 14 (by omega) q3
    obtain ⟨e2, A2⟩ := tb_putA A1 (by omega) 0 (by decide) a0 (ci := 0) rfl
    obtain ⟨e3, A3⟩ := tb_putA A2 (by omega) 1 (by decide) a1 (ci := 1) rfl
    obtain ⟨e4, A4⟩ := tb_putA A3 (by omega) 2 (by decide) a2 (ci := 2) rfl
    simp only [e1, bnd_s, e2, e3, e4]
    refine AgX.mk 0 (nI (rws σ 14)) _ _ _ rfl (Or.inl rfl) rfl rfl (fun _ => by rw [nI_1, nI_p1]) ⟨A4.1, ?_, A4.fr, ?_⟩
    · obtain ⟨-, b2, -, -, b5, b6⟩ := A4
      refine ⟨?_, fun i hi => ?_⟩
      · rw [b2]
        simp only [va_up, reduceIte, nI_1]
      · rw [b2] at hi
        simp only [va_up, reduceIte, Nat.reduceEqDiff]
        by_cases qi : i = rws σ 14
        · subst qi
          rw [b5 0 (by decide), b5 1 (by decide), b5 2 (by decide)]
          simp only [upd, reduceIte, Nat.reduceEqDiff, true_and, true_or, and_true]
          exact Rg277 q0
        · have hi' : i < rws σ 14 := by omega
          rw [b6 i 0 hi' (by decide), b6 i 1 hi' (by decide), b6 i 2 hi' (by decide)]
          simp only [upd, if_neg qi]
          exact hP.2 i hi'
    · exact (FrM.f1 _ _ (by decide)).trans ((FrM.f2 _ _ (by decide)).trans ((FrM.f2 _ _ (by decide)).trans ((FrM.f2 _ _ (by decide)).trans (FrM.f1 _ _ (by decide)))))
  · rw [if_pos ((nI_full (n := 6) (L := 6) rfl h40 (by omega)).mpr q3)]
    simp only [tb_add_full hW 14 (by omega) q3, bnd_s, tb_put_neg 14 (show (-1 : Int32) < 0 by decide)]
    exact AgX.mk 0 _ σ _ _ rfl (Or.inl rfl) rfl rfl (fun _ => rfl) (JWoo.thr hW hP _)
theorem isWo_m {σ τ : CS} (hW : WC σ) (h : τ.1 102 = nI (rws σ 14)) {j : Nat} (hj : j < rws σ 14) : f_M_isWood (nI j) τ = some (1, τ) := by
  have := hW.hr4 (t := 14) (by omega)
  unfold f_M_isWood
  rw [h, fm_idx1 hj (by omega), bnd_s, grd_s (Or.inr rfl)]
theorem isWo_m0 {σ τ : CS} (hW : WC σ) (h : τ.1 102 = nI (rws σ 14)) {x : Int32} (hj : ¬ ∃ j, j < rws σ 14 ∧ x = nI j) : f_M_isWood x τ = some (0, τ) := by
  have := hW.hr4 (t := 14) (by omega)
  unfold f_M_isWood
  rw [h, fm_idx0 (by omega) hj, bnd_s, grd_s (Or.inl rfl)]
theorem pm_take {σ τ : CS} (hW : WC σ) (hP : IWoo σ τ) (hQ : ITak σ τ) (hT : τ.1 1 = σ.1 62) (a0 a1 a2 a3 : Int32) : AgX (f_FC_take a0 a1 a2 a3 σ) (f_M_take a0 a1 a2 a3 τ) (fun c0 => c0 = 0 ∨ c0 = 3 ∨ c0 = 1) (fun c0 => (if c0 = 0 then (0 : Int32) else if c0 = 3 then 1 else 2)) (JTak σ τ) := by
  have h14 : rws σ 14 ≤ 6 := hW.hlim (t := 14) (by omega)
  have h40 : rws σ 15 ≤ 100 := hW.hlim (t := 15) (by omega)
  have e102 : (sF τ 0 0).1 102 = nI (rws σ 14) := hP.1
  unfold f_FC_take f_M_take B_FC_take_56
  by_cases q0 : ∃ j, j < rws σ 14 ∧ a0 = nI j
  · obtain ⟨j, hj, rfl⟩ := q0
    obtain ⟨p1, p2, p3, p4⟩ := hP.2 j hj
    simp only [tb_has1 hW 14 (by omega) hj, isWo_m hW e102 hj, bnd_s, if_neg i10, B_M_take_19, fm_bad0, if_true, fc_within, fm_in, f_Woods_firstYear, tb_gl hW 14 (by omega) j 0 hj (by decide), gix_n (show j < 6 by omega) (show 6 < 2147483648 by omega), rdn (show j < 2147483648 by omega), p1]
    by_cases q1 : a1 < 0 ∨ 1 < a1
    · simp only [if_pos q1, if_true, B_FC_take_57, B_M_take_69, fm_bad1, bnd_s, if_neg i10]
      exact AgX.mk 1 0 σ 0 _ rfl (Or.inr (Or.inr rfl)) rfl rfl (fun z => absurd z (by decide)) (JTak.thr2 hW hQ _ _)
    simp only [if_neg q1, if_neg i10]
    by_cases q2 : a2 < cel σ 14 j 0 ∨ 277 < a2
    · simp only [if_pos q2, if_true, B_FC_take_57, B_M_take_69, fm_bad1, bnd_s, if_neg i10]
      exact AgX.mk 1 0 σ 0 _ rfl (Or.inr (Or.inr rfl)) rfl rfl (fun z => absurd z (by decide)) (JTak.thr2 hW hQ _ _)
    simp only [if_neg q2, if_neg i10]
    by_cases q3 : a3 < 1 ∨ 100000 < a3
    · simp only [if_pos q3, if_true, B_FC_take_57, B_M_take_69, fm_bad1, bnd_s, if_neg i10]
      exact AgX.mk 1 0 σ 0 _ rfl (Or.inr (Or.inr rfl)) rfl rfl (fun z => absurd z (by decide)) (JTak.thr2 hW hQ _ _)
    simp only [if_neg q3, if_neg i10, B_FC_take_57, B_M_take_69, fm_bad0, bnd_s, if_true, va_up, reduceIte, Nat.reduceEqDiff, hQ.1, f_Woods_addTaking]
    by_cases q4 : rws σ 15 < 100
    · rw [if_neg (fun z => (nI_full (n := 100) (L := 100) rfl h40 (by omega)).mp z q4)]
      simp only [gix_n q4 (show 100 < 2147483648 by omega), rdn (show rws σ 15 < 2147483648 by omega), wrn (show rws σ 15 < 2147483648 by omega)]
      obtain ⟨σ1, e1, A1⟩ := tb_add hW 15 (by omega) q4
      obtain ⟨e2, A2⟩ := tb_putA A1 (by omega) 0 (by decide) (nI j) (ci := 0) rfl
      obtain ⟨e3, A3⟩ := tb_putA A2 (by omega) 1 (by decide) a1 (ci := 1) rfl
      obtain ⟨e4, A4⟩ := tb_putA A3 (by omega) 2 (by decide) a2 (ci := 2) rfl
      obtain ⟨e5, A5⟩ := tb_putA A4 (by omega) 3 (by decide) a3 (ci := 3) rfl
      obtain ⟨e6, A6⟩ := tb_putA A5 (by omega) 4 (by decide) (σ.1 62) (ci := 4) rfl
      simp only [e1, bnd_s, if_neg (nI_neg1 (show rws σ 15 < 2147483648 by omega)), e2, e3, e4, e5, e6, tb_size A6.1 15 (by omega), A6.2.1]
      refine AgX.mk 0 _ _ _ _ rfl (Or.inl rfl) rfl rfl (fun _ => by rw [nI_1]) ⟨A6.1, ?_, A6.fr, ?_⟩
      · obtain ⟨-, b2, -, -, b5, b6⟩ := A6
        refine ⟨?_, fun i hi => ?_⟩
        · rw [b2]
          simp only [va_up, reduceIte, nI_1]
        · rw [b2] at hi
          simp only [va_up, reduceIte, Nat.reduceEqDiff]
          by_cases qi : i = rws σ 15
          · subst qi
            rw [b5 0 (by decide), b5 1 (by decide), b5 2 (by decide), b5 3 (by decide), b5 4 (by decide)]
            simp only [upd, reduceIte, Nat.reduceEqDiff, true_and, true_or, and_true, hT]
          · have hi' : i < rws σ 15 := by omega
            rw [b6 i 0 hi' (by decide), b6 i 1 hi' (by decide), b6 i 2 hi' (by decide), b6 i 3 hi' (by decide), b6 i 4 hi' (by decide)]
            simp only [upd, if_neg qi]
            exact hQ.2 i hi'
      · exact (FrM.f1 _ _ (by decide)).trans ((FrM.f2 _ _ (by decide)).trans ((FrM.f2 _ _ (by decide)).trans ((FrM.f2 _ _ (by decide)).trans ((FrM.f2 _ _ (by decide)).trans ((FrM.f2 _ _ (by decide)).trans (FrM.f1 _ _ (by decide)))))))
    · rw [if_pos ((nI_full (n := 100) (L := 100) rfl h40 (by omega)).mpr q4)]
      simp only [tb_add_full hW 15 (by omega) q4, bnd_s, if_true]
      exact AgX.mk 0 _ σ _ _ rfl (Or.inl rfl) rfl rfl (fun _ => rfl) (JTak.thr hW hQ _)
  · simp only [tb_has0 hW 14 (by omega) q0, isWo_m0 hW e102 q0, bnd_s, if_true, B_M_take_19, fm_bad1, if_neg i10]
    exact AgX.mk 3 0 σ 0 _ rfl (Or.inr (Or.inl rfl)) rfl rfl (fun z => absurd z (by decide)) (JTak.thr2 hW hQ _ _)
theorem taken_loop {σ τ : CS} (hW : WC σ) (hQ : ITak σ τ) (w k y kn had : Int32) (K : Int32 → CS → Option (Int32 × CS)) : ∀ (d j m m' : Nat) (s : Int32), j + d = rws σ 15 → d < m → d < m' →
    ∃ s', L_Woods_takenIn_6 w k y kn m s (nI j) σ = some (s', σ) ∧ L_M_left_6 K w k y kn m' (had - s) (nI j) τ = K (had - s') τ := by
  have h40 : rws σ 15 ≤ 100 := hW.hlim (t := 15) (by omega)
  intro d
  induction d with
  | zero =>
    intro j m m' s h1 h2 h3
    obtain ⟨m, rfl⟩ : ∃ q, m = q + 1 := ⟨m - 1, by omega⟩
    obtain ⟨m', rfl⟩ : ∃ q, m' = q + 1 := ⟨m' - 1, by omega⟩
    refine ⟨s, ?_, ?_⟩
    · show bnd (f_Table_size 15 σ) _ = _
      rw [tb_size hW 15 (by omega), bnd_s, if_pos (nI_le (by omega) (by omega))]
    · show (if (τ.1 103) ≤ nI j then _ else _) = _
      rw [hQ.1, if_pos (nI_le (by omega) (by omega))]
  | succ d ih =>
    intro j m m' s h1 h2 h3
    obtain ⟨m, rfl⟩ : ∃ q, m = q + 1 := ⟨m - 1, by omega⟩
    obtain ⟨m', rfl⟩ : ∃ q, m' = q + 1 := ⟨m' - 1, by omega⟩
    have hj : j < rws σ 15 := by omega
    obtain ⟨e1, e2, e3, e4, e5⟩ := hQ.2 j hj
    unfold L_Woods_takenIn_6 L_M_left_6
    simp only [tb_size hW 15 (by omega), bnd_s, if_neg (nI_ge hj (show rws σ 15 < 2 ^ 31 by omega)), hQ.1, gix_n (show j < 100 by omega) (show 100 < 2147483648 by omega), rdn (show j < 2147483648 by omega), e1, e2, e3, e4, e5,
      tb_gl hW 15 (by omega) j 0 hj (by decide), tb_gl hW 15 (by omega) j 1 hj (by decide), tb_gl hW 15 (by omega) j 2 hj (by decide), tb_gl hW 15 (by omega) j 3 hj (by decide), tb_gl hW 15 (by omega) j 4 hj (by decide), nI_1]
    have n0 := ih (j + 1) m m' s (by omega) (by omega) (by omega)
    have n1 := ih (j + 1) m m' (s + cel σ 15 j 3) (by omega) (by omega) (by omega)
    rw [show had - (s + cel σ 15 j 3) = had - s - cel σ 15 j 3 by grind] at n1
    by_cases q1 : cel σ 15 j 2 = y
    · by_cases q2 : cel σ 15 j 0 = w
      · by_cases q3 : cel σ 15 j 1 = k
        · by_cases q4 : kn < cel σ 15 j 4
          · simp only [if_pos q1, if_pos q2, if_pos q3, if_pos q4]; exact n0
          · simp only [if_pos q1, if_pos q2, if_pos q3, if_neg q4]; exact n1
        · simp only [if_pos q1, if_pos q2, if_neg q3]; exact n0
      · simp only [if_pos q1, if_neg q2]; exact n0
    · simp only [if_neg q1, ite_self]; exact n0

theorem td_b (x : Int) : 10 * x.tdiv 10 ≤ x + 9 ∧ x - 9 ≤ 10 * x.tdiv 10 := by
  have h := Int.mul_tdiv_add_tmod x 10
  have h1 := Int.tmod_lt_of_pos x (show (0 : Int) < 10 by omega)
  have h2 := Int.lt_tmod_of_pos x (show (0 : Int) < 10 by omega)
  omega
theorem div10 {x : Int32} (h : ¬ 1000000 < x) : x / 10 + 5 < 1000000 := by
  have h1 := Int32.le_toInt x
  have h2 := td_b x.toInt
  rw [Int32.lt_iff_toInt_lt, show (1000000 : Int32).toInt = 1000000 from rfl] at h
  have e1 : (x / 10).toInt = x.toInt.tdiv 10 := by
    rw [Int32.toInt_div, show (10 : Int32).toInt = 10 from rfl]
    apply Int.bmod_eq_of_le <;> omega
  have e2 : (x / 10 + 5).toInt = x.toInt.tdiv 10 + 5 := by
    rw [Int32.toInt_add, e1, show (5 : Int32).toInt = 5 from rfl]
    apply Int.bmod_eq_of_le <;> omega
  rw [Int32.lt_iff_toInt_lt, e2, show (1000000 : Int32).toInt = 1000000 from rfl]
  omega
theorem max0 (x : Int32) : (if 0 < x then x else 0) = (if 0 ≤ x then x else 0) := by
  by_cases h : 0 < x
  · rw [if_pos h, if_pos (Int32.le_of_lt h)]
  · by_cases h2 : 0 ≤ x
    · rw [if_neg h, if_pos h2]
      exact Int32.le_antisymm h2 (Int32.not_lt.mp h)
    · rw [if_neg h, if_neg h2]
theorem min6 (x : Int32) : (if x < 1000000 then x else 1000000) = (if x ≤ 1000000 then x else 1000000) := by
  by_cases h : x < 1000000
  · rw [if_pos h, if_pos (Int32.le_of_lt h)]
  · by_cases h2 : x ≤ 1000000
    · rw [if_neg h, if_pos h2]
      exact Int32.le_antisymm (Int32.not_lt.mp h) h2
    · rw [if_neg h, if_neg h2]
theorem left_ag {σ τ : CS} (hW : WC σ) (hQ : ITak σ τ) (w k y kn had : Int32) : ∃ s, f_Woods_takenIn w k y kn σ = some (s, σ) ∧ f_M_left had w k y kn τ = some (if 0 ≤ had - s then had - s else 0, τ) := by
  have h40 : rws σ 15 ≤ 100 := hW.hlim (t := 15) (by omega)
  obtain ⟨s, h1, h2⟩ := taken_loop hW hQ w k y kn had B_M_left_79 (rws σ 15) 0 FU FU 0 (by omega) (lt_FU (by omega)) (lt_FU (by omega))
  refine ⟨s, h1, ?_⟩
  unfold f_M_left
  rw [show had - 0 = had by grind] at h2
  rw [show (0 : Int32) = nI 0 from rfl, h2]
  unfold B_M_left_79
  rw [show (0 : Int32) = nI 0 from rfl]
  split <;> rfl
theorem stock_loop {σ τ : CS} (hW : WC σ) (hQ : ITak σ τ) (w k kn : Int32) (Y : Nat) (hY : Y ≤ 277) : ∀ (d y m m' : Nat) (o e : Int32), y + d = Y + 1 → d < m → d < m' →
    ∃ r, L_Woods_stockOf_40 B_Woods_stockOf_124 w k (nI Y) kn m o e (nI y) σ = some (r, σ) ∧ L_M_stock_101 B_M_stock_192 w k (nI Y) kn m' o e (nI y) τ = some (r, τ) := by
  intro d
  induction d with
  | zero =>
    intro y m m' o e h1 h2 h3
    obtain ⟨m, rfl⟩ : ∃ q, m = q + 1 := ⟨m - 1, by omega⟩
    obtain ⟨m', rfl⟩ : ∃ q, m' = q + 1 := ⟨m' - 1, by omega⟩
    unfold L_Woods_stockOf_40 L_M_stock_101
    simp only [if_pos (nI_lt (show Y < y by omega) (show y < 2 ^ 31 by omega)), B_Woods_stockOf_124, B_M_stock_192]
    by_cases q : k = 0
    · exact ⟨o, by rw [if_pos q], by rw [if_pos q]⟩
    · exact ⟨e, by rw [if_neg q], by rw [if_neg q]⟩
  | succ d ih =>
    intro y m m' o e h1 h2 h3
    obtain ⟨m, rfl⟩ : ∃ q, m = q + 1 := ⟨m - 1, by omega⟩
    obtain ⟨m', rfl⟩ : ∃ q, m' = q + 1 := ⟨m' - 1, by omega⟩
    obtain ⟨s0, a1, a2⟩ := left_ag hW hQ w 0 (nI y) kn o
    obtain ⟨s1, b1, b2⟩ := left_ag hW hQ w 1 (nI y) kn e
    unfold L_Woods_stockOf_40 L_M_stock_101
    simp only [if_neg (nI_nlt (show y ≤ Y by omega) (show Y < 2 ^ 31 by omega)), a1, a2, b1, b2, bnd_s, max0, min6, f_M_most]
    generalize (if 0 ≤ o - s0 then o - s0 else 0) = v
    have eo : (if v + v / 50 ≤ 1000000 then some (v + v / 50, τ) else some (1000000, τ)) = some ((if v + v / 50 ≤ 1000000 then v + v / 50 else 1000000), τ) := by split <;> rfl
    have ho : ¬ 1000000 < (if v + v / 50 ≤ 1000000 then v + v / 50 else 1000000) := by
      split
      · exact Int32.not_lt.mpr (by assumption)
      · decide
    rw [eo, bnd_s, b2, bnd_s]
    generalize (if 0 ≤ e - s1 then e - s1 else 0) = u
    revert ho
    generalize (if v + v / 50 ≤ 1000000 then v + v / 50 else 1000000) = o'
    intro ho
    have hB := div10 ho
    by_cases q : u + u / 3 ≤ 1000000
    · simp only [if_pos q, bnd_s]
      by_cases q2 : u + u / 3 ≤ o' / 10 + 5
      · rw [if_neg (Int32.not_lt.mpr q2), if_pos q2, nI_1]
        exact ih (y + 1) m m' _ _ (by omega) (by omega) (by omega)
      · rw [if_pos (Int32.not_le.mp q2), if_neg q2, nI_1]
        exact ih (y + 1) m m' _ _ (by omega) (by omega) (by omega)
    · simp only [if_neg q, bnd_s]
      rw [if_pos (Int32.lt_trans hB (Int32.not_le.mp q)), if_neg (Int32.not_le.mpr hB), nI_1]
      exact ih (y + 1) m m' _ _ (by omega) (by omega) (by omega)
theorem pm_stock {σ τ : CS} (hW : WC σ) (hP : IWoo σ τ) (hQ : ITak σ τ) (a0 a1 a2 a3 : Int32) : AgX (f_FC_stock a0 a1 a2 a3 σ) (f_M_stock a0 a1 a2 a3 τ) (fun c0 => c0 = 0 ∨ c0 = 3 ∨ c0 = 1) (fun c0 => (if c0 = 0 then (0 : Int32) else if c0 = 3 then 1 else 2)) (JTak σ τ) := by
  have h14 : rws σ 14 ≤ 6 := hW.hlim (t := 14) (by omega)
  have e102 : (sF τ 0 0).1 102 = nI (rws σ 14) := hP.1
  unfold f_FC_stock f_M_stock B_FC_stock_42
  by_cases q0 : ∃ j, j < rws σ 14 ∧ a0 = nI j
  · obtain ⟨j, hj, rfl⟩ := q0
    obtain ⟨p1, p2, p3, p4⟩ := hP.2 j hj
    simp only [tb_has1 hW 14 (by omega) hj, isWo_m hW e102 hj, bnd_s, if_neg i10, B_M_stock_19, fm_bad0, if_true, fc_within, fm_in, fc_isYear, fm_isYear, fc_isDay, fm_isDay]
    by_cases q1 : a1 < 0 ∨ 1 < a1
    · simp only [if_pos q1, if_true, B_FC_stock_43, B_M_stock_56, fm_bad1, bnd_s, if_neg i10]
      exact AgX.mk 1 0 σ 0 _ rfl (Or.inr (Or.inr rfl)) rfl rfl (fun z => absurd z (by decide)) (JTak.thr2 hW hQ _ _)
    simp only [if_neg q1, if_neg i10]
    by_cases q2 : a2 < 0 ∨ 277 < a2
    · simp only [if_pos q2, if_true, B_FC_stock_43, B_M_stock_56, fm_bad1, bnd_s, if_neg i10]
      exact AgX.mk 1 0 σ 0 _ rfl (Or.inr (Or.inr rfl)) rfl rfl (fun z => absurd z (by decide)) (JTak.thr2 hW hQ _ _)
    simp only [if_neg q2, if_neg i10]
    by_cases q3 : a3 < 0 ∨ 100000 < a3
    · simp only [if_pos q3, if_true, B_FC_stock_43, B_M_stock_56, fm_bad1, bnd_s, if_neg i10]
      exact AgX.mk 1 0 σ 0 _ rfl (Or.inr (Or.inr rfl)) rfl rfl (fun z => absurd z (by decide)) (JTak.thr2 hW hQ _ _)
    obtain ⟨Y, hY, rfl⟩ := Rg277 q2
    simp only [if_neg q3, if_neg i10, B_FC_stock_43, B_M_stock_56, fm_bad0, bnd_s, if_true, f_Woods_stockOf, f_Woods_firstYear, tb_gl hW 14 (by omega) j 0 hj (by decide), tb_gl hW 14 (by omega) j 1 hj (by decide), tb_gl hW 14 (by omega) j 2 hj (by decide), gix_n (show j < 6 by omega) (show 6 < 2147483648 by omega), rdn (show j < 2147483648 by omega), p1, p2, p3]
    obtain ⟨y, hy, ey⟩ := p4
    rw [ey]
    by_cases q4 : y ≤ Y
    · obtain ⟨r, r1, r2⟩ := stock_loop hW (hQ.thr 0) (nI j) a1 a3 Y hY (Y + 1 - y) y FU FU (cel σ 14 j 1) (cel σ 14 j 2) (by omega) (lt_FU (by omega)) (lt_FU (by omega))
      rw [if_pos (nI_le q4 (by omega)), if_pos (nI_le q4 (by omega)), r1, r2]
      exact AgX.mk 0 _ σ _ _ rfl (Or.inl rfl) rfl rfl (fun _ => rfl) (JTak.thr hW hQ _)
    · rw [if_neg (nI_ge (by omega) (by omega)), if_neg (nI_ge (by omega) (by omega))]
      exact AgX.mk 0 _ σ _ _ rfl (Or.inl rfl) rfl rfl (fun _ => rfl) (JTak.thr hW hQ _)
  · simp only [tb_has0 hW 14 (by omega) q0, isWo_m0 hW e102 q0, bnd_s, if_true, B_M_stock_19, fm_bad1, if_neg i10]
    exact AgX.mk 3 0 σ 0 _ rfl (Or.inr (Or.inl rfl)) rfl rfl (fun z => absurd z (by decide)) (JTak.thr2 hW hQ _ _)
