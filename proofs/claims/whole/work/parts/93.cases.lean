/-! ===== layer 2: the cases ===== -/
def Cas (σ τ : CS) (k : Nat) : Prop :=
  (τ.2.1 61 k = cel σ 11 k 8 ∧ Ix (cel σ 11 k 8) (rws σ 10)) ∧ (τ.2.1 62 k = cel σ 11 k 9 ∧ Ix (cel σ 11 k 9) (rws σ 9)) ∧
  (τ.2.1 63 (2 * k) = cel σ 11 k 10 ∧ Ix (cel σ 11 k 10) (rws σ 6)) ∧ (τ.2.1 63 (2 * k + 1) = cel σ 11 k 11 ∧ Ix (cel σ 11 k 11) (rws σ 6)) ∧
  (τ.2.1 64 k = cel σ 11 k 1 ∧ Ix (cel σ 11 k 1) (rws σ 6)) ∧ (τ.2.1 65 k = cel σ 11 k 0 ∧ Rg (cel σ 11 k 0) 6) ∧
  (τ.2.1 66 k = cel σ 11 k 2 ∧ ∃ s t, cel σ 11 k 2 = nI s ∧ σ.1 62 = nI t ∧ s ≤ t ∧ t ≤ 100000) ∧ τ.2.1 67 k = cel σ 11 k 12 ∧
  (∀ q, q < 3 → τ.2.1 69 (3 * k + q) = cel σ 11 k (4 + q)) ∧ τ.2.1 70 k = cel σ 11 k 7 ∧
  (((cel σ 11 k 0 = 3 ∨ cel σ 11 k 0 = 4) ∧ τ.2.1 68 k = cel σ 11 k 3 ∧ Rg (cel σ 11 k 3) 10000) ∨ (¬ (cel σ 11 k 0 = 3 ∨ cel σ 11 k 0 = 4) ∧ cel σ 11 k 3 = -1))
def Nul (τ : CS) (k : Nat) : Prop := τ.2.1 65 k = 0 ∧ τ.2.1 67 k = 0 ∧ τ.2.1 70 k = 0 ∧ ∀ q, q < 3 → τ.2.1 69 (3 * k + q) = 0
def Doc (σ : CS) (d : Nat) : Prop := (cel σ 10 d 6 = -1 ∧ ∀ k, k < rws σ 11 → cel σ 11 k 8 ≠ nI d) ∨ ∃ k, k < rws σ 11 ∧ cel σ 10 d 6 = nI k ∧ cel σ 11 k 8 = nI d
def ICas (σ τ : CS) : Prop := τ.1 60 = nI (rws σ 11) ∧ (∀ k, k < rws σ 11 → Cas σ τ k) ∧ (∀ k, rws σ 11 ≤ k → k < 40 → Nul τ k) ∧ ∀ d, d < rws σ 10 → Doc σ d
theorem ICas.frM {σ τ τ' : CS} (h : ICas σ τ) (e1 : τ'.1 60 = τ.1 60) (e2 : ∀ a, 61 ≤ a → a ≤ 70 → τ'.2.1 a = τ.2.1 a) : ICas σ τ' := by
  unfold ICas Cas Nul at h ⊢
  rw [e1, e2 61 (by omega) (by omega), e2 62 (by omega) (by omega), e2 63 (by omega) (by omega), e2 64 (by omega) (by omega), e2 65 (by omega) (by omega), e2 66 (by omega) (by omega), e2 67 (by omega) (by omega), e2 68 (by omega) (by omega), e2 69 (by omega) (by omega), e2 70 (by omega) (by omega)]
  exact h
theorem ICas.thr {σ : CS} (τ : CS) (c : Int32) (h : ICas σ τ) : ICas σ (sF τ 0 c) := h.frM rfl (fun _ _ _ => rfl)
theorem isCa_m {σ τ : CS} (hW : WC σ) (hC : ICas σ τ) {j : Nat} (hj : j < rws σ 11) : f_M_isCase (nI j) τ = some (1, τ) := by
  have := hW.hr4 (t := 11) (by omega)
  unfold f_M_isCase
  rw [hC.1, fm_idx1 hj (by omega), bnd_s, grd_s (Or.inr rfl)]
theorem isCa_m0 {σ τ : CS} (hW : WC σ) (hC : ICas σ τ) {x : Int32} (hj : ¬ ∃ j, j < rws σ 11 ∧ x = nI j) : f_M_isCase x τ = some (0, τ) := by
  have := hW.hr4 (t := 11) (by omega)
  unfold f_M_isCase
  rw [hC.1, fm_idx0 (by omega) hj, bnd_s, grd_s (Or.inl rfl)]
abbrev JCas (σ τ σ1 τ1 : CS) : Prop := Jg [] [11] [0] [67] ICas σ τ σ1 τ1
theorem nI_q (k c : Nat) (hc : 4 ≤ c) : ((3 * nI k) + nI c) - 4 = nI (3 * k + (c - 4)) := by
  have e : (3 : Int32) * nI k + nI c = nI (3 * k + c) := by rw [show (3 : Int32) = nI 3 from rfl, nI_mul, nI_add]
  rw [e, show (4 : Int32) = nI 4 from rfl, nI_sub (by omega)]
  congr 1
  omega
theorem pm_of {σ τ : CS} (hW : WC σ) (hC : ICas σ τ) (a0 a1 : Int32) : AgX (f_FC_of a0 a1 σ) (f_M_of a0 a1 τ) (fun c0 => c0 = 0 ∨ c0 = 3 ∨ c0 = 1) (fun c0 => (if c0 = 0 then (0 : Int32) else if c0 = 3 then 1 else 2)) (JCas σ τ) := by
  have h40 : rws σ 11 ≤ 40 := hW.hlim (t := 11) (by omega)
  have hC0 : ICas σ (sF τ 0 0) := hC.thr τ 0
  unfold f_FC_of f_M_of B_M_of_19
  by_cases q0 : ∃ j, j < rws σ 11 ∧ a0 = nI j
  · obtain ⟨j, hj, rfl⟩ := q0
    simp only [tb_has1 hW 11 (by omega) hj, isCa_m hW hC0 hj, bnd_s, if_neg i10, fm_bad0, if_true, fc_within, fm_in, B_M_of_42]
    by_cases q1 : a1 < 0 ∨ 7 < a1
    · simp only [if_pos q1, if_true, fm_bad1, bnd_s, if_neg i10]
      exact AgX.mk 1 0 σ 0 _ rfl (Or.inr (Or.inr rfl)) rfl rfl (fun z => absurd z (by decide)) (Jg.thr2 hW ICas.thr hC (by decide) _ _)
    simp only [if_neg q1, if_neg i10, fm_bad0, bnd_s, if_true]
    obtain ⟨c, hc, rfl⟩ := Rg.of q1 (n := 7) rfl (by omega) (by decide)
    rw [tb_get hW 11 (by omega) j c hj (show c < 13 by omega) rfl, bnd_s]
    obtain ⟨-, -, -, -, x1, x0, x2, -, xg, x7, x3⟩ := hC.2.1 j hj
    refine AgX.mk 0 _ σ (cel σ 11 j c) (sF τ 0 0) rfl (Or.inl rfl) ?_ rfl (fun _ => rfl) (Jg.thr hW ICas.thr hC (by decide) _)
    have g40 : ∀ {X : Type} (a : Option X), gix (nI j) 40 a = a := fun a => gix_n (by omega) (by omega)
    have r40 : ∀ a, rd (sF τ 0 0) a (nI j) = τ.2.1 a j := fun a => rdn (by omega) _ a
    have gq : ∀ q, q < 3 → ∀ {X : Type} (a : Option X), gix (nI (3 * j + q)) 120 a = a := fun q hq _ a => gix_n (by omega) (by omega)
    have rq : ∀ q, q < 3 → rd (sF τ 0 0) 69 (nI (3 * j + q)) = cel σ 11 j (4 + q) := fun q hq => by rw [rdn (by omega)]; exact xg q hq
    simp only [g40, r40, B_M_of_141]
    have hcs : c = 0 ∨ c = 1 ∨ c = 2 ∨ c = 3 ∨ c = 4 ∨ c = 5 ∨ c = 6 ∨ c = 7 := by omega
    rcases hcs with rfl | rfl | rfl | rfl | rfl | rfl | rfl | rfl
    · rw [if_pos (by decide), x0.1]
    · rw [if_neg (by decide), if_pos (by decide), x1.1]
    · rw [if_neg (by decide), if_neg (by decide), if_pos (by decide), x2.1]
    · rw [if_neg (by decide), if_neg (by decide), if_neg (by decide), if_pos (by decide), x0.1]
      rcases x3 with ⟨y1, y2, -⟩ | ⟨y1, y2⟩
      · rw [y2]
        rcases y1 with y1 | y1
        · rw [if_pos y1]
        · rw [if_pos y1, ite_self]
      · rw [if_neg (fun z => y1 (Or.inl z)), if_neg (fun z => y1 (Or.inr z)), y2]
    · rw [if_neg (by decide), if_neg (by decide), if_neg (by decide), if_neg (by decide), if_pos (by decide), nI_q j 4 (by omega), gq 0 (by omega), rq 0 (by omega)]
    · rw [if_neg (by decide), if_neg (by decide), if_neg (by decide), if_neg (by decide), if_neg (by decide), if_pos (by decide), nI_q j 5 (by omega), gq 1 (by omega), rq 1 (by omega)]
    · rw [if_neg (by decide), if_neg (by decide), if_neg (by decide), if_neg (by decide), if_neg (by decide), if_neg (by decide), if_pos (by decide), nI_q j 6 (by omega), gq 2 (by omega), rq 2 (by omega)]
    · rw [if_neg (by decide), if_neg (by decide), if_neg (by decide), if_neg (by decide), if_neg (by decide), if_neg (by decide), if_neg (by decide), if_pos (by decide), x7]
  · simp only [tb_has0 hW 11 (by omega) q0, isCa_m0 hW hC0 q0, bnd_s, if_true, fm_bad1, if_neg i10]
    exact AgX.mk 3 0 σ 0 _ rfl (Or.inr (Or.inl rfl)) rfl rfl (fun z => absurd z (by decide)) (Jg.thr2 hW ICas.thr hC (by decide) _ _)
theorem pm_proof {σ τ : CS} (hW : WC σ) (hC : ICas σ τ) (a0 a1 : Int32) : AgX (f_FC_proof a0 a1 σ) (f_M_proof a0 a1 τ) (fun c0 => c0 = 0 ∨ c0 = 3 ∨ c0 = 1) (fun c0 => (if c0 = 0 then (0 : Int32) else if c0 = 3 then 1 else 2)) (JCas σ τ) := by
  have h40 : rws σ 11 ≤ 40 := hW.hlim (t := 11) (by omega)
  have hC0 : ICas σ (sF τ 0 0) := hC.thr τ 0
  unfold f_FC_proof f_M_proof B_M_proof_19
  by_cases q0 : ∃ j, j < rws σ 11 ∧ a0 = nI j
  · obtain ⟨j, hj, rfl⟩ := q0
    simp only [tb_has1 hW 11 (by omega) hj, isCa_m hW hC0 hj, bnd_s, if_neg i10, fm_bad0, if_true, fc_within, fm_in, B_M_proof_43]
    by_cases q1 : a1 < -9 ∨ 9 < a1
    · simp only [if_pos q1, if_true, fm_bad1, bnd_s, if_neg i10]
      exact AgX.mk 1 0 σ 0 _ rfl (Or.inr (Or.inr rfl)) rfl rfl (fun z => absurd z (by decide)) (Jg.thr2 hW ICas.thr hC (by decide) _ _)
    simp only [if_neg q1, if_neg i10, fm_bad0, bnd_s, if_true]
    have hCj := hC.2.1 j hj
    obtain ⟨x8, x9, xa, xb, x1, x0, x2, xc, xg, x7, x3⟩ := hCj
    have g40 : ∀ {X : Type} (a : Option X), gix (nI j) 40 a = a := fun a => gix_n (by omega) (by omega)
    have r40 : ∀ (υ : CS) a, rd υ a (nI j) = υ.2.1 a j := fun υ a => rdn (by omega) υ a
    have w40 : ∀ (υ : CS) a v, wr υ a (nI j) v = sA υ a (upd (υ.2.1 a) j v) := fun υ a v => wrn (by omega) υ a v
    unfold f_Courts_addProof B_Courts_addProof_23
    simp only [g40, r40, w40, va_up, reduceIte, Nat.reduceEqDiff, tb_gl hW 11 (by omega) j 0 hj (by decide), bnd_s, tb_raise hW 11 (by omega) j 12 hj (by decide), x0.1, xc]
    obtain ⟨s, hs, es⟩ := x0.2
    rw [es]
    by_cases q2 : s ≤ 1
    · have e2 : nI s ≤ 1 := (le_lit (n := 1) (by omega) (by omega)).2 q2
      have e3 : (if nI s = 0 then some (cel σ 11 j 12 + a1, pt σ 11 j 12 (cel σ 11 j 12 + a1)) else if nI s = 1 then some (cel σ 11 j 12 + a1, pt σ 11 j 12 (cel σ 11 j 12 + a1)) else some (-1000, σ)) = some (cel σ 11 j 12 + a1, pt σ 11 j 12 (cel σ 11 j 12 + a1)) := by
        have : s = 0 ∨ s = 1 := by omega
        rcases this with rfl | rfl
        · rw [if_pos (by decide)]
        · rw [if_neg (by decide), if_pos (by decide)]
      rw [if_pos e2, e3, bnd_s]
      refine AgX.mk 0 _ _ _ _ rfl (Or.inl rfl) rfl rfl (fun _ => by simp [upd]) ⟨pt_W hW _ _ _ _, ?_, ⟨fun _ _ => rfl, fun a ha => ⟨pt_arr _ _ _ _ _ _ (by simpa using ha), rfl⟩⟩, ⟨fun k hk => ?_, fun a ha => ?_⟩⟩
      · have pc : ∀ k c, c < 12 → cel (pt σ 11 j 12 (cel σ 11 j 12 + a1)) 11 k c = cel σ 11 k c := fun k c hc => by
          rw [pt_cel _ _ _ _ _ _ _ (by decide) (show c < 13 by omega), if_neg (by omega)]
        have po : ∀ k c, cel (pt σ 11 j 12 (cel σ 11 j 12 + a1)) 10 k c = cel σ 10 k c := fun k c => pt_other _ _ _ _ _ _ _ _ (by omega)
        refine ⟨hC.1, fun k hk => ?_, fun k hk1 hk2 => ?_, fun d hd => ?_⟩
        · obtain ⟨z1, z2, z3, z4, z5, z6, z7, z8, z9, z10, z11⟩ := hC.2.1 k hk
          unfold Cas
          rw [pc k 8 (by omega), pc k 9 (by omega), pc k 10 (by omega), pc k 11 (by omega), pc k 1 (by omega), pc k 0 (by omega), pc k 2 (by omega), pc k 7 (by omega), pc k 3 (by omega)]
          refine ⟨z1, z2, z3, z4, z5, z6, z7, ?_, fun q hq => ?_, z10, z11⟩
          · rw [pt_cel _ _ _ _ _ _ _ (by decide) (by decide)]
            simp only [va_up, reduceIte, upd]
            by_cases e : k = j
            · rw [if_pos e, if_pos ⟨e, trivial⟩]
            · rw [if_neg e, if_neg (fun z => e z.1)]
              exact z8
          · rw [pc k (4 + q) (by omega)]
            exact z9 q hq
        · obtain ⟨z1, z2, z3, z4⟩ := hC.2.2.1 k hk1 hk2
          refine ⟨z1, ?_, z3, z4⟩
          simp only [va_up, reduceIte, upd]
          have hk1' : rws σ 11 ≤ k := hk1
          rw [if_neg (by omega)]
          exact z2
        · have hd' := hC.2.2.2 d hd
          unfold Doc at hd' ⊢
          simp only [pc _ 8 (by omega), po, pt_rws]
          exact hd'
      · simp only [List.mem_cons, List.not_mem_nil, or_false] at hk
        simp only [va_up, if_neg hk]
      · simp only [List.mem_cons, List.not_mem_nil, or_false] at ha
        simp only [va_up, if_neg ha]
    · have e2 : ¬ nI s ≤ 1 := fun z => q2 ((le_lit (n := 1) (by omega) (by omega)).1 z)
      rw [if_neg e2, if_neg (fun z => q2 (by have := (eq_lit 0 (by omega) (by omega)).1 z; omega)), if_neg (fun z => q2 (by have := (eq_lit 1 (by omega) (by omega)).1 z; omega)), bnd_s]
      exact AgX.mk 0 _ σ _ _ rfl (Or.inl rfl) rfl rfl (fun _ => rfl) (Jg.thr hW ICas.thr hC (by decide) _)
  · simp only [tb_has0 hW 11 (by omega) q0, isCa_m0 hW hC0 q0, bnd_s, if_true, fm_bad1, if_neg i10]
    exact AgX.mk 3 0 σ 0 _ rfl (Or.inr (Or.inl rfl)) rfl rfl (fun z => absurd z (by decide)) (Jg.thr2 hW ICas.thr hC (by decide) _ _)
theorem ct_m {σ τ : CS} (hW : WC σ) (h0 : σ.1 62 = τ.1 1) (h8 : σ.1 63 = τ.1 39) (h1 : τ.1 2 = nI (rws σ 1)) (h2 : τ.1 10 = nI (rws σ 2)) (h3 : τ.1 21 = nI (rws σ 3)) (h4 : τ.1 38 = nI (rws σ 6)) (h5 : τ.1 44 = nI (rws σ 9)) (h6 : τ.1 48 = nI (rws σ 10)) (h7 : τ.1 60 = nI (rws σ 11)) (h9 : τ.1 71 = nI (rws σ 7)) (h10 : τ.1 92 = nI (rws σ 13)) (h11 : τ.1 102 = nI (rws σ 14)) (h12 : τ.1 103 = nI (rws σ 15)) (h13 : τ.1 7 = nI (rws σ 0)) (a0 : Int32) : ∃ v, f_FC_count a0 σ = some (v, σ) ∧ f_M_count a0 τ = some (v, sF τ 0 0) := by
  unfold f_FC_count f_M_count
  simp only [tb_size hW 0 (by omega), tb_size hW 1 (by omega), tb_size hW 2 (by omega), tb_size hW 3 (by omega), tb_size hW 6 (by omega), tb_size hW 7 (by omega), tb_size hW 9 (by omega), tb_size hW 10 (by omega), tb_size hW 11 (by omega), tb_size hW 13 (by omega), tb_size hW 14 (by omega), tb_size hW 15 (by omega), bnd_s, h0, h1, h2, h3, h4, h5, h6, h7, h8, h9, h10, h11, h12, h13]
  simp only [some_ite]
  exact ⟨_, rfl, rfl⟩
