/-! ===== layer 2: sure claims ===== -/
def eD (σ : CS) (e : Nat) : Nat := (cel σ 8 e 2).toNatClampNeg
def uN (τ : CS) (c k : Nat) : Nat := (τ.2.1 78 (60 * c + k)).toNatClampNeg
def hit (x dd q : Nat) : Prop := x ≤ dd ∧ (dd - x) / 360 = q
theorem sub_lt0 {a b : Nat} (ha : a < 2147483648) (hb : b < 2147483648) : nI a - nI b < 0 ↔ a < b := by
  have h : B32 (nI a - nI b) ((a : Int) - b) (a + b) := by
    refine ⟨?_, by omega⟩
    rw [Int32.toInt_sub, nI_toInt ha, nI_toInt hb]
    apply Int.bmod_eq_of_le <;> omega
  rw [Int32.lt_iff_toInt_lt, h.1]
  show (a : Int) - b < 0 ↔ _
  omega
theorem shl64 : ∀ t : Fin 61, (1 : Int64) <<< ((nI t.1).toInt64 &&& 63) = lN (2 ^ t.1) := by decide +kernel
theorem sureC_loop {σ : CS} (hW : WC σ) {c dd Y : Nat} (hc : c < 20) (hdd : dd ≤ 100000) (hY : Y ≤ 60) (hE : ∀ e, e < rws σ 8 → Rg (cel σ 8 e 1) 1 ∧ Rg (cel σ 8 e 2) 100000) (K : Int32 → Int64 → CS → Option (Int32 × CS)) : ∀ (d e m U : Nat), e + d = rws σ 8 → d < m → U < 2 ^ 60 → (∀ q, U.testBit q = true ↔ ∃ e', e' < e ∧ cel σ 8 e' 0 = nI c ∧ hit (eD σ e') dd q ∧ q < Y) → (¬ ∃ e', e' < e ∧ cel σ 8 e' 0 = nI c ∧ cel σ 8 e' 1 = 1 ∧ eD σ e' ≤ dd ∧ (dd - eD σ e') / 360 < Y) →
    (L_Claims_sureOn_16 K (nI c) (nI dd) (nI Y) m (lN U) (nI e) σ = some (0, σ) ∧ ∃ e', e' < rws σ 8 ∧ cel σ 8 e' 0 = nI c ∧ cel σ 8 e' 1 = 1 ∧ eD σ e' ≤ dd ∧ (dd - eD σ e') / 360 < Y) ∨
    (∃ U', U' < 2 ^ 60 ∧ L_Claims_sureOn_16 K (nI c) (nI dd) (nI Y) m (lN U) (nI e) σ = K (nI Y) (lN U') σ ∧ (∀ q, U'.testBit q = true ↔ ∃ e', e' < rws σ 8 ∧ cel σ 8 e' 0 = nI c ∧ hit (eD σ e') dd q ∧ q < Y) ∧ ¬ ∃ e', e' < rws σ 8 ∧ cel σ 8 e' 0 = nI c ∧ cel σ 8 e' 1 = 1 ∧ eD σ e' ≤ dd ∧ (dd - eD σ e') / 360 < Y) := by
  have h4 := hW.hr4 (t := 8) (by omega)
  intro d
  induction d with
  | zero =>
    intro e m U h1 h2 hU hb hn
    obtain ⟨m, rfl⟩ : ∃ q, m = q + 1 := ⟨m - 1, by omega⟩
    have he : e = rws σ 8 := by omega
    subst he
    right
    refine ⟨U, hU, ?_, hb, hn⟩
    show bnd (f_Table_size 8 σ) _ = _
    rw [tb_size hW 8 (by omega), bnd_s, if_pos (nI_le (Nat.le_refl _) (by omega))]
  | succ d ih =>
    intro e m U h1 h2 hU hb hn
    obtain ⟨m, rfl⟩ : ∃ q, m = q + 1 := ⟨m - 1, by omega⟩
    have he : e < rws σ 8 := by omega
    obtain ⟨r1, x, hx, ex⟩ := hE e he
    have exD : eD σ e = x := by unfold eD; rw [ex, nI_clamp (by omega)]
    have eC : L_Claims_sureOn_16 K (nI c) (nI dd) (nI Y) (m + 1) (lN U) (nI e) σ = if cel σ 8 e 0 = nI c then if (nI dd - nI x) < 0 then (L_Claims_sureOn_16 K (nI c) (nI dd) (nI Y) m) (lN U) (nI (e + 1)) σ else if ((nI dd - nI x) / 360) < nI Y then (if cel σ 8 e 1 = 1 then some (0, σ) else (L_Claims_sureOn_16 K (nI c) (nI dd) (nI Y) m) (lN U ||| ((1 : Int64) <<< ((((nI dd - nI x) / 360) : Int32).toInt64 &&& 63))) (nI (e + 1)) σ) else (L_Claims_sureOn_16 K (nI c) (nI dd) (nI Y) m) (lN U) (nI (e + 1)) σ else (L_Claims_sureOn_16 K (nI c) (nI dd) (nI Y) m) (lN U) (nI (e + 1)) σ := by
      show bnd (f_Table_size 8 σ) _ = _
      rw [tb_size hW 8 (by omega), bnd_s, if_neg (nI_ge he (by omega)), tb_gl hW 8 (by omega) e 2 he (by decide), bnd_s, tb_gl hW 8 (by omega) e 0 he (by decide), bnd_s, tb_gl hW 8 (by omega) e 1 he (by decide), bnd_s, ex, nI_1]
    rw [eC]
    -- this one doesn't count
    have skip : ¬ (cel σ 8 e 0 = nI c ∧ x ≤ dd ∧ (dd - x) / 360 < Y) → (L_Claims_sureOn_16 K (nI c) (nI dd) (nI Y) m (lN U) (nI (e + 1)) σ = some (0, σ) ∧ ∃ e', e' < rws σ 8 ∧ cel σ 8 e' 0 = nI c ∧ cel σ 8 e' 1 = 1 ∧ eD σ e' ≤ dd ∧ (dd - eD σ e') / 360 < Y) ∨ (∃ U', U' < 2 ^ 60 ∧ L_Claims_sureOn_16 K (nI c) (nI dd) (nI Y) m (lN U) (nI (e + 1)) σ = K (nI Y) (lN U') σ ∧ (∀ q, U'.testBit q = true ↔ ∃ e', e' < rws σ 8 ∧ cel σ 8 e' 0 = nI c ∧ hit (eD σ e') dd q ∧ q < Y) ∧ ¬ ∃ e', e' < rws σ 8 ∧ cel σ 8 e' 0 = nI c ∧ cel σ 8 e' 1 = 1 ∧ eD σ e' ≤ dd ∧ (dd - eD σ e') / 360 < Y) := by
      intro hno
      refine ih (e + 1) m U (by omega) (by omega) hU (fun q => ?_) ?_
      · rw [hb q]
        constructor
        · rintro ⟨e', y1, y2⟩; exact ⟨e', by omega, y2⟩
        · rintro ⟨e', y1, y2, y3, y4⟩
          by_cases z : e' = e
          · exfalso; subst z; rw [exD] at y3; exact hno ⟨y2, y3.1, by rw [y3.2]; exact y4⟩
          · exact ⟨e', by omega, y2, y3, y4⟩
      · rintro ⟨e', y1, y2, y3, y4, y5⟩
        by_cases z : e' = e
        · subst z; rw [exD] at y4 y5; exact hno ⟨y2, y4, y5⟩
        · exact hn ⟨e', by omega, y2, y3, y4, y5⟩
    by_cases q1 : cel σ 8 e 0 = nI c
    · rw [if_pos q1]
      by_cases q2 : dd < x
      · rw [if_pos ((sub_lt0 (by omega) (by omega)).mpr q2)]
        exact skip (fun z => by omega)
      · rw [if_neg (fun z => q2 ((sub_lt0 (by omega) (by omega)).mp z)), nI_sub (by omega), show (360 : Int32) = nI 360 from rfl, nI_div (by omega) (by omega)]
        by_cases q3 : (dd - x) / 360 < Y
        · rw [if_pos (nI_lt q3 (by omega))]
          by_cases q4 : cel σ 8 e 1 = 1
          · rw [if_pos q4]
            exact Or.inl ⟨rfl, e, he, q1, q4, by rw [exD]; omega, by rw [exD]; exact q3⟩
          · rw [if_neg q4, shl64 ⟨(dd - x) / 360, by omega⟩, lN_or]
            refine ih (e + 1) m (U ||| 2 ^ ((dd - x) / 360)) (by omega) (by omega) (or_lt hU (Nat.pow_lt_pow_right (by omega) (by omega))) (fun q => ?_) ?_
            · rw [Nat.testBit_or, Bool.or_eq_true_iff, hb q, Nat.testBit_two_pow]
              constructor
              · rintro (⟨e', y1, y2⟩ | y)
                · exact ⟨e', by omega, y2⟩
                · have := of_decide_eq_true y
                  exact ⟨e, by omega, q1, by rw [exD]; exact ⟨by omega, this⟩, by omega⟩
              · rintro ⟨e', y1, y2, y3, y4⟩
                by_cases z : e' = e
                · right; subst z; rw [exD] at y3; exact decide_eq_true y3.2
                · exact Or.inl ⟨e', by omega, y2, y3, y4⟩
            · rintro ⟨e', y1, y2, y3, y4, y5⟩
              by_cases z : e' = e
              · subst z; exact q4 y3
              · exact hn ⟨e', by omega, y2, y3, y4, y5⟩
        · rw [if_neg (nI_nlt (by omega) (by omega))]
          exact skip (fun z => q3 z.2.2)
    · rw [if_neg q1]
      exact skip (fun z => q1 z.1)
/-- one year in the reference -/
theorem sureM_28 {τ : CS} {c dd Y u y : Nat} (hc : c < 20) (hu : u ≤ 60) (h76 : τ.2.1 76 c = nI u) (hdd : dd ≤ 100000) (hy : y < 60) (hR : ∀ k, k < u → τ.2.1 78 (60 * c + k) = nI (uN τ c k) ∧ uN τ c k ≤ 100000) (x4 : Int32) (K : Int32 → Int32 → Int32 → CS → Option (Int32 × CS)) : ∀ (d k m : Nat) (x6 : Int32), k + d = u → d < m → (x6 = 0 ∨ x6 = 1) →
    (L_M_sureOf_28 K (nI c) (nI dd) (nI Y) x4 (nI y) m x6 (nI (60 * c + k)) τ = some (0, τ) ∧ ∃ k', k ≤ k' ∧ k' < u ∧ hit (uN τ c k') dd y ∧ τ.2.1 77 (60 * c + k') = 1) ∨
    (∃ x, (x = 0 ∨ x = 1) ∧ L_M_sureOf_28 K (nI c) (nI dd) (nI Y) x4 (nI y) m x6 (nI (60 * c + k)) τ = K x4 (nI y) x τ ∧ (x = 1 ↔ x6 = 1 ∨ ∃ k', k ≤ k' ∧ k' < u ∧ hit (uN τ c k') dd y) ∧ ¬ ∃ k', k ≤ k' ∧ k' < u ∧ hit (uN τ c k') dd y ∧ τ.2.1 77 (60 * c + k') = 1) := by
  intro d
  induction d with
  | zero =>
    intro k m x6 h1 h2 h6
    obtain ⟨m, rfl⟩ : ∃ q, m = q + 1 := ⟨m - 1, by omega⟩
    right
    refine ⟨x6, h6, ?_, ⟨Or.inl, fun z => z.resolve_right (by rintro ⟨k', z1, z2, -⟩; omega)⟩, by rintro ⟨k', z1, z2, -⟩; omega⟩
    rw [L_M_sureOf_28, gix_n (by omega) (by omega), rdn (by omega), h76, show (60 : Int32) = nI 60 from rfl, nI_mul, nI_add, if_pos (nI_le (by omega) (by omega))]
  | succ d ih =>
    intro k m x6 h1 h2 h6
    obtain ⟨m, rfl⟩ : ∃ q, m = q + 1 := ⟨m - 1, by omega⟩
    obtain ⟨r1, r2⟩ := hR k (by omega)
    have hB : B32 (nI dd - nI (uN τ c k)) ((dd : Int) - uN τ c k) (100000 + 100000) := (B32.nat hdd (by omega)).sub (B32.nat r2 (by omega)) (by omega)
    have hy1 : B32 (nI (360 * y)) ((360 * y : Nat) : Int) 100000 := B32.nat (by omega) (by omega)
    have hy2 : B32 (nI (360 * (y + 1))) ((360 * (y + 1) : Nat) : Int) 100000 := B32.nat (by omega) (by omega)
    have e : L_M_sureOf_28 K (nI c) (nI dd) (nI Y) x4 (nI y) (m + 1) x6 (nI (60 * c + k)) τ = if nI dd - nI (uN τ c k) < nI (360 * y) then (L_M_sureOf_28 K (nI c) (nI dd) (nI Y) x4 (nI y) m) x6 (nI (60 * c + (k + 1))) τ else if nI dd - nI (uN τ c k) < nI (360 * (y + 1)) then (if τ.2.1 77 (60 * c + k) = 1 then some (0, τ) else (L_M_sureOf_28 K (nI c) (nI dd) (nI Y) x4 (nI y) m) 1 (nI (60 * c + (k + 1))) τ) else (L_M_sureOf_28 K (nI c) (nI dd) (nI Y) x4 (nI y) m) x6 (nI (60 * c + (k + 1))) τ := by
      rw [L_M_sureOf_28, gix_n (by omega) (by omega), gix_n (by omega) (by omega), gix_n (by omega) (by omega), rdn (by omega), rdn (by omega), rdn (by omega), h76, show (60 : Int32) = nI 60 from rfl, nI_mul, nI_add, if_neg (nI_ge (by omega) (by omega)), r1, show (360 : Int32) = nI 360 from rfl, nI_1 y, nI_mul, nI_mul, nI_1]
      rfl
    rw [e]
    have skip : ¬ hit (uN τ c k) dd y → (L_M_sureOf_28 K (nI c) (nI dd) (nI Y) x4 (nI y) m x6 (nI (60 * c + (k + 1))) τ = some (0, τ) ∧ ∃ k', k ≤ k' ∧ k' < u ∧ hit (uN τ c k') dd y ∧ τ.2.1 77 (60 * c + k') = 1) ∨ (∃ x, (x = 0 ∨ x = 1) ∧ L_M_sureOf_28 K (nI c) (nI dd) (nI Y) x4 (nI y) m x6 (nI (60 * c + (k + 1))) τ = K x4 (nI y) x τ ∧ (x = 1 ↔ x6 = 1 ∨ ∃ k', k ≤ k' ∧ k' < u ∧ hit (uN τ c k') dd y) ∧ ¬ ∃ k', k ≤ k' ∧ k' < u ∧ hit (uN τ c k') dd y ∧ τ.2.1 77 (60 * c + k') = 1) := by
      intro hno
      rcases ih (k + 1) m x6 (by omega) (by omega) h6 with ⟨g1, k', g2, g3⟩ | ⟨x, g0, g1, g2, g3⟩
      · exact Or.inl ⟨g1, k', by omega, g3⟩
      · refine Or.inr ⟨x, g0, g1, ?_, ?_⟩
        · rw [g2]
          constructor
          · rintro (z | ⟨k', z1, z2⟩)
            · exact Or.inl z
            · exact Or.inr ⟨k', by omega, z2⟩
          · rintro (z | ⟨k', z1, z2, z3⟩)
            · exact Or.inl z
            · by_cases w : k' = k
              · rw [w] at z3; exact absurd z3 hno
              · exact Or.inr ⟨k', by omega, z2, z3⟩
        · rintro ⟨k', z1, z2, z3, z4⟩
          by_cases w : k' = k
          · rw [w] at z3; exact hno z3
          · exact g3 ⟨k', by omega, z2, z3, z4⟩
    by_cases q1 : (dd : Int) - uN τ c k < ((360 * y : Nat) : Int)
    · rw [if_pos ((hB.lt hy1).mpr q1)]
      exact skip (fun z => by have := z.1; have := z.2; omega)
    · rw [if_neg (fun z => q1 ((hB.lt hy1).mp z))]
      by_cases q2 : (dd : Int) - uN τ c k < ((360 * (y + 1) : Nat) : Int)
      · rw [if_pos ((hB.lt hy2).mpr q2)]
        have hh : hit (uN τ c k) dd y := ⟨by omega, by omega⟩
        by_cases q3 : τ.2.1 77 (60 * c + k) = 1
        · rw [if_pos q3]
          exact Or.inl ⟨rfl, k, Nat.le_refl _, by omega, hh, q3⟩
        · rw [if_neg q3]
          rcases ih (k + 1) m 1 (by omega) (by omega) (Or.inr rfl) with ⟨g1, k', g2, g3⟩ | ⟨x, g0, g1, g2, g3⟩
          · exact Or.inl ⟨g1, k', by omega, g3⟩
          · refine Or.inr ⟨x, g0, g1, ?_, ?_⟩
            · exact ⟨fun _ => Or.inr ⟨k, Nat.le_refl _, by omega, hh⟩, fun _ => g2.mpr (Or.inl rfl)⟩
            · rintro ⟨k', z1, z2, z3, z4⟩
              by_cases w : k' = k
              · rw [w] at z4; exact q3 z4
              · exact g3 ⟨k', by omega, z2, z3, z4⟩
      · rw [if_neg (fun z => q2 ((hB.lt hy2).mp z))]
        exact skip (fun z => by have := z.1; have := z.2; omega)
theorem sureM_13 {τ : CS} {c dd Y u : Nat} (hc : c < 20) (hu : u ≤ 60) (h76 : τ.2.1 76 c = nI u) (hdd : dd ≤ 100000) (hY : Y ≤ 60) (hR : ∀ k, k < u → τ.2.1 78 (60 * c + k) = nI (uN τ c k) ∧ uN τ c k ≤ 100000) (hb : Nat → Bool) (hhb : ∀ y, y < Y → (hb y = true ↔ ∃ k, k < u ∧ hit (uN τ c k) dd y)) (K : Int32 → Int32 → CS → Option (Int32 × CS)) : ∀ (d y m : Nat), y + d = Y → d < m →
    (L_M_sureOf_13 K (nI c) (nI dd) (nI Y) m (nI (cnt hb y)) (nI y) τ = some (0, τ) ∧ ∃ y' k, y ≤ y' ∧ y' < Y ∧ k < u ∧ hit (uN τ c k) dd y' ∧ τ.2.1 77 (60 * c + k) = 1) ∨
    (L_M_sureOf_13 K (nI c) (nI dd) (nI Y) m (nI (cnt hb y)) (nI y) τ = K (nI Y) (nI (cnt hb Y)) τ ∧ ¬ ∃ y' k, y ≤ y' ∧ y' < Y ∧ k < u ∧ hit (uN τ c k) dd y' ∧ τ.2.1 77 (60 * c + k) = 1) := by
  intro d
  induction d with
  | zero =>
    intro y m h1 h2
    obtain ⟨m, rfl⟩ : ∃ q, m = q + 1 := ⟨m - 1, by omega⟩
    have hy : y = Y := by omega
    subst hy
    right
    refine ⟨?_, by rintro ⟨y', k, z1, z2, -⟩; omega⟩
    show (if nI y ≤ nI y then _ else _) = _
    rw [if_pos (nI_le (Nat.le_refl _) (by omega))]
  | succ d ih =>
    intro y m h1 h2
    obtain ⟨m, rfl⟩ : ∃ q, m = q + 1 := ⟨m - 1, by omega⟩
    have e : L_M_sureOf_13 K (nI c) (nI dd) (nI Y) (m + 1) (nI (cnt hb y)) (nI y) τ = L_M_sureOf_28 (B_M_sureOf_104 (L_M_sureOf_13 K (nI c) (nI dd) (nI Y) m) (nI c) (nI dd) (nI Y)) (nI c) (nI dd) (nI Y) (nI (cnt hb y)) (nI y) FU 0 (nI (60 * c + 0)) τ := by
      show (if nI Y ≤ nI y then _ else _) = _
      rw [if_neg (nI_ge (by omega) (by omega)), show (60 : Int32) = nI 60 from rfl, nI_mul]
      rfl
    rw [e]
    rcases sureM_28 (Y := Y) hc hu h76 hdd (show y < 60 by omega) hR (nI (cnt hb y)) (B_M_sureOf_104 (L_M_sureOf_13 K (nI c) (nI dd) (nI Y) m) (nI c) (nI dd) (nI Y)) u 0 FU 0 (by omega) (lt_FU (by omega)) (Or.inl rfl) with ⟨g1, k', g2, g3, g4, g5⟩ | ⟨x, g0, g1, g2, g3⟩
    · exact Or.inl ⟨g1, y, k', Nat.le_refl _, by omega, g3, g4, g5⟩
    · rw [g1]
      have ec : cnt hb (y + 1) = cnt hb y + (if hb y then 1 else 0) := rfl
      have e2 : B_M_sureOf_104 (L_M_sureOf_13 K (nI c) (nI dd) (nI Y) m) (nI c) (nI dd) (nI Y) (nI (cnt hb y)) (nI y) x τ = L_M_sureOf_13 K (nI c) (nI dd) (nI Y) m (nI (cnt hb (y + 1))) (nI (y + 1)) τ := by
        unfold B_M_sureOf_104 B_M_sureOf_116
        rw [ec, nI_1]
        by_cases z : hb y = true
        · have : x = 1 := g2.mpr (Or.inr (by obtain ⟨k, w1, w2⟩ := (hhb y (by omega)).mp z; exact ⟨k, by omega, w1, w2⟩))
          rw [this, if_neg i10, if_pos z, nI_1]
        · have : x = 0 := g0.resolve_right (fun w => by
            rcases g2.mp w with v | ⟨k, v1, v2, v3⟩
            · exact absurd v (by decide)
            · exact z ((hhb y (by omega)).mpr ⟨k, v2, v3⟩))
          rw [this, if_pos rfl, if_neg z, show nI (cnt hb y) + 0 = nI (cnt hb y + 0) from nI_add _ 0]
      rw [e2]
      rcases ih (y + 1) m (by omega) (by omega) with ⟨w1, y', k, w2, w3⟩ | ⟨w1, w2⟩
      · exact Or.inl ⟨w1, y', k, by omega, w3⟩
      · refine Or.inr ⟨w1, ?_⟩
        rintro ⟨y', k, v1, v2, v3, v4, v5⟩
        by_cases z : y' = y
        · rw [z] at v4; exact g3 ⟨k, by omega, v3, v4, v5⟩
        · exact w2 ⟨y', k, by omega, v2, v3, v4, v5⟩
theorem cnt_zero {P : Nat → Bool} {m : Nat} : ∀ n, (∀ i, m ≤ i → i < m + n → P i = false) → cnt P (m + n) = cnt P m := by
  intro n
  induction n with
  | zero => intro _; rfl
  | succ n ih =>
    intro h
    show cnt P (m + n) + (if P (m + n) then 1 else 0) = _
    rw [ih (fun i h1 h2 => h i h1 (by omega)), h (m + n) (by omega) (by omega)]
    rfl
theorem sure_ag {σ τ : CS} (hW : WC σ) (hT : ITxt σ τ) (hC : ICla σ τ) {c dd : Nat} (hc : c < rws σ 7) (hdd : dd ≤ 100000) : ∃ v τ', f_Claims_sureOn (nI c) (nI dd) σ = some (v, σ) ∧ f_M_sureOf (nI c) (nI dd) τ = some (v, τ') ∧ FrM [] [37] τ τ' ∧ (v = 0 ∨ v = 1 ∨ v = 2) := by
  have h20 : rws σ 7 ≤ 20 := hW.hlim (t := 7) (by omega)
  have h4 := hW.hr4 (t := 8) (by omega)
  obtain ⟨w, τ', r1, r2, r3, r4⟩ := rule_ag hW hT (nI dd) (w := 3) (by omega)
  obtain ⟨Y, y1, y2, y3⟩ : P4 w 60 := r4
  subst y3
  obtain ⟨-, -, -, -, p5, -, -, -, -, u, hu, p10⟩ := hC.2.1 c hc
  have hum : um τ c = u := by unfold um; rw [p5, p10, nI_clamp (by omega)]
  have eC : f_Claims_sureOn (nI c) (nI dd) σ = L_Claims_sureOn_16 B_Claims_sureOn_109 (nI c) (nI dd) (nI Y) FU (lN 0) (nI 0) σ := by
    unfold f_Claims_sureOn
    rw [show (3 : Int32) = nI 3 from rfl, r1, bnd_s]
    rfl
  have u78 : ∀ k, uN τ' c k = uN τ c k := fun k => by unfold uN; rw [r3.2 78 (by decide)]
  have hR : ∀ k, k < u → τ'.2.1 78 (60 * c + k) = nI (uN τ' c k) ∧ uN τ' c k ≤ 100000 := by
    intro k hk
    obtain ⟨e, e1, e2, e3, e4⟩ := hC.2.2.2.2.2.1 c k hc (by rw [hum]; exact hk)
    obtain ⟨-, x, hx, ex⟩ := hC.2.2.2.2.2.2 e e1
    rw [u78]
    unfold uN
    rw [r3.2 78 (by decide), ← e4, ex, nI_clamp (by omega)]
    exact ⟨rfl, hx⟩
  -- breaks are the same
  have brk : (∃ e', e' < rws σ 8 ∧ cel σ 8 e' 0 = nI c ∧ cel σ 8 e' 1 = 1 ∧ eD σ e' ≤ dd ∧ (dd - eD σ e') / 360 < Y) ↔ ∃ y' k, 0 ≤ y' ∧ y' < Y ∧ k < u ∧ hit (uN τ' c k) dd y' ∧ τ'.2.1 77 (60 * c + k) = 1 := by
    constructor
    · rintro ⟨e, e1, e2, e3, e4, e5⟩
      obtain ⟨c', k, k1, k2, k3, k4, k5⟩ := hC.2.2.2.2.1 e e1
      rw [e2] at k3
      have : c = c' := (nI_eq (by omega) (by omega)).mp k3
      subst this
      refine ⟨(dd - eD σ e) / 360, k, by omega, e5, by omega, ?_, ?_⟩
      · rw [u78]; unfold uN; rw [← k5]; exact ⟨e4, rfl⟩
      · rw [r3.2 77 (by decide), ← k4]; exact e3
    · rintro ⟨y', k, -, z2, z3, z4, z5⟩
      obtain ⟨e, e1, e2, e3, e4⟩ := hC.2.2.2.2.2.1 c k hc (by rw [hum]; exact z3)
      rw [u78] at z4
      unfold uN at z4
      rw [← e4] at z4
      rw [r3.2 77 (by decide), ← e3] at z5
      exact ⟨e, e1, e2, z5, z4.1, by have : (dd - eD σ e) / 360 = y' := z4.2; omega⟩
  have hits : ∀ q, (∃ e', e' < rws σ 8 ∧ cel σ 8 e' 0 = nI c ∧ hit (eD σ e') dd q ∧ q < Y) ↔ (q < Y ∧ ∃ k, k < u ∧ hit (uN τ' c k) dd q) := by
    intro q
    constructor
    · rintro ⟨e, e1, e2, e3, e4⟩
      obtain ⟨c', k, k1, k2, k3, k4, k5⟩ := hC.2.2.2.2.1 e e1
      rw [e2] at k3
      have : c = c' := (nI_eq (by omega) (by omega)).mp k3
      subst this
      refine ⟨e4, k, by omega, ?_⟩
      rw [u78]; unfold uN; rw [← k5]; exact e3
    · rintro ⟨z1, k, z2, z3⟩
      obtain ⟨e, e1, e2, e3, e4⟩ := hC.2.2.2.2.2.1 c k hc (by rw [hum]; exact z2)
      rw [u78] at z3
      unfold uN at z3
      rw [← e4] at z3
      exact ⟨e, e1, e2, z3, z1⟩
  have h76 : τ'.2.1 76 c = nI u := by rw [r3.2 76 (by decide), p5, p10]
  rcases sureC_loop hW (c := c) (dd := dd) (Y := Y) (by omega) hdd y2 hC.2.2.2.2.2.2 B_Claims_sureOn_109 (rws σ 8) 0 FU 0 (by omega) (lt_FU (by omega)) (by decide) (fun q => ⟨fun z => by rw [Nat.zero_testBit] at z; exact absurd z (by decide), fun ⟨e', z, _⟩ => absurd z (by omega)⟩) (fun ⟨e', z, _⟩ => absurd z (by omega)) with ⟨g1, g2⟩ | ⟨U, hU, g1, g2, g3⟩
  · -- a break
    obtain ⟨hb, hhb⟩ : ∃ hb : Nat → Bool, ∀ y, hb y = true ↔ ∃ k, k < u ∧ hit (uN τ' c k) dd y := ⟨fun y => @decide _ (Classical.propDecidable (∃ k, k < u ∧ hit (uN τ' c k) dd y)), fun y => ⟨fun z => @of_decide_eq_true _ (Classical.propDecidable _) z, fun z => @decide_eq_true _ (Classical.propDecidable _) z⟩⟩
    rcases sureM_13 (τ := τ') (c := c) (dd := dd) (Y := Y) (u := u) (by omega) hu h76 hdd y2 hR hb (fun y _ => hhb y) B_M_sureOf_125 Y 0 FU (by omega) (lt_FU (by omega)) with ⟨w1, -⟩ | ⟨-, w2⟩
    · refine ⟨0, τ', by rw [eC]; exact g1, ?_, r3, Or.inl rfl⟩
      unfold f_M_sureOf
      rw [show (3 : Int32) = nI 3 from rfl, r2, bnd_s]
      exact w1
    · exact absurd (brk.mp g2) w2
  · have hbit : ∀ y, y < Y → (U.testBit y = true ↔ ∃ k, k < u ∧ hit (uN τ' c k) dd y) := fun y hy => by rw [g2 y, hits y]; exact ⟨fun z => z.2, fun z => ⟨hy, z⟩⟩
    rcases sureM_13 (τ := τ') (c := c) (dd := dd) (Y := Y) (u := u) (by omega) hu h76 hdd y2 hR (fun y => U.testBit y) hbit B_M_sureOf_125 Y 0 FU (by omega) (lt_FU (by omega)) with ⟨-, w2⟩ | ⟨w1, -⟩
    · exact absurd (brk.mpr w2) g3
    · have hcnt : cnt (fun i => U.testBit i) 64 = cnt (fun i => U.testBit i) Y := by
        have := cnt_zero (P := fun i => U.testBit i) (m := Y) (64 - Y) (fun i h1 h2 => by
          cases h : U.testBit i with
          | false => rfl
          | true => obtain ⟨_, _, _, _, z⟩ := (g2 i).mp h; omega)
        rw [show Y + (64 - Y) = 64 by omega] at this
        exact this
      have hle := cnt_le (fun i => U.testBit i) Y
      have e1 : B_Claims_sureOn_109 (nI Y) (lN U) σ = some ((if nI (cnt (fun i => U.testBit i) Y) = nI Y then 2 else if 2 * nI (cnt (fun i => U.testBit i) Y) < nI Y then 0 else 1), σ) := by
        unfold B_Claims_sureOn_109
        rw [bitcount (by omega), bnd_s, hcnt, some_ite, some_ite]
      have e2 : B_M_sureOf_125 (nI Y) (nI (cnt (fun i => U.testBit i) Y)) τ' = some ((if nI (cnt (fun i => U.testBit i) Y) = nI Y then 2 else if 2 * nI (cnt (fun i => U.testBit i) Y) < nI Y then 0 else 1), τ') := by
        unfold B_M_sureOf_125
        rw [some_ite, some_ite]
      refine ⟨_, τ', by rw [eC, g1, e1], ?_, r3, ?_⟩
      · unfold f_M_sureOf
        rw [show (3 : Int32) = nI 3 from rfl, r2, bnd_s]
        exact w1.trans e2
      · split
        · exact Or.inr (Or.inr rfl)
        · split
          · exact Or.inl rfl
          · exact Or.inr (Or.inl rfl)
theorem pm_sure {σ τ : CS} (hW : WC σ) (hT : ITxt σ τ) (hP : ICla σ τ) (a0 a1 : Int32) : AgX (f_FC_sure a0 a1 σ) (f_M_sure a0 a1 τ) (fun c0 => c0 = 0 ∨ c0 = 3 ∨ c0 = 1) (fun c0 => (if c0 = 0 then (0 : Int32) else if c0 = 3 then 1 else 2)) (fun σ1 τ1 => σ1 = σ ∧ FrM [0] [37] τ τ1) := by
  have h20 : rws σ 7 ≤ 20 := hW.hlim (t := 7) (by omega)
  unfold f_FC_sure f_M_sure
  simp only [hP.1]
  by_cases q0 : ∃ j, j < rws σ 7 ∧ a0 = nI j
  · obtain ⟨j, hj, rfl⟩ := q0
    simp only [tb_has1 hW 7 (by omega) hj, fm_idx1 hj (show rws σ 7 < 2147483648 by omega), bnd_s, if_neg i10, B_M_sure_25, fm_bad0, if_true, fc_isDay, fm_isDay]
    by_cases q1 : a1 < 0 ∨ 100000 < a1
    · simp only [if_pos q1, if_true, B_M_sure_45, fm_bad1, bnd_s, if_neg i10]
      exact AgX.mk 1 0 σ 0 _ rfl (Or.inr (Or.inr rfl)) rfl rfl (fun z => absurd z (by decide)) ⟨rfl, (FrM.f1 _ _ (by decide)).trans (FrM.f1 _ _ (by decide))⟩
    · obtain ⟨dd, hdd, rfl⟩ := Rg.of q1 (n := 100000) rfl (by omega) (by decide)
      obtain ⟨v, τ', g1, g2, g3, -⟩ := sure_ag hW (ITxt.thr τ 0 hT) (ICla.thr τ 0 hP) hj hdd
      simp only [if_neg q1, if_neg i10, B_M_sure_45, fm_bad0, bnd_s, if_true, g1, g2]
      refine AgX.mk 0 _ σ _ _ rfl (Or.inl rfl) rfl ?_ (fun _ => rfl) ⟨rfl, (FrM.f1 _ _ (by decide)).trans (g3.mono (by simp) (by decide))⟩
      rw [g3.1 0 (by simp)]
      rfl
  · simp only [tb_has0 hW 7 (by omega) q0, fm_idx0 (show rws σ 7 < 2147483648 by omega) q0, bnd_s, if_true, B_M_sure_25, fm_bad1, if_neg i10]
    exact AgX.mk 3 0 σ 0 _ rfl (Or.inr (Or.inl rfl)) rfl rfl (fun z => absurd z (by decide)) ⟨rfl, (FrM.f1 _ _ (by decide)).trans (FrM.f1 _ _ (by decide))⟩
