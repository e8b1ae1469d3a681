/-! ===== layer 2: what the texts say of a deed ===== -/
def cB (τ : CS) (t : Nat) : Nat := sumN (cM τ) t
def Cod (σ τ : CS) (t r i : Nat) (b : Bool) : Prop := ∃ a n c0 M f, 1 ≤ n ∧ cel σ 4 r 4 = nI a ∧ cel σ 4 r 5 = nI (a + n) ∧ a + n ≤ rws σ 5 ∧ τ.2.1 32 i = nI c0 ∧ c0 + n < 450 ∧ (∀ j, j < n → cel σ 5 (a + j) 0 = nI (f j) ∧ encN (f j) (τ.2.1 35 (450 * t + c0 + j)) (τ.2.1 36 (450 * t + c0 + j))) ∧ τ.2.1 35 (450 * t + c0 + n) = 14 ∧ Sgm f n M b ∧ M ≤ 60
def Cls (σ τ : CS) (t k : Nat) : Prop := cel σ 4 (cB τ t + k) 0 = nI t ∧ cel σ 4 (cB τ t + k) 1 = nI k ∧ cel σ 4 (cB τ t + k) 2 = τ.2.1 30 (12 * t + k) ∧ (¬ 3 < τ.2.1 30 (12 * t + k) → cel σ 4 (cB τ t + k) 3 = τ.2.1 31 (12 * t + k)) ∧ (3 < τ.2.1 30 (12 * t + k) → cel σ 4 (cB τ t + k) 3 = -1) ∧ (τ.2.1 30 (12 * t + k) = 3 → Cod σ τ t (cB τ t + k) (12 * t + k) false) ∧ ((τ.2.1 30 (12 * t + k) = 0 ∨ τ.2.1 30 (12 * t + k) = 1) → (τ.2.1 32 (12 * t + k) = -1 ∧ cel σ 4 (cB τ t + k) 4 = cel σ 4 (cB τ t + k) 5) ∨ Cod σ τ t (cB τ t + k) (12 * t + k) true)
def ICls (σ τ : CS) : Prop := rws σ 4 = cB τ (rws σ 3) ∧ rws σ 5 ≤ 400 * rws σ 3 ∧ ∀ t, t < rws σ 3 → ∀ k, k < cM τ t → Cls σ τ t k
theorem cB_le (τ : CS) {t T : Nat} (h : t < T) : cB τ t + cM τ t ≤ cB τ T := by
  induction T with
  | zero => omega
  | succ T ih =>
    show cB τ t + cM τ t ≤ sumN (cM τ) T + cM τ T
    by_cases q : t = T
    · subst q; exact Nat.le_refl _
    · have := ih (by omega)
      unfold cB at *
      omega
theorem cB_succ (τ : CS) (t : Nat) : cB τ (t + 1) = cB τ t + cM τ t := rfl
/-- what was said, in both -/
def WR (σ τ : CS) (τ0 : CS) (T : Nat) : Prop := (σ.1 53 = -1 ∧ τ.1 56 = -1 ∧ τ.1 59 = 0) ∨ (∃ t k, t < T ∧ k < cM τ0 t ∧ σ.1 53 = nI (cB τ0 t + k) ∧ τ.1 56 = nI t ∧ τ.1 57 = nI k ∧ τ.1 59 = if τ0.2.1 30 (12 * t + k) = 0 then 1 else 0)
def FR (σ τ : CS) (many : Int32) : Prop := (σ.1 54 = -1 ∧ τ.1 58 = many) ∨ (∃ a, a ≤ 10000 ∧ σ.1 54 = nI a ∧ τ.1 58 = nI a)
theorem fine_eq (v : Int32) : (if 0 < (if v < 10000 then v else 10000) then (if v < 10000 then v else 10000) else 0) = (if 0 ≤ v then (if v ≤ 10000 then v else 10000) else 0) ∧ Rg (if 0 ≤ v then (if v ≤ 10000 then v else 10000) else 0) 10000 := by
  by_cases h0 : 0 ≤ v
  · by_cases h1 : v ≤ 10000
    · obtain ⟨a, ha, rfl⟩ : ∃ a, a ≤ 10000 ∧ v = nI a := nI_of2 (M := 10000) rfl (Int32.not_lt.mpr h0) h1
      rw [if_pos h0, if_pos h1]
      refine ⟨?_, a, ha, rfl⟩
      by_cases h2 : nI a < 10000
      · rw [if_pos h2]
        by_cases h3 : 0 < nI a
        · rw [if_pos h3]
        · rw [if_neg h3]
          have : a = 0 := by
            rcases Nat.eq_zero_or_pos a with z | z
            · exact z
            · exact absurd ((lit_lt 0 (by omega) (by omega)).mpr z) h3
          rw [this]; rfl
      · rw [if_neg h2, if_pos (by decide)]
        have : a = 10000 := by
          rcases Nat.lt_or_ge a 10000 with z | z
          · exact absurd ((lt_lit 10000 (by omega) (by omega)).mpr z) h2
          · omega
        rw [this]; rfl
    · rw [if_pos h0, if_neg h1, if_neg (fun z => h1 (Int32.le_of_lt z)), if_pos (by decide)]
      exact ⟨rfl, 10000, by omega, rfl⟩
  · have hv : v < 0 := Int32.not_le.mp h0
    have h2 : v < 10000 := Int32.lt_trans hv (by decide)
    rw [if_neg h0, if_pos h2, if_neg (fun z => h0 (Int32.le_of_lt z))]
    exact ⟨rfl, 0, by omega, rfl⟩
section HEAR
variable {σ0 τ0 : CS} {d ac T F : Nat} {st many : Int32} {fv : Nat → Int32}
/-- a clause's code: both find its value -/
theorem value_ag (hW : WC σ0) (hT : ITxt σ0 τ0) (hf1 : ∀ g, g < 6 → σ0.2.1 21 g = fv g) (hf2 : ∀ g, g < 6 → ∀ τ', FrM [56, 57, 58, 59] [55] τ0 τ' → f_M_valueOf (nI g) (nI d) st τ' = some (fv g, τ')) {t r i : Nat} {b : Bool} (ht : t < rws σ0 3) (hi : i < 120) (hr : r < rws σ0 4) (hC : Cod σ0 τ0 t r i b) {σ τ : CS} (fC : FrC [53, 54] [20] σ0 σ) (fM : FrM [56, 57, 58, 59] [55] τ0 τ) :
    ∃ v σ' τ', f_Laws_valueOf (nI r) σ = some (v, σ') ∧ f_M_value (nI t) (nI i) (nI d) st τ = some (v, τ') ∧ FrC [] [20] σ σ' ∧ FrM [] [55] τ τ' ∧ (b = true → t01 v) := by
  obtain ⟨a, n, c0, M, f, x1, x2, x3, x4, x5, x6, x7, x8, x9, x10⟩ := hC
  have h10 : rws σ0 3 ≤ 10 := hW.hlim (t := 3) (by omega)
  have h4000 : rws σ0 5 ≤ 4000 := hW.hr4 (by omega)
  have hWs : WC σ := hW.of (fun j hj => fC.1 j (by simp; omega)) (fun t ht => (fC.2 t (by simp; omega)).2)
  have er4 : rws σ 4 = rws σ0 4 := fC.fr (by decide)
  have er5 : rws σ 5 = rws σ0 5 := fC.fr (by decide)
  obtain ⟨v, σ', τ', g1, g2, g3, g4, g5⟩ := val_loop (σ0 := σ) (τ0 := τ) hWs (r := r) (a := a) (n := n) (B := 450 * t + c0) (M := M) (d := d) (st := st) (fv := fv) (f := f) (b := b) (by omega) (by rw [fC.fc (by decide)]; exact x3) (by omega) (by omega) (fun j hj => by
    rw [fC.fc (by decide), fM.2 35 (by decide), fM.2 36 (by decide)]
    exact x7 j hj) (by rw [fM.2 35 (by decide)]; exact x8) x9 x10 (fun g hg => by rw [(fC.2 21 (by decide)).1]; exact hf1 g hg) (fun g hg τ' hτ' => hf2 g hg τ' (fM.trans (hτ'.mono (by simp) (by simp)))) n 0 FU FU σ τ [] (by omega) (lt_FU (by omega)) (lt_FU (by omega)) (FrC.refl _ _ _) (FrM.refl _ _ _) rfl (fun j hj => absurd hj (by simp)) trivial
  refine ⟨v, σ', τ', ?_, ?_, g3, g4, g5⟩
  · unfold f_Laws_valueOf
    rw [tb_gl hWs 4 (by omega) r 4 (by omega) (by decide), bnd_s, fC.fc (by decide), x2]
    exact g1
  · unfold f_M_value
    rw [gix_n hi (by omega), rdn (by omega), fM.2 32 (by decide), x5, show (450 : Int32) = nI 450 from rfl, nI_mul, nI_add]
    exact g2
theorem hear_text (hW : WC σ0) (hT : ITxt σ0 τ0) (hC : ICls σ0 τ0) (hTT : T = rws σ0 3) (hF : F < 2 ^ 10) (hd : d < 60) (hac : ac ≤ 5) (h50 : τ0.2.1 50 d = nI ac) (h54 : τ0.2.1 54 d = many) (hf1 : ∀ g, g < 6 → σ0.2.1 21 g = fv g) (hf2 : ∀ g, g < 6 → ∀ τ', FrM [56, 57, 58, 59] [55] τ0 τ' → f_M_valueOf (nI g) (nI d) st τ' = some (fv g, τ')) {t : Nat} (ht : t < T) (hin : F.testBit t = true) (K : Int32 → CS → Option (Int32 × CS)) :
    ∀ (e k m m' : Nat) (σ τ : CS), k + e = cM τ0 t → e < m → e < m' → FrC [53, 54] [20] σ0 σ → FrM [56, 57, 58, 59] [55] τ0 τ → WR σ τ τ0 T → FR σ τ many →
    ∃ σ' τ', L_Laws_hear_20 (nI ac) (nI F) m (nI (cB τ0 t + k)) σ = L_Laws_hear_20 (nI ac) (nI F) (m - e) (nI (cB τ0 (t + 1))) σ' ∧ L_M_words_66 K (nI d) st (nI t) m' (nI k) τ = K (nI (t + 1)) τ' ∧ FrC [53, 54] [20] σ0 σ' ∧ FrM [56, 57, 58, 59] [55] τ0 τ' ∧ WR σ' τ' τ0 T ∧ FR σ' τ' many := by
  subst hTT
  have h10 : rws σ0 3 ≤ 10 := hW.hlim (t := 3) (by omega)
  have h120 : rws σ0 4 ≤ 120 := hW.hlim (t := 4) (by omega)
  obtain ⟨-, t2, t3, -, -, t6⟩ := hT.2 t ht
  have hcb := cB_le τ0 ht
  rw [← hC.1] at hcb
  intro e
  induction e with
  | zero =>
    intro k m m' σ τ h1 h2 h2' fC fM hWR hFR
    obtain ⟨m', rfl⟩ : ∃ q, m' = q + 1 := ⟨m' - 1, by omega⟩
    refine ⟨σ, τ, ?_, ?_, fC, fM, hWR, hFR⟩
    · rw [cB_succ, Nat.sub_zero, show k = cM τ0 t by omega]
    · rw [L_M_words_66, gix_n (by omega) (by omega), rdn (by omega), fM.2 29 (by decide), t2, if_pos (nI_le (by omega) (by omega)), nI_1]
  | succ e ih =>
    intro k m m' σ τ h1 h2 h2' fC fM hWR hFR
    obtain ⟨m, rfl⟩ : ∃ q, m = q + 1 := ⟨m - 1, by omega⟩
    obtain ⟨m', rfl⟩ : ∃ q, m' = q + 1 := ⟨m' - 1, by omega⟩
    have hk : k < cM τ0 t := by omega
    have hWs : WC σ := hW.of (fun j hj => fC.1 j (by simp; omega)) (fun t ht => (fC.2 t (by simp; omega)).2)
    have er4 : rws σ 4 = rws σ0 4 := fC.fr (by decide)
    have ec4 : ∀ x y, cel σ 4 x y = cel σ0 4 x y := fun x y => fC.fc (by decide) x y
    have hrow : cB τ0 t + k < rws σ 4 := by omega
    obtain ⟨c1, c2, c3, c4, c5, c6, c7⟩ := hC.2.2 t ht k hk
    obtain ⟨k1, k2, k3, k4, k5, k6⟩ := t6 k hk
    have ems : m + 1 - (e + 1) = m - e := by omega
    rw [ems]
    -- what comes behind
    have go : ∀ σ1 τ1, FrC [53, 54] [20] σ0 σ1 → FrM [56, 57, 58, 59] [55] τ0 τ1 → WR σ1 τ1 τ0 (rws σ0 3) → FR σ1 τ1 many → ∃ σ' τ', L_Laws_hear_20 (nI ac) (nI F) m (nI (cB τ0 t + (k + 1))) σ1 = L_Laws_hear_20 (nI ac) (nI F) (m - e) (nI (cB τ0 (t + 1))) σ' ∧ L_M_words_66 K (nI d) st (nI t) m' (nI (k + 1)) τ1 = K (nI (t + 1)) τ' ∧ FrC [53, 54] [20] σ0 σ' ∧ FrM [56, 57, 58, 59] [55] τ0 τ' ∧ WR σ' τ' τ0 (rws σ0 3) ∧ FR σ' τ' many :=
      fun σ1 τ1 a1 a2 a3 a4 => ih (k + 1) m m' σ1 τ1 (by omega) (by omega) (by omega) a1 a2 a3 a4
    have i120 : 12 * t + k < 120 := by omega
    have i12 : (12 : Int32) * nI t + nI k = nI (12 * t + k) := by rw [show (12 : Int32) = nI 12 from rfl, nI_mul, nI_add]
    have eC : L_Laws_hear_20 (nI ac) (nI F) (m + 1) (nI (cB τ0 t + k)) σ = if cel σ0 4 (cB τ0 t + k) 3 = nI ac then (if τ0.2.1 30 (12 * t + k) = 2 then (L_Laws_hear_20 (nI ac) (nI F) m) (nI (cB τ0 t + (k + 1))) (sF (sF σ 53 (-1)) 54 (-1)) else if τ0.2.1 30 (12 * t + k) = 3 then bnd (f_Laws_valueOf (nI (cB τ0 t + k)) σ) (fun r113 σ113 => (L_Laws_hear_20 (nI ac) (nI F) m) (nI (cB τ0 t + (k + 1))) (sF σ113 54 (if 0 < (if r113 < 10000 then r113 else 10000) then (if r113 < 10000 then r113 else 10000) else 0))) else bnd (f_Laws_isWithoutIf (nI (cB τ0 t + k)) σ) (fun r131 σ131 => if r131 = 0 then bnd (f_Laws_valueOf (nI (cB τ0 t + k)) σ131) (fun r141 σ141 => if r141 = 0 then (L_Laws_hear_20 (nI ac) (nI F) m) (nI (cB τ0 t + (k + 1))) σ141 else B_Laws_hear_147 (L_Laws_hear_20 (nI ac) (nI F) m) (nI ac) (nI F) (nI (cB τ0 t + k)) σ141) else B_Laws_hear_147 (L_Laws_hear_20 (nI ac) (nI F) m) (nI ac) (nI F) (nI (cB τ0 t + k)) σ131)) else (L_Laws_hear_20 (nI ac) (nI F) m) (nI (cB τ0 t + (k + 1))) σ := by
      show bnd (f_Table_size 4 σ) _ = _
      rw [tb_size hWs 4 (by omega), bnd_s, if_neg (nI_ge hrow (by omega)), tb_gl hWs 4 (by omega) _ 0 hrow (by decide), bnd_s, ec4, c1, if_neg (fun z => by rw [(bit_0 (by omega) (by omega)).mp z] at hin; exact absurd hin (by decide)), tb_gl hWs 4 (by omega) _ 3 hrow (by decide), bnd_s, ec4, tb_gl hWs 4 (by omega) _ 2 hrow (by decide), bnd_s, ec4, c3, nI_1]
      rfl
    have eM : L_M_words_66 K (nI d) st (nI t) (m' + 1) (nI k) τ = if 3 < τ0.2.1 30 (12 * t + k) then (L_M_words_66 K (nI d) st (nI t) m') (nI (k + 1)) τ else (if τ0.2.1 31 (12 * t + k) = nI ac then (if τ0.2.1 30 (12 * t + k) = 2 then ((L_M_words_66 K (nI d) st (nI t) m') (nI (k + 1)) (sF (sF (sF τ 56 (-1)) 59 0) 58 many)) else (if τ0.2.1 30 (12 * t + k) = 3 then bnd (f_M_value (nI t) (nI (12 * t + k)) (nI d) st τ) (fun r167 σ167 => if 0 ≤ r167 then if r167 ≤ 10000 then B_M_words_198 (L_M_words_66 K (nI d) st (nI t) m') (nI d) st (nI t) (nI k) r167 σ167 else B_M_words_198 (L_M_words_66 K (nI d) st (nI t) m') (nI d) st (nI t) (nI k) 10000 σ167 else B_M_words_198 (L_M_words_66 K (nI d) st (nI t) m') (nI d) st (nI t) (nI k) 0 σ167) else (if τ0.2.1 32 (12 * t + k) < 0 then B_M_words_227 (L_M_words_66 K (nI d) st (nI t) m') (nI d) st (nI t) (nI k) (nI (12 * t + k)) τ else bnd (f_M_value (nI t) (nI (12 * t + k)) (nI d) st τ) (fun r220 σ220 => if r220 = 1 then B_M_words_227 (L_M_words_66 K (nI d) st (nI t) m') (nI d) st (nI t) (nI k) (nI (12 * t + k)) σ220 else (L_M_words_66 K (nI d) st (nI t) m') (nI (k + 1)) σ220)))) else (L_M_words_66 K (nI d) st (nI t) m') (nI (k + 1)) τ) := by
      rw [L_M_words_66, gix_n (by omega) (by omega), rdn (by omega), fM.2 29 (by decide), t2, if_neg (nI_ge (by omega) (by omega)), i12]
      simp only [gix_n i120 (show 120 < 2147483648 by omega), gix_n hd (show 60 < 2147483648 by omega), rdn (show 12 * t + k < 2147483648 by omega), rdn (show d < 2147483648 by omega), fM.2 30 (by decide), fM.2 31 (by decide), fM.2 32 (by decide), fM.2 50 (by decide), fM.2 54 (by decide), h50, h54, nI_1]
    rw [eC, eM]
    by_cases q0 : 3 < τ0.2.1 30 (12 * t + k)
    · rw [if_pos q0, c5 q0, if_neg (nI_neg1' (by omega))]
      exact go σ τ fC fM hWR hFR
    rw [if_neg q0, c4 q0]
    by_cases q1 : τ0.2.1 31 (12 * t + k) = nI ac
    · rw [if_pos q1, if_pos q1]
      by_cases q2 : τ0.2.1 30 (12 * t + k) = 2
      · rw [if_pos q2, if_pos q2]
        refine go _ _ (fC.trans ((FrC.f1 _ _ (by decide)).trans (FrC.f1 _ _ (by decide)))) (fM.trans ((FrM.f1 _ _ (by decide)).trans ((FrM.f1 _ _ (by decide)).trans (FrM.f1 _ _ (by decide))))) (Or.inl ⟨?_, ?_, ?_⟩) (Or.inl ⟨?_, ?_⟩)
        all_goals simp only [va_up, reduceIte, Nat.reduceEqDiff]
      rw [if_neg q2, if_neg q2]
      by_cases q3 : τ0.2.1 30 (12 * t + k) = 3
      · rw [if_pos q3, if_pos q3]
        obtain ⟨v, σ1, τ1, g1, g2, g3, g4, -⟩ := value_ag hW hT hf1 hf2 ht i120 (by omega) (c6 q3) fC fM
        rw [g1, g2, bnd_s, bnd_s]
        obtain ⟨f1, a, ha, f2⟩ := fine_eq v
        have eW : (if 0 ≤ v then if v ≤ 10000 then B_M_words_198 (L_M_words_66 K (nI d) st (nI t) m') (nI d) st (nI t) (nI k) v τ1 else B_M_words_198 (L_M_words_66 K (nI d) st (nI t) m') (nI d) st (nI t) (nI k) 10000 τ1 else B_M_words_198 (L_M_words_66 K (nI d) st (nI t) m') (nI d) st (nI t) (nI k) 0 τ1) = L_M_words_66 K (nI d) st (nI t) m' (nI (k + 1)) (sF τ1 58 (nI a)) := by
          unfold B_M_words_198
          rw [nI_1]
          by_cases z1 : 0 ≤ v
          · rw [if_pos z1] at f2 ⊢
            by_cases z2 : v ≤ 10000
            · rw [if_pos z2] at f2 ⊢; rw [f2]
            · rw [if_neg z2] at f2 ⊢; rw [f2]
          · rw [if_neg z1] at f2 ⊢; rw [f2]
        rw [eW, f1, f2]
        refine go _ _ (fC.trans ((g3.mono (by simp) (by simp)).trans (FrC.f1 _ _ (by decide)))) (fM.trans ((g4.mono (by simp) (by simp)).trans (FrM.f1 _ _ (by decide)))) ?_ (Or.inr ⟨a, ha, ?_, ?_⟩)
        · unfold WR at hWR ⊢
          simp only [va_up, reduceIte, Nat.reduceEqDiff, g3.1 53 (by simp), g4.1 56 (by simp), g4.1 57 (by simp), g4.1 59 (by simp)]
          exact hWR
        · simp only [va_up, reduceIte]
        · simp only [va_up, reduceIte]
      rw [if_neg q3, if_neg q3]
      have q01 : τ0.2.1 30 (12 * t + k) = 0 ∨ τ0.2.1 30 (12 * t + k) = 1 := by
        obtain ⟨a, ha, ea⟩ := k1
        rw [ea] at q0 q2 q3 ⊢
        have h0 : ¬ 3 < a := fun z => q0 ((lit_lt 3 (by omega) (by omega)).mpr z)
        have h2 : ¬ a = 2 := fun z => q2 ((eq_lit 2 (by omega) (by omega)).mpr z)
        have h3 : ¬ a = 3 := fun z => q3 ((eq_lit 3 (by omega) (by omega)).mpr z)
        obtain rfl | rfl : a = 0 ∨ a = 1 := by omega
        · exact Or.inl rfl
        · exact Or.inr rfl
      -- the word
      have word : ∀ σ1 τ1, FrC [53, 54] [20] σ0 σ1 → FrM [56, 57, 58, 59] [55] τ0 τ1 → FR σ1 τ1 many → ∃ σ' τ', B_Laws_hear_147 (L_Laws_hear_20 (nI ac) (nI F) m) (nI ac) (nI F) (nI (cB τ0 t + k)) σ1 = L_Laws_hear_20 (nI ac) (nI F) (m - e) (nI (cB τ0 (t + 1))) σ' ∧ B_M_words_227 (L_M_words_66 K (nI d) st (nI t) m') (nI d) st (nI t) (nI k) (nI (12 * t + k)) τ1 = K (nI (t + 1)) τ' ∧ FrC [53, 54] [20] σ0 σ' ∧ FrM [56, 57, 58, 59] [55] τ0 τ' ∧ WR σ' τ' τ0 (rws σ0 3) ∧ FR σ' τ' many := by
        intro σ1 τ1 a1 a2 a3
        have eb : B_M_words_227 (L_M_words_66 K (nI d) st (nI t) m') (nI d) st (nI t) (nI k) (nI (12 * t + k)) τ1 = L_M_words_66 K (nI d) st (nI t) m' (nI (k + 1)) (sF (sF (sF τ1 56 (nI t)) 57 (nI k)) 59 (if τ0.2.1 30 (12 * t + k) = 0 then 1 else 0)) := by
          unfold B_M_words_227 B_M_words_254
          rw [gix_n i120 (by omega), rdn (by omega), a2.2 30 (by decide), nI_1]
          by_cases z : τ0.2.1 30 (12 * t + k) = 0
          · rw [if_pos z, if_pos z, grd_s (Or.inr rfl)]
          · rw [if_neg z, if_neg z, grd_s (Or.inl rfl)]
        rw [eb]
        unfold B_Laws_hear_147
        rw [nI_1]
        refine go _ _ (a1.trans (FrC.f1 _ _ (by decide))) (a2.trans ((FrM.f1 _ _ (by decide)).trans ((FrM.f1 _ _ (by decide)).trans (FrM.f1 _ _ (by decide))))) (Or.inr ⟨t, k, ht, hk, ?_, ?_, ?_, ?_⟩) ?_
        · simp only [va_up, reduceIte]
        · simp only [va_up, reduceIte, Nat.reduceEqDiff]
        · simp only [va_up, reduceIte, Nat.reduceEqDiff]
        · simp only [va_up, reduceIte]
        · unfold FR at a3 ⊢
          simp only [va_up, reduceIte, Nat.reduceEqDiff]
          exact a3
      have eI : f_Laws_isWithoutIf (nI (cB τ0 t + k)) σ = some (if cel σ0 4 (cB τ0 t + k) 4 = cel σ0 4 (cB τ0 t + k) 5 then 1 else 0, σ) := by
        unfold f_Laws_isWithoutIf
        rw [tb_gl hWs 4 (by omega) _ 4 hrow (by decide), bnd_s, tb_gl hWs 4 (by omega) _ 5 hrow (by decide), bnd_s, ec4, ec4, some_ite]
      rw [eI, bnd_s]
      rcases c7 q01 with ⟨n1, n2⟩ | hcod
      · rw [if_pos n2, if_neg i10, n1, if_pos (by decide)]
        exact word σ τ fC fM hFR
      · obtain ⟨v, σ1, τ1, g1, g2, g3, g4, g5⟩ := value_ag hW hT hf1 hf2 ht i120 (by omega) hcod fC fM
        obtain ⟨a, n, c0, M, f, x1, x2, x3, x4, x5, x6, -⟩ := hcod
        have h4000 : rws σ0 5 ≤ 4000 := hW.hr4 (by omega)
        have hne : ¬ cel σ0 4 (cB τ0 t + k) 4 = cel σ0 4 (cB τ0 t + k) 5 := by
          rw [x2, x3]
          intro z
          have := (nI_eq (by omega) (by omega)).mp z
          omega
        rw [if_neg hne, if_pos rfl, x5, if_neg (nI_pos (by omega)), g1, g2, bnd_s, bnd_s]
        have FC1 : FrC [53, 54] [20] σ0 σ1 := fC.trans (g3.mono (by simp) (by simp))
        have FM1 : FrM [56, 57, 58, 59] [55] τ0 τ1 := fM.trans (g4.mono (by simp) (by simp))
        have FR1 : FR σ1 τ1 many := by
          unfold FR at hFR ⊢
          rw [g3.1 54 (by simp), g4.1 58 (by simp)]
          exact hFR
        have WR1 : WR σ1 τ1 τ0 (rws σ0 3) := by
          unfold WR at hWR ⊢
          rw [g3.1 53 (by simp), g4.1 56 (by simp), g4.1 57 (by simp), g4.1 59 (by simp)]
          exact hWR
        rcases g5 rfl with z | z
        · rw [z, if_pos rfl, if_neg i01]
          exact go σ1 τ1 FC1 FM1 WR1 FR1
        · rw [z, if_neg i10, if_pos rfl]
          exact word σ1 τ1 FC1 FM1 FR1
    · rw [if_neg q1, if_neg q1]
      exact go σ τ fC fM hWR hFR
/-- texts not in force are passed by -/
theorem hear_skip (hW : WC σ0) (hT : ITxt σ0 τ0) (hC : ICls σ0 τ0) (hF : F < 2 ^ 10) {t : Nat} (ht : t < rws σ0 3) (hin : ¬ F.testBit t = true) : ∀ (e k m : Nat) (σ : CS), k + e = cM τ0 t → e < m → FrC [53, 54] [20] σ0 σ → L_Laws_hear_20 (nI ac) (nI F) m (nI (cB τ0 t + k)) σ = L_Laws_hear_20 (nI ac) (nI F) (m - e) (nI (cB τ0 (t + 1))) σ := by
  have h10 : rws σ0 3 ≤ 10 := hW.hlim (t := 3) (by omega)
  have h120 : rws σ0 4 ≤ 120 := hW.hlim (t := 4) (by omega)
  have hcb := cB_le τ0 ht
  rw [← hC.1] at hcb
  intro e
  induction e with
  | zero =>
    intro k m σ h1 h2 fC
    rw [cB_succ, Nat.sub_zero, show k = cM τ0 t by omega]
  | succ e ih =>
    intro k m σ h1 h2 fC
    obtain ⟨m, rfl⟩ : ∃ q, m = q + 1 := ⟨m - 1, by omega⟩
    have hWs : WC σ := hW.of (fun j hj => fC.1 j (by simp; omega)) (fun t ht => (fC.2 t (by simp; omega)).2)
    have er4 : rws σ 4 = rws σ0 4 := fC.fr (by decide)
    have hrow : cB τ0 t + k < rws σ 4 := by omega
    obtain ⟨c1, -⟩ := hC.2.2 t ht k (by omega)
    rw [show m + 1 - (e + 1) = m - e by omega, ← ih (k + 1) m σ (by omega) (by omega) fC]
    show bnd (f_Table_size 4 σ) _ = _
    have hb : F.testBit t = false := by cases h : F.testBit t with | true => exact absurd h hin | false => rfl
    rw [tb_size hWs 4 (by omega), bnd_s, if_neg (nI_ge hrow (by omega)), tb_gl hWs 4 (by omega) _ 0 hrow (by decide), bnd_s, fC.fc (by decide), c1, if_pos ((bit_0 (by omega) (by omega)).mpr hb), nI_1]
    rfl
theorem hear_all (hW : WC σ0) (hT : ITxt σ0 τ0) (hC : ICls σ0 τ0) (hTT : T = rws σ0 3) (hF : F < 2 ^ 10) (h37 : ∀ o, o < rws σ0 3 → τ0.2.1 37 o = if F.testBit o then 1 else 0) (hd : d < 60) (hac : ac ≤ 5) (h50 : τ0.2.1 50 d = nI ac) (h54 : τ0.2.1 54 d = many) (hf1 : ∀ g, g < 6 → σ0.2.1 21 g = fv g) (hf2 : ∀ g, g < 6 → ∀ τ', FrM [56, 57, 58, 59] [55] τ0 τ' → f_M_valueOf (nI g) (nI d) st τ' = some (fv g, τ')) :
    ∀ (e t m m' : Nat) (σ τ : CS), t + e = T → 130 * e < m → e < m' → FrC [53, 54] [20] σ0 σ → FrM [56, 57, 58, 59] [55] τ0 τ → WR σ τ τ0 T → FR σ τ many →
    ∃ σ' τ', L_Laws_hear_20 (nI ac) (nI F) m (nI (cB τ0 t)) σ = some (0, σ') ∧ L_M_words_43 (nI d) st m' (nI t) τ = some (0, τ') ∧ FrC [53, 54] [20] σ0 σ' ∧ FrM [56, 57, 58, 59] [55] τ0 τ' ∧ WR σ' τ' τ0 T ∧ FR σ' τ' many := by
  have h10 : rws σ0 3 ≤ 10 := hW.hlim (t := 3) (by omega)
  have h120 : rws σ0 4 ≤ 120 := hW.hlim (t := 4) (by omega)
  intro e
  induction e with
  | zero =>
    intro t m m' σ τ h1 h2 h2' fC fM hWR hFR
    obtain ⟨m, rfl⟩ : ∃ q, m = q + 1 := ⟨m - 1, by omega⟩
    obtain ⟨m', rfl⟩ : ∃ q, m' = q + 1 := ⟨m' - 1, by omega⟩
    have ht : t = rws σ0 3 := by omega
    have hWs : WC σ := hW.of (fun j hj => fC.1 j (by simp; omega)) (fun t ht => (fC.2 t (by simp; omega)).2)
    have er4 : rws σ 4 = rws σ0 4 := fC.fr (by decide)
    refine ⟨σ, τ, ?_, ?_, fC, fM, hWR, hFR⟩
    · show bnd (f_Table_size 4 σ) _ = _
      rw [tb_size hWs 4 (by omega), bnd_s, er4, hC.1, ht, if_pos (nI_le (Nat.le_refl _) (by rw [← hC.1]; omega))]
    · show (if τ.1 21 ≤ nI t then _ else _) = _
      rw [fM.1 21 (by decide), hT.1, ht, if_pos (nI_le (Nat.le_refl _) (by omega))]
  | succ e ih =>
    intro t m m' σ τ h1 h2 h2' fC fM hWR hFR
    obtain ⟨m', rfl⟩ : ∃ q, m' = q + 1 := ⟨m' - 1, by omega⟩
    have ht : t < rws σ0 3 := by omega
    have t3 := (hT.2 t ht).2.2.1
    have eM : L_M_words_43 (nI d) st (m' + 1) (nI t) τ = if (if F.testBit t then (1 : Int32) else 0) = 0 then L_M_words_43 (nI d) st m' (nI (t + 1)) τ else L_M_words_66 (L_M_words_43 (nI d) st m') (nI d) st (nI t) FU 0 τ := by
      show (if τ.1 21 ≤ nI t then _ else _) = _
      rw [fM.1 21 (by decide), hT.1, if_neg (nI_ge (by omega) (by omega)), gix_n (by omega) (by omega), rdn (by omega), fM.2 37 (by decide), h37 t ht, nI_1]
    rw [eM]
    by_cases q : F.testBit t = true
    · rw [if_pos q, if_neg i10]
      obtain ⟨σ1, τ1, g1, g2, g3, g4, g5, g6⟩ := hear_text hW hT hC hTT hF hd hac h50 h54 hf1 hf2 (t := t) (by omega) q (L_M_words_43 (nI d) st m') (cM τ0 t) 0 m FU σ τ (by omega) (by omega) (lt_FU (by omega)) fC fM hWR hFR
      have g1' : L_Laws_hear_20 (nI ac) (nI F) m (nI (cB τ0 t)) σ = _ := g1
      have g2' : L_M_words_66 (L_M_words_43 (nI d) st m') (nI d) st (nI t) FU 0 τ = _ := g2
      rw [g1', g2']
      exact ih (t + 1) (m - cM τ0 t) m' σ1 τ1 (by omega) (by omega) (by omega) g3 g4 g5 g6
    · rw [if_neg q, if_pos rfl]
      have g1 := hear_skip (ac := ac) hW hT hC hF ht q (cM τ0 t) 0 m σ (by omega) (by omega) fC
      have g1' : L_Laws_hear_20 (nI ac) (nI F) m (nI (cB τ0 t)) σ = _ := g1
      rw [g1']
      exact ih (t + 1) (m - cM τ0 t) m' σ τ (by omega) (by omega) (by omega) fC fM hWR hFR
end HEAR
