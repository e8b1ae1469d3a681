/-! ===== layer 2: rolls; the least quarrel, purely, and the reference's search ===== -/
def cst (w : Nat → Nat → Nat) (n S i : Nat) : Nat := sumN (fun j => if S.testBit j = true ∨ j = i then 0 else w i j) n
def Opt (w : Nat → Nat → Nat) (n : Nat) (LS : Nat → Nat) : Prop := (∀ S, S < 2 ^ n → (∀ i, i < n → S.testBit i = true) → LS S = 0) ∧ (∀ S i, S < 2 ^ n → i < n → S.testBit i = false → LS S ≤ cst w n S i + LS (S ||| 2 ^ i)) ∧ (∀ S, S < 2 ^ n → (∃ i, i < n ∧ S.testBit i = false) → ∃ i, i < n ∧ S.testBit i = false ∧ LS S = cst w n S i + LS (S ||| 2 ^ i)) ∧ ∀ S, S < 2 ^ n → LS S ≤ 32 * (n - cnt (fun i => S.testBit i) n)
def okB (w : Nat → Nat → Nat) (n : Nat) (LS : Nat → Nat) (S i : Nat) : Bool := decide (S.testBit i = false ∧ LS S = cst w n S i + LS (S ||| 2 ^ i))
def fst (P : Nat → Bool) : Nat → Nat
  | 0 => 0
  | m + 1 => if fst P m < m then fst P m else if P m = true then m else m + 1
theorem fst_s (P : Nat → Bool) (m : Nat) : fst P (m + 1) = if fst P m < m then fst P m else if P m = true then m else m + 1 := rfl
theorem fst_ok (P : Nat → Bool) : ∀ n, (fst P n < n ∧ P (fst P n) = true ∧ ∀ i, i < fst P n → P i = false) ∨ (fst P n = n ∧ ∀ i, i < n → P i = false) := by
  intro n
  induction n with
  | zero => exact Or.inr ⟨rfl, fun i hi => by omega⟩
  | succ n ih =>
    rw [fst_s]
    rcases ih with ⟨h1, h2, h3⟩ | ⟨h1, h2⟩
    · rw [if_pos h1]
      exact Or.inl ⟨by omega, h2, h3⟩
    · rw [if_neg (by omega)]
      by_cases q : P n = true
      · rw [if_pos q]
        exact Or.inl ⟨by omega, q, h2⟩
      · rw [if_neg q]
        refine Or.inr ⟨rfl, fun i hi => ?_⟩
        by_cases z : i = n
        · rw [z]; exact Bool.eq_false_iff.2 q
        · exact h2 i (by omega)
theorem fst_eq {P : Nat → Bool} {n i : Nat} (h1 : i < n) (h2 : P i = true) (h3 : ∀ j, j < i → P j = false) : fst P n = i := by
  rcases fst_ok P n with ⟨a, b, c⟩ | ⟨a, b⟩
  · by_cases q : fst P n < i
    · rw [h3 _ q] at b; cases b
    · by_cases q2 : i < fst P n
      · rw [c i q2] at h2; cases h2
      · omega
  · rw [b i h1] at h2; cases h2
def nx (w : Nat → Nat → Nat) (n : Nat) (LS : Nat → Nat) (S : Nat) : Nat := S ||| 2 ^ (fst (okB w n LS S) n)
def pth (w : Nat → Nat → Nat) (n : Nat) (LS : Nat → Nat) : Nat → Nat → Nat
  | 0, S => S
  | j + 1, S => pth w n LS j (nx w n LS S)
def gch (w : Nat → Nat → Nat) (n : Nat) (LS : Nat → Nat) (S j : Nat) : Nat := fst (okB w n LS (pth w n LS j S)) n
theorem gch_0 (w : Nat → Nat → Nat) (n : Nat) (LS : Nat → Nat) (S : Nat) : gch w n LS S 0 = fst (okB w n LS S) n := rfl
theorem gch_s (w : Nat → Nat → Nat) (n : Nat) (LS : Nat → Nat) (S j : Nat) : gch w n LS S (j + 1) = gch w n LS (nx w n LS S) j := rfl
theorem tb_or (S i j : Nat) : (S ||| 2 ^ i).testBit j = (S.testBit j || decide (j = i)) := by
  rw [Nat.testBit_or, Nat.testBit_two_pow]
  congr 1
  by_cases h : i = j
  · rw [decide_eq_true h, decide_eq_true h.symm]
  · rw [decide_eq_false h, decide_eq_false (fun z => h z.symm)]
theorem orlt8 {S i n : Nat} (h : S < 2 ^ n) (hi : i < n) : S ||| 2 ^ i < 2 ^ n := Nat.or_lt_two_pow h (Nat.pow_lt_pow_right (by omega) hi)
theorem cnt_set {P : Nat → Bool} {i : Nat} (h : P i = false) : ∀ n, cnt (fun j => P j || decide (j = i)) n = cnt P n + (if i < n then 1 else 0) := by
  intro n
  induction n with
  | zero => rfl
  | succ n ih =>
    show cnt (fun j => P j || decide (j = i)) n + (if (P n || decide (n = i)) = true then 1 else 0) = cnt P n + (if P n = true then 1 else 0) + (if i < n + 1 then 1 else 0)
    rw [ih]
    by_cases q : n = i
    · subst q
      simp [h]
    · rw [decide_eq_false q, Bool.or_false]
      by_cases z : i < n
      · rw [if_pos z, if_pos (show i < n + 1 by omega)]
        omega
      · rw [if_neg z, if_neg (show ¬ i < n + 1 by omega)]
        omega
theorem cnt_or {S i n : Nat} (h : S.testBit i = false) (hi : i < n) : cnt (fun j => (S ||| 2 ^ i).testBit j) n = cnt (fun j => S.testBit j) n + 1 := by
  have := cnt_set (P := fun j => S.testBit j) h n
  rw [if_pos hi] at this
  rw [← this]
  exact cnt_congr n (fun j _ => tb_or S i j)
theorem cnt_full {P : Nat → Bool} : ∀ n, cnt P n = n → ∀ i, i < n → P i = true := by
  intro n
  induction n with
  | zero => intro _ i hi; omega
  | succ n ih =>
    intro h i hi
    have h' : cnt P n + (if P n = true then 1 else 0) = n + 1 := h
    have := cnt_le P n
    by_cases q : P n = true
    · rw [if_pos q] at h'
      by_cases z : i = n
      · rw [z]; exact q
      · exact ih (by omega) i (by omega)
    · rw [if_neg q] at h'
      omega
theorem cnt_not {P : Nat → Bool} : ∀ n, cnt P n < n → ∃ i, i < n ∧ P i = false := by
  intro n
  induction n with
  | zero => intro h; omega
  | succ n ih =>
    intro h
    by_cases q : P n = true
    · have h' : cnt P n + (if P n = true then 1 else 0) < n + 1 := h
      rw [if_pos q] at h'
      obtain ⟨i, h1, h2⟩ := ih (by omega)
      exact ⟨i, by omega, h2⟩
    · exact ⟨n, by omega, Bool.eq_false_iff.2 q⟩
theorem cst_b {w : Nat → Nat → Nat} (hw : ∀ i j, w i j ≤ 4) {n S i : Nat} (hn : n ≤ 8) : cst w n S i ≤ 32 := by
  have := sumN_le (f := fun j => if S.testBit j = true ∨ j = i then 0 else w i j) (b := 4) n (fun j _ => by
    show (if S.testBit j = true ∨ j = i then 0 else w i j) ≤ 4
    split
    · omega
    · exact hw i j)
  unfold cst
  omega
/-- what the reference's search reads -/
def MQr (w : Nat → Nat → Nat) (n : Nat) (τ : CS) : Prop := τ.1 86 = nI n ∧ ∀ i j, i < n → j < n → τ.2.1 83 (8 * j + i) = nI (w i j)
theorem MQr.fr {w : Nat → Nat → Nat} {n : Nat} {τ τ' : CS} {I A : List Nat} (h : MQr w n τ) (f : FrM I A τ τ') (h1 : 86 ∉ I) (h2 : 83 ∉ A) : MQr w n τ' := ⟨(f.1 86 h1).trans h.1, fun i j hi hj => by rw [f.2 83 h2]; exact h.2 i j hi hj⟩
def Bt (b : Int32) (x : Nat) : Prop := b = -1 ∨ ∃ v, v ≤ 600 ∧ b = nI v ∧ x < v
theorem sum_90 {w : Nat → Nat → Nat} {n S i : Nat} (hw : ∀ i j, w i j ≤ 4) (hn : n ≤ 8) (hS : S < 2 ^ n) (hi : i < n) (rc : Nat → Int32 → Int32 → Int32 → CS → Option (Int32 × CS)) (K : Int32 → Int32 → CS → Option (Int32 × CS)) (x1 x3 : Int32) {τ : CS} (h : MQr w n τ) : ∀ (d j m : Nat), j + d = n → d < m → L_M_orders_90 rc K x1 (nI S) x3 (nI i) m (nI (sumN (fun j => if S.testBit j = true ∨ j = i then 0 else w i j) j)) (nI j) τ = K (nI i) (nI (cst w n S i)) τ := by
  have hS' : S < 2147483648 := Nat.lt_of_lt_of_le hS (Nat.le_trans (Nat.pow_le_pow_right (by omega) hn) (by decide))
  intro d
  induction d with
  | zero =>
    intro j m h1 h2
    obtain ⟨m, rfl⟩ : ∃ n, m = n + 1 := ⟨m - 1, by omega⟩
    have : j = n := by omega
    subst this
    rw [L_M_orders_90, h.1, if_pos (nI_le (Nat.le_refl _) (by omega))]
    rfl
  | succ d ih =>
    intro j m h1 h2
    obtain ⟨m, rfl⟩ : ∃ n, m = n + 1 := ⟨m - 1, by omega⟩
    rw [L_M_orders_90, h.1, if_neg (nI_ge (by omega) (by omega))]
    unfold B_M_orders_135
    have ih' := ih (j + 1) m (by omega) (by omega)
    have es : sumN (fun j => if S.testBit j = true ∨ j = i then 0 else w i j) (j + 1) = sumN (fun j => if S.testBit j = true ∨ j = i then 0 else w i j) j + (if S.testBit j = true ∨ j = i then 0 else w i j) := rfl
    rw [es] at ih'
    by_cases q : S.testBit j = true
    · rw [if_pos ((bit_1 hS' (by omega)).2 q), nI_1]
      rw [if_pos (Or.inl q), Nat.add_zero] at ih'
      show L_M_orders_90 rc K x1 (nI S) x3 (nI i) m (nI _ + nI 0) (nI (j + 1)) τ = _
      rw [nI_add, Nat.add_zero]
      exact ih'
    · rw [if_neg (fun z => q ((bit_1 hS' (by omega)).1 z))]
      by_cases q2 : j = i
      · rw [if_pos (by rw [q2]), nI_1]
        rw [if_pos (Or.inr q2), Nat.add_zero] at ih'
        show L_M_orders_90 rc K x1 (nI S) x3 (nI i) m (nI _ + nI 0) (nI (j + 1)) τ = _
        rw [nI_add, Nat.add_zero]
        exact ih'
      · have e8 : (8 : Int32) * nI j + nI i = nI (8 * j + i) := by rw [show (8 : Int32) = nI 8 from rfl, nI_mul, nI_add]
        rw [if_neg (fun z => q2 (nI_eqI (by omega) (by omega) z)), e8, gix_n (by omega) (by omega), rdn (by omega), h.2 i j hi (by omega), nI_add, nI_1]
        rw [if_neg (fun z => z.elim q q2)] at ih'
        exact ih'
theorem copy_85 {n : Nat} (hn : n ≤ 8) (rc : Nat → Int32 → Int32 → Int32 → CS → Option (Int32 × CS)) {o : Nat → Nat} : ∀ (d j m : Nat) (τ : CS), j + d = n → d < m → (∀ i, i < n → τ.2.1 84 i = nI (o i)) → (∀ i, i < j → τ.2.1 85 i = nI (o i)) → ∃ τ', L_M_orders_32 rc (nI n) m (nI j) τ = some (0, τ') ∧ FrM [] [85] τ τ' ∧ ∀ i, i < n → τ'.2.1 85 i = nI (o i) := by
  intro d
  induction d with
  | zero =>
    intro j m τ h1 h2 h3 h4
    obtain ⟨m, rfl⟩ : ∃ n, m = n + 1 := ⟨m - 1, by omega⟩
    exact ⟨τ, by rw [L_M_orders_32, if_pos (nI_le (by omega) (by omega))], FrM.refl _ _ _, fun i hi => h4 i (by omega)⟩
  | succ d ih =>
    intro j m τ h1 h2 h3 h4
    obtain ⟨m, rfl⟩ : ∃ n, m = n + 1 := ⟨m - 1, by omega⟩
    rw [L_M_orders_32, if_neg (nI_ge (by omega) (by omega)), gix_n (by omega) (by omega), gix_n (by omega) (by omega), wrn (by omega), rdn (by omega), h3 j (by omega), nI_1]
    obtain ⟨τ', g1, g2, g3⟩ := ih (j + 1) m (sA τ 85 (upd (τ.2.1 85) j (nI (o j)))) (by omega) (by omega) h3 (fun i hi => by
      simp only [va_up, reduceIte, upd]
      by_cases q : i = j
      · rw [if_pos q, q]
      · rw [if_neg q]; exact h4 i (by omega))
    exact ⟨τ', g1, (FrM.f2 _ _ (by decide)).trans g2, g3⟩
theorem orders_ag {w : Nat → Nat → Nat} {n : Nat} {LS : Nat → Nat} (hw : ∀ i j, w i j ≤ 4) (hn : n ≤ 8) (hO : Opt w n LS) : ∀ (r k S q d : Nat) (o : Nat → Nat) (τ : CS), k + r = n → r < d → S < 2 ^ n → cnt (fun i => S.testBit i) n = k → q ≤ 32 * k → MQr w n τ → (∀ j, j < k → τ.2.1 84 j = nI (o j)) → (τ.1 87 = -1 ∨ ∃ v, v ≤ 600 ∧ τ.1 87 = nI v) →
    ∃ v' τ', g_MO d 0 (nI k) (nI S) (nI q) τ = some (v', τ') ∧ FrM [87] [84, 85] τ τ' ∧ (∀ j, j < k → τ'.2.1 84 j = τ.2.1 84 j) ∧ ((Bt (τ.1 87) (q + LS S) ∧ τ'.1 87 = nI (q + LS S) ∧ ∀ j, j < n → τ'.2.1 85 j = nI (if j < k then o j else gch w n LS S (j - k))) ∨ (¬ Bt (τ.1 87) (q + LS S) ∧ τ'.1 87 = τ.1 87 ∧ ∀ j, j < n → τ'.2.1 85 j = τ.2.1 85 j)) := by
  have hpow : 2 ^ n ≤ 256 := Nat.le_trans (Nat.pow_le_pow_right (by omega) hn) (by decide)
  obtain ⟨O1, O2, O3, O4⟩ := hO
  intro r
  induction r with
  | zero =>
    intro k S q d o τ h1 h2 hS hc hq hM ho hb
    obtain ⟨d, rfl⟩ : ∃ n, d = n + 1 := ⟨d - 1, by omega⟩
    have hk : k = n := by omega
    subst hk
    have L0 : LS S = 0 := O1 S hS (fun i hi => cnt_full (P := fun i => S.testBit i) k hc i hi)
    rw [L0, Nat.add_zero]
    show ∃ v' τ', f_M_orders (g_MO d) (nI k) (nI S) (nI q) τ = some (v', τ') ∧ _
    unfold f_M_orders
    have leaf : Bt (τ.1 87) q → ∃ v' τ', B_M_orders_16 (g_MO d) (nI k) (nI S) (nI q) τ = some (v', τ') ∧ FrM [87] [84, 85] τ τ' ∧ (∀ j, j < k → τ'.2.1 84 j = τ.2.1 84 j) ∧ ((Bt (τ.1 87) q ∧ τ'.1 87 = nI q ∧ ∀ j, j < k → τ'.2.1 85 j = nI (if j < k then o j else gch w k LS S (j - k))) ∨ (¬ Bt (τ.1 87) q ∧ τ'.1 87 = τ.1 87 ∧ ∀ j, j < k → τ'.2.1 85 j = τ.2.1 85 j)) := by
      intro hB
      obtain ⟨τ', g1, g2, g3⟩ := copy_85 hn (g_MO d) (o := o) k 0 FU (sF τ 87 (nI q)) (by omega) (lt_FU (by omega)) ho (fun i hi => by omega)
      have g1' : L_M_orders_32 (g_MO d) (nI k) FU 0 (sF τ 87 (nI q)) = some (0, τ') := g1
      unfold B_M_orders_16
      rw [hM.1, if_pos rfl, g1']
      refine ⟨0, τ', rfl, (FrM.f1 _ _ (by decide)).trans (g2.mono (by decide) (by decide)), fun j hj => ?_, Or.inl ⟨hB, ?_, fun j hj => ?_⟩⟩
      · rw [g2.2 84 (by decide)]
      · rw [g2.1 87 (by decide)]; exact sF_self τ 87 _
      · rw [if_pos hj]; exact g3 j hj
    rcases hb with hb | ⟨v, hv, hb⟩
    · rw [if_pos (by rw [hb]; decide)]
      exact leaf (Or.inl hb)
    · rw [hb, if_neg (fun z => absurd ((lt_lit 0 (by omega) (by omega)).1 z) (by omega))]
      by_cases z : q < v
      · rw [if_pos ((nI_ltI (by omega) (by omega)).2 z), ← hb]
        exact leaf (Or.inr ⟨v, hv, hb, z⟩)
      · rw [if_neg (fun y => z ((nI_ltI (by omega) (by omega)).1 y))]
        refine ⟨0, τ, rfl, FrM.refl _ _ _, fun _ _ => rfl, Or.inr ⟨?_, hb, fun _ _ => rfl⟩⟩
        rintro (y | ⟨v', hv', y1, y2⟩)
        · exact absurd y (nI_neg1 (by omega))
        · have := nI_eqI (by omega) (by omega) y1
          omega
  | succ r ih =>
    intro k S q d o τ h1 h2 hS hc hq hM ho hb
    obtain ⟨d, rfl⟩ : ∃ n, d = n + 1 := ⟨d - 1, by omega⟩
    have hS' : S < 2147483648 := by omega
    have Lb : ∀ S', S' < 2 ^ n → LS S' ≤ 256 := fun S' h => by have := O4 S' h; omega
    show ∃ v' τ', f_M_orders (g_MO d) (nI k) (nI S) (nI q) τ = some (v', τ') ∧ _
    unfold f_M_orders
    have goal : ∃ v' τ', B_M_orders_16 (g_MO d) (nI k) (nI S) (nI q) τ = some (v', τ') ∧ FrM [87] [84, 85] τ τ' ∧ (∀ j, j < k → τ'.2.1 84 j = τ.2.1 84 j) ∧ ((Bt (τ.1 87) (q + LS S) ∧ τ'.1 87 = nI (q + LS S) ∧ ∀ j, j < n → τ'.2.1 85 j = nI (if j < k then o j else gch w n LS S (j - k))) ∨ (¬ Bt (τ.1 87) (q + LS S) ∧ τ'.1 87 = τ.1 87 ∧ ∀ j, j < n → τ'.2.1 85 j = τ.2.1 85 j)) := by
      unfold B_M_orders_16
      rw [hM.1, if_neg (fun z => by have := nI_eqI (by omega) (by omega) z; omega)]
      -- the loop
      have loop : ∀ (e i m : Nat) (τi : CS), i + e = n → e < m → FrM [87] [84, 85] τ τi → (∀ j, j < k → τi.2.1 84 j = τ.2.1 84 j) →
          (((∀ i', i' < i → S.testBit i' = false → ¬ Bt (τ.1 87) (q + cst w n S i' + LS (S ||| 2 ^ i'))) ∧ τi.1 87 = τ.1 87 ∧ ∀ j, j < n → τi.2.1 85 j = τ.2.1 85 j) ∨ (∃ i1, i1 < i ∧ S.testBit i1 = false ∧ Bt (τ.1 87) (q + cst w n S i1 + LS (S ||| 2 ^ i1)) ∧ (∀ i', i' < i1 → S.testBit i' = false → q + cst w n S i1 + LS (S ||| 2 ^ i1) < q + cst w n S i' + LS (S ||| 2 ^ i')) ∧ (∀ i', i' < i → S.testBit i' = false → q + cst w n S i1 + LS (S ||| 2 ^ i1) ≤ q + cst w n S i' + LS (S ||| 2 ^ i')) ∧ τi.1 87 = nI (q + cst w n S i1 + LS (S ||| 2 ^ i1)) ∧ ∀ j, j < n → τi.2.1 85 j = nI (if j < k then o j else if j = k then i1 else gch w n LS (S ||| 2 ^ i1) (j - (k + 1))))) →
          ∃ v' τ', L_M_orders_62 (g_MO d) (nI k) (nI S) (nI q) m (nI i) τi = some (v', τ') ∧ FrM [87] [84, 85] τ τ' ∧ (∀ j, j < k → τ'.2.1 84 j = τ.2.1 84 j) ∧
          (((∀ i', i' < n → S.testBit i' = false → ¬ Bt (τ.1 87) (q + cst w n S i' + LS (S ||| 2 ^ i'))) ∧ τ'.1 87 = τ.1 87 ∧ ∀ j, j < n → τ'.2.1 85 j = τ.2.1 85 j) ∨ (∃ i1, i1 < n ∧ S.testBit i1 = false ∧ Bt (τ.1 87) (q + cst w n S i1 + LS (S ||| 2 ^ i1)) ∧ (∀ i', i' < i1 → S.testBit i' = false → q + cst w n S i1 + LS (S ||| 2 ^ i1) < q + cst w n S i' + LS (S ||| 2 ^ i')) ∧ (∀ i', i' < n → S.testBit i' = false → q + cst w n S i1 + LS (S ||| 2 ^ i1) ≤ q + cst w n S i' + LS (S ||| 2 ^ i')) ∧ τ'.1 87 = nI (q + cst w n S i1 + LS (S ||| 2 ^ i1)) ∧ ∀ j, j < n → τ'.2.1 85 j = nI (if j < k then o j else if j = k then i1 else gch w n LS (S ||| 2 ^ i1) (j - (k + 1))))) := by
        intro e
        induction e with
        | zero =>
          intro i m τi g1 g2 g3 g4 g5
          obtain ⟨m, rfl⟩ : ∃ n, m = n + 1 := ⟨m - 1, by omega⟩
          have : i = n := by omega
          subst this
          exact ⟨0, τi, by rw [L_M_orders_62, (hM.fr g3 (by decide) (by decide)).1, if_pos (nI_le (Nat.le_refl _) (by omega))], g3, g4, g5⟩
        | succ e ihe =>
          intro i m τi g1 g2 g3 g4 g5
          obtain ⟨m, rfl⟩ : ∃ n, m = n + 1 := ⟨m - 1, by omega⟩
          have hMi := hM.fr g3 (by decide) (by decide)
          rw [L_M_orders_62, hMi.1, if_neg (nI_ge (by omega) (by omega))]
          by_cases qb : S.testBit i = true
          · rw [if_pos ((bit_1 hS' (by omega)).2 qb), nI_1]
            refine ihe (i + 1) m τi (by omega) (by omega) g3 g4 ?_
            rcases g5 with ⟨a1, a2⟩ | ⟨i1, b1, b2, b3, b4, b5, b6⟩
            · refine Or.inl ⟨fun i' hi' hu => ?_, a2⟩
              by_cases z : i' = i
              · rw [z, qb] at hu; cases hu
              · exact a1 i' (by omega) hu
            · refine Or.inr ⟨i1, by omega, b2, b3, b4, fun i' hi' hu => ?_, b6⟩
              by_cases z : i' = i
              · rw [z, qb] at hu; cases hu
              · exact b5 i' (by omega) hu
          · have hu : S.testBit i = false := Bool.eq_false_iff.2 qb
            have hcb := cst_b hw (S := S) (i := i) hn
            have s90 := sum_90 hw hn hS (show i < n by omega) (g_MO d) (B_M_orders_144 (g_MO d) (L_M_orders_62 (g_MO d) (nI k) (nI S) (nI q) m) (nI k) (nI S) (nI q)) (nI k) (nI q) hMi n 0 FU (by omega) (lt_FU (by omega))
            have s90' : L_M_orders_90 (g_MO d) (B_M_orders_144 (g_MO d) (L_M_orders_62 (g_MO d) (nI k) (nI S) (nI q) m) (nI k) (nI S) (nI q)) (nI k) (nI S) (nI q) (nI i) FU 0 0 τi = B_M_orders_144 (g_MO d) (L_M_orders_62 (g_MO d) (nI k) (nI S) (nI q) m) (nI k) (nI S) (nI q) (nI i) (nI (cst w n S i)) τi := s90
            rw [if_neg (fun z => qb ((bit_1 hS' (by omega)).1 z)), s90']
            unfold B_M_orders_144
            rw [gix_n (by omega) (by omega), nI_1, nI_1, nI_shl (by omega), nI_or, nI_add, wrn (by omega)]
            have hcS : cnt (fun j => (S ||| 2 ^ i).testBit j) n = k + 1 := by rw [cnt_or hu (by omega), hc]
            have hbi : τi.1 87 = -1 ∨ ∃ v, v ≤ 600 ∧ τi.1 87 = nI v := by
              rcases g5 with ⟨-, a2, -⟩ | ⟨i1, b1, -, -, -, -, b6, -⟩
              · rw [a2]; exact hb
              · have := cst_b hw (S := S) (i := i1) hn
                have := Lb (S ||| 2 ^ i1) (orlt8 hS (by omega))
                exact Or.inr ⟨_, by omega, b6⟩
            obtain ⟨v', τ2, k1, k2, k3, k4⟩ := ih (k + 1) (S ||| 2 ^ i) (q + cst w n S i) d (fun j => if j = k then i else o j) (sA τi 84 (upd (τi.2.1 84) k (nI i))) (by omega) (by omega) (orlt8 hS (by omega)) hcS (by omega) (hMi.fr (I := []) (A := [84]) (FrM.f2 _ _ (by decide)) (by decide) (by decide)) (fun j hj => by
              simp only [va_up, reduceIte, upd]
              by_cases z : j = k
              · rw [if_pos z, if_pos z]
              · rw [if_neg z, if_neg z, g4 j (by omega), ho j (by omega)]) hbi
            rw [k1, bnd_s]
            have f2 : FrM [87] [84, 85] τ τ2 := g3.trans ((FrM.f2 _ _ (by decide)).trans k2)
            have o2 : ∀ j, j < k → τ2.2.1 84 j = τ.2.1 84 j := fun j hj => by
              rw [k3 j (by omega)]
              simp only [va_up, reduceIte, upd, if_neg (show ¬ j = k by omega)]
              exact g4 j hj
            have k4' : (Bt (τi.1 87) (q + cst w n S i + LS (S ||| 2 ^ i)) ∧ τ2.1 87 = nI (q + cst w n S i + LS (S ||| 2 ^ i)) ∧ ∀ j, j < n → τ2.2.1 85 j = nI (if j < k then o j else if j = k then i else gch w n LS (S ||| 2 ^ i) (j - (k + 1)))) ∨ (¬ Bt (τi.1 87) (q + cst w n S i + LS (S ||| 2 ^ i)) ∧ τ2.1 87 = τi.1 87 ∧ ∀ j, j < n → τ2.2.1 85 j = τi.2.1 85 j) := by
              rcases k4 with ⟨x1, x2, x3⟩ | ⟨x1, x2, x3⟩
              · refine Or.inl ⟨x1, x2, fun j hj => ?_⟩
                rw [x3 j hj]
                congr 1
                show (if j < k + 1 then (if j = k then i else o j) else gch w n LS (S ||| 2 ^ i) (j - (k + 1))) = _
                by_cases z1 : j < k
                · rw [if_pos (show j < k + 1 by omega), if_neg (show ¬ j = k by omega), if_pos z1]
                · rw [if_neg z1]
                  by_cases z2 : j = k
                  · rw [if_pos (show j < k + 1 by omega), if_pos z2, if_pos z2]
                  · rw [if_neg (show ¬ j < k + 1 by omega), if_neg z2]
              · exact Or.inr ⟨x1, x2, x3⟩
            refine ihe (i + 1) m τ2 (by omega) (by omega) f2 o2 ?_
            rcases g5 with ⟨a1, a2, a3⟩ | ⟨i1, b1, b2, b3, b4, b5, b6, b7⟩
            · rw [a2] at k4'
              rcases k4' with ⟨x1, x2, x3⟩ | ⟨x1, x2, x3⟩
              · refine Or.inr ⟨i, by omega, hu, x1, fun i' hi' hu' => ?_, fun i' hi' hu' => ?_, x2, x3⟩
                · have y := a1 i' hi' hu'
                  rcases x1 with x1 | ⟨v, y1, y2, y3⟩
                  · exact absurd (Or.inl x1) y
                  · exact Nat.lt_of_lt_of_le y3 (Nat.not_lt.1 (fun z => y (Or.inr ⟨v, y1, y2, z⟩)))
                · by_cases z : i' = i
                  · rw [z]; exact Nat.le_refl _
                  · have y := a1 i' (by omega) hu'
                    rcases x1 with x1 | ⟨v, y1, y2, y3⟩
                    · exact absurd (Or.inl x1) y
                    · exact Nat.le_of_lt (Nat.lt_of_lt_of_le y3 (Nat.not_lt.1 (fun z => y (Or.inr ⟨v, y1, y2, z⟩))))
              · refine Or.inl ⟨fun i' hi' hu' => ?_, x2, fun j hj => (x3 j hj).trans (a3 j hj)⟩
                by_cases z : i' = i
                · rw [z]; exact x1
                · exact a1 i' (by omega) hu'
            · have c1b := cst_b hw (S := S) (i := i1) hn
              have L1b := Lb (S ||| 2 ^ i1) (orlt8 hS (by omega))
              have Lib := Lb (S ||| 2 ^ i) (orlt8 hS (by omega))
              rw [b6] at k4'
              rcases k4' with ⟨x1, x2, x3⟩ | ⟨x1, x2, x3⟩
              · have lt : q + cst w n S i + LS (S ||| 2 ^ i) < q + cst w n S i1 + LS (S ||| 2 ^ i1) := by
                  rcases x1 with x1 | ⟨v, y1, y2, y3⟩
                  · exact absurd x1 (nI_neg1 (by omega))
                  · have := nI_eqI (by omega) (by omega) y2
                    omega
                refine Or.inr ⟨i, by omega, hu, ?_, fun i' hi' hu' => ?_, fun i' hi' hu' => ?_, x2, x3⟩
                · rcases b3 with b3 | ⟨v, y1, y2, y3⟩
                  · exact Or.inl b3
                  · exact Or.inr ⟨v, y1, y2, by omega⟩
                · have := b5 i' hi' hu'; omega
                · by_cases z : i' = i
                  · rw [z]; exact Nat.le_refl _
                  · have := b5 i' (by omega) hu'; omega
              · have ge : q + cst w n S i1 + LS (S ||| 2 ^ i1) ≤ q + cst w n S i + LS (S ||| 2 ^ i) := Nat.not_lt.1 (fun z => x1 (Or.inr ⟨_, by omega, rfl, z⟩))
                refine Or.inr ⟨i1, by omega, b2, b3, b4, fun i' hi' hu' => ?_, x2.trans (by rfl), fun j hj => (x3 j hj).trans (b7 j hj)⟩
                by_cases z : i' = i
                · rw [z]; exact ge
                · exact b5 i' (by omega) hu'
      obtain ⟨v', τ', g1, g2, g3, g4⟩ := loop n 0 FU τ (by omega) (lt_FU (by omega)) (FrM.refl _ _ _) (fun _ _ => rfl) (Or.inl ⟨fun i' hi' => by omega, rfl, fun _ _ => rfl⟩)
      have g1' : L_M_orders_62 (g_MO d) (nI k) (nI S) (nI q) FU 0 τ = some (v', τ') := g1
      refine ⟨v', τ', g1', g2, g3, ?_⟩
      obtain ⟨i0, z1, z2, z3⟩ := O3 S hS (cnt_not (P := fun i => S.testBit i) n (by omega))
      rcases g4 with ⟨a1, a2, a3⟩ | ⟨i1, b1, b2, b3, b4, b5, b6, b7⟩
      · right
        have := a1 i0 z1 z2
        rw [show q + cst w n S i0 + LS (S ||| 2 ^ i0) = q + LS S by omega] at this
        exact ⟨this, a2, a3⟩
      · left
        have e1 := O2 S i1 hS b1 b2
        have e2 := b5 i0 z1 z2
        have e3 : q + cst w n S i1 + LS (S ||| 2 ^ i1) = q + LS S := by omega
        rw [e3] at b3 b6
        have hf : fst (okB w n LS S) n = i1 := by
          refine fst_eq b1 (decide_eq_true ⟨b2, by omega⟩) (fun j hj => decide_eq_false (fun y => ?_))
          have := b4 j hj y.1
          have := y.2
          omega
        refine ⟨b3, b6, fun j hj => ?_⟩
        rw [b7 j hj]
        congr 1
        by_cases y1 : j < k
        · rw [if_pos y1, if_pos y1]
        · rw [if_neg y1, if_neg y1]
          by_cases y2 : j = k
          · rw [if_pos y2, y2, Nat.sub_self, gch_0, hf]
          · rw [if_neg y2, show j - k = (j - (k + 1)) + 1 by omega, gch_s]
            unfold nx
            rw [hf]
    rcases hb with hb | ⟨v, hv, hb⟩
    · rw [if_pos (by rw [hb]; decide)]
      exact goal
    · rw [if_neg (by rw [hb]; exact fun z => absurd ((lt_lit 0 (by omega) (by omega)).1 z) (by omega))]
      by_cases z : q < v
      · rw [if_pos (by rw [hb]; exact (nI_ltI (by omega) (by omega)).2 z)]
        exact goal
      · rw [if_neg (by rw [hb]; exact fun y => z ((nI_ltI (by omega) (by omega)).1 y))]
        refine ⟨0, τ, rfl, FrM.refl _ _ _, fun _ _ => rfl, Or.inr ⟨?_, rfl, fun _ _ => rfl⟩⟩
        rintro (y | ⟨v', hv', y1, y2⟩)
        · exact absurd (hb.symm.trans y) (nI_neg1 (by omega))
        · have := nI_eqI (by omega) (by omega) (hb.symm.trans y1)
          omega
