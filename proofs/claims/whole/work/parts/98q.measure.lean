/-! ===== layer 2: rolls; the class's table of sets ===== -/
def mnO (f : Nat → Option Nat) : Nat → Option Nat
  | 0 => none
  | m + 1 => match mnO f m, f m with
    | none, x => x
    | some a, none => some a
    | some a, some b => some (min b a)
theorem mnO_s (f : Nat → Option Nat) (m : Nat) : mnO f (m + 1) = match mnO f m, f m with
    | none, x => x
    | some a, none => some a
    | some a, some b => some (min b a) := rfl
theorem mnO_ok (f : Nat → Option Nat) : ∀ n, (mnO f n = none ∧ ∀ i, i < n → f i = none) ∨ (∃ v, mnO f n = some v ∧ (∃ i, i < n ∧ f i = some v) ∧ ∀ i u, i < n → f i = some u → v ≤ u) := by
  intro n
  induction n with
  | zero => exact Or.inl ⟨rfl, fun i hi => by omega⟩
  | succ n ih =>
    rw [mnO_s]
    rcases ih with ⟨h1, h2⟩ | ⟨v, h1, ⟨i0, h2, h3⟩, h4⟩
    · rw [h1]
      cases e : f n with
      | none =>
        refine Or.inl ⟨rfl, fun i hi => ?_⟩
        by_cases z : i = n
        · rw [z]; exact e
        · exact h2 i (by omega)
      | some b =>
        refine Or.inr ⟨b, rfl, ⟨n, by omega, e⟩, fun i u hi hu => ?_⟩
        by_cases z : i = n
        · rw [z, e] at hu
          simp only [Option.some.injEq] at hu
          omega
        · rw [h2 i (by omega)] at hu; cases hu
    · rw [h1]
      cases e : f n with
      | none =>
        refine Or.inr ⟨v, rfl, ⟨i0, by omega, h3⟩, fun i u hi hu => ?_⟩
        by_cases z : i = n
        · rw [z, e] at hu; cases hu
        · exact h4 i u (by omega) hu
      | some b =>
        refine Or.inr ⟨min b v, rfl, ?_, fun i u hi hu => ?_⟩
        · by_cases z : b ≤ v
          · exact ⟨n, by omega, by rw [e, Nat.min_eq_left z]⟩
          · exact ⟨i0, by omega, by rw [h3, Nat.min_eq_right (by omega)]⟩
        · by_cases z : i = n
          · rw [z, e] at hu
            simp only [Option.some.injEq] at hu
            omega
          · have := h4 i u (by omega) hu
            omega
def LSr (w : Nat → Nat → Nat) (n : Nat) : Nat → Nat → Nat
  | 0, _ => 0
  | f + 1, S => (mnO (fun i => if S.testBit i = true then none else some (cst w n S i + LSr w n f (S ||| 2 ^ i))) n).getD 0
def LSf (w : Nat → Nat → Nat) (n S : Nat) : Nat := LSr w n (n - cnt (fun i => S.testBit i) n) S
def gS (w : Nat → Nat → Nat) (n S i : Nat) : Option Nat := if S.testBit i = true then none else some (cst w n S i + LSf w n (S ||| 2 ^ i))
theorem mnO_congr {f g : Nat → Option Nat} : ∀ n, (∀ i, i < n → f i = g i) → mnO f n = mnO g n := by
  intro n
  induction n with
  | zero => intro _; rfl
  | succ n ih =>
    intro h
    rw [mnO_s, mnO_s, ih (fun i hi => h i (by omega)), h n (by omega)]
theorem LSf_eq {w : Nat → Nat → Nat} {n S : Nat} (h : cnt (fun i => S.testBit i) n < n) : LSf w n S = (mnO (gS w n S) n).getD 0 := by
  obtain ⟨r, hr⟩ : ∃ r, n - cnt (fun i => S.testBit i) n = r + 1 := ⟨n - cnt (fun i => S.testBit i) n - 1, by omega⟩
  unfold LSf
  rw [hr]
  show (mnO _ n).getD 0 = _
  rw [mnO_congr (g := gS w n S) n (fun i hi => ?_)]
  unfold gS
  by_cases q : S.testBit i = true
  · rw [if_pos q, if_pos q]
  · rw [if_neg q, if_neg q]
    unfold LSf
    rw [cnt_or (Bool.eq_false_iff.2 q) hi, show n - (cnt (fun i => S.testBit i) n + 1) = r by omega]
theorem LSr_b {w : Nat → Nat → Nat} (hw : ∀ i j, w i j ≤ 4) {n : Nat} (hn : n ≤ 8) : ∀ f S, LSr w n f S ≤ 32 * f := by
  intro f
  induction f with
  | zero => intro S; exact Nat.le_refl _
  | succ f ih =>
    intro S
    show (mnO (fun i => if S.testBit i = true then none else some (cst w n S i + LSr w n f (S ||| 2 ^ i))) n).getD 0 ≤ _
    rcases mnO_ok (fun i => if S.testBit i = true then none else some (cst w n S i + LSr w n f (S ||| 2 ^ i))) n with ⟨h1, -⟩ | ⟨v, h1, ⟨i, h2, h3⟩, -⟩
    · rw [h1]; exact Nat.zero_le _
    · rw [h1]
      show v ≤ _
      have h3' : (if S.testBit i = true then none else some (cst w n S i + LSr w n f (S ||| 2 ^ i))) = some v := h3
      by_cases q : S.testBit i = true
      · rw [if_pos q] at h3'; cases h3'
      · rw [if_neg q] at h3'
        simp only [Option.some.injEq] at h3'
        have := cst_b hw (S := S) (i := i) hn
        have := ih (S ||| 2 ^ i)
        omega
theorem LSf_b {w : Nat → Nat → Nat} (hw : ∀ i j, w i j ≤ 4) {n : Nat} (hn : n ≤ 8) (S : Nat) : LSf w n S ≤ 256 := by
  have := LSr_b hw hn (n - cnt (fun i => S.testBit i) n) S
  unfold LSf
  omega
theorem LSf_opt {w : Nat → Nat → Nat} (hw : ∀ i j, w i j ≤ 4) {n : Nat} (hn : n ≤ 8) : Opt w n (LSf w n) := by
  have key : ∀ S, (∃ i, i < n ∧ S.testBit i = false) → ∃ v, mnO (gS w n S) n = some v ∧ LSf w n S = v ∧ (∃ i, i < n ∧ gS w n S i = some v) ∧ ∀ i u, i < n → gS w n S i = some u → v ≤ u := by
    rintro S ⟨i0, h1, h2⟩
    have hc : cnt (fun i => S.testBit i) n < n := by
      by_cases z : cnt (fun i => S.testBit i) n < n
      · exact z
      · have := cnt_le (fun i => S.testBit i) n
        have := cnt_full (P := fun i => S.testBit i) n (by omega) i0 h1
        have h2' : S.testBit i0 = true := this
        rw [h2] at h2'; cases h2'
    rcases mnO_ok (gS w n S) n with ⟨-, h4⟩ | ⟨v, h3, h4, h5⟩
    · have := h4 i0 h1
      unfold gS at this
      rw [if_neg (by rw [h2]; decide)] at this
      cases this
    · refine ⟨v, h3, ?_, h4, h5⟩
      rw [LSf_eq hc, h3]
      rfl
  refine ⟨fun S _ h => ?_, fun S i hS hi hu => ?_, fun S hS h => ?_, fun S hS => LSr_b hw hn _ S⟩
  · have : cnt (fun i => S.testBit i) n = n := by
      have := cnt_le (fun i => S.testBit i) n
      by_cases z : cnt (fun i => S.testBit i) n < n
      · obtain ⟨i, h1, h2⟩ := cnt_not (P := fun i => S.testBit i) n z
        have h3 := h i h1
        have h2' : S.testBit i = false := h2
        rw [h2'] at h3; cases h3
      · omega
    unfold LSf
    rw [this, Nat.sub_self]
    rfl
  · obtain ⟨v, h1, h2, -, h4⟩ := key S ⟨i, hi, hu⟩
    rw [h2]
    exact h4 i _ hi (by unfold gS; rw [if_neg (by rw [hu]; decide)])
  · obtain ⟨v, h1, h2, ⟨i, h3, h4⟩, -⟩ := key S h
    unfold gS at h4
    by_cases q : S.testBit i = true
    · rw [if_pos q] at h4; cases h4
    · rw [if_neg q] at h4
      simp only [Option.some.injEq] at h4
      exact ⟨i, h3, Bool.eq_false_iff.2 q, by omega⟩
/-- what the class's table is made of -/
def MC (w : Nat → Nat → Nat) (n : Nat) (σ : CS) : Prop := σ.1 64 = nI n ∧ ∀ i j, i < n → j < n → σ.2.1 24 (8 * i + j) = nI (w i j)
theorem MC.fr {w : Nat → Nat → Nat} {n : Nat} {σ σ' : CS} {I A : List Nat} (h : MC w n σ) (f : FrC I A σ σ') (h1 : 64 ∉ I) (h2 : 24 ∉ A) : MC w n σ' := ⟨(f.1 64 h1).trans h.1, fun i j hi hj => by rw [(f.2 24 h2).1]; exact h.2 i j hi hj⟩
theorem or_add {S i : Nat} (h : S.testBit i = false) : S < S ||| 2 ^ i := by
  have h1 : S ≤ S ||| 2 ^ i := Nat.left_le_or
  have h2 : S ≠ S ||| 2 ^ i := fun z => by
    have := tb_or S i i
    rw [← z, h, decide_eq_true rfl] at this
    cases this
  omega
theorem quarrelC {w : Nat → Nat → Nat} (hw : ∀ i j, w i j ≤ 4) {n S i L : Nat} (hn : n ≤ 8) (hS : S < 2 ^ n) (hi : i < n) {σ : CS} (h : MC w n σ) (hL : L ≤ 256) (e25 : σ.2.1 25 (S ||| 2 ^ i) = nI L) : f_Rolls_quarrelOf (nI i) (nI S) σ = some (nI (cst w n S i + L), σ) := by
  have hpow : 2 ^ n ≤ 256 := Nat.le_trans (Nat.pow_le_pow_right (by omega) hn) (by decide)
  have hA := orlt8 hS hi
  have lp : ∀ (d j m : Nat), j + d = n → d < m → L_Rolls_quarrelOf_30 (nI i) (nI (S ||| 2 ^ i)) m (nI (L + sumN (fun j => if S.testBit j = true ∨ j = i then 0 else w i j) j)) (nI j) σ = some (nI (L + cst w n S i), σ) := by
    intro d
    induction d with
    | zero =>
      intro j m h1 h2
      obtain ⟨m, rfl⟩ : ∃ n, m = n + 1 := ⟨m - 1, by omega⟩
      have : j = n := by omega
      subst this
      rw [L_Rolls_quarrelOf_30, h.1, if_pos (nI_le (Nat.le_refl _) (by omega))]
      rfl
    | succ d ih =>
      intro j m h1 h2
      obtain ⟨m, rfl⟩ : ∃ n, m = n + 1 := ⟨m - 1, by omega⟩
      have ih' := ih (j + 1) m (by omega) (by omega)
      have es : sumN (fun j => if S.testBit j = true ∨ j = i then 0 else w i j) (j + 1) = sumN (fun j => if S.testBit j = true ∨ j = i then 0 else w i j) j + (if S.testBit j = true ∨ j = i then 0 else w i j) := rfl
      rw [es] at ih'
      rw [L_Rolls_quarrelOf_30, h.1, if_neg (nI_ge (by omega) (by omega)), nI_1]
      have tb := tb_or S i j
      by_cases q : S.testBit j = true ∨ j = i
      · have : (S ||| 2 ^ i).testBit j = true := by
          rw [tb]
          rcases q with q | q
          · rw [q]; rfl
          · rw [decide_eq_true q, Bool.or_true]
        rw [if_neg (fun z => by have := (bit_0 (by omega) (by omega)).1 z; simp_all)]
        rw [if_pos q, Nat.add_zero] at ih'
        exact ih'
      · have : (S ||| 2 ^ i).testBit j = false := by
          rw [tb, decide_eq_false (fun z => q (Or.inr z)), Bool.or_false]
          exact Bool.eq_false_iff.2 (fun z => q (Or.inl z))
        have e8 : nI i * (8 : Int32) + nI j = nI (8 * i + j) := by rw [show (8 : Int32) = nI 8 from rfl, nI_mul, nI_add, Nat.mul_comm]
        rw [if_pos ((bit_0 (by omega) (by omega)).2 this), e8, if_neg (fun z => absurd ((lit_le 64 (by omega) (by omega)).1 z) (by omega)), gix_n (by omega) (by omega), rdn (by omega), h.2 i j hi (by omega), nI_add]
        rw [if_neg q, ← Nat.add_assoc] at ih'
        exact ih'
  unfold f_Rolls_quarrelOf
  rw [nI_shl (by omega), nI_or, if_neg (fun z => absurd ((lit_le 256 (by omega) (by omega)).1 z) (by omega)), gix_n (by omega) (by omega), rdn (by omega), e25, Nat.add_comm]
  exact lp n 0 FU (by omega) (lt_FU (by omega))
def encO (o : Option Nat) : Int32 := match o with
  | none => -1
  | some v => nI v
theorem mnO_b {w : Nat → Nat → Nat} (hw : ∀ i j, w i j ≤ 4) {n S : Nat} (hn : n ≤ 8) {m v : Nat} (h : mnO (gS w n S) m = some v) : v ≤ 300 := by
  rcases mnO_ok (gS w n S) m with ⟨h1, -⟩ | ⟨u, h1, ⟨i, h2, h3⟩, -⟩
  · rw [h1] at h; cases h
  · rw [h1] at h
    simp only [Option.some.injEq] at h
    subst h
    unfold gS at h3
    by_cases q : S.testBit i = true
    · rw [if_pos q] at h3; cases h3
    · rw [if_neg q] at h3
      simp only [Option.some.injEq] at h3
      have := cst_b hw (S := S) (i := i) hn
      have := LSf_b hw hn (S ||| 2 ^ i)
      omega
theorem meas_43 {w : Nat → Nat → Nat} (hw : ∀ i j, w i j ≤ 4) {n S : Nat} (hn : n ≤ 8) (hS : S < 2 ^ n) (K : Int32 → CS → Option (Int32 × CS)) (all : Int32) : ∀ (d i m : Nat) (σ : CS), i + d = n → d < m → MC w n σ → (∀ S', S < S' → S' < 2 ^ n → σ.2.1 25 S' = nI (LSf w n S')) → (cnt (fun i => S.testBit i) n < n → σ.2.1 25 S = encO (mnO (gS w n S) i)) → ∃ σ', L_Rolls_measure_43 K all (nI S) m (nI i) σ = K (nI S + (-1)) σ' ∧ FrC [] [25] σ σ' ∧ (∀ S', S' ≠ S → σ'.2.1 25 S' = σ.2.1 25 S') ∧ (cnt (fun i => S.testBit i) n < n → σ'.2.1 25 S = encO (mnO (gS w n S) n)) ∧ (¬ cnt (fun i => S.testBit i) n < n → σ'.2.1 25 S = σ.2.1 25 S) := by
  have hpow : 2 ^ n ≤ 256 := Nat.le_trans (Nat.pow_le_pow_right (by omega) hn) (by decide)
  intro d
  induction d with
  | zero =>
    intro i m σ h1 h2 hM hL hS25
    obtain ⟨m, rfl⟩ : ∃ n, m = n + 1 := ⟨m - 1, by omega⟩
    have : i = n := by omega
    subst this
    exact ⟨σ, by rw [L_Rolls_measure_43, hM.1, if_pos (nI_le (Nat.le_refl _) (by omega))], FrC.refl _ _ _, fun _ _ => rfl, hS25, fun _ => rfl⟩
  | succ d ih =>
    intro i m σ h1 h2 hM hL hS25
    obtain ⟨m, rfl⟩ : ∃ n, m = n + 1 := ⟨m - 1, by omega⟩
    rw [L_Rolls_measure_43, hM.1, if_neg (nI_ge (by omega) (by omega)), nI_1]
    by_cases q : S.testBit i = true
    · rw [if_neg (fun z => by have := (bit_0 (by omega) (by omega)).1 z; simp_all)]
      refine ih (i + 1) m σ (by omega) (by omega) hM hL (fun hc => ?_)
      rw [hS25 hc, mnO_s]
      have : gS w n S i = none := by unfold gS; rw [if_pos q]
      rw [this]
      cases mnO (gS w n S) i <;> rfl
    · have hu : S.testBit i = false := Bool.eq_false_iff.2 q
      have hc : cnt (fun i => S.testBit i) n < n := by
        by_cases z : cnt (fun i => S.testBit i) n < n
        · exact z
        · have := cnt_le (fun i => S.testBit i) n
          exact absurd (cnt_full (P := fun i => S.testBit i) n (by omega) i (by omega)) q
      have hgt := or_add hu
      have hlt := orlt8 hS (show i < n by omega)
      have e25 := hL (S ||| 2 ^ i) hgt hlt
      have hb := LSf_b hw hn (S ||| 2 ^ i)
      have hcb := cst_b hw (S := S) (i := i) hn
      have eg : gS w n S i = some (cst w n S i + LSf w n (S ||| 2 ^ i)) := by unfold gS; rw [if_neg q]
      rw [if_pos ((bit_0 (by omega) (by omega)).2 hu), quarrelC hw hn hS (by omega) hM hb e25, bnd_s]
      unfold B_Rolls_measure_98
      rw [gix_n (show S < 256 by omega) (by omega), gix_n (show S < 256 by omega) (by omega), gix_n (show S < 256 by omega) (by omega), gix_n (show S < 256 by omega) (by omega), rdn (show S < 2147483648 by omega), wrn (show S < 2147483648 by omega), wrn (show S < 2147483648 by omega), hS25 hc, nI_1]
      -- one cell anew
      have one : ∀ v : Int32, v = encO (mnO (gS w n S) (i + 1)) → ∃ σ', L_Rolls_measure_43 K all (nI S) m (nI (i + 1)) (sA σ 25 (upd (σ.2.1 25) S v)) = K (nI S + (-1)) σ' ∧ FrC [] [25] σ σ' ∧ (∀ S', S' ≠ S → σ'.2.1 25 S' = σ.2.1 25 S') ∧ (cnt (fun i => S.testBit i) n < n → σ'.2.1 25 S = encO (mnO (gS w n S) n)) ∧ (¬ cnt (fun i => S.testBit i) n < n → σ'.2.1 25 S = σ.2.1 25 S) := by
        intro v hv
        have f1 : FrC [] [25] σ (sA σ 25 (upd (σ.2.1 25) S v)) := FrC.f2 _ _ (by decide)
        obtain ⟨σ', g1, g2, g3, g4, -⟩ := ih (i + 1) m (sA σ 25 (upd (σ.2.1 25) S v)) (by omega) (by omega) (hM.fr f1 (by decide) (by decide)) (fun S' h3 h4 => by
          simp only [va_up, reduceIte, upd]
          rw [if_neg (by omega)]
          exact hL S' h3 h4) (fun _ => by simp only [va_up, reduceIte, upd]; exact hv)
        refine ⟨σ', g1, f1.trans g2, fun S' hS' => ?_, g4, fun z => absurd hc z⟩
        rw [g3 S' hS']
        simp only [va_up, reduceIte, upd]
        rw [if_neg hS']
      cases eo : mnO (gS w n S) i with
      | none =>
        rw [if_pos (show encO none = -1 from rfl)]
        obtain ⟨σ', x1, x2, x3, x4, -⟩ := one (nI (cst w n S i + LSf w n (S ||| 2 ^ i))) (by rw [mnO_s, eo, eg]; rfl)
        exact ⟨σ', x1, x2, x3, x4, fun z => absurd hc z⟩
      | some v =>
        have hv := mnO_b hw hn eo
        rw [if_neg (show ¬ encO (some v) = -1 from nI_neg1 (by omega))]
        suffices hv' : (if nI (cst w n S i + LSf w n (S ||| 2 ^ i)) < encO (some v) then nI (cst w n S i + LSf w n (S ||| 2 ^ i)) else encO (some v)) = encO (mnO (gS w n S) (i + 1)) by
          obtain ⟨σ', x1, x2, x3, x4, -⟩ := one _ hv'
          exact ⟨σ', x1, x2, x3, x4, fun z => absurd hc z⟩
        rw [mnO_s, eo, eg]
        show (if nI (cst w n S i + LSf w n (S ||| 2 ^ i)) < nI v then nI (cst w n S i + LSf w n (S ||| 2 ^ i)) else nI v) = nI (min (cst w n S i + LSf w n (S ||| 2 ^ i)) v)
        by_cases z : cst w n S i + LSf w n (S ||| 2 ^ i) < v
        · rw [if_pos ((nI_ltI (by omega) (by omega)).2 z), Nat.min_eq_left (by omega)]
        · rw [if_neg (fun y => z ((nI_ltI (by omega) (by omega)).1 y)), Nat.min_eq_right (by omega)]
theorem all_bits {n i : Nat} (h : i < n) : (2 ^ n - 1).testBit i = true := by
  rw [Nat.testBit_two_pow_sub_one]
  exact decide_eq_true h
theorem all_cnt (n : Nat) : cnt (fun i => (2 ^ n - 1).testBit i) n = n := by
  have := cnt_le (fun i => (2 ^ n - 1).testBit i) n
  by_cases z : cnt (fun i => (2 ^ n - 1).testBit i) n < n
  · obtain ⟨i, h1, h2⟩ := cnt_not (P := fun i => (2 ^ n - 1).testBit i) n z
    have h2' : (2 ^ n - 1).testBit i = false := h2
    rw [all_bits h1] at h2'; cases h2'
  · omega
theorem not_all {n S : Nat} (hS : S < 2 ^ n) (h : S ≠ 2 ^ n - 1) : cnt (fun i => S.testBit i) n < n := by
  by_cases z : cnt (fun i => S.testBit i) n < n
  · exact z
  · have hl := cnt_le (fun i => S.testBit i) n
    exact absurd (Nat.eq_of_testBit_eq (fun i => by
      by_cases y : i < n
      · rw [all_bits y]
        exact cnt_full (P := fun i => S.testBit i) n (by omega) i y
      · have hp : 2 ^ n ≤ 2 ^ i := Nat.pow_le_pow_right (by omega) (by omega)
        rw [Nat.testBit_lt_two_pow (by omega), Nat.testBit_lt_two_pow (by omega)])) h
theorem measureC {w : Nat → Nat → Nat} (hw : ∀ i j, w i j ≤ 4) {n : Nat} (hn : n ≤ 8) {σ : CS} (hM : MC w n σ) : ∃ σ', f_Rolls_measure σ = some (0, σ') ∧ FrC [] [25] σ σ' ∧ ∀ S, S < 2 ^ n → σ'.2.1 25 S = nI (LSf w n S) := by
  have hpow : 2 ^ n ≤ 256 := Nat.le_trans (Nat.pow_le_pow_right (by omega) hn) (by decide)
  have hpos : 0 < 2 ^ n := Nat.pow_pos (by omega)
  have lp : ∀ (s m : Nat) (σ1 : CS), s ≤ 2 ^ n → s < m → MC w n σ1 → (∀ S', s ≤ S' → S' < 2 ^ n → σ1.2.1 25 S' = nI (LSf w n S')) → ∃ σ', L_Rolls_measure_21 (nI (2 ^ n - 1)) m (nI s - 1) σ1 = some (0, σ') ∧ FrC [] [25] σ1 σ' ∧ ∀ S, S < 2 ^ n → σ'.2.1 25 S = nI (LSf w n S) := by
    intro s
    induction s with
    | zero =>
      intro m σ1 h1 h2 h3 h4
      obtain ⟨m, rfl⟩ : ∃ n, m = n + 1 := ⟨m - 1, by omega⟩
      exact ⟨σ1, by rw [L_Rolls_measure_21, if_pos (by decide)], FrC.refl _ _ _, fun S hS => h4 S (Nat.zero_le _) hS⟩
    | succ s ih =>
      intro m σ1 h1 h2 h3 h4
      obtain ⟨m, rfl⟩ : ∃ n, m = n + 1 := ⟨m - 1, by omega⟩
      rw [L_Rolls_measure_21, nI_p1, if_neg (nI_pos (by omega))]
      unfold B_Rolls_measure_40
      rw [gix_n (show s < 256 by omega) (by omega), gix_n (show s < 256 by omega) (by omega), wrn (show s < 2147483648 by omega), wrn (show s < 2147483648 by omega)]
      have nm : nI s + (-1) = nI s - 1 := (Int32.sub_eq_add_neg _ _).symm
      have go : ∀ z : Int32, (s = 2 ^ n - 1 → z = 0) → (s ≠ 2 ^ n - 1 → z = -1) → ∃ σ', L_Rolls_measure_43 (L_Rolls_measure_21 (nI (2 ^ n - 1)) m) (nI (2 ^ n - 1)) (nI s) FU 0 (sA σ1 25 (upd (σ1.2.1 25) s z)) = some (0, σ') ∧ FrC [] [25] σ1 σ' ∧ ∀ S, S < 2 ^ n → σ'.2.1 25 S = nI (LSf w n S) := by
        intro z hz1 hz2
        have f1 : FrC [] [25] σ1 (sA σ1 25 (upd (σ1.2.1 25) s z)) := FrC.f2 _ _ (by decide)
        have es : (sA σ1 25 (upd (σ1.2.1 25) s z)).2.1 25 s = z := by simp [va_up, upd]
        have eo : ∀ S', S' ≠ s → (sA σ1 25 (upd (σ1.2.1 25) s z)).2.1 25 S' = σ1.2.1 25 S' := fun S' h => by
          simp only [va_up, reduceIte, upd]
          rw [if_neg h]
        obtain ⟨σ2, g1, g2, g3, g4, g5⟩ := meas_43 hw hn (show s < 2 ^ n by omega) (L_Rolls_measure_21 (nI (2 ^ n - 1)) m) (nI (2 ^ n - 1)) n 0 FU (sA σ1 25 (upd (σ1.2.1 25) s z)) (by omega) (lt_FU (by omega)) (h3.fr f1 (by decide) (by decide)) (fun S' x1 x2 => by rw [eo S' (by omega)]; exact h4 S' (by omega) x2) (fun hc => by
          rw [es, hz2 (fun y => by rw [y, all_cnt] at hc; omega)]
          rfl)
        have g1' : L_Rolls_measure_43 (L_Rolls_measure_21 (nI (2 ^ n - 1)) m) (nI (2 ^ n - 1)) (nI s) FU 0 (sA σ1 25 (upd (σ1.2.1 25) s z)) = L_Rolls_measure_21 (nI (2 ^ n - 1)) m (nI s + (-1)) σ2 := g1
        have v2 : σ2.2.1 25 s = nI (LSf w n s) := by
          by_cases y : s = 2 ^ n - 1
          · rw [g5 (by rw [y, all_cnt]; omega), es, hz1 y]
            have : LSf w n s = 0 := (LSf_opt hw hn).1 s (by omega) (fun i hi => by rw [y]; exact all_bits hi)
            rw [this]
            rfl
          · have hc := not_all (show s < 2 ^ n by omega) y
            rw [g4 hc, LSf_eq hc]
            rcases mnO_ok (gS w n s) n with ⟨x1, x2⟩ | ⟨v, x1, -⟩
            · obtain ⟨i, y1, y2⟩ := cnt_not (P := fun i => s.testBit i) n hc
              have := x2 i y1
              unfold gS at this
              have y2' : s.testBit i = false := y2
              rw [if_neg (by rw [y2']; decide)] at this
              cases this
            · rw [x1]; rfl
        rw [g1', nm]
        obtain ⟨σ3, k1, k2, k3⟩ := ih m σ2 (by omega) (by omega) (h3.fr (f1.trans g2) (by decide) (by decide)) (fun S' x1 x2 => by
          by_cases y : S' = s
          · rw [y]; exact v2
          · rw [g3 S' y, eo S' y]; exact h4 S' (by omega) x2)
        exact ⟨σ3, k1, (f1.trans g2).trans k2, k3⟩
      by_cases y : s = 2 ^ n - 1
      · rw [if_pos (by rw [y])]
        exact go 0 (fun _ => rfl) (fun z => absurd y z)
      · rw [if_neg (fun z => y (nI_eqI (by omega) (by omega) z))]
        exact go (-1) (fun z => absurd z y) (fun _ => rfl)
  have e1 : nI (2 ^ n) - 1 = nI (2 ^ n - 1) := nI_sl 1 (by omega)
  obtain ⟨σ', g1, g2, g3⟩ := lp (2 ^ n) FU σ (Nat.le_refl _) (lt_FU (by omega)) hM (fun S' x1 x2 => by omega)
  refine ⟨σ', ?_, g2, g3⟩
  unfold f_Rolls_measure
  rw [hM.1, nI_shl (by omega), e1, if_neg (fun z => by
    have : (255 : Int32) < nI (2 ^ n - 1) := z
    have := (lit_lt 255 (by omega) (by omega)).1 this
    omega), ← e1]
  rw [e1] at g1 ⊢
  exact g1
theorem pth_s (w : Nat → Nat → Nat) (n : Nat) (LS : Nat → Nat) : ∀ j S, pth w n LS (j + 1) S = nx w n LS (pth w n LS j S) := by
  intro j
  induction j with
  | zero => intro S; rfl
  | succ j ih =>
    intro S
    show pth w n LS (j + 1) (nx w n LS S) = _
    rw [ih]
    rfl
theorem path_ok {w : Nat → Nat → Nat} {n : Nat} {LS : Nat → Nat} (hO : Opt w n LS) : ∀ k, k ≤ n → pth w n LS k 0 < 2 ^ n ∧ cnt (fun i => (pth w n LS k 0).testBit i) n = k := by
  intro k
  induction k with
  | zero =>
    intro _
    refine ⟨Nat.pow_pos (by omega), ?_⟩
    have : ∀ n, cnt (fun i => (0 : Nat).testBit i) n = 0 := fun n => by
      induction n with
      | zero => rfl
      | succ n ih =>
        show cnt (fun i => (0 : Nat).testBit i) n + (if (0 : Nat).testBit n = true then 1 else 0) = 0
        rw [ih, Nat.zero_testBit, if_neg (by decide)]
    exact this n
  | succ k ih =>
    intro hk
    obtain ⟨h1, h2⟩ := ih (by omega)
    rw [pth_s]
    obtain ⟨i, a1, a2, a3⟩ := hO.2.2.1 _ h1 (cnt_not (P := fun i => (pth w n LS k 0).testBit i) n (by omega))
    rcases fst_ok (okB w n LS (pth w n LS k 0)) n with ⟨b1, b2, -⟩ | ⟨-, b2⟩
    · have b2' := of_decide_eq_true b2
      unfold nx
      exact ⟨orlt8 h1 b1, by rw [cnt_or b2'.1 b1, h2]⟩
    · have := b2 i a1
      have := of_decide_eq_false this
      exact absurd ⟨a2, a3⟩ this
theorem fst_lt {w : Nat → Nat → Nat} {n : Nat} {LS : Nat → Nat} (hO : Opt w n LS) {k : Nat} (hk : k < n) : gch w n LS 0 k < n ∧ okB w n LS (pth w n LS k 0) (gch w n LS 0 k) = true ∧ ∀ i, i < gch w n LS 0 k → okB w n LS (pth w n LS k 0) i = false := by
  obtain ⟨h1, h2⟩ := path_ok hO k (by omega)
  obtain ⟨i, a1, a2, a3⟩ := hO.2.2.1 _ h1 (cnt_not (P := fun i => (pth w n LS k 0).testBit i) n (by omega))
  rcases fst_ok (okB w n LS (pth w n LS k 0)) n with b | ⟨-, b2⟩
  · exact b
  · exact absurd ⟨a2, a3⟩ (of_decide_eq_false (b2 i a1))
theorem chooseC {w : Nat → Nat → Nat} (hw : ∀ i j, w i j ≤ 4) {n : Nat} (hn : n ≤ 8) {σ : CS} (hM : MC w n σ) (hL : ∀ S, S < 2 ^ n → σ.2.1 25 S = nI (LSf w n S)) : ∃ σ', f_Rolls_choose σ = some (0, σ') ∧ FrC [] [26] σ σ' ∧ ∀ k, k < n → σ'.2.1 26 k = σ.2.1 23 (gch w n (LSf w n) 0 k) := by
  have hO := LSf_opt hw hn
  have hpow : 2 ^ n ≤ 256 := Nat.le_trans (Nat.pow_le_pow_right (by omega) hn) (by decide)
  have inner : ∀ (k : Nat) (σ1 : CS) (K : Int32 → Int32 → CS → Option (Int32 × CS)) (K' : Int32 → Int32 → Int32 → CS → Option (Int32 × CS)), k < n → FrC [] [26] σ σ1 → ∀ (d i m : Nat), i + d = gch w n (LSf w n) 0 k → d < m → L_Rolls_choose_23 K K' (nI (pth w n (LSf w n) k 0)) (nI k) m (nI i) σ1 = K' (nI (pth w n (LSf w n) k 0)) (nI k) (nI (gch w n (LSf w n) 0 k)) σ1 := by
    intro k σ1 K K' hk f1 d
    obtain ⟨p1, p2⟩ := path_ok hO k (by omega)
    obtain ⟨f2, f3, f4⟩ := fst_lt hO hk
    have hM1 := hM.fr f1 (by decide) (by decide)
    have e25 : ∀ S, S < 2 ^ n → σ1.2.1 25 S = nI (LSf w n S) := fun S hS => by rw [(f1.2 25 (by decide)).1]; exact hL S hS
    have bS := LSf_b hw hn (pth w n (LSf w n) k 0)
    induction d with
    | zero =>
      intro i m h1 h2
      obtain ⟨m, rfl⟩ : ∃ n, m = n + 1 := ⟨m - 1, by omega⟩
      have : i = gch w n (LSf w n) 0 k := by omega
      subst this
      have ok := of_decide_eq_true f3
      have hb := LSf_b hw hn (pth w n (LSf w n) k 0 ||| 2 ^ gch w n (LSf w n) 0 k)
      rw [L_Rolls_choose_23, hM1.1, if_neg (nI_ge f2 (by omega)), if_neg (fun z => absurd ((lit_le 8 (by omega) (by omega)).1 z) (by omega)), if_pos ((bit_0 (by omega) (by omega)).2 ok.1), if_neg (fun z => absurd ((lit_le 256 (by omega) (by omega)).1 z) (by omega)), quarrelC hw hn p1 f2 hM1 hb (e25 _ (orlt8 p1 f2)), bnd_s, gix_n (by omega) (by omega), rdn (by omega), e25 _ p1, if_pos (by rw [← ok.2])]
    | succ d ih =>
      intro i m h1 h2
      obtain ⟨m, rfl⟩ : ∃ n, m = n + 1 := ⟨m - 1, by omega⟩
      have ih' := ih (i + 1) m (by omega) (by omega)
      rw [L_Rolls_choose_23, hM1.1, if_neg (nI_ge (by omega) (by omega)), if_neg (fun z => absurd ((lit_le 8 (by omega) (by omega)).1 z) (by omega)), nI_1]
      by_cases q : (pth w n (LSf w n) k 0).testBit i = true
      · rw [if_neg (fun z => by have := (bit_0 (by omega) (by omega)).1 z; simp_all)]
        exact ih'
      · have hu := Bool.eq_false_iff.2 q
        have hb := LSf_b hw hn (pth w n (LSf w n) k 0 ||| 2 ^ i)
        have hcb := cst_b hw (S := pth w n (LSf w n) k 0) (i := i) hn
        have no := of_decide_eq_false (f4 i (by omega))
        rw [if_pos ((bit_0 (by omega) (by omega)).2 hu), if_neg (fun z => absurd ((lit_le 256 (by omega) (by omega)).1 z) (by omega)), quarrelC hw hn p1 (by omega) hM1 hb (e25 _ (orlt8 p1 (by omega))), bnd_s, gix_n (by omega) (by omega), rdn (by omega), e25 _ p1, if_neg (fun z => no ⟨hu, (nI_eqI (by omega) (by omega) z).symm⟩)]
        exact ih'
  have outer : ∀ (d k m : Nat) (σ1 : CS), k + d = n → d < m → FrC [] [26] σ σ1 → (∀ j, j < k → σ1.2.1 26 j = σ.2.1 23 (gch w n (LSf w n) 0 j)) → ∃ σ', L_Rolls_choose_4 m (nI (pth w n (LSf w n) k 0)) (nI k) σ1 = some (0, σ') ∧ FrC [] [26] σ σ' ∧ ∀ j, j < n → σ'.2.1 26 j = σ.2.1 23 (gch w n (LSf w n) 0 j) := by
    intro d
    induction d with
    | zero =>
      intro k m σ1 h1 h2 f1 ho
      obtain ⟨m, rfl⟩ : ∃ n, m = n + 1 := ⟨m - 1, by omega⟩
      have : k = n := by omega
      subst this
      exact ⟨σ1, by rw [L_Rolls_choose_4, (hM.fr f1 (by decide) (by decide)).1, if_pos (nI_le (Nat.le_refl _) (by omega))], f1, ho⟩
    | succ d ih =>
      intro k m σ1 h1 h2 f1 ho
      obtain ⟨m, rfl⟩ : ∃ n, m = n + 1 := ⟨m - 1, by omega⟩
      obtain ⟨f2, f3, f4⟩ := fst_lt hO (show k < n by omega)
      obtain ⟨p1, p2⟩ := path_ok hO k (by omega)
      have i1 := inner k σ1 (L_Rolls_choose_4 m) (B_Rolls_choose_72 (L_Rolls_choose_4 m)) (by omega) f1 (gch w n (LSf w n) 0 k) 0 FU (by omega) (lt_FU (by omega))
      have i1' : L_Rolls_choose_23 (L_Rolls_choose_4 m) (B_Rolls_choose_72 (L_Rolls_choose_4 m)) (nI (pth w n (LSf w n) k 0)) (nI k) FU 0 σ1 = B_Rolls_choose_72 (L_Rolls_choose_4 m) (nI (pth w n (LSf w n) k 0)) (nI k) (nI (gch w n (LSf w n) 0 k)) σ1 := i1
      rw [L_Rolls_choose_4, (hM.fr f1 (by decide) (by decide)).1, if_neg (nI_ge (by omega) (by omega)), if_neg (fun z => absurd ((lit_le 8 (by omega) (by omega)).1 z) (by omega)), i1']
      unfold B_Rolls_choose_72
      rw [gix_n (show gch w n (LSf w n) 0 k < 8 by omega) (by omega), gix_n (show k < 8 by omega) (by omega), nI_shl (by omega), nI_or, nI_1, wrn (show k < 2147483648 by omega), rdn (show gch w n (LSf w n) 0 k < 2147483648 by omega), (f1.2 23 (by decide)).1]
      have ep : pth w n (LSf w n) k 0 ||| 2 ^ gch w n (LSf w n) 0 k = pth w n (LSf w n) (k + 1) 0 := by rw [pth_s]; rfl
      rw [ep]
      refine ih (k + 1) m _ (by omega) (by omega) (f1.trans (FrC.f2 _ _ (by decide))) (fun j hj => ?_)
      simp only [va_up, reduceIte, upd]
      by_cases z : j = k
      · rw [if_pos z, z]
      · rw [if_neg z]
        exact ho j (by omega)
  exact outer n 0 FU σ (by omega) (lt_FU (by omega)) (FrC.refl _ _ _) (fun j hj => by omega)
