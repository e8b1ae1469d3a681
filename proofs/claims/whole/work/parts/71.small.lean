/-! ===== layer 2: small functions ===== -/
theorem fc_within (x lo hi : Int32) (σ : CS) : f_FC_within x lo hi σ = some (if x < lo ∨ hi < x then 0 else 1, σ) := by
  unfold f_FC_within
  by_cases h1 : x < lo
  · rw [if_pos h1, if_pos (Or.inl h1)]
  · by_cases h2 : hi < x
    · rw [if_neg h1, if_pos h2, if_pos (Or.inr h2)]
    · rw [if_neg h1, if_neg h2, if_neg (by rintro (z | z) <;> contradiction)]
theorem fm_in (x lo hi : Int32) (σ : CS) : f_M_in x lo hi σ = some (if x < lo ∨ hi < x then 0 else 1, σ) := fc_within x lo hi σ
theorem g01 {P : Prop} [Decidable P] : (if P then (0 : Int32) else 1) = 0 ∨ (if P then (0 : Int32) else 1) = 1 := by
  by_cases h : P
  · rw [if_pos h]; exact Or.inl rfl
  · rw [if_neg h]; exact Or.inr rfl
theorem fc_isDay (x : Int32) (σ : CS) : f_FC_isDay x σ = some (if x < 0 ∨ 100000 < x then 0 else 1, σ) := by
  unfold f_FC_isDay
  rw [fc_within, bnd_s, grd_s g01]
theorem fm_isDay (x : Int32) (σ : CS) : f_M_isDay x σ = some (if x < 0 ∨ 100000 < x then 0 else 1, σ) := fc_isDay x σ
theorem fc_isYear (x : Int32) (σ : CS) : f_FC_isYear x σ = some (if x < 0 ∨ 277 < x then 0 else 1, σ) := by
  unfold f_FC_isYear
  rw [fc_within, bnd_s, grd_s g01]
theorem fm_isYear (x : Int32) (σ : CS) : f_M_isYear x σ = some (if x < 0 ∨ 277 < x then 0 else 1, σ) := fc_isYear x σ
theorem fc_isAct (x : Int32) (σ : CS) : f_FC_isAct x σ = some (if x < 0 ∨ 5 < x then 0 else 1, σ) := by
  unfold f_FC_isAct
  rw [fc_within, bnd_s, grd_s g01]
/-- a place is none -/
abbrev badP (x y : Int32) : Prop := (x < 0 ∨ 999 < x) ∨ (y < 0 ∨ 999 < y)
theorem fc_isPlace (x y : Int32) (σ : CS) : f_FC_isPlace x y σ = some (if badP x y then 0 else 1, σ) := by
  unfold f_FC_isPlace
  rw [fc_within, bnd_s]
  by_cases h1 : x < 0 ∨ 999 < x
  · rw [if_pos h1, if_pos rfl, if_pos (Or.inl h1)]
  · rw [if_neg h1, if_neg (by decide), fc_within, bnd_s]
    by_cases h2 : y < 0 ∨ 999 < y
    · rw [if_pos h2, if_pos rfl, if_pos (Or.inr h2)]
    · rw [if_neg h2, if_neg (by decide), if_neg (by rintro (z | z) <;> contradiction)]
theorem fm_isPlace (x y : Int32) (σ : CS) : f_M_isPlace x y σ = some (if badP x y then 0 else 1, σ) := fc_isPlace x y σ
theorem fm_bad0 (c : Int32) (σ : CS) : f_M_bad 0 c σ = some (0, σ) := by
  unfold f_M_bad
  rw [if_pos rfl, grd_s (Or.inl rfl)]
theorem fm_bad1 (c : Int32) (σ : CS) : f_M_bad 1 c σ = some (1, sF σ 0 c) := by
  unfold f_M_bad
  rw [if_neg (by decide), grd_s (Or.inr rfl)]
theorem i10 : ¬ (1 : Int32) = 0 := by decide
theorem i01 : ¬ (0 : Int32) = 1 := by decide
theorem le_lit {a : Nat} (n : Nat) (h : a < 2147483648) (hn : n < 2147483648) : nI a ≤ (OfNat.ofNat n : Int32) ↔ a ≤ n := nI_leI h hn
theorem lit_le {a : Nat} (n : Nat) (h : a < 2147483648) (hn : n < 2147483648) : (OfNat.ofNat n : Int32) ≤ nI a ↔ n ≤ a := nI_leI hn h
theorem lt_lit {a : Nat} (n : Nat) (h : a < 2147483648) (hn : n < 2147483648) : nI a < (OfNat.ofNat n : Int32) ↔ a < n := nI_ltI h hn
theorem lit_lt {a : Nat} (n : Nat) (h : a < 2147483648) (hn : n < 2147483648) : (OfNat.ofNat n : Int32) < nI a ↔ n < a := nI_ltI hn h
theorem eq_lit {a : Nat} (n : Nat) (h : a < 2147483648) (hn : n < 2147483648) : nI a = (OfNat.ofNat n : Int32) ↔ a = n := nI_eq h hn
/-- a number up to n; the same or -1 -/
def Rg (x : Int32) (n : Nat) : Prop := ∃ a : Nat, a ≤ n ∧ x = nI a
def Rn (x : Int32) (n : Nat) : Prop := x = -1 ∨ Rg x n
theorem Rg.mk {a n : Nat} (h : a ≤ n) : Rg (nI a) n := ⟨a, h, rfl⟩
theorem Rg.mono {x : Int32} {n m : Nat} (h : Rg x n) (hm : n ≤ m) : Rg x m := by
  obtain ⟨a, h1, h2⟩ := h
  exact ⟨a, by omega, h2⟩
theorem Rg.of {x lo hi : Int32} {n : Nat} (h : ¬ (x < lo ∨ hi < x)) (hhi : hi = nI n) (hn : n < 2147483648) (hlo : 0 ≤ lo.toInt) : Rg x n := by
  obtain ⟨j, h1, h2⟩ := nI_rng hhi hn hlo (fun z => h (Or.inl z)) (fun z => h (Or.inr z))
  exact ⟨j, h1, h2⟩
/-- out of the places 0 .. n - 1 -/
theorem not_in_iff {x : Int32} {n : Nat} (hn : n < 2147483648) : (x < 0 ∨ nI n - 1 < x) ↔ ¬ ∃ j, j < n ∧ x = nI j := by
  have hx := Int32.toInt_lt x
  have hx2 := Int32.le_toInt x
  have e : (nI n - 1).toInt = (n : Int) - 1 := by
    rcases Nat.eq_zero_or_pos n with q | q
    · subst q; rfl
    · obtain ⟨m, rfl⟩ : ∃ m, n = m + 1 := ⟨n - 1, by omega⟩
      rw [nI_p1, nI_toInt (by omega)]; omega
  rw [Int32.lt_iff_toInt_lt, Int32.lt_iff_toInt_lt, e, show (0 : Int32).toInt = 0 from rfl]
  constructor
  · rintro h ⟨j, h1, rfl⟩
    rw [nI_toInt (by omega)] at h
    omega
  · intro h
    by_cases q : x.toInt < 0
    · exact Or.inl q
    · right
      by_cases q2 : (n : Int) - 1 < x.toInt
      · exact q2
      · exfalso
        apply h
        refine ⟨x.toInt.toNat, by omega, Int32.toInt_inj.mp ?_⟩
        rw [nI_toInt (by omega)]
        omega
theorem fm_idx {x : Int32} {n : Nat} (hn : n < 2147483648) (σ : CS) [Decidable (∃ j, j < n ∧ x = nI j)] : f_M_in x 0 (nI n - 1) σ = some (if ∃ j, j < n ∧ x = nI j then 1 else 0, σ) := by
  rw [fm_in]
  by_cases h : ∃ j, j < n ∧ x = nI j
  · rw [if_pos h, if_neg (fun z => (not_in_iff hn).mp z h)]
  · rw [if_neg h, if_pos ((not_in_iff hn).mpr h)]
theorem fm_idx1 {j n : Nat} (hj : j < n) (hn : n < 2147483648) (σ : CS) : f_M_in (nI j) 0 (nI n - 1) σ = some (1, σ) := by
  rw [fm_in, if_neg (fun z => (not_in_iff hn).mp z ⟨j, hj, rfl⟩)]
theorem fm_idx0 {x : Int32} {n : Nat} (hn : n < 2147483648) (h : ¬ ∃ j, j < n ∧ x = nI j) (σ : CS) : f_M_in x 0 (nI n - 1) σ = some (0, σ) := by
  rw [fm_in, if_pos ((not_in_iff hn).mpr h)]
/-- the class's look at a row -/
theorem tb_has1 {σ : CS} (h : WC σ) (t : Nat) (ht : t < 16) {j : Nat} (hj : j < rws σ t) : f_Table_has t (nI j) σ = some (1, σ) := by
  have := h.hr4 ht
  rw [tb_has h t ht j (by omega), if_pos hj]
theorem tb_has0 {σ : CS} (h : WC σ) (t : Nat) (ht : t < 16) {x : Int32} (hx : ¬ ∃ j, j < rws σ t ∧ x = nI j) : f_Table_has t x σ = some (0, σ) := by
  by_cases q : x < 0
  · exact tb_has_neg t q
  · obtain ⟨j, h1, rfl⟩ := nI_of q
    rw [tb_has h t ht j h1, if_neg (fun z => hx ⟨j, z, rfl⟩)]
/-! the tie: its frame -/
def dsj (a b : List Nat) : Bool := a.all (fun x => !b.contains x)
theorem dsj_1 {a b : List Nat} (h : dsj a b = true) {x : Nat} (hx : x ∈ a) : x ∉ b := by
  have := List.all_eq_true.mp h x hx
  intro z
  rw [List.contains_iff_mem.mpr z] at this
  cases this
