/-! ===== layer 2: texts in force, and the rules ===== -/
/-- how many clauses a text has -/
def cM (τ : CS) (t : Nat) : Nat := (τ.2.1 29 t).toNatClampNeg
/-- which texts the first k clauses of text t undo, as bits -/
def undN (τ : CS) (t : Nat) : Nat → Nat
  | 0 => 0
  | k + 1 => if τ.2.1 30 (12 * t + k) = 4 then undN τ t k ||| 2 ^ (τ.2.1 31 (12 * t + k)).toNatClampNeg else undN τ t k
def kdO (w : Nat) : Int32 := if w < 3 then 6 else if w = 3 then 7 else 5
def vlO (τ : CS) (w i : Nat) : Int32 := if w = 1 then τ.2.1 33 i else if w = 2 then τ.2.1 34 i else τ.2.1 31 i
/-- the last rule w of the first k clauses of text t; -1 without -/
def lst (τ : CS) (t w : Nat) : Nat → Int32
  | 0 => -1
  | k + 1 => if τ.2.1 30 (12 * t + k) = kdO w then vlO τ w (12 * t + k) else lst τ t w k
def P4 (x : Int32) (n : Nat) : Prop := ∃ a, 1 ≤ a ∧ a ≤ n ∧ x = nI a
/-- a clause's kind and numbers -/
def Kok (τ : CS) (t i : Nat) : Prop := Rg (τ.2.1 30 i) 7 ∧ (τ.2.1 30 i = 4 → Ix (τ.2.1 31 i) t) ∧ (τ.2.1 30 i = 5 → Rg (τ.2.1 31 i) 1) ∧ (τ.2.1 30 i = 6 → P4 (τ.2.1 31 i) 4000 ∧ P4 (τ.2.1 33 i) 4000 ∧ P4 (τ.2.1 34 i) 4000) ∧ (τ.2.1 30 i = 7 → P4 (τ.2.1 31 i) 60) ∧ (¬ 3 < τ.2.1 30 i → Rg (τ.2.1 31 i) 5)
def ITxt (σ τ : CS) : Prop := τ.1 21 = nI (rws σ 3) ∧ ∀ t, t < rws σ 3 → τ.2.1 28 t = cel σ 3 t 0 ∧ τ.2.1 29 t = nI (cM τ t) ∧ cM τ t ≤ 12 ∧ cel σ 3 t 1 = nI (undN τ t (cM τ t)) ∧ (∀ w, w < 5 → cel σ 3 t (2 + w) = lst τ t w (cM τ t)) ∧ ∀ k, k < cM τ t → Kok τ t (12 * t + k)
/-- what ITxt reads of the reference -/
def SmT (τ τ' : CS) : Prop := τ'.1 21 = τ.1 21 ∧ ∀ a, 28 ≤ a → a < 35 → τ'.2.1 a = τ.2.1 a
theorem SmT.ecM {τ τ' : CS} (h : SmT τ τ') : cM τ' = cM τ := by funext t; unfold cM; rw [h.2 29 (by omega) (by omega)]
theorem SmT.eund {τ τ' : CS} (h : SmT τ τ') (t : Nat) : ∀ k, undN τ' t k = undN τ t k := by
  intro k
  induction k with
  | zero => rfl
  | succ k ih =>
    show (if τ'.2.1 30 (12 * t + k) = 4 then undN τ' t k ||| 2 ^ (τ'.2.1 31 (12 * t + k)).toNatClampNeg else undN τ' t k) = (if τ.2.1 30 (12 * t + k) = 4 then undN τ t k ||| 2 ^ (τ.2.1 31 (12 * t + k)).toNatClampNeg else undN τ t k)
    rw [h.2 30 (by omega) (by omega), h.2 31 (by omega) (by omega), ih]
theorem SmT.elst {τ τ' : CS} (h : SmT τ τ') (t w : Nat) : ∀ k, lst τ' t w k = lst τ t w k := by
  intro k
  induction k with
  | zero => rfl
  | succ k ih =>
    show (if τ'.2.1 30 (12 * t + k) = kdO w then vlO τ' w (12 * t + k) else lst τ' t w k) = (if τ.2.1 30 (12 * t + k) = kdO w then vlO τ w (12 * t + k) else lst τ t w k)
    unfold vlO
    rw [h.2 30 (by omega) (by omega), h.2 31 (by omega) (by omega), h.2 33 (by omega) (by omega), h.2 34 (by omega) (by omega), ih]
theorem ITxt.fr {σ τ σ' τ' : CS} (h : ITxt σ τ) (e1 : σ'.1 11 = σ.1 11) (e2 : σ'.2.1 3 = σ.2.1 3) (s : SmT τ τ') : ITxt σ' τ' := by
  have r : rws σ' 3 = rws σ 3 := by unfold rws; rw [show 3 * 3 + 2 = 11 from rfl, e1]
  have c : ∀ i c, cel σ' 3 i c = cel σ 3 i c := fun i c => by unfold cel; rw [e2]
  unfold ITxt Kok
  simp only [r, c, s.1, s.ecM, s.eund, s.elst, s.2 28 (by omega) (by omega), s.2 29 (by omega) (by omega), s.2 30 (by omega) (by omega), s.2 31 (by omega) (by omega), s.2 33 (by omega) (by omega), s.2 34 (by omega) (by omega)]
  exact h
theorem SmT.of {I A : List Nat} {τ τ' : CS} (h : FrM I A τ τ') (h1 : 21 ∉ I) (h2 : ∀ a, a ∈ A → a < 28 ∨ 35 ≤ a) : SmT τ τ' := ⟨h.1 21 h1, fun a h3 h4 => h.2 a (fun z => by have := h2 a z; omega)⟩
/-- text o undoes text s by one of its first m clauses -/
def Und (τ : CS) (o s m : Nat) : Prop := ∃ k, k < m ∧ τ.2.1 30 (12 * o + k) = 4 ∧ τ.2.1 31 (12 * o + k) = nI s
theorem und_bit {τ : CS} {o s : Nat} (hs : s < 2147483648) : ∀ m, (∀ k, k < m → τ.2.1 30 (12 * o + k) = 4 → Ix (τ.2.1 31 (12 * o + k)) 2147483648) → ((undN τ o m).testBit s = true ↔ Und τ o s m) := by
  intro m
  induction m with
  | zero =>
    intro _
    constructor
    · intro h
      exact absurd (show (0 : Nat).testBit s = true from h) (by rw [Nat.zero_testBit]; decide)
    · rintro ⟨k, h, -⟩; exact absurd h (by omega)
  | succ m ih =>
    intro hk
    have ih' := ih (fun k h => hk k (by omega))
    show (if τ.2.1 30 (12 * o + m) = 4 then undN τ o m ||| 2 ^ (τ.2.1 31 (12 * o + m)).toNatClampNeg else undN τ o m).testBit s = true ↔ _
    by_cases q : τ.2.1 30 (12 * o + m) = 4
    · obtain ⟨u, hu, eu⟩ := hk m (by omega) q
      rw [if_pos q, Nat.testBit_or, eu, nI_clamp (by omega), Nat.testBit_two_pow]
      constructor
      · intro h
        rcases Bool.or_eq_true_iff.mp h with h | h
        · obtain ⟨k, h1, h2⟩ := ih'.mp h
          exact ⟨k, by omega, h2⟩
        · have : u = s := of_decide_eq_true h
          exact ⟨m, by omega, q, by rw [eu, this]⟩
      · rintro ⟨k, h1, h2, h3⟩
        apply Bool.or_eq_true_iff.mpr
        by_cases z : k = m
        · right
          rw [z, eu] at h3
          exact decide_eq_true ((nI_eq (by omega) (by omega)).mp h3)
        · left
          exact ih'.mpr ⟨k, by omega, h2, h3⟩
    · rw [if_neg q, ih']
      constructor
      · rintro ⟨k, h1, h2⟩; exact ⟨k, by omega, h2⟩
      · rintro ⟨k, h1, h2, h3⟩
        by_cases z : k = m
        · rw [z] at h2; exact absurd h2 q
        · exact ⟨k, by omega, h2, h3⟩
theorem undN_lt {τ : CS} {o : Nat} : ∀ m, (∀ k, k < m → τ.2.1 30 (12 * o + k) = 4 → Ix (τ.2.1 31 (12 * o + k)) 10) → undN τ o m < 2 ^ 10 := by
  intro m
  induction m with
  | zero => intro _; show 0 < 2 ^ 10; decide
  | succ m ih =>
    intro hk
    have ih' := ih (fun k h => hk k (by omega))
    show (if τ.2.1 30 (12 * o + m) = 4 then undN τ o m ||| 2 ^ (τ.2.1 31 (12 * o + m)).toNatClampNeg else undN τ o m) < 2 ^ 10
    by_cases q : τ.2.1 30 (12 * o + m) = 4
    · obtain ⟨u, hu, eu⟩ := hk m (by omega) q
      rw [if_pos q, eu, nI_clamp (by omega)]
      exact or_lt ih' (Nat.pow_lt_pow_right (by omega) hu)
    · rw [if_neg q]; exact ih'
/-- one text's clauses against text s -/
theorem force_59 {σ τ0 : CS} (hW : WC σ) (hT : ITxt σ τ0) (K : Int32 → CS → Option (Int32 × CS)) (day : Int32) {s o : Nat} (hs : s < o) (ho : o < rws σ 3) : ∀ (d k m : Nat) (τ : CS), k + d = cM τ0 o → d < m → FrM [] [37] τ0 τ → (τ.2.1 37 o = 0 ∨ τ.2.1 37 o = 1) →
    ∃ τ', L_M_forces_59 K day (nI s) (nI o) m (nI (12 * o + k)) τ = K (nI (o + 1)) τ' ∧ FrM [] [37] τ0 τ' ∧ (∀ j, j ≠ s → τ'.2.1 37 j = τ.2.1 37 j) ∧ ((τ.2.1 37 o = 1 ∧ (∃ k', k ≤ k' ∧ k' < cM τ0 o ∧ τ0.2.1 30 (12 * o + k') = 4 ∧ τ0.2.1 31 (12 * o + k') = nI s) ∧ τ'.2.1 37 s = 0) ∨ (¬ (τ.2.1 37 o = 1 ∧ (∃ k', k ≤ k' ∧ k' < cM τ0 o ∧ τ0.2.1 30 (12 * o + k') = 4 ∧ τ0.2.1 31 (12 * o + k') = nI s)) ∧ τ'.2.1 37 s = τ.2.1 37 s)) := by
  have h10 : rws σ 3 ≤ 10 := hW.hlim (t := 3) (by omega)
  obtain ⟨-, t2, t3, -, -, -⟩ := hT.2 o ho
  intro d
  induction d with
  | zero =>
    intro k m τ h1 h2 hF hb
    obtain ⟨m, rfl⟩ : ∃ q, m = q + 1 := ⟨m - 1, by omega⟩
    refine ⟨τ, ?_, hF, fun _ _ => rfl, Or.inr ⟨?_, rfl⟩⟩
    · unfold L_M_forces_59
      rw [gix_n (by omega) (by omega), rdn (by omega), hF.2 29 (by decide), t2, show (12 : Int32) = nI 12 from rfl, nI_mul, nI_add, if_pos (nI_le (by omega) (by omega)), nI_1]
    · rintro ⟨-, k', z1, z2, -⟩; omega
  | succ d ih =>
    intro k m τ h1 h2 hF hb
    obtain ⟨m, rfl⟩ : ∃ q, m = q + 1 := ⟨m - 1, by omega⟩
    have e : L_M_forces_59 K day (nI s) (nI o) (m + 1) (nI (12 * o + k)) τ = if τ.2.1 37 o = 0 then L_M_forces_59 K day (nI s) (nI o) m (nI (12 * o + (k + 1))) τ else if τ0.2.1 30 (12 * o + k) = 4 then (if τ0.2.1 31 (12 * o + k) = nI s then L_M_forces_59 K day (nI s) (nI o) m (nI (12 * o + (k + 1))) (sA τ 37 (upd (τ.2.1 37) s 0)) else L_M_forces_59 K day (nI s) (nI o) m (nI (12 * o + (k + 1))) τ) else L_M_forces_59 K day (nI s) (nI o) m (nI (12 * o + (k + 1))) τ := by
      rw [L_M_forces_59, gix_n (by omega) (by omega), gix_n (by omega) (by omega), gix_n (by omega) (by omega), gix_n (by omega) (by omega), gix_n (by omega) (by omega), rdn (by omega), rdn (by omega), rdn (by omega), rdn (by omega), wrn (by omega), hF.2 29 (by decide), hF.2 30 (by decide), hF.2 31 (by decide), t2, show (12 : Int32) = nI 12 from rfl, nI_mul, nI_add, if_neg (nI_ge (by omega) (by omega)), nI_1]
      rfl
    rw [e]
    by_cases q0 : τ.2.1 37 o = 0
    · rw [if_pos q0]
      obtain ⟨τ', g1, g2, g3, g4⟩ := ih (k + 1) m τ (by omega) (by omega) hF hb
      refine ⟨τ', g1, g2, g3, ?_⟩
      rcases g4 with ⟨z, -⟩ | ⟨z1, z2⟩
      · rw [q0] at z; exact absurd z (by decide)
      · exact Or.inr ⟨fun z => by rw [q0] at z; exact absurd z.1 (by decide), z2⟩
    · have q1 : τ.2.1 37 o = 1 := hb.resolve_left q0
      rw [if_neg q0]
      by_cases q2 : τ0.2.1 30 (12 * o + k) = 4 ∧ τ0.2.1 31 (12 * o + k) = nI s
      · rw [if_pos q2.1, if_pos q2.2]
        have hF2 : FrM [] [37] τ0 (sA τ 37 (upd (τ.2.1 37) s 0)) := hF.trans (FrM.f2 _ _ (by decide))
        have ho2 : (sA τ 37 (upd (τ.2.1 37) s 0)).2.1 37 o = τ.2.1 37 o := by
          simp only [va_up, reduceIte, upd]; rw [if_neg (by omega)]
        obtain ⟨τ', g1, g2, g3, g4⟩ := ih (k + 1) m (sA τ 37 (upd (τ.2.1 37) s 0)) (by omega) (by omega) hF2 (by rw [ho2]; exact hb)
        refine ⟨τ', g1, g2, fun j hj => ?_, Or.inl ⟨q1, ⟨k, Nat.le_refl _, by omega, q2.1, q2.2⟩, ?_⟩⟩
        · rw [g3 j hj]
          simp only [va_up, reduceIte, upd]; rw [if_neg hj]
        · rcases g4 with ⟨-, -, z⟩ | ⟨-, z⟩
          · exact z
          · rw [z]; simp only [va_up, reduceIte, upd]
      · have e2 : (if τ0.2.1 30 (12 * o + k) = 4 then (if τ0.2.1 31 (12 * o + k) = nI s then L_M_forces_59 K day (nI s) (nI o) m (nI (12 * o + (k + 1))) (sA τ 37 (upd (τ.2.1 37) s 0)) else L_M_forces_59 K day (nI s) (nI o) m (nI (12 * o + (k + 1))) τ) else L_M_forces_59 K day (nI s) (nI o) m (nI (12 * o + (k + 1))) τ) = L_M_forces_59 K day (nI s) (nI o) m (nI (12 * o + (k + 1))) τ := by
          by_cases z : τ0.2.1 30 (12 * o + k) = 4
          · rw [if_pos z, if_neg (fun y => q2 ⟨z, y⟩)]
          · rw [if_neg z]
        rw [e2]
        obtain ⟨τ', g1, g2, g3, g4⟩ := ih (k + 1) m τ (by omega) (by omega) hF hb
        refine ⟨τ', g1, g2, g3, ?_⟩
        rcases g4 with ⟨z1, ⟨k', y1, y2⟩, z2⟩ | ⟨z1, z2⟩
        · exact Or.inl ⟨z1, ⟨k', by omega, y2⟩, z2⟩
        · refine Or.inr ⟨?_, z2⟩
          rintro ⟨y0, k', y1, y2, y3, y4⟩
          by_cases w : k' = k
          · rw [w] at y3 y4; exact q2 ⟨y3, y4⟩
          · exact z1 ⟨y0, k', by omega, y2, y3, y4⟩
theorem force_36 {σ τ0 : CS} (hW : WC σ) (hT : ITxt σ τ0) (K : Int32 → CS → Option (Int32 × CS)) (day : Int32) {s : Nat} : ∀ (d o m : Nat) (τ : CS), o + d = rws σ 3 → d < m → s < o → FrM [] [37] τ0 τ → (∀ j, s < j → j < rws σ 3 → τ.2.1 37 j = 0 ∨ τ.2.1 37 j = 1) → (τ.2.1 37 s = 0 ∨ τ.2.1 37 s = 1) →
    ∃ τ', L_M_forces_36 K day (nI s) m (nI o) τ = K (nI s + (-1)) τ' ∧ FrM [] [37] τ0 τ' ∧ (∀ j, j ≠ s → τ'.2.1 37 j = τ.2.1 37 j) ∧ ((τ'.2.1 37 s = 1 ∧ τ.2.1 37 s = 1 ∧ ¬ ∃ o', o ≤ o' ∧ o' < rws σ 3 ∧ τ.2.1 37 o' = 1 ∧ Und τ0 o' s (cM τ0 o')) ∨ (τ'.2.1 37 s = 0 ∧ (τ.2.1 37 s = 0 ∨ ∃ o', o ≤ o' ∧ o' < rws σ 3 ∧ τ.2.1 37 o' = 1 ∧ Und τ0 o' s (cM τ0 o')))) := by
  have h10 : rws σ 3 ≤ 10 := hW.hlim (t := 3) (by omega)
  intro d
  induction d with
  | zero =>
    intro o m τ h1 h2 hso hF hb hs
    obtain ⟨m, rfl⟩ : ∃ q, m = q + 1 := ⟨m - 1, by omega⟩
    refine ⟨τ, ?_, hF, fun _ _ => rfl, ?_⟩
    · show (if τ.1 21 ≤ nI o then _ else _) = _
      rw [hF.1 21 (by simp), hT.1, if_pos (nI_le (by omega) (by omega))]
    · rcases hs with hs | hs
      · exact Or.inr ⟨hs, Or.inl hs⟩
      · refine Or.inl ⟨hs, hs, ?_⟩
        rintro ⟨o', z1, z2, -⟩; omega
  | succ d ih =>
    intro o m τ h1 h2 hso hF hb hs
    obtain ⟨m, rfl⟩ : ∃ q, m = q + 1 := ⟨m - 1, by omega⟩
    have e : L_M_forces_36 K day (nI s) (m + 1) (nI o) τ = if τ.2.1 37 s = 0 then K (nI s + (-1)) τ else L_M_forces_59 (L_M_forces_36 K day (nI s) m) day (nI s) (nI o) FU (nI (12 * o + 0)) τ := by
      show (if τ.1 21 ≤ nI o then _ else _) = _
      rw [hF.1 21 (by simp), hT.1, if_neg (nI_ge (by omega) (by omega)), gix_n (by omega) (by omega), rdn (by omega), show (12 : Int32) = nI 12 from rfl, nI_mul]
      rfl
    rw [e]
    rcases hs with hs | hs
    · rw [if_pos hs]
      exact ⟨τ, rfl, hF, fun _ _ => rfl, Or.inr ⟨hs, Or.inl hs⟩⟩
    · rw [if_neg (by rw [hs]; decide)]
      obtain ⟨τ1, g1, g2, g3, g4⟩ := force_59 hW hT (L_M_forces_36 K day (nI s) m) day hso (by omega) (cM τ0 o) 0 FU τ (by omega) (lt_FU (by have := (hT.2 o (by omega)).2.2.1; omega)) hF (hb o hso (by omega))
      rw [g1]
      have hs1 : τ1.2.1 37 s = 0 ∨ τ1.2.1 37 s = 1 := by
        rcases g4 with ⟨-, -, z⟩ | ⟨-, z⟩
        · exact Or.inl z
        · rw [z]; exact Or.inr hs
      obtain ⟨τ2, b1, b2, b3, b4⟩ := ih (o + 1) m τ1 (by omega) (by omega) (by omega) g2 (fun j hj1 hj2 => by rw [g3 j (by omega)]; exact hb j hj1 hj2) hs1
      refine ⟨τ2, b1, b2, fun j hj => by rw [b3 j hj, g3 j hj], ?_⟩
      rcases b4 with ⟨x1, x2, x3⟩ | ⟨x1, x2⟩
      · left
        refine ⟨x1, hs, ?_⟩
        rintro ⟨o', y1, y2, y3, y4⟩
        by_cases z : o' = o
        · rw [z] at y3 y4
          obtain ⟨k', w1, w2, w3⟩ := y4
          rcases g4 with ⟨-, -, v⟩ | ⟨v, -⟩
          · rw [v] at x2; exact absurd x2 (by decide)
          · exact v ⟨y3, k', by omega, w1, w2, w3⟩
        · exact x3 ⟨o', by omega, y2, by rw [g3 o' (by omega)]; exact y3, y4⟩
      · right
        refine ⟨x1, Or.inr ?_⟩
        rcases x2 with x2 | ⟨o', y1, y2, y3, y4⟩
        · rcases g4 with ⟨v1, ⟨k', w1, w2, w3⟩, -⟩ | ⟨-, v⟩
          · exact ⟨o, Nat.le_refl _, by omega, v1, k', w2, w3⟩
          · rw [v, hs] at x2; exact absurd x2 (by decide)
        · exact ⟨o', by omega, y2, by rw [← g3 o' (by omega)]; exact y3, y4⟩
/-- both find the texts in force: a number of bits for the class, a row for the reference -/
theorem force_loop {σ τ0 : CS} (hW : WC σ) (hT : ITxt σ τ0) (day : Int32) : ∀ (t m m' : Nat) (τ : CS) (F U : Nat), t ≤ rws σ 3 → t < m → t < m' → F < 2 ^ 10 → U < 2 ^ 10 → FrM [] [37] τ0 τ → (∀ o, o < t → F.testBit o = false) → (∀ o, t ≤ o → o < rws σ 3 → τ.2.1 37 o = if F.testBit o then 1 else 0) → (∀ u, u < 10 → (U.testBit u = true ↔ ∃ o, t ≤ o ∧ o < rws σ 3 ∧ F.testBit o = true ∧ Und τ0 o u (cM τ0 o))) →
    ∃ F' τ', L_Laws_forceOn_15 day m (nI F) (nI U) (nI t - 1) σ = some (nI F', σ) ∧ L_M_forces_7 day m' (nI t - 1) τ = some (0, τ') ∧ F' < 2 ^ 10 ∧ FrM [] [37] τ0 τ' ∧ ∀ o, o < rws σ 3 → τ'.2.1 37 o = if F'.testBit o then 1 else 0 := by
  have h10 : rws σ 3 ≤ 10 := hW.hlim (t := 3) (by omega)
  intro t
  induction t with
  | zero =>
    intro m m' τ F U ht h2 h2' hF hU hFr h3 h4 h5
    obtain ⟨m, rfl⟩ : ∃ q, m = q + 1 := ⟨m - 1, by omega⟩
    obtain ⟨m', rfl⟩ : ∃ q, m' = q + 1 := ⟨m' - 1, by omega⟩
    refine ⟨F, τ, ?_, ?_, hF, hFr, fun o ho => h4 o (by omega) ho⟩
    · show (if nI 0 - 1 < 0 then _ else _) = _
      rw [if_pos (by decide)]
    · show (if nI 0 - 1 < 0 then _ else _) = _
      rw [if_pos (by decide)]
  | succ s ih =>
    intro m m' τ F U ht h2 h2' hF hU hFr h3 h4 h5
    obtain ⟨m, rfl⟩ : ∃ q, m = q + 1 := ⟨m - 1, by omega⟩
    obtain ⟨m', rfl⟩ : ∃ q, m' = q + 1 := ⟨m' - 1, by omega⟩
    have hs : s < rws σ 3 := by omega
    obtain ⟨t1, t2, t3, t4, t5, t6⟩ := hT.2 s hs
    have hK10 : ∀ k, k < cM τ0 s → τ0.2.1 30 (12 * s + k) = 4 → Ix (τ0.2.1 31 (12 * s + k)) 10 := fun k hk z => ((t6 k hk).2.1 z).mono (by omega)
    have hus := undN_lt (cM τ0 s) hK10
    have em1 : nI s + (-1) = nI s - 1 := by grind
    have b31 : ∀ K (z2 : Int32), (z2 = 0 ∨ z2 = 1) → ∃ τ1, B_M_forces_31 K day (nI s) (nI s) z2 τ = L_M_forces_36 K day (nI s) FU (nI (s + 1)) τ1 ∧ FrM [] [37] τ0 τ1 ∧ (∀ j, j ≠ s → τ1.2.1 37 j = τ.2.1 37 j) ∧ τ1.2.1 37 s = z2 := by
      intro K z2 hz
      refine ⟨sA τ 37 (upd (τ.2.1 37) s z2), ?_, hFr.trans (FrM.f2 _ _ (by decide)), fun j hj => ?_, ?_⟩
      · unfold B_M_forces_31
        rw [gix_n (by omega) (by omega), wrn (by omega), nI_1]
        rcases hz with rfl | rfl <;> rfl
      · simp only [va_up, reduceIte, upd]; rw [if_neg hj]
      · simp only [va_up, reduceIte, upd]
    have hb01 : ∀ (τ1 : CS), (∀ j, j ≠ s → τ1.2.1 37 j = τ.2.1 37 j) → ∀ j, s < j → j < rws σ 3 → τ1.2.1 37 j = 0 ∨ τ1.2.1 37 j = 1 := by
      intro τ1 g j hj1 hj2
      rw [g j (by omega), h4 j (by omega) hj2]
      split
      · exact Or.inr rfl
      · exact Or.inl rfl
    rw [nI_p1]
    have eC : L_Laws_forceOn_15 day (m + 1) (nI F) (nI U) (nI s) σ = if day < cel σ 3 s 0 then L_Laws_forceOn_15 day m (nI F) (nI U) (nI s - 1) σ else if U.testBit s = false then L_Laws_forceOn_15 day m (nI (F ||| 2 ^ s)) (nI (U ||| undN τ0 s (cM τ0 s))) (nI s - 1) σ else L_Laws_forceOn_15 day m (nI F) (nI U) (nI s - 1) σ := by
      show (if nI s < 0 then _ else _) = _
      rw [if_neg (nI_pos (by omega)), tb_gl hW 3 (by omega) s 0 hs (by decide), bnd_s, tb_gl hW 3 (by omega) s 1 hs (by decide), bnd_s, t4, nI_or, nI_shl (by omega), nI_or, em1]
      by_cases q : day < cel σ 3 s 0
      · rw [if_pos q, if_pos q]
      · rw [if_neg q, if_neg q]
        by_cases r : U.testBit s = false
        · rw [if_pos ((bit_0 (by omega) (by omega)).mpr r), if_pos r]
        · rw [if_neg (fun z => r ((bit_0 (by omega) (by omega)).mp z)), if_neg r]
    have eM : L_M_forces_7 day (m' + 1) (nI s) τ = if day < cel σ 3 s 0 then B_M_forces_31 (L_M_forces_7 day m') day (nI s) (nI s) 0 τ else B_M_forces_31 (L_M_forces_7 day m') day (nI s) (nI s) 1 τ := by
      show (if nI s < 0 then _ else _) = _
      rw [if_neg (nI_pos (by omega)), gix_n (by omega) (by omega), rdn (by omega), hFr.2 28 (by decide), t1]
    rw [eC, eM]
    -- the text isn't in force
    have out : ∀ τ2 : CS, FrM [] [37] τ0 τ2 → (∀ j, j ≠ s → τ2.2.1 37 j = τ.2.1 37 j) → τ2.2.1 37 s = 0 → ∃ F' τ', L_Laws_forceOn_15 day m (nI F) (nI U) (nI s - 1) σ = some (nI F', σ) ∧ L_M_forces_7 day m' (nI s - 1) τ2 = some (0, τ') ∧ F' < 2 ^ 10 ∧ FrM [] [37] τ0 τ' ∧ ∀ o, o < rws σ 3 → τ'.2.1 37 o = if F'.testBit o then 1 else 0 := by
      intro τ2 f1 f2 f3
      refine ih m m' τ2 F U (by omega) (by omega) (by omega) hF hU f1 (fun o ho => h3 o (by omega)) (fun o h6 h7 => ?_) (fun u hu => ?_)
      · by_cases z : o = s
        · rw [z, f3, h3 s (by omega)]; rfl
        · rw [f2 o z]; exact h4 o (by omega) h7
      · rw [h5 u hu]
        constructor
        · rintro ⟨o, y1, y2⟩; exact ⟨o, by omega, y2⟩
        · rintro ⟨o, y1, y2, y3, y4⟩
          by_cases z : o = s
          · rw [z, h3 s (by omega)] at y3; exact absurd y3 (by decide)
          · exact ⟨o, by omega, y2, y3, y4⟩
    by_cases q : day < cel σ 3 s 0
    · rw [if_pos q, if_pos q]
      obtain ⟨τ1, a1, a2, a3, a4⟩ := b31 (L_M_forces_7 day m') 0 (Or.inl rfl)
      obtain ⟨τ2, c1, c2, c3, c4⟩ := force_36 hW hT (L_M_forces_7 day m') day (s := s) (rws σ 3 - (s + 1)) (s + 1) FU τ1 (by omega) (lt_FU (by omega)) (by omega) a2 (hb01 τ1 a3) (Or.inl a4)
      rw [a1, c1, em1]
      refine out τ2 c2 (fun j hj => by rw [c3 j hj, a3 j hj]) ?_
      rcases c4 with ⟨-, z, -⟩ | ⟨z, -⟩
      · rw [a4] at z; exact absurd z (by decide)
      · exact z
    · rw [if_neg q, if_neg q]
      obtain ⟨τ1, a1, a2, a3, a4⟩ := b31 (L_M_forces_7 day m') 1 (Or.inr rfl)
      obtain ⟨τ2, c1, c2, c3, c4⟩ := force_36 hW hT (L_M_forces_7 day m') day (s := s) (rws σ 3 - (s + 1)) (s + 1) FU τ1 (by omega) (lt_FU (by omega)) (by omega) a2 (hb01 τ1 a3) (Or.inr a4)
      rw [a1, c1, em1]
      -- is it undone?
      have hund : U.testBit s = true ↔ ∃ o', s + 1 ≤ o' ∧ o' < rws σ 3 ∧ τ1.2.1 37 o' = 1 ∧ Und τ0 o' s (cM τ0 o') := by
        rw [h5 s (by omega)]
        constructor
        · rintro ⟨o, y1, y2, y3, y4⟩
          exact ⟨o, y1, y2, by rw [a3 o (by omega), h4 o y1 y2, if_pos y3], y4⟩
        · rintro ⟨o, y1, y2, y3, y4⟩
          refine ⟨o, y1, y2, ?_, y4⟩
          rw [a3 o (by omega), h4 o y1 y2] at y3
          by_cases z : F.testBit o = true
          · exact z
          · rw [if_neg z] at y3; exact absurd y3 (by decide)
      by_cases r : U.testBit s = false
      · rw [if_pos r]
        have hno : ¬ ∃ o', s + 1 ≤ o' ∧ o' < rws σ 3 ∧ τ1.2.1 37 o' = 1 ∧ Und τ0 o' s (cM τ0 o') := fun z => by rw [hund.mpr z] at r; exact absurd r (by decide)
        have f3 : τ2.2.1 37 s = 1 := by
          rcases c4 with ⟨z, -, -⟩ | ⟨-, z⟩
          · exact z
          · rcases z with z | z
            · rw [a4] at z; exact absurd z (by decide)
            · exact absurd z hno
        have tb : ∀ o, (F ||| 2 ^ s).testBit o = (F.testBit o || decide (s = o)) := fun o => by rw [Nat.testBit_or, Nat.testBit_two_pow]
        refine ih m m' τ2 (F ||| 2 ^ s) (U ||| undN τ0 s (cM τ0 s)) (by omega) (by omega) (by omega) (or_lt hF (Nat.pow_lt_pow_right (by omega) (by omega))) (or_lt hU hus) c2 (fun o ho => ?_) (fun o h6 h7 => ?_) (fun u hu => ?_)
        · rw [tb, h3 o (by omega), decide_eq_false (by omega)]; rfl
        · rw [tb]
          by_cases z : o = s
          · rw [z, f3, decide_eq_true rfl, Bool.or_true]; rfl
          · rw [c3 o z, a3 o z, h4 o (by omega) h7, decide_eq_false (fun y => z y.symm), Bool.or_false]
        · rw [Nat.testBit_or, Bool.or_eq_true_iff, h5 u hu, und_bit (by omega) (cM τ0 s) (fun k hk z => (hK10 k hk z).mono (by omega))]
          constructor
          · rintro (⟨o, y1, y2, y3, y4⟩ | y)
            · exact ⟨o, by omega, y2, by rw [tb, y3]; rfl, y4⟩
            · exact ⟨s, by omega, hs, by rw [tb, decide_eq_true rfl, Bool.or_true], y⟩
          · rintro ⟨o, y1, y2, y3, y4⟩
            by_cases z : o = s
            · rw [z] at y4; exact Or.inr y4
            · left
              rw [tb, decide_eq_false (fun y => z y.symm), Bool.or_false] at y3
              exact ⟨o, by omega, y2, y3, y4⟩
      · rw [if_neg r]
        have hyes := hund.mp (by cases h : U.testBit s with | true => rfl | false => exact absurd h r)
        refine out τ2 c2 (fun j hj => by rw [c3 j hj, a3 j hj]) ?_
        rcases c4 with ⟨-, -, z⟩ | ⟨z, -⟩
        · exact absurd hyes z
        · exact z
theorem force_ag {σ τ : CS} (hW : WC σ) (hT : ITxt σ τ) (day : Int32) : ∃ F τ', f_Laws_forceOn day σ = some (nI F, σ) ∧ f_M_forces day τ = some (0, τ') ∧ F < 2 ^ 10 ∧ FrM [] [37] τ τ' ∧ ∀ o, o < rws σ 3 → τ'.2.1 37 o = if F.testBit o then 1 else 0 := by
  have h10 : rws σ 3 ≤ 10 := hW.hlim (t := 3) (by omega)
  obtain ⟨F, τ', g1, g2, g3, g4, g5⟩ := force_loop hW hT day (rws σ 3) FU FU τ 0 0 (Nat.le_refl _) (lt_FU (by omega)) (lt_FU (by omega)) (by decide) (by decide) (FrM.refl _ _ _) (fun o _ => Nat.zero_testBit o) (fun o h1 h2 => absurd h1 (by omega)) (fun u _ => ⟨fun z => by rw [Nat.zero_testBit] at z; exact absurd z (by decide), fun ⟨o, h1, h2, _⟩ => absurd h1 (by omega)⟩)
  refine ⟨F, τ', ?_, ?_, g3, g4, g5⟩
  · unfold f_Laws_forceOn
    rw [tb_size hW 3 (by omega), bnd_s]
    exact g1
  · unfold f_M_forces
    rw [hT.1]
    exact g2
