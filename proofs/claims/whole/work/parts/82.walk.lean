/-! ===== layer 2: walk ===== -/
def wN (σ : CS) (a b : Nat) : Nat := (mx σ a - mx σ b).natAbs + (my σ a - my σ b).natAbs
def sumN (f : Nat → Nat) : Nat → Nat
  | 0 => 0
  | n + 1 => sumN f n + f n
theorem sumN_congr {f g : Nat → Nat} : ∀ n, (∀ i, i < n → f i = g i) → sumN f n = sumN g n := by
  intro n
  induction n with
  | zero => intro _; rfl
  | succ n ih =>
    intro h
    show sumN f n + f n = sumN g n + g n
    rw [ih (fun i hi => h i (by omega)), h n (by omega)]
theorem sumN_le {f : Nat → Nat} {b : Nat} : ∀ n, (∀ i, i < n → f i ≤ b) → sumN f n ≤ n * b := by
  intro n
  induction n with
  | zero => intro _; exact Nat.zero_le _
  | succ n ih =>
    intro h
    show sumN f n + f n ≤ (n + 1) * b
    have := ih (fun i hi => h i (by omega))
    have := h n (by omega)
    rw [Nat.succ_mul]
    omega
theorem abs_nI {x : Int32} {z : Int} {m : Nat} (h : B32 x z m) (hm : m < 2147483648) : (if 0 ≤ x then x else 0 - x) = nI z.natAbs := by
  apply Int32.toInt_inj.mp
  rw [nI_toInt (by have := h.2; omega)]
  by_cases q : 0 ≤ z
  · rw [if_pos (h.ge0.mpr q), h.1]; omega
  · rw [if_neg (fun y => q (h.ge0.mp y))]
    have e : B32 (0 - x) (0 - z) (0 + m) := B32.sub ⟨rfl, by decide⟩ h (by omega)
    rw [e.1]; omega
theorem wN_b {σ : CS} (hM : Mok σ) {a b : Nat} (ha : a < rws σ 1) (hb : b < rws σ 1) : wN σ a b ≤ 3996 := by
  have h1 := hM a ha
  have h2 := hM b hb
  have := (h1.1.sub h2.1 (by omega)).2
  have := (h1.2.sub h2.2 (by omega)).2
  unfold wN
  omega
theorem wayC {σ : CS} (hW : WC σ) (hM : Mok σ) {a b : Nat} (ha : a < rws σ 1) (hb : b < rws σ 1) : f_Ground_wayOf (nI a) (nI b) σ = some (nI (wN σ a b), σ) := by
  have h1 := hM a ha
  have h2 := hM b hb
  unfold f_Ground_wayOf f_FC_wayBetween
  rw [tb_gl hW 1 (by omega) a 1 ha (by decide), bnd_s, tb_gl hW 1 (by omega) a 2 ha (by decide), bnd_s, tb_gl hW 1 (by omega) b 1 hb (by decide), bnd_s, tb_gl hW 1 (by omega) b 2 hb (by decide), bnd_s, bnd_s, abs_nI (h1.1.sub h2.1 (by omega)) (by omega), abs_nI (h1.2.sub h2.2 (by omega)) (by omega), nI_add]
  rfl
theorem sizeM {x : Int32} {z : Int} {m : Nat} (h : B32 x z m) (hm : m < 2147483648) (τ : CS) : f_M_size x τ = some (nI z.natAbs, τ) := by
  have e := abs_nI h hm
  unfold f_M_size
  by_cases q : 0 ≤ x
  · rw [if_pos q] at e ⊢
    rw [e]
  · rw [if_neg q] at e ⊢
    rw [show -x = 0 - x by grind, e]
theorem sidesM_loop {τ : CS} {x y : Nat → Int32} {X Y : Nat → Int} (h : Pol τ x y X Y) {n : Nat} (h9 : τ.1 9 = nI n) (hn : n ≤ 10) : ∀ (d k m : Nat), k + d = n → d < m →
    L_M_sides_4 m (nI (sumN (fun i => (X i - X (i + 1)).natAbs + (Y i - Y (i + 1)).natAbs) k)) (nI k) τ = some (nI (sumN (fun i => (X i - X (i + 1)).natAbs + (Y i - Y (i + 1)).natAbs) n), τ) := by
  intro d
  induction d with
  | zero =>
    intro k m h1 h2
    obtain ⟨m, rfl⟩ : ∃ q, m = q + 1 := ⟨m - 1, by omega⟩
    have hk : k = n := by omega
    subst hk
    show (if τ.1 9 ≤ nI k then _ else _) = _
    rw [h9, if_pos (nI_le (Nat.le_refl _) (by omega))]
  | succ d ih =>
    intro k m h1 h2
    obtain ⟨m, rfl⟩ : ∃ q, m = q + 1 := ⟨m - 1, by omega⟩
    obtain ⟨a1, a2, a3, a4⟩ := h k (by omega)
    obtain ⟨b1, b2, b3, b4⟩ := h (k + 1) (by omega)
    show (if τ.1 9 ≤ nI k then _ else _) = _
    rw [h9, if_neg (nI_ge (by omega) (by omega)), nI_1, a1, bnd_s, b1, bnd_s, sizeM (a3.sub b3 (by omega)) (by omega), bnd_s, a2, bnd_s, b2, bnd_s, sizeM (a4.sub b4 (by omega)) (by omega), bnd_s, nI_add, nI_add]
    exact ih (k + 1) m (by omega) (by omega)
theorem sidesM {τ : CS} {x y : Nat → Int32} {X Y : Nat → Int} (h : Pol τ x y X Y) {n : Nat} (h9 : τ.1 9 = nI n) (hn : n ≤ 10) : f_M_sides τ = some (nI (sumN (fun i => (X i - X (i + 1)).natAbs + (Y i - Y (i + 1)).natAbs) n), τ) :=
  sidesM_loop h h9 hn n 0 FU (by omega) (lt_FU (by omega))
/-- how long an open row is -/
def osum (σ : CS) (R : Nat → Nat) (k : Nat) : Nat := sumN (fun i => wN σ (R i) (R (i + 1))) (k - 1)
theorem sides_eq (σ : CS) (R : Nat → Nat) {n : Nat} (h : 3 ≤ n) : sumN (fun i => (Xr σ n R i - Xr σ n R (i + 1)).natAbs + (Yr σ n R i - Yr σ n R (i + 1)).natAbs) n = osum σ R n + wN σ (R (n - 1)) (R 0) := by
  obtain ⟨m, rfl⟩ : ∃ m, n = m + 1 := ⟨n - 1, by omega⟩
  show sumN _ m + _ = _
  unfold osum
  rw [show m + 1 - 1 = m by omega, Nat.mod_self, Nat.mod_eq_of_lt (show m < m + 1 by omega)]
  rw [sumN_congr (g := fun i => wN σ (R i) (R (i + 1))) m (fun i hi => by
    unfold wN
    rw [Nat.mod_eq_of_lt (show i < m + 1 by omega), Nat.mod_eq_of_lt (show i + 1 < m + 1 by omega)])]
  rfl
/-! what the search holds -/
def Wk (n : Nat) (σ τ : CS) (f : Nat) : Prop := σ.1 51 = nI f ∧ τ.1 19 = nI f ∧ (f = 0 → τ.1 20 = -1) ∧ (0 < f → (∃ l, l ≤ 100000 ∧ σ.1 50 = nI l ∧ τ.1 20 = nI l) ∧ ∀ i, i < n → σ.2.1 19 i = τ.2.1 17 i ∧ Ix (σ.2.1 19 i) (rws σ 1))
/-- the marks stay -/
def SM (σ0 σ : CS) : Prop := rws σ 1 = rws σ0 1 ∧ ∀ i c, cel σ 1 i c = cel σ0 1 i c
theorem SM.mxe {σ0 σ : CS} (h : SM σ0 σ) : mx σ = mx σ0 := by funext a; unfold mx; rw [h.2]
theorem SM.mye {σ0 σ : CS} (h : SM σ0 σ) : my σ = my σ0 := by funext a; unfold my; rw [h.2]
theorem SM.fwe {σ0 σ : CS} (h : SM σ0 σ) : folw σ = folw σ0 := by
  funext R k; unfold folw sam fol tch; rw [h.mxe, h.mye]
theorem SM.cle {σ0 σ : CS} (h : SM σ0 σ) : clos σ = clos σ0 := by
  funext R k; unfold clos fol tch; rw [h.mxe, h.mye]
theorem SM.wNe {σ0 σ : CS} (h : SM σ0 σ) : wN σ = wN σ0 := by
  funext a b; unfold wN; rw [h.mxe, h.mye]
theorem SM.refl (σ : CS) : SM σ σ := ⟨rfl, fun _ _ => rfl⟩
theorem FrC.sm {I A : List Nat} {σ σ' : CS} (h : FrC I A σ σ') (h1 : 5 ∉ I) (h2 : 1 ∉ A) : SM σ σ' := ⟨h.fr h1, fun i c => h.fc h2 i c⟩
/-- both copy the best row -/
theorem bestC {n : Nat} (hn : n ≤ 6) {R : Nat → Nat} : ∀ (d k m : Nat) (σ : CS), k + d = n → d < m → σ.1 49 = nI n → (∀ i, i < n → σ.2.1 18 i = nI (R i)) → (∀ i, i < k → σ.2.1 19 i = nI (R i)) →
    ∃ σ', L_Search_tryRing_99 m (nI k) σ = some (0, σ') ∧ FrC [] [19] σ σ' ∧ ∀ i, i < n → σ'.2.1 19 i = nI (R i) := by
  intro d
  induction d with
  | zero =>
    intro k m σ h1 h2 h3 h4 h5
    obtain ⟨m, rfl⟩ : ∃ q, m = q + 1 := ⟨m - 1, by omega⟩
    refine ⟨σ, ?_, FrC.refl _ _ _, fun i hi => h5 i (by omega)⟩
    show (if σ.1 49 ≤ nI k then _ else _) = _
    rw [h3, if_pos (nI_le (by omega) (by omega))]
  | succ d ih =>
    intro k m σ h1 h2 h3 h4 h5
    obtain ⟨m, rfl⟩ : ∃ q, m = q + 1 := ⟨m - 1, by omega⟩
    have e : L_Search_tryRing_99 (m + 1) (nI k) σ = L_Search_tryRing_99 m (nI (k + 1)) (sA σ 19 (upd (σ.2.1 19) k (nI (R k)))) := by
      show (if σ.1 49 ≤ nI k then _ else _) = _
      rw [h3, if_neg (nI_ge (by omega) (by omega)), if_neg (fun z => absurd ((lit_le 6 (by omega) (by omega)).mp z) (by omega)), gix_n (by omega) (by omega), gix_n (by omega) (by omega), rdn (by omega), h4 k (by omega), wrn (by omega), nI_1]
    obtain ⟨σ', g1, g2, g3⟩ := ih (k + 1) m (sA σ 19 (upd (σ.2.1 19) k (nI (R k)))) (by omega) (by omega) h3 (fun i hi => by
      simp only [va_up, reduceIte, Nat.reduceEqDiff]
      exact h4 i hi) (fun i hi => by
      simp only [va_up, reduceIte, upd]
      by_cases q : i = k
      · rw [if_pos q, q]
      · rw [if_neg q]; exact h5 i (by omega))
    exact ⟨σ', e.trans g1, (FrC.f2 _ _ (by decide)).trans g2, g3⟩
theorem bestM {n : Nat} (hn : n ≤ 6) {R : Nat → Nat} (rc : Nat → Int32 → Int32 → CS → Option (Int32 × CS)) : ∀ (d k m : Nat) (τ : CS), k + d = n → d < m → (∀ i, i < n → τ.2.1 8 i = nI (R i)) → (∀ i, i < k → τ.2.1 17 i = nI (R i)) →
    ∃ τ', L_M_walks_57 rc (nI n) m (nI k) τ = some (0, τ') ∧ FrM [] [17] τ τ' ∧ ∀ i, i < n → τ'.2.1 17 i = nI (R i) := by
  intro d
  induction d with
  | zero =>
    intro k m τ h1 h2 h4 h5
    obtain ⟨m, rfl⟩ : ∃ q, m = q + 1 := ⟨m - 1, by omega⟩
    refine ⟨τ, ?_, FrM.refl _ _ _, fun i hi => h5 i (by omega)⟩
    show (if nI n ≤ nI k then _ else _) = _
    rw [if_pos (nI_le (by omega) (by omega))]
  | succ d ih =>
    intro k m τ h1 h2 h4 h5
    obtain ⟨m, rfl⟩ : ∃ q, m = q + 1 := ⟨m - 1, by omega⟩
    have e : L_M_walks_57 rc (nI n) (m + 1) (nI k) τ = L_M_walks_57 rc (nI n) m (nI (k + 1)) (sA τ 17 (upd (τ.2.1 17) k (nI (R k)))) := by
      show (if nI n ≤ nI k then _ else _) = _
      rw [if_neg (nI_ge (by omega) (by omega)), gix_n (by omega) (by omega), gix_n (by omega) (by omega), rdn (by omega), h4 k (by omega), wrn (by omega), nI_1]
    obtain ⟨τ', g1, g2, g3⟩ := ih (k + 1) m (sA τ 17 (upd (τ.2.1 17) k (nI (R k)))) (by omega) (by omega) (fun i hi => by
      simp only [va_up, reduceIte, Nat.reduceEqDiff]
      exact h4 i hi) (fun i hi => by
      simp only [va_up, reduceIte, upd]
      by_cases q : i = k
      · rw [if_pos q, q]
      · rw [if_neg q]; exact h5 i (by omega))
    exact ⟨τ', e.trans g1, (FrM.f2 _ _ (by decide)).trans g2, g3⟩
/-- a row of the reference that is not simple changes nothing -/
theorem leafM_bad {σ τ : CS} (hW : WC σ) (hM : IMar σ τ) {n : Nat} (h3 : 3 ≤ n) (hn : n ≤ 6) {R : Nat → Nat} (hR : ∀ i, i < n → τ.2.1 8 i = nI (R i) ∧ R i < rws σ 1) (hbad : ¬ ((∀ k, k < n → folw σ R k) ∧ clos σ R n)) (rc : Nat → Int32 → Int32 → CS → Option (Int32 × CS)) : f_M_walks rc (nI n) (nI n) τ = some (0, sF τ 9 (nI n)) := by
  unfold f_M_walks
  have hM' : IMar σ (sF τ 9 (nI n)) := hM.fr rfl rfl rfl rfl rfl rfl
  have h9 : (sF τ 9 (nI n)).1 9 = nI n := va_up_self τ.1 9 (nI n)
  have hRM : RowM σ (sF τ 9 (nI n)) n R := ⟨h9, by omega, by omega, hR⟩
  rw [if_pos rfl]
  rcases simpleM (hRM.pol hW hM') h9 (by omega) with ⟨p, e⟩ | ⟨p, e⟩
  · exact absurd ((sim_iff σ R n h3).mpr p) hbad
  · rw [e, bnd_s, if_pos rfl]
theorem leaf_ag {σ τ : CS} (hW : WC σ) (hM : IMar σ τ) {n : Nat} (h3 : 3 ≤ n) (hn : n ≤ 6) (hS : σ.1 49 = nI n) {R : Nat → Nat} (hC : RowC σ 18 n R) (hR : ∀ i, i < n → τ.2.1 8 i = nI (R i)) (hgood : ∀ k, k < n → folw σ R k) {f : Nat} (hf : f ≤ 5000) (hK : Wk n σ τ f) (rc : Nat → Int32 → Int32 → CS → Option (Int32 × CS)) :
    ∃ σ' τ' f', f_Search_tryRing (nI (osum σ R n)) σ = some (0, σ') ∧ f_M_walks rc (nI n) (nI n) τ = some (0, τ') ∧ FrC [50, 51] [19] σ σ' ∧ FrM [9, 19, 20] [17] τ τ' ∧ Wk n σ' τ' f' ∧ f ≤ f' ∧ f' ≤ f + 1 := by
  have hMk := hM.mok
  have h40 : rws σ 1 ≤ 40 := hW.hlim (t := 1) (by omega)
  have hM' : IMar σ (sF τ 9 (nI n)) := hM.fr rfl rfl rfl rfl rfl rfl
  have h9 : (sF τ 9 (nI n)).1 9 = nI n := va_up_self τ.1 9 (nI n)
  have hRM : RowM σ (sF τ 9 (nI n)) n R := ⟨h9, by omega, by omega, fun i hi => ⟨hR i hi, (hC i hi).2⟩⟩
  have hPol := hRM.pol hW hM'
  have hcl := closesC hW hMk (a0 := 18) (L := 6) rfl (by omega) hC h3 hn
  have eC0 : f_Search_tryRing (nI (osum σ R n)) σ = bnd (f_Ground_closes 18 (nI n) σ) (fun r32 σ32 => if r32 = 0 then some (0, σ32) else gix ((σ32.1 49) - 1) 6 (gix 0 6 (bnd (f_Ground_wayOf (rd σ32 18 ((σ32.1 49) - 1)) (rd σ32 18 0) σ32) (fun r61 σ61 => if ((σ61.1 51) + 1) = 1 then B_Search_tryRing_92 (nI (osum σ R n) + r61) (sF σ61 51 ((σ61.1 51) + 1)) else if (σ61.1 50) ≤ (nI (osum σ R n) + r61) then some (0, (sF σ61 51 ((σ61.1 51) + 1))) else B_Search_tryRing_92 (nI (osum σ R n) + r61) (sF σ61 51 ((σ61.1 51) + 1)))))) := by
    unfold f_Search_tryRing
    rw [hS, if_neg (fun z => absurd ((lt_lit 3 (by omega) (by omega)).mp z) (by omega)), if_neg (fun z => absurd ((lit_lt 6 (by omega) (by omega)).mp z) (by omega))]
  rcases hcl with ⟨p, e1⟩ | ⟨p, e1⟩
  · -- simple
    have hos : osum σ R n ≤ (n - 1) * 3996 := sumN_le (n - 1) (fun i hi => wN_b hMk (hC i (by omega)).2 (hC (i + 1) (by omega)).2)
    have hos2 : (n - 1) * 3996 ≤ 5 * 3996 := Nat.mul_le_mul_right _ (by omega)
    have hwl := wN_b hMk (hC (n - 1) (by omega)).2 (hC 0 (by omega)).2
    obtain ⟨L, hL⟩ : ∃ L, L = osum σ R n + wN σ (R (n - 1)) (R 0) := ⟨_, rfl⟩
    have hLb : L ≤ 100000 := by omega
    have r0 : rd σ 18 0 = nI (R 0) := (rdn (j := 0) (by omega) σ 18).trans (hC 0 (by omega)).1
    have g0 : ∀ (X : Type) (o : Option X), gix 0 6 o = o := fun X o => gix_n (j := 0) (by omega) (by omega)
    have eC : f_Search_tryRing (nI (osum σ R n)) σ = if nI f + 1 = 1 then B_Search_tryRing_92 (nI L) (sF σ 51 (nI (f + 1))) else if (σ.1 50) ≤ nI L then some (0, (sF σ 51 (nI (f + 1)))) else B_Search_tryRing_92 (nI L) (sF σ 51 (nI (f + 1))) := by
      rw [eC0, e1, bnd_s, if_neg i10, hS, nI_sl (a := n) 1 (by omega), gix_n (by omega) (by omega), g0, rdn (by omega), (hC (n - 1) (by omega)).1, r0, wayC hW hMk (hC (n - 1) (by omega)).2 (hC 0 (by omega)).2, bnd_s, hK.1, nI_add, nI_1, ← hL]
    have hsd : f_M_sides (sF (sF τ 9 (nI n)) 19 (nI (f + 1))) = some (nI L, sF (sF τ 9 (nI n)) 19 (nI (f + 1))) := by
      have hRM2 : RowM σ (sF (sF τ 9 (nI n)) 19 (nI (f + 1))) n R := hRM
      have hM2 : IMar σ (sF (sF τ 9 (nI n)) 19 (nI (f + 1))) := hM.fr rfl rfl rfl rfl rfl rfl
      rw [sidesM (hRM2.pol hW hM2) h9 (by omega), sides_eq σ R h3, ← hL]
    have eM : f_M_walks rc (nI n) (nI n) τ = if (τ.1 20) < 0 then B_M_walks_47 rc (nI n) (sF (sF τ 9 (nI n)) 19 (nI (f + 1))) else if nI L < τ.1 20 then B_M_walks_47 rc (nI n) (sF (sF τ 9 (nI n)) 19 (nI (f + 1))) else some (0, (sF (sF τ 9 (nI n)) 19 (nI (f + 1)))) := by
      unfold f_M_walks
      rw [if_pos rfl]
      rcases simpleM hPol h9 (by omega) with ⟨p', e2⟩ | ⟨p', e2⟩
      · rw [e2, bnd_s, if_neg i10]
        have q19 : (sF τ 9 (nI n)).1 19 + 1 = nI (f + 1) := by
          show τ.1 19 + 1 = _
          rw [hK.2.1, nI_1]
        rw [q19, hsd, bnd_s]
        rfl
      · exact absurd ((sim_iff σ R n h3).mp ⟨hgood, p⟩) p'
    rw [eC, eM]
    -- what a better row does
    have better : ∃ σ' τ', B_Search_tryRing_92 (nI L) (sF σ 51 (nI (f + 1))) = some (0, σ') ∧ B_M_walks_47 rc (nI n) (sF (sF τ 9 (nI n)) 19 (nI (f + 1))) = some (0, τ') ∧ FrC [50, 51] [19] σ σ' ∧ FrM [9, 19, 20] [17] τ τ' ∧ Wk n σ' τ' (f + 1) := by
      obtain ⟨σ', a1, a2, a3⟩ := bestC hn (R := R) n 0 FU (sF (sF σ 51 (nI (f + 1))) 50 (nI L)) (by omega) (lt_FU (by omega)) (by simp only [va_up, reduceIte, Nat.reduceEqDiff]; exact hS) (fun i hi => (hC i hi).1) (fun i hi => absurd hi (by omega))
      obtain ⟨τ', b1, b2, b3⟩ := bestM hn (R := R) rc n 0 FU (sF (sF (sF τ 9 (nI n)) 19 (nI (f + 1))) 20 (nI L)) (by omega) (lt_FU (by omega)) (fun i hi => hR i hi) (fun i hi => absurd hi (by omega))
      have fC : FrC [50, 51] [19] σ σ' := ((FrC.f1 _ _ (by decide)).trans (FrC.f1 _ _ (by decide))).trans (a2.mono (by simp) (by decide))
      have fM : FrM [9, 19, 20] [17] τ τ' := (((FrM.f1 _ _ (by decide)).trans (FrM.f1 _ _ (by decide))).trans (FrM.f1 _ _ (by decide))).trans (b2.mono (by simp) (by decide))
      refine ⟨σ', τ', ?_, ?_, fC, fM, ?_, ?_, fun z => absurd z (by omega), fun _ => ⟨⟨L, hLb, ?_, ?_⟩, fun i hi => ⟨by rw [a3 i hi, b3 i hi], R i, ?_, a3 i hi⟩⟩⟩
      · unfold B_Search_tryRing_92
        exact a1
      · unfold B_M_walks_47
        rw [hsd, bnd_s]
        exact b1
      · rw [a2.1 51 (by simp)]; simp only [va_up, reduceIte, Nat.reduceEqDiff]
      · rw [b2.1 19 (by simp)]; simp only [va_up, reduceIte, Nat.reduceEqDiff]
      · rw [a2.1 50 (by simp)]; simp only [va_up, reduceIte]
      · rw [b2.1 20 (by simp)]; simp only [va_up, reduceIte]
      · rw [fC.fr (by decide)]; exact (hC i hi).2
    obtain ⟨σ', τ', b1, b2, b3, b4, b5⟩ := better
    by_cases q : f = 0
    · subst q
      rw [if_pos (by decide), hK.2.2.1 rfl, if_pos (by decide)]
      exact ⟨σ', τ', 0 + 1, b1, b2, b3, b4, b5, by omega, by omega⟩
    · obtain ⟨⟨l, l1, l2, l3⟩, l4⟩ := hK.2.2.2 (by omega)
      have qn : ¬ nI f + 1 = 1 := by
        rw [nI_1]
        intro z
        have := (eq_lit 1 (by omega) (by omega)).mp z
        omega
      rw [if_neg qn, l2, l3, if_neg (nI_pos (by omega))]
      by_cases r : L < l
      · rw [if_neg (nI_ge r (by omega)), if_pos (nI_lt r (by omega))]
        exact ⟨σ', τ', f + 1, b1, b2, b3, b4, b5, by omega, by omega⟩
      · rw [if_pos (nI_le (by omega) (by omega)), if_neg (nI_nlt (by omega) (by omega))]
        refine ⟨_, _, f + 1, rfl, rfl, FrC.f1 _ _ (by decide), (FrM.f1 _ _ (by decide)).trans (FrM.f1 _ _ (by decide)), ⟨?_, ?_, fun z => absurd z (by omega), fun _ => ⟨⟨l, l1, ?_, ?_⟩, fun i hi => ?_⟩⟩, by omega, by omega⟩
        · simp only [va_up, reduceIte]
        · simp only [va_up, reduceIte]
        · simp only [va_up, reduceIte, Nat.reduceEqDiff]; exact l2
        · simp only [va_up, reduceIte, Nat.reduceEqDiff]; exact l3
        · have := l4 i hi
          rw [sF_rw _ (by omega) _ (by omega)]
          exact this
  · refine ⟨σ, sF τ 9 (nI n), f, ?_, ?_, FrC.refl _ _ _, FrM.f1 _ _ (by decide), ?_, Nat.le_refl _, by omega⟩
    · rw [eC0, e1, bnd_s, if_pos rfl]
    · exact leafM_bad hW hM h3 hn (fun i hi => ⟨hR i hi, (hC i hi).2⟩) (fun z => p z.2) rc
    · obtain ⟨k1, k2, k3, k4⟩ := hK
      exact ⟨k1, k2, k3, k4⟩
