/-! ===== layer 2: walk ===== -/
def wN (σ : CS) (a b : Nat) : Nat := (mx σ a - mx σ b).natAbs + (my σ a - my σ b).natAbs
def sumN (f : Nat → Nat) : Nat → Nat
  | 0 => 0
  | n + 1 => sumN f n + f n
theorem sumN_congr {f g : Nat → Nat} : ∀ n, (∀ i, i < n → f i = g i) → sumN f n = sumN g n := by
  intro n
  induction n with
  | zero => intro _; rfl
  | succ n ih =>
    intro h
    show sumN f n + f n = sumN g n + g n
    rw [ih (fun i hi => h i (by omega)), h n (by omega)]
theorem sumN_le {f : Nat → Nat} {b : Nat} : ∀ n, (∀ i, i < n → f i ≤ b) → sumN f n ≤ n * b := by
  intro n
  induction n with
  | zero => intro _; exact Nat.zero_le _
  | succ n ih =>
    intro h
    show sumN f n + f n ≤ (n + 1) * b
    have := ih (fun i hi => h i (by omega))
    have := h n (by omega)
    rw [Nat.succ_mul]
    omega
theorem abs_nI {x : Int32} {z : Int} {m : Nat} (h : B32 x z m) (hm : m < 2147483648) : (if 0 ≤ x then x else 0 - x) = nI z.natAbs := by
  apply Int32.toInt_inj.mp
  rw [nI_toInt (by have := h.2; omega)]
  by_cases q : 0 ≤ z
  · rw [if_pos (h.ge0.mpr q), h.1]; omega
  · rw [if_neg (fun y => q (h.ge0.mp y))]
    have e : B32 (0 - x) (0 - z) (0 + m) := B32.sub ⟨rfl, by decide⟩ h (by omega)
    rw [e.1]; omega
theorem wN_b {σ : CS} (hM : Mok σ) {a b : Nat} (ha : a < rws σ 1) (hb : b < rws σ 1) : wN σ a b ≤ 3996 := by
  have h1 := hM a ha
  have h2 := hM b hb
  have := (h1.1.sub h2.1 (by omega)).2
  have := (h1.2.sub h2.2 (by omega)).2
  unfold wN
  omega
theorem wayC {σ : CS} (hW : WC σ) (hM : Mok σ) {a b : Nat} (ha : a < rws σ 1) (hb : b < rws σ 1) : f_Ground_wayOf (nI a) (nI b) σ = some (nI (wN σ a b), σ) := by
  have h1 := hM a ha
  have h2 := hM b hb
  unfold f_Ground_wayOf f_FC_wayBetween
  rw [tb_gl hW 1 (by omega) a 1 ha (by decide), bnd_s, tb_gl hW 1 (by omega) a 2 ha (by decide), bnd_s, tb_gl hW 1 (by omega) b 1 hb (by decide), bnd_s, tb_gl hW 1 (by omega) b 2 hb (by decide), bnd_s, bnd_s, abs_nI (h1.1.sub h2.1 (by omega)) (by omega), abs_nI (h1.2.sub h2.2 (by omega)) (by omega), nI_add]
  rfl
theorem sizeM {x : Int32} {z : Int} {m : Nat} (h : B32 x z m) (hm : m < 2147483648) (τ : CS) : f_M_size x τ = some (nI z.natAbs, τ) := by
  have e := abs_nI h hm
  unfold f_M_size
  by_cases q : 0 ≤ x
  · rw [if_pos q] at e ⊢
    rw [e]
  · rw [if_neg q] at e ⊢
    rw [show -x = 0 - x by grind, e]
theorem sidesM_loop {τ : CS} {x y : Nat → Int32} {X Y : Nat → Int} (h : Pol τ x y X Y) {n : Nat} (h9 : τ.1 9 = nI n) (hn : n ≤ 10) : ∀ (d k m : Nat), k + d = n → d < m →
    L_M_sides_4 m (nI (sumN (fun i => (X i - X (i + 1)).natAbs + (Y i - Y (i + 1)).natAbs) k)) (nI k) τ = some (nI (sumN (fun i => (X i - X (i + 1)).natAbs + (Y i - Y (i + 1)).natAbs) n), τ) := by
  intro d
  induction d with
  | zero =>
    intro k m h1 h2
    obtain ⟨m, rfl⟩ : ∃ q, m = q + 1 := ⟨m - 1, by omega⟩
    have hk : k = n := by omega
    subst hk
    show (if τ.1 9 ≤ nI k then _ else _) = _
    rw [h9, if_pos (nI_le (Nat.le_refl _) (by omega))]
  | succ d ih =>
    intro k m h1 h2
    obtain ⟨m, rfl⟩ : ∃ q, m = q + 1 := ⟨m - 1, by omega⟩
    obtain ⟨a1, a2, a3, a4⟩ := h k (by omega)
    obtain ⟨b1, b2, b3, b4⟩ := h (k + 1) (by omega)
    show (if τ.1 9 ≤ nI k then _ else _) = _
    rw [h9, if_neg (nI_ge (by omega) (by omega)), nI_1, a1, bnd_s, b1, bnd_s, sizeM (a3.sub b3 (by omega)) (by omega), bnd_s, a2, bnd_s, b2, bnd_s, sizeM (a4.sub b4 (by omega)) (by omega), bnd_s, nI_add, nI_add]
    exact ih (k + 1) m (by omega) (by omega)
theorem sidesM {τ : CS} {x y : Nat → Int32} {X Y : Nat → Int} (h : Pol τ x y X Y) {n : Nat} (h9 : τ.1 9 = nI n) (hn : n ≤ 10) : f_M_sides τ = some (nI (sumN (fun i => (X i - X (i + 1)).natAbs + (Y i - Y (i + 1)).natAbs) n), τ) :=
  sidesM_loop h h9 hn n 0 FU (by omega) (lt_FU (by omega))
/-- how long an open row is -/
def osum (σ : CS) (R : Nat → Nat) (k : Nat) : Nat := sumN (fun i => wN σ (R i) (R (i + 1))) (k - 1)
theorem sides_eq (σ : CS) (R : Nat → Nat) {n : Nat} (h : 3 ≤ n) : sumN (fun i => (Xr σ n R i - Xr σ n R (i + 1)).natAbs + (Yr σ n R i - Yr σ n R (i + 1)).natAbs) n = osum σ R n + wN σ (R (n - 1)) (R 0) := by
  obtain ⟨m, rfl⟩ : ∃ m, n = m + 1 := ⟨n - 1, by omega⟩
  have e1 : sumN (fun i => (Xr σ (m + 1) R i - Xr σ (m + 1) R (i + 1)).natAbs + (Yr σ (m + 1) R i - Yr σ (m + 1) R (i + 1)).natAbs) m = sumN (fun i => wN σ (R i) (R (i + 1))) m := sumN_congr m (fun i hi => by
    unfold wN
    show (mx σ (R (i % (m + 1))) - mx σ (R ((i + 1) % (m + 1)))).natAbs + (my σ (R (i % (m + 1))) - my σ (R ((i + 1) % (m + 1)))).natAbs = _
    rw [Nat.mod_eq_of_lt (show i < m + 1 by omega), Nat.mod_eq_of_lt (show i + 1 < m + 1 by omega)])
  have e2 : (Xr σ (m + 1) R m - Xr σ (m + 1) R (m + 1)).natAbs + (Yr σ (m + 1) R m - Yr σ (m + 1) R (m + 1)).natAbs = wN σ (R m) (R 0) := by
    unfold wN
    show (mx σ (R (m % (m + 1))) - mx σ (R ((m + 1) % (m + 1)))).natAbs + (my σ (R (m % (m + 1))) - my σ (R ((m + 1) % (m + 1)))).natAbs = _
    rw [Nat.mod_self, Nat.mod_eq_of_lt (show m < m + 1 by omega)]
  show sumN (fun i => (Xr σ (m + 1) R i - Xr σ (m + 1) R (i + 1)).natAbs + (Yr σ (m + 1) R i - Yr σ (m + 1) R (i + 1)).natAbs) m + ((Xr σ (m + 1) R m - Xr σ (m + 1) R (m + 1)).natAbs + (Yr σ (m + 1) R m - Yr σ (m + 1) R (m + 1)).natAbs) = _
  rw [e1, e2]
  rfl
/-! what the search holds -/
def Wk (n : Nat) (σ τ : CS) (f : Nat) : Prop := σ.1 51 = nI f ∧ τ.1 19 = nI f ∧ (f = 0 → τ.1 20 = -1) ∧ (0 < f → (∃ l, l ≤ 100000 ∧ σ.1 50 = nI l ∧ τ.1 20 = nI l) ∧ ∀ i, i < n → σ.2.1 19 i = τ.2.1 17 i ∧ Ix (σ.2.1 19 i) (rws σ 1))
/-- the marks stay -/
def SM (σ0 σ : CS) : Prop := rws σ 1 = rws σ0 1 ∧ ∀ i c, cel σ 1 i c = cel σ0 1 i c
theorem SM.mxe {σ0 σ : CS} (h : SM σ0 σ) : mx σ = mx σ0 := by funext a; unfold mx; rw [h.2]
theorem SM.mye {σ0 σ : CS} (h : SM σ0 σ) : my σ = my σ0 := by funext a; unfold my; rw [h.2]
theorem SM.fwe {σ0 σ : CS} (h : SM σ0 σ) : folw σ = folw σ0 := by
  funext R k; unfold folw sam fol tch; rw [h.mxe, h.mye]
theorem SM.cle {σ0 σ : CS} (h : SM σ0 σ) : clos σ = clos σ0 := by
  funext R k; unfold clos fol tch; rw [h.mxe, h.mye]
theorem SM.wNe {σ0 σ : CS} (h : SM σ0 σ) : wN σ = wN σ0 := by
  funext a b; unfold wN; rw [h.mxe, h.mye]
theorem SM.refl (σ : CS) : SM σ σ := ⟨rfl, fun _ _ => rfl⟩
theorem FrC.sm {I A : List Nat} {σ σ' : CS} (h : FrC I A σ σ') (h1 : 5 ∉ I) (h2 : 1 ∉ A) : SM σ σ' := ⟨h.fr h1, fun i c => h.fc h2 i c⟩
/-- both copy the best row -/
theorem bestC {n : Nat} (hn : n ≤ 6) {R : Nat → Nat} : ∀ (d k m : Nat) (σ : CS), k + d = n → d < m → σ.1 49 = nI n → (∀ i, i < n → σ.2.1 18 i = nI (R i)) → (∀ i, i < k → σ.2.1 19 i = nI (R i)) →
    ∃ σ', L_Search_tryRing_99 m (nI k) σ = some (0, σ') ∧ FrC [] [19] σ σ' ∧ ∀ i, i < n → σ'.2.1 19 i = nI (R i) := by
  intro d
  induction d with
  | zero =>
    intro k m σ h1 h2 h3 h4 h5
    obtain ⟨m, rfl⟩ : ∃ q, m = q + 1 := ⟨m - 1, by omega⟩
    refine ⟨σ, ?_, FrC.refl _ _ _, fun i hi => h5 i (by omega)⟩
    show (if σ.1 49 ≤ nI k then _ else _) = _
    rw [h3, if_pos (nI_le (by omega) (by omega))]
  | succ d ih =>
    intro k m σ h1 h2 h3 h4 h5
    obtain ⟨m, rfl⟩ : ∃ q, m = q + 1 := ⟨m - 1, by omega⟩
    have e : L_Search_tryRing_99 (m + 1) (nI k) σ = L_Search_tryRing_99 m (nI (k + 1)) (sA σ 19 (upd (σ.2.1 19) k (nI (R k)))) := by
      show (if σ.1 49 ≤ nI k then _ else _) = _
      rw [h3, if_neg (nI_ge (by omega) (by omega)), if_neg (fun z => absurd ((lit_le 6 (by omega) (by omega)).mp z) (by omega)), gix_n (by omega) (by omega), gix_n (by omega) (by omega), rdn (by omega), h4 k (by omega), wrn (by omega), nI_1]
    obtain ⟨σ', g1, g2, g3⟩ := ih (k + 1) m (sA σ 19 (upd (σ.2.1 19) k (nI (R k)))) (by omega) (by omega) h3 (fun i hi => by
      simp only [va_up, reduceIte, Nat.reduceEqDiff]
      exact h4 i hi) (fun i hi => by
      simp only [va_up, reduceIte, upd]
      by_cases q : i = k
      · rw [if_pos q, q]
      · rw [if_neg q]; exact h5 i (by omega))
    exact ⟨σ', e.trans g1, (FrC.f2 _ _ (by decide)).trans g2, g3⟩
theorem bestM {n : Nat} (hn : n ≤ 6) {R : Nat → Nat} (rc : Nat → Int32 → Int32 → CS → Option (Int32 × CS)) : ∀ (d k m : Nat) (τ : CS), k + d = n → d < m → (∀ i, i < n → τ.2.1 8 i = nI (R i)) → (∀ i, i < k → τ.2.1 17 i = nI (R i)) →
    ∃ τ', L_M_walks_57 rc (nI n) m (nI k) τ = some (0, τ') ∧ FrM [] [17] τ τ' ∧ ∀ i, i < n → τ'.2.1 17 i = nI (R i) := by
  intro d
  induction d with
  | zero =>
    intro k m τ h1 h2 h4 h5
    obtain ⟨m, rfl⟩ : ∃ q, m = q + 1 := ⟨m - 1, by omega⟩
    refine ⟨τ, ?_, FrM.refl _ _ _, fun i hi => h5 i (by omega)⟩
    show (if nI n ≤ nI k then _ else _) = _
    rw [if_pos (nI_le (by omega) (by omega))]
  | succ d ih =>
    intro k m τ h1 h2 h4 h5
    obtain ⟨m, rfl⟩ : ∃ q, m = q + 1 := ⟨m - 1, by omega⟩
    have e : L_M_walks_57 rc (nI n) (m + 1) (nI k) τ = L_M_walks_57 rc (nI n) m (nI (k + 1)) (sA τ 17 (upd (τ.2.1 17) k (nI (R k)))) := by
      show (if nI n ≤ nI k then _ else _) = _
      rw [if_neg (nI_ge (by omega) (by omega)), gix_n (by omega) (by omega), gix_n (by omega) (by omega), rdn (by omega), h4 k (by omega), wrn (by omega), nI_1]
    obtain ⟨τ', g1, g2, g3⟩ := ih (k + 1) m (sA τ 17 (upd (τ.2.1 17) k (nI (R k)))) (by omega) (by omega) (fun i hi => by
      simp only [va_up, reduceIte, Nat.reduceEqDiff]
      exact h4 i hi) (fun i hi => by
      simp only [va_up, reduceIte, upd]
      by_cases q : i = k
      · rw [if_pos q, q]
      · rw [if_neg q]; exact h5 i (by omega))
    exact ⟨τ', e.trans g1, (FrM.f2 _ _ (by decide)).trans g2, g3⟩
/-- a row of the reference that is not simple changes nothing -/
theorem leafM_bad {σ τ : CS} (hW : WC σ) (hM : IMar σ τ) {n : Nat} (h3 : 3 ≤ n) (hn : n ≤ 6) {R : Nat → Nat} (hR : ∀ i, i < n → τ.2.1 8 i = nI (R i) ∧ R i < rws σ 1) (hbad : ¬ ((∀ k, k < n → folw σ R k) ∧ clos σ R n)) (rc : Nat → Int32 → Int32 → CS → Option (Int32 × CS)) : f_M_walks rc (nI n) (nI n) τ = some (0, sF τ 9 (nI n)) := by
  unfold f_M_walks
  have hM' : IMar σ (sF τ 9 (nI n)) := hM.fr rfl rfl rfl rfl rfl rfl
  have h9 : (sF τ 9 (nI n)).1 9 = nI n := va_up_self τ.1 9 (nI n)
  have hRM : RowM σ (sF τ 9 (nI n)) n R := ⟨h9, by omega, by omega, hR⟩
  rw [if_pos rfl]
  rcases simpleM (hRM.pol hW hM') h9 (by omega) with ⟨p, e⟩ | ⟨p, e⟩
  · exact absurd ((sim_iff σ R n h3).mpr p) hbad
  · rw [e, bnd_s, if_pos rfl]
theorem leaf_ag {σ τ : CS} (hW : WC σ) (hM : IMar σ τ) {n : Nat} (h3 : 3 ≤ n) (hn : n ≤ 6) (hS : σ.1 49 = nI n) {R : Nat → Nat} (hC : RowC σ 18 n R) (hR : ∀ i, i < n → τ.2.1 8 i = nI (R i)) (hgood : ∀ k, k < n → folw σ R k) {f : Nat} (hf : f ≤ 5000) (hK : Wk n σ τ f) (rc : Nat → Int32 → Int32 → CS → Option (Int32 × CS)) :
    ∃ σ' τ' f', f_Search_tryRing (nI (osum σ R n)) σ = some (0, σ') ∧ f_M_walks rc (nI n) (nI n) τ = some (0, τ') ∧ FrC [50, 51] [19] σ σ' ∧ FrM [9, 19, 20] [17] τ τ' ∧ Wk n σ' τ' f' ∧ f ≤ f' ∧ f' ≤ f + 1 := by
  have hMk := hM.mok
  have h40 : rws σ 1 ≤ 40 := hW.hlim (t := 1) (by omega)
  have hM' : IMar σ (sF τ 9 (nI n)) := hM.fr rfl rfl rfl rfl rfl rfl
  have h9 : (sF τ 9 (nI n)).1 9 = nI n := va_up_self τ.1 9 (nI n)
  have hRM : RowM σ (sF τ 9 (nI n)) n R := ⟨h9, by omega, by omega, fun i hi => ⟨hR i hi, (hC i hi).2⟩⟩
  have hPol := hRM.pol hW hM'
  have hcl := closesC hW hMk (a0 := 18) (L := 6) rfl (by omega) hC h3 hn
  have eC0 : f_Search_tryRing (nI (osum σ R n)) σ = bnd (f_Ground_closes 18 (nI n) σ) (fun r32 σ32 => if r32 = 0 then some (0, σ32) else gix ((σ32.1 49) - 1) 6 (gix 0 6 (bnd (f_Ground_wayOf (rd σ32 18 ((σ32.1 49) - 1)) (rd σ32 18 0) σ32) (fun r61 σ61 => if ((σ61.1 51) + 1) = 1 then B_Search_tryRing_92 (nI (osum σ R n) + r61) (sF σ61 51 ((σ61.1 51) + 1)) else if (σ61.1 50) ≤ (nI (osum σ R n) + r61) then some (0, (sF σ61 51 ((σ61.1 51) + 1))) else B_Search_tryRing_92 (nI (osum σ R n) + r61) (sF σ61 51 ((σ61.1 51) + 1)))))) := by
    unfold f_Search_tryRing
    rw [hS, if_neg (fun z => absurd ((lt_lit 3 (by omega) (by omega)).mp z) (by omega)), if_neg (fun z => absurd ((lit_lt 6 (by omega) (by omega)).mp z) (by omega))]
  rcases hcl with ⟨p, e1⟩ | ⟨p, e1⟩
  · -- simple
    have hos : osum σ R n ≤ (n - 1) * 3996 := sumN_le (n - 1) (fun i hi => wN_b hMk (hC i (by omega)).2 (hC (i + 1) (by omega)).2)
    have hos2 : (n - 1) * 3996 ≤ 5 * 3996 := Nat.mul_le_mul_right _ (by omega)
    have hwl := wN_b hMk (hC (n - 1) (by omega)).2 (hC 0 (by omega)).2
    obtain ⟨L, hL⟩ : ∃ L, L = osum σ R n + wN σ (R (n - 1)) (R 0) := ⟨_, rfl⟩
    have hLb : L ≤ 100000 := by omega
    have r0 : rd σ 18 0 = nI (R 0) := (rdn (j := 0) (by omega) σ 18).trans (hC 0 (by omega)).1
    have g0 : ∀ (X : Type) (o : Option X), gix 0 6 o = o := fun X o => gix_n (j := 0) (by omega) (by omega)
    have eC : f_Search_tryRing (nI (osum σ R n)) σ = if nI f + 1 = 1 then B_Search_tryRing_92 (nI L) (sF σ 51 (nI (f + 1))) else if (σ.1 50) ≤ nI L then some (0, (sF σ 51 (nI (f + 1)))) else B_Search_tryRing_92 (nI L) (sF σ 51 (nI (f + 1))) := by
      rw [eC0, e1, bnd_s, if_neg i10, hS, nI_sl (a := n) 1 (by omega), gix_n (by omega) (by omega), g0, rdn (by omega), (hC (n - 1) (by omega)).1, r0, wayC hW hMk (hC (n - 1) (by omega)).2 (hC 0 (by omega)).2, bnd_s, hK.1, nI_add, nI_1, ← hL]
    have hsd : f_M_sides (sF (sF τ 9 (nI n)) 19 (nI (f + 1))) = some (nI L, sF (sF τ 9 (nI n)) 19 (nI (f + 1))) := by
      have hRM2 : RowM σ (sF (sF τ 9 (nI n)) 19 (nI (f + 1))) n R := hRM
      have hM2 : IMar σ (sF (sF τ 9 (nI n)) 19 (nI (f + 1))) := hM.fr rfl rfl rfl rfl rfl rfl
      rw [sidesM (hRM2.pol hW hM2) h9 (by omega), sides_eq σ R h3, ← hL]
    have eM : f_M_walks rc (nI n) (nI n) τ = if (τ.1 20) < 0 then B_M_walks_47 rc (nI n) (sF (sF τ 9 (nI n)) 19 (nI (f + 1))) else if nI L < τ.1 20 then B_M_walks_47 rc (nI n) (sF (sF τ 9 (nI n)) 19 (nI (f + 1))) else some (0, (sF (sF τ 9 (nI n)) 19 (nI (f + 1)))) := by
      unfold f_M_walks
      rw [if_pos rfl]
      rcases simpleM hPol h9 (by omega) with ⟨p', e2⟩ | ⟨p', e2⟩
      · rw [e2, bnd_s, if_neg i10]
        have q19 : (sF τ 9 (nI n)).1 19 + 1 = nI (f + 1) := by
          show τ.1 19 + 1 = _
          rw [hK.2.1, nI_1]
        rw [q19, hsd, bnd_s]
        rfl
      · exact absurd ((sim_iff σ R n h3).mp ⟨hgood, p⟩) p'
    rw [eC, eM]
    -- what a better row does
    have better : ∃ σ' τ', B_Search_tryRing_92 (nI L) (sF σ 51 (nI (f + 1))) = some (0, σ') ∧ B_M_walks_47 rc (nI n) (sF (sF τ 9 (nI n)) 19 (nI (f + 1))) = some (0, τ') ∧ FrC [50, 51] [19] σ σ' ∧ FrM [9, 19, 20] [17] τ τ' ∧ Wk n σ' τ' (f + 1) := by
      obtain ⟨σ', a1, a2, a3⟩ := bestC hn (R := R) n 0 FU (sF (sF σ 51 (nI (f + 1))) 50 (nI L)) (by omega) (lt_FU (by omega)) (by simp only [va_up, reduceIte, Nat.reduceEqDiff]; exact hS) (fun i hi => (hC i hi).1) (fun i hi => absurd hi (by omega))
      obtain ⟨τ', b1, b2, b3⟩ := bestM hn (R := R) rc n 0 FU (sF (sF (sF τ 9 (nI n)) 19 (nI (f + 1))) 20 (nI L)) (by omega) (lt_FU (by omega)) (fun i hi => hR i hi) (fun i hi => absurd hi (by omega))
      have fC : FrC [50, 51] [19] σ σ' := ((FrC.f1 _ _ (by decide)).trans (FrC.f1 _ _ (by decide))).trans (a2.mono (by simp) (by decide))
      have fM : FrM [9, 19, 20] [17] τ τ' := (((FrM.f1 _ _ (by decide)).trans (FrM.f1 _ _ (by decide))).trans (FrM.f1 _ _ (by decide))).trans (b2.mono (by simp) (by decide))
      refine ⟨σ', τ', ?_, ?_, fC, fM, ?_, ?_, fun z => absurd z (by omega), fun _ => ⟨⟨L, hLb, ?_, ?_⟩, fun i hi => ⟨by rw [a3 i hi, b3 i hi], R i, ?_, a3 i hi⟩⟩⟩
      · unfold B_Search_tryRing_92
        exact a1
      · unfold B_M_walks_47
        rw [hsd, bnd_s]
        exact b1
      · rw [a2.1 51 (by simp)]; simp only [va_up, reduceIte, Nat.reduceEqDiff]
      · rw [b2.1 19 (by simp)]; simp only [va_up, reduceIte, Nat.reduceEqDiff]
      · rw [a2.1 50 (by simp)]; simp only [va_up, reduceIte]
      · rw [b2.1 20 (by simp)]; simp only [va_up, reduceIte]
      · rw [fC.fr (by decide)]; exact (hC i hi).2
    obtain ⟨σ', τ', b1, b2, b3, b4, b5⟩ := better
    by_cases q : f = 0
    · subst q
      rw [if_pos (by decide), hK.2.2.1 rfl, if_pos (by decide)]
      exact ⟨σ', τ', 0 + 1, b1, b2, b3, b4, b5, by omega, by omega⟩
    · obtain ⟨⟨l, l1, l2, l3⟩, l4⟩ := hK.2.2.2 (by omega)
      have qn : ¬ nI f + 1 = 1 := by
        rw [nI_1]
        intro z
        have := (eq_lit 1 (by omega) (by omega)).mp z
        omega
      rw [if_neg qn, l2, l3, if_neg (nI_pos (by omega))]
      by_cases r : L < l
      · rw [if_neg (nI_ge r (by omega)), if_pos (nI_lt r (by omega))]
        exact ⟨σ', τ', f + 1, b1, b2, b3, b4, b5, by omega, by omega⟩
      · rw [if_pos (nI_le (by omega) (by omega)), if_neg (nI_nlt (by omega) (by omega))]
        refine ⟨_, _, f + 1, rfl, rfl, FrC.f1 _ _ (by decide), (FrM.f1 _ _ (by decide)).trans (FrM.f1 _ _ (by decide)), ⟨?_, ?_, fun z => absurd z (by omega), fun _ => ⟨⟨l, l1, ?_, ?_⟩, fun i hi => ?_⟩⟩, by omega, by omega⟩
        · simp only [va_up, reduceIte]
        · simp only [va_up, reduceIte]
        · simp only [va_up, reduceIte, Nat.reduceEqDiff]; exact l2
        · simp only [va_up, reduceIte, Nat.reduceEqDiff]; exact l3
        · have := l4 i hi
          rw [sF_rw _ (by omega) _ (by omega)]
          exact this
  · refine ⟨σ, sF τ 9 (nI n), f, ?_, ?_, FrC.refl _ _ _, FrM.f1 _ _ (by decide), ?_, Nat.le_refl _, by omega⟩
    · rw [eC0, e1, bnd_s, if_pos rfl]
    · exact leafM_bad hW hM h3 hn (fun i hi => ⟨hR i hi, (hC i hi).2⟩) (fun z => p z.2) rc
    · obtain ⟨k1, k2, k3, k4⟩ := hK
      exact ⟨k1, k2, k3, k4⟩

theorem folw_ext {σ : CS} {R S : Nat → Nat} {k : Nat} (h : ∀ i, i ≤ k → R i = S i) (z : folw σ R k) : folw σ S k := by
  unfold folw at z ⊢
  refine ⟨fun q hq => ?_, fun hq => ?_, fun q hq => ?_⟩
  · have := z.1 q hq
    rw [h q (by omega), h k (Nat.le_refl _)] at this
    exact this
  · have := z.2.1 hq
    rw [h (k - 2) (by omega), h (k - 1) (by omega), h k (Nat.le_refl _)] at this
    exact this
  · have := z.2.2 q hq
    rw [h q (by omega), h (q + 1) (by omega), h (k - 1) (by omega), h k (Nat.le_refl _)] at this
    exact this
/-- the reference goes through a row that can't be simple any more: nothing is found -/
theorem walkM_bad {σ : CS} (hW : WC σ) {n : Nat} (h3 : 3 ≤ n) (hn : n ≤ 6) : ∀ (e k d : Nat) (τ : CS) (R : Nat → Nat), k + e = n → e < d → IMar σ τ → (∀ i, i < k → τ.2.1 8 i = nI (R i) ∧ R i < rws σ 1) → (∃ i, i < k ∧ ¬ folw σ R i) →
    ∃ τ', g_MW d 0 (nI k) (nI n) τ = some (0, τ') ∧ FrM [9] [8] τ τ' ∧ ∀ i, i < k → τ'.2.1 8 i = τ.2.1 8 i := by
  have h40 : rws σ 1 ≤ 40 := hW.hlim (t := 1) (by omega)
  intro e
  induction e with
  | zero =>
    intro k d τ R h1 h2 hM hR hb
    obtain ⟨d, rfl⟩ : ∃ q, d = q + 1 := ⟨d - 1, by omega⟩
    have hk : k = n := by omega
    subst hk
    obtain ⟨i, hi, hf⟩ := hb
    refine ⟨sF τ 9 (nI k), ?_, FrM.f1 _ _ (by decide), fun _ _ => rfl⟩
    show (if 0 = 0 then f_M_walks (g_MW d) (nI k) (nI k) τ else none) = _
    rw [if_pos rfl]
    exact leafM_bad hW hM h3 hn hR (fun z => hf (z.1 i hi)) _
  | succ e ih =>
    intro k d τ R h1 h2 hM hR hb
    obtain ⟨d, rfl⟩ : ∃ q, d = q + 1 := ⟨d - 1, by omega⟩
    have loop : ∀ (c j m : Nat) (τ : CS), j + c = rws σ 1 → c < m → IMar σ τ → (∀ i, i < k → τ.2.1 8 i = nI (R i) ∧ R i < rws σ 1) → ∃ τ', L_M_walks_83 (g_MW d) (nI k) (nI n) m (nI j) τ = some (0, τ') ∧ FrM [9] [8] τ τ' ∧ ∀ i, i < k → τ'.2.1 8 i = τ.2.1 8 i := by
      intro c
      induction c with
      | zero =>
        intro j m τ g1 g2 gM gR
        obtain ⟨m, rfl⟩ : ∃ q, m = q + 1 := ⟨m - 1, by omega⟩
        refine ⟨τ, ?_, FrM.refl _ _ _, fun _ _ => rfl⟩
        show (if τ.1 2 ≤ nI j then _ else _) = _
        rw [gM.1, if_pos (nI_le (by omega) (by omega))]
      | succ c ihc =>
        intro j m τ g1 g2 gM gR
        obtain ⟨m, rfl⟩ : ∃ q, m = q + 1 := ⟨m - 1, by omega⟩
        have e1 : L_M_walks_83 (g_MW d) (nI k) (nI n) (m + 1) (nI j) τ = if τ.2.1 3 j = τ.2.1 16 k then bnd (g_MW d 0 (nI (k + 1)) (nI n) (sA τ 8 (upd (τ.2.1 8) k (nI j)))) (fun _ σ121 => (L_M_walks_83 (g_MW d) (nI k) (nI n) m) (nI (j + 1)) σ121) else (L_M_walks_83 (g_MW d) (nI k) (nI n) m) (nI (j + 1)) τ := by
          show (if τ.1 2 ≤ nI j then _ else _) = _
          rw [gM.1, if_neg (nI_ge (by omega) (by omega)), gix_n (by omega) (by omega), gix_n (by omega) (by omega), gix_n (by omega) (by omega), rdn (by omega), rdn (by omega), wrn (by omega), nI_1, nI_1]
        rw [e1]
        by_cases q : τ.2.1 3 j = τ.2.1 16 k
        · rw [if_pos q]
          have gM2 : IMar σ (sA τ 8 (upd (τ.2.1 8) k (nI j))) := gM.fr rfl rfl rfl rfl rfl rfl
          obtain ⟨i0, hi0, hf0⟩ := hb
          obtain ⟨τ1, a1, a2, a3⟩ := ih (k + 1) d (sA τ 8 (upd (τ.2.1 8) k (nI j))) (fun i => if i = k then j else R i) (by omega) (by omega) gM2 (fun i hi => by
            simp only [va_up, reduceIte, upd]
            by_cases z : i = k
            · rw [if_pos z, if_pos z]; exact ⟨rfl, by omega⟩
            · rw [if_neg z, if_neg z]; exact gR i (by omega)) ⟨i0, by omega, fun z => hf0 (folw_ext (fun i hi => if_neg (by omega)) z)⟩
          rw [a1, bnd_s]
          have f1 : FrM [9] [8] τ τ1 := (FrM.f2 _ _ (by decide)).trans a2
          have p1 : ∀ i, i < k → τ1.2.1 8 i = τ.2.1 8 i := fun i hi => by
            rw [a3 i (by omega)]
            simp only [va_up, reduceIte, upd]
            rw [if_neg (by omega)]
          have gM3 : IMar σ τ1 := gM.fr rfl rfl (f1.1 2 (by decide)) (f1.2 3 (by decide)) (f1.2 4 (by decide)) (f1.2 5 (by decide))
          obtain ⟨τ2, b1, b2, b3⟩ := ihc (j + 1) m τ1 (by omega) (by omega) gM3 (fun i hi => by rw [p1 i hi]; exact gR i hi)
          exact ⟨τ2, b1, f1.trans b2, fun i hi => by rw [b3 i hi, p1 i hi]⟩
        · rw [if_neg q]
          exact ihc (j + 1) m τ (by omega) (by omega) gM gR
    obtain ⟨τ', a1, a2, a3⟩ := loop (rws σ 1) 0 FU τ (by omega) (lt_FU (by omega)) hM hR
    refine ⟨τ', ?_, a2, a3⟩
    show (if 0 = 0 then f_M_walks (g_MW d) (nI k) (nI n) τ else none) = _
    rw [if_pos rfl]
    unfold f_M_walks
    rw [if_neg (fun z => absurd ((nI_eq (by omega) (by omega)).mp z) (by omega))]
    exact a1
/-- what both searches stand on, at depth k -/
def Sk (σ0 : CS) (n k : Nat) (R : Nat → Nat) (σ τ : CS) : Prop := WC σ ∧ SM σ0 σ ∧ IMar σ0 τ ∧ σ.1 49 = nI n ∧ (∀ i, i < n → σ.2.1 17 i = τ.2.1 16 i) ∧ (∀ i, i < k → σ.2.1 18 i = nI (R i) ∧ τ.2.1 8 i = nI (R i) ∧ R i < rws σ0 1)
theorem Sk.step {σ0 : CS} {n k : Nat} {R : Nat → Nat} {σ τ σ' τ' : CS} (h : Sk σ0 n k R σ τ) (f1 : FrC [50, 51] [18, 19] σ σ') (f2 : FrM [9, 19, 20] [8, 17] τ τ') (p1 : ∀ i, i < k → σ'.2.1 18 i = σ.2.1 18 i) (p2 : ∀ i, i < k → τ'.2.1 8 i = τ.2.1 8 i) : Sk σ0 n k R σ' τ' := by
  obtain ⟨a1, a2, a3, a4, a5, a6⟩ := h
  have s := f1.sm (by decide) (by decide)
  refine ⟨a1.of (fun j hj => f1.1 j (by simp; omega)) (fun t ht => (f1.2 t (by simp; omega)).2), ⟨by rw [s.1, a2.1], fun i c => by rw [s.2, a2.2]⟩, a3.fr rfl rfl (f2.1 2 (by decide)) (f2.2 3 (by decide)) (f2.2 4 (by decide)) (f2.2 5 (by decide)), ?_, ?_, ?_⟩
  · rw [f1.1 49 (by decide)]; exact a4
  · intro i hi
    rw [(f1.2 17 (by decide)).1, f2.2 16 (by decide)]
    exact a5 i hi
  · intro i hi
    rw [p1 i hi, p2 i hi]
    exact a6 i hi
theorem IMar.sm {σ0 σ τ : CS} (h : IMar σ0 τ) (s : SM σ0 σ) : IMar σ τ := by
  have n : ∀ x, nmd σ x = nmd σ0 x := fun x => by funext i; unfold nmd; rw [s.2]
  unfold IMar
  simp only [s.1, s.2, n]
  exact h
theorem cnt_mono (P : Nat → Bool) {a b : Nat} (h : a ≤ b) : cnt P a ≤ cnt P b := by
  induction b with
  | zero => have : a = 0 := by omega
            subst this; exact Nat.le_refl _
  | succ b ih =>
    by_cases q : a = b + 1
    · subst q; exact Nat.le_refl _
    · have := ih (by omega)
      show cnt P a ≤ cnt P b + (if P b then 1 else 0)
      omega
theorem walk_ag {σ0 : CS} {n : Nat} (h3 : 3 ≤ n) (hn : n ≤ 6) (hc4 : ∀ x, cnt (nmd σ0 x) (rws σ0 1) ≤ 4) : ∀ (e k d d' : Nat) (σ τ : CS) (R : Nat → Nat) (f : Nat), k + e = n → e < d → e < d' → Sk σ0 n k R σ τ → (∀ i, i < k → folw σ0 R i) → Wk n σ τ f → f + 4 ^ e ≤ 4096 →
    ∃ σ' τ' f', g_S d 0 (nI k) (nI (osum σ0 R k)) σ = some (0, σ') ∧ g_MW d' 0 (nI k) (nI n) τ = some (0, τ') ∧ FrC [50, 51] [18, 19] σ σ' ∧ FrM [9, 19, 20] [8, 17] τ τ' ∧ (∀ i, i < k → σ'.2.1 18 i = σ.2.1 18 i) ∧ (∀ i, i < k → τ'.2.1 8 i = τ.2.1 8 i) ∧ Wk n σ' τ' f' ∧ f ≤ f' ∧ f' ≤ f + 4 ^ e := by
  intro e
  induction e with
  | zero =>
    intro k d d' σ τ R f h1 h2 h2' hS hg hK hf
    obtain ⟨d, rfl⟩ : ∃ q, d = q + 1 := ⟨d - 1, by omega⟩
    obtain ⟨d', rfl⟩ : ∃ q, d' = q + 1 := ⟨d' - 1, by omega⟩
    have hk : k = n := by omega
    subst hk
    obtain ⟨a1, a2, a3, a4, a5, a6⟩ := hS
    obtain ⟨σ', τ', f', b1, b2, b3, b4, b5, b6, b7⟩ := leaf_ag a1 (a3.sm a2) h3 hn a4 (fun i hi => ⟨(a6 i hi).1, by rw [a2.1]; exact (a6 i hi).2.2⟩) (fun i hi => (a6 i hi).2.1) (fun i hi => by rw [a2.fwe]; exact hg i hi) (f := f) (by omega) hK (g_MW d')
    have eo : osum σ R k = osum σ0 R k := by unfold osum; rw [a2.wNe]
    refine ⟨σ', τ', f', ?_, ?_, b3.mono (by decide) (by decide), b4.mono (by decide) (by decide), fun i _ => by rw [(b3.2 18 (by decide)).1], fun i _ => by rw [b4.2 8 (by decide)], b5, b6, by omega⟩
    · show (if 0 = 0 then f_Search_tryMarks (g_S d) (nI k) _ σ else none) = _
      rw [if_pos rfl]
      unfold f_Search_tryMarks B_Search_tryMarks_26
      rw [a4, if_pos (nI_le (Nat.le_refl _) (by omega)), ← eo, b1, bnd_s]
    · show (if 0 = 0 then f_M_walks (g_MW d') (nI k) (nI k) τ else none) = _
      rw [if_pos rfl, b2]
  | succ e ih =>
    intro k d d' σ τ R f h1 h2 h2' hS hg hK hf
    obtain ⟨d, rfl⟩ : ∃ q, d = q + 1 := ⟨d - 1, by omega⟩
    obtain ⟨d', rfl⟩ : ∃ q, d' = q + 1 := ⟨d' - 1, by omega⟩
    have h40 : rws σ0 1 ≤ 40 := by rw [← hS.2.1.1]; exact hS.1.hlim (t := 1) (by omega)
    obtain ⟨nm, hnm⟩ : ∃ x, x = σ.2.1 17 k := ⟨_, rfl⟩
    have h4e : 4 ^ (e + 1) = 4 * 4 ^ e := by rw [Nat.pow_succ, Nat.mul_comm]
    have loop : ∀ (c j m m' : Nat) (σ1 τ1 : CS) (f1 : Nat), j + c = rws σ0 1 → c < m → c < m' → Sk σ0 n k R σ1 τ1 → σ1.2.1 17 k = nm → Wk n σ1 τ1 f1 → f1 ≤ f + cnt (nmd σ0 nm) j * 4 ^ e →
        ∃ σ' τ' f', L_Search_tryMarks_34 (g_S d) (nI k) (nI (osum σ0 R k)) m (nI j) σ1 = some (0, σ') ∧ L_M_walks_83 (g_MW d') (nI k) (nI n) m' (nI j) τ1 = some (0, τ') ∧ FrC [50, 51] [18, 19] σ1 σ' ∧ FrM [9, 19, 20] [8, 17] τ1 τ' ∧ (∀ i, i < k → σ'.2.1 18 i = σ1.2.1 18 i) ∧ (∀ i, i < k → τ'.2.1 8 i = τ1.2.1 8 i) ∧ Wk n σ' τ' f' ∧ f1 ≤ f' ∧ f' ≤ f + cnt (nmd σ0 nm) (rws σ0 1) * 4 ^ e := by
      intro c
      induction c with
      | zero =>
        intro j m m' σ1 τ1 f1 g1 g2 g3 gS gn gK gf
        obtain ⟨m, rfl⟩ : ∃ q, m = q + 1 := ⟨m - 1, by omega⟩
        obtain ⟨m', rfl⟩ : ∃ q, m' = q + 1 := ⟨m' - 1, by omega⟩
        have hj : j = rws σ0 1 := by omega
        subst hj
        obtain ⟨a1, a2, a3, a4, a5, a6⟩ := gS
        refine ⟨σ1, τ1, f1, ?_, ?_, FrC.refl _ _ _, FrM.refl _ _ _, fun _ _ => rfl, fun _ _ => rfl, gK, Nat.le_refl _, gf⟩
        · show bnd (f_Table_size 1 σ1) _ = _
          rw [tb_size a1 1 (by omega), bnd_s, a2.1, if_pos (nI_le (Nat.le_refl _) (by omega))]
        · show (if τ1.1 2 ≤ _ then _ else _) = _
          rw [a3.1, if_pos (nI_le (Nat.le_refl _) (by omega))]
      | succ c ihc =>
        intro j m m' σ1 τ1 f1 g1 g2 g3 gS gn gK gf
        obtain ⟨m, rfl⟩ : ∃ q, m = q + 1 := ⟨m - 1, by omega⟩
        obtain ⟨m', rfl⟩ : ∃ q, m' = q + 1 := ⟨m' - 1, by omega⟩
        obtain ⟨a1, a2, a3, a4, a5, a6⟩ := gS
        have hj : j < rws σ1 1 := by rw [a2.1]; omega
        have ec : cnt (nmd σ0 nm) (j + 1) = cnt (nmd σ0 nm) j + (if nmd σ0 nm j then 1 else 0) := rfl
        have eM : L_M_walks_83 (g_MW d') (nI k) (nI n) (m' + 1) (nI j) τ1 = if cel σ0 1 j 0 = nm then bnd (g_MW d' 0 (nI (k + 1)) (nI n) (sA τ1 8 (upd (τ1.2.1 8) k (nI j)))) (fun _ σ121 => (L_M_walks_83 (g_MW d') (nI k) (nI n) m') (nI (j + 1)) σ121) else (L_M_walks_83 (g_MW d') (nI k) (nI n) m') (nI (j + 1)) τ1 := by
          show (if τ1.1 2 ≤ nI j then _ else _) = _
          rw [a3.1, if_neg (nI_ge (by omega) (by omega)), gix_n (by omega) (by omega), gix_n (by omega) (by omega), gix_n (by omega) (by omega), rdn (by omega), rdn (by omega), wrn (by omega), nI_1, nI_1, (a3.2.1 j (by omega)).1, ← a5 k (by omega), gn]
        have eC : L_Search_tryMarks_34 (g_S d) (nI k) (nI (osum σ0 R k)) (m + 1) (nI j) σ1 = if cel σ0 1 j 0 = nm then (bnd (f_Ground_follows 18 (nI k) (sA σ1 18 (upd (σ1.2.1 18) k (nI j)))) (fun r88 σ88 => if r88 = 0 then (L_Search_tryMarks_34 (g_S d) (nI k) (nI (osum σ0 R k)) m) (nI (j + 1)) σ88 else if nI k = 0 then B_Search_tryMarks_124 (g_S d) (L_Search_tryMarks_34 (g_S d) (nI k) (nI (osum σ0 R k)) m) (nI k) (nI (osum σ0 R k)) (nI j) (nI (k + 1)) 0 σ88 else gix (nI k - 1) 6 (bnd (f_Ground_wayOf (rd σ88 18 (nI k - 1)) (nI j) σ88) (fun r120 σ120 => B_Search_tryMarks_124 (g_S d) (L_Search_tryMarks_34 (g_S d) (nI k) (nI (osum σ0 R k)) m) (nI k) (nI (osum σ0 R k)) (nI j) (nI (k + 1)) (nI (osum σ0 R k) + r120) σ120)))) else (L_Search_tryMarks_34 (g_S d) (nI k) (nI (osum σ0 R k)) m) (nI (j + 1)) σ1 := by
          show bnd (f_Table_size 1 σ1) _ = _
          rw [tb_size a1 1 (by omega), bnd_s, if_neg (nI_ge hj (by rw [a2.1]; omega)), tb_gl a1 1 (by omega) j 0 hj (by decide), bnd_s, gix_n (by omega) (by omega), gix_n (by omega) (by omega), rdn (by omega), wrn (by omega), nI_1, nI_1, gn, a2.2]
        rw [eC, eM]
        by_cases q : cel σ0 1 j 0 = nm
        · rw [if_pos q, if_pos q]
          have hnd : nmd σ0 nm j = true := decide_eq_true q
          rw [hnd, if_pos rfl] at ec
          obtain ⟨R', hR'⟩ : ∃ R' : Nat → Nat, R' = fun i => if i = k then j else R i := ⟨_, rfl⟩
          have hRk : R' k = j := by rw [hR']; exact if_pos rfl
          have hRi : ∀ i, i < k → R' i = R i := fun i hi => by rw [hR']; exact if_neg (by omega)
          have fC1 : FrC [50, 51] [18, 19] σ1 (sA σ1 18 (upd (σ1.2.1 18) k (nI j))) := FrC.f2 _ _ (by decide)
          have fM1 : FrM [9, 19, 20] [8, 17] τ1 (sA τ1 8 (upd (τ1.2.1 8) k (nI j))) := FrM.f2 _ _ (by decide)
          have pC1 : ∀ i, i < k → (sA σ1 18 (upd (σ1.2.1 18) k (nI j))).2.1 18 i = σ1.2.1 18 i := fun i hi => by
            simp only [va_up, reduceIte, upd]; rw [if_neg (by omega)]
          have pM1 : ∀ i, i < k → (sA τ1 8 (upd (τ1.2.1 8) k (nI j))).2.1 8 i = τ1.2.1 8 i := fun i hi => by
            simp only [va_up, reduceIte, upd]; rw [if_neg (by omega)]
          have S1 : Sk σ0 n (k + 1) R' (sA σ1 18 (upd (σ1.2.1 18) k (nI j))) (sA τ1 8 (upd (τ1.2.1 8) k (nI j))) := by
            obtain ⟨s1, s2, s3, s4, s5, s6⟩ := Sk.step (show Sk σ0 n k R σ1 τ1 from ⟨a1, a2, a3, a4, a5, a6⟩) fC1 fM1 pC1 pM1
            refine ⟨s1, s2, s3, s4, s5, fun i hi => ?_⟩
            by_cases z : i = k
            · subst z
              rw [hRk]
              simp only [va_up, reduceIte, upd]
              exact ⟨trivial, trivial, by omega⟩
            · rw [hRi i (by omega)]
              exact s6 i (by omega)
          have K1 : Wk n (sA σ1 18 (upd (σ1.2.1 18) k (nI j))) (sA τ1 8 (upd (τ1.2.1 8) k (nI j))) f1 := gK
          have hcnt : cnt (nmd σ0 nm) (j + 1) ≤ 4 := Nat.le_trans (cnt_mono _ (by omega)) (hc4 nm)
          have hfb : f1 + 4 ^ e ≤ f + cnt (nmd σ0 nm) (j + 1) * 4 ^ e := by rw [ec, Nat.succ_mul]; omega
          have hfb2 : f1 + 4 ^ e ≤ 4096 := by
            have : cnt (nmd σ0 nm) (j + 1) * 4 ^ e ≤ 4 * 4 ^ e := Nat.mul_le_mul_right _ hcnt
            omega
          have hMk1 : Mok (sA σ1 18 (upd (σ1.2.1 18) k (nI j))) := (S1.2.2.1.sm S1.2.1).mok
          have hRC1 : RowC (sA σ1 18 (upd (σ1.2.1 18) k (nI j))) 18 (k + 1) R' := fun i hi => ⟨(S1.2.2.2.2.2 i hi).1, by rw [S1.2.1.1]; exact (S1.2.2.2.2.2 i hi).2.2⟩
          rcases followsC S1.1 hMk1 (a0 := 18) (k := k) (L := 6) rfl (by omega) hRC1 (by omega) with ⟨p, e1⟩ | ⟨p, e1⟩
          · -- it follows: both go deeper
            have p0 : folw σ0 R' k := by rw [S1.2.1.fwe] at p; exact p
            have hg' : ∀ i, i < k + 1 → folw σ0 R' i := by
              intro i hi
              by_cases z : i = k
              · rw [z]; exact p0
              · exact folw_ext (fun q hq => (hRi q (by omega)).symm) (hg i (by omega))
            have hos : nI (osum σ0 R' (k + 1)) = (if nI k = 0 then 0 else nI (osum σ0 R k) + nI (wN σ0 (R (k - 1)) j)) := by
              by_cases z : k = 0
              · subst z
                rw [if_pos (by decide)]
                rfl
              · rw [if_neg (fun y => z ((eq_lit 0 (by omega) (by omega)).mp y)), nI_add]
                congr 1
                unfold osum
                obtain ⟨k', rfl⟩ : ∃ q, k = q + 1 := ⟨k - 1, by omega⟩
                show sumN (fun i => wN σ0 (R' i) (R' (i + 1))) (k' + 1) = sumN (fun i => wN σ0 (R i) (R (i + 1))) k' + wN σ0 (R k') j
                show sumN (fun i => wN σ0 (R' i) (R' (i + 1))) k' + wN σ0 (R' k') (R' (k' + 1)) = _
                rw [hRk, hRi k' (by omega), sumN_congr (g := fun i => wN σ0 (R i) (R (i + 1))) k' (fun i hi => by
                  show wN σ0 (R' i) (R' (i + 1)) = wN σ0 (R i) (R (i + 1))
                  rw [hRi i (by omega), hRi (i + 1) (by omega)])]
            obtain ⟨σ2, τ2, f2, b1, b2, b3, b4, b5, b6, b7, b8, b9⟩ := ih (k + 1) d d' _ _ R' f1 (by omega) (by omega) (by omega) S1 hg' K1 hfb2
            have eC2 : bnd (f_Ground_follows 18 (nI k) (sA σ1 18 (upd (σ1.2.1 18) k (nI j)))) (fun r88 σ88 => if r88 = 0 then (L_Search_tryMarks_34 (g_S d) (nI k) (nI (osum σ0 R k)) m) (nI (j + 1)) σ88 else if nI k = 0 then B_Search_tryMarks_124 (g_S d) (L_Search_tryMarks_34 (g_S d) (nI k) (nI (osum σ0 R k)) m) (nI k) (nI (osum σ0 R k)) (nI j) (nI (k + 1)) 0 σ88 else gix (nI k - 1) 6 (bnd (f_Ground_wayOf (rd σ88 18 (nI k - 1)) (nI j) σ88) (fun r120 σ120 => B_Search_tryMarks_124 (g_S d) (L_Search_tryMarks_34 (g_S d) (nI k) (nI (osum σ0 R k)) m) (nI k) (nI (osum σ0 R k)) (nI j) (nI (k + 1)) (nI (osum σ0 R k) + r120) σ120))) = L_Search_tryMarks_34 (g_S d) (nI k) (nI (osum σ0 R k)) m (nI (j + 1)) σ2 := by
              rw [e1, bnd_s, if_neg i10]
              by_cases z : k = 0
              · rw [if_pos ((eq_lit 0 (by omega) (by omega)).mpr z)] at hos ⊢
                unfold B_Search_tryMarks_124
                rw [← hos, b1, bnd_s, nI_1]
              · rw [if_neg (fun y => z ((eq_lit 0 (by omega) (by omega)).mp y))] at hos ⊢
                rw [nI_sl (a := k) 1 (by omega), gix_n (by omega) (by omega), rdn (by omega), (hRC1 (k - 1) (by omega)).1, hRi (k - 1) (by omega)]
                have hRk1 : R (k - 1) < rws (sA σ1 18 (upd (σ1.2.1 18) k (nI j))) 1 := by
                  have := (hRC1 (k - 1) (by omega)).2
                  rw [hRi (k - 1) (by omega)] at this
                  exact this
                rw [wayC S1.1 hMk1 hRk1 (show j < rws (sA σ1 18 (upd (σ1.2.1 18) k (nI j))) 1 by rw [S1.2.1.1]; omega), bnd_s, S1.2.1.wNe]
                unfold B_Search_tryMarks_124
                rw [← hos, b1, bnd_s, nI_1]
            rw [eC2, b2, bnd_s]
            have F1 := fC1.trans b3
            have F2 := fM1.trans b4
            have P1 : ∀ i, i < k → σ2.2.1 18 i = σ1.2.1 18 i := fun i hi => by rw [b5 i (by omega), pC1 i hi]
            have P2 : ∀ i, i < k → τ2.2.1 8 i = τ1.2.1 8 i := fun i hi => by rw [b6 i (by omega), pM1 i hi]
            have S2 : Sk σ0 n k R σ2 τ2 := Sk.step (show Sk σ0 n k R σ1 τ1 from ⟨a1, a2, a3, a4, a5, a6⟩) F1 F2 P1 P2
            obtain ⟨σ3, τ3, f3, c1, c2, c3, c4, c5, c6, c7, c8, c9⟩ := ihc (j + 1) m m' σ2 τ2 f2 (by omega) (by omega) (by omega) S2 (by rw [(F1.2 17 (by decide)).1]; exact gn) b7 (by omega)
            exact ⟨σ3, τ3, f3, c1, c2, F1.trans c3, F2.trans c4, fun i hi => by rw [c5 i hi, P1 i hi], fun i hi => by rw [c6 i hi, P2 i hi], c7, by omega, c9⟩
          · -- it doesn't: the reference goes on in vain
            have p0 : ¬ folw σ0 R' k := by rw [S1.2.1.fwe] at p; exact p
            obtain ⟨τ2, b1, b2, b3⟩ := walkM_bad S1.1 h3 hn e (k + 1) d' _ R' (by omega) (by omega) (S1.2.2.1.sm S1.2.1) (fun i hi => ⟨(S1.2.2.2.2.2 i hi).2.1, by rw [S1.2.1.1]; exact (S1.2.2.2.2.2 i hi).2.2⟩) ⟨k, by omega, p⟩
            rw [e1, bnd_s, if_pos rfl, b1, bnd_s]
            have F2 : FrM [9, 19, 20] [8, 17] τ1 τ2 := fM1.trans (b2.mono (by decide) (by decide))
            have P2 : ∀ i, i < k → τ2.2.1 8 i = τ1.2.1 8 i := fun i hi => by rw [b3 i (by omega), pM1 i hi]
            have S2 : Sk σ0 n k R (sA σ1 18 (upd (σ1.2.1 18) k (nI j))) τ2 := Sk.step (show Sk σ0 n k R σ1 τ1 from ⟨a1, a2, a3, a4, a5, a6⟩) fC1 F2 pC1 P2
            have K2 : Wk n (sA σ1 18 (upd (σ1.2.1 18) k (nI j))) τ2 f1 := by
              obtain ⟨k1, k2, k3, k4⟩ := gK
              refine ⟨k1, by rw [b2.1 19 (by decide)]; exact k2, fun z => by rw [b2.1 20 (by decide)]; exact k3 z, fun z => ⟨?_, fun i hi => ?_⟩⟩
              · obtain ⟨l, l1, l2, l3⟩ := (k4 z).1
                exact ⟨l, l1, l2, by rw [b2.1 20 (by decide)]; exact l3⟩
              · rw [b2.2 17 (by decide)]
                exact (k4 z).2 i hi
            obtain ⟨σ3, τ3, f3, c1, c2, c3, c4, c5, c6, c7, c8, c9⟩ := ihc (j + 1) m m' _ τ2 f1 (by omega) (by omega) (by omega) S2 (by rw [(fC1.2 17 (by decide)).1]; exact gn) K2 (by omega)
            exact ⟨σ3, τ3, f3, c1, c2, fC1.trans c3, F2.trans c4, fun i hi => by rw [c5 i hi, pC1 i hi], fun i hi => by rw [c6 i hi, P2 i hi], c7, c8, c9⟩
        · rw [if_neg q, if_neg q]
          have hnd : nmd σ0 nm j = false := decide_eq_false q
          rw [hnd, if_neg (by decide)] at ec
          exact ihc (j + 1) m m' σ1 τ1 f1 (by omega) (by omega) (by omega) ⟨a1, a2, a3, a4, a5, a6⟩ gn gK (by rw [ec, Nat.add_zero]; exact gf)
    obtain ⟨σ', τ', f', a1, a2, a3, a4, a5, a6, a7, a8, a9⟩ := loop (rws σ0 1) 0 FU FU σ τ f (by omega) (lt_FU (by omega)) (lt_FU (by omega)) hS hnm.symm hK (by omega)
    have h9 : cnt (nmd σ0 nm) (rws σ0 1) * 4 ^ e ≤ 4 * 4 ^ e := Nat.mul_le_mul_right _ (hc4 nm)
    refine ⟨σ', τ', f', ?_, ?_, a3, a4, a5, a6, a7, a8, by omega⟩
    · show (if 0 = 0 then f_Search_tryMarks (g_S d) (nI k) _ σ else none) = _
      rw [if_pos rfl]
      unfold f_Search_tryMarks
      rw [hS.2.2.2.1, if_neg (nI_ge (by omega) (by omega)), if_neg (fun z => absurd ((lit_le 6 (by omega) (by omega)).mp z) (by omega)), if_pos ((lt_lit 6 (by omega) (by omega)).mpr (by omega))]
      exact a1
    · show (if 0 = 0 then f_M_walks (g_MW d') (nI k) (nI n) τ else none) = _
      rw [if_pos rfl]
      unfold f_M_walks
      rw [if_neg (fun z => absurd ((nI_eq (by omega) (by omega)).mp z) (by omega))]
      exact a2

/-! the tie of what was walked last -/
def IWlk (σ τ : CS) : Prop := ∃ f, f ≤ 4096 ∧ σ.1 51 = nI f ∧ τ.1 19 = nI f ∧ (f = 0 → τ.1 18 = 0) ∧ (0 < f → ∃ n, 3 ≤ n ∧ n ≤ 6 ∧ σ.1 49 = nI n ∧ τ.1 18 = nI n ∧ ∀ i, i < n → σ.2.1 19 i = τ.2.1 17 i)
theorem IWlk.fr {σ τ σ' τ' : CS} (h : IWlk σ τ) (e1 : σ'.1 51 = σ.1 51) (e2 : σ'.1 49 = σ.1 49) (e3 : σ'.2.1 19 = σ.2.1 19) (e4 : τ'.1 18 = τ.1 18) (e5 : τ'.1 19 = τ.1 19) (e6 : τ'.2.1 17 = τ.2.1 17) : IWlk σ' τ' := by
  unfold IWlk
  simp only [e1, e2, e3, e4, e5, e6]
  exact h
theorem names_ag {τ0 : CS} {n : Nat} (hn : n ≤ 6) (K : CS → Option (Int32 × CS)) (K' : Int32 → CS → Option (Int32 × CS)) : ∀ (d k m m' : Nat) (σ τ : CS), k + d = n → d < m → d < m' → WC σ → rws σ 0 = n → (∀ i, i < n → cel σ 0 i 0 = τ0.2.1 6 i &&& 255) → τ.2.1 6 = τ0.2.1 6 → (∀ i, i < k → σ.2.1 17 i = τ.2.1 16 i) →
    ∃ σ' τ', L_Search_go_31 K (nI n) m (nI k) σ = K σ' ∧ L_M_walk_67 K' (nI n) m' (nI k) τ = K' (nI n) τ' ∧ FrC [] [17] σ σ' ∧ FrM [] [16] τ τ' ∧ ∀ i, i < n → σ'.2.1 17 i = τ'.2.1 16 i := by
  intro d
  induction d with
  | zero =>
    intro k m m' σ τ h1 h2 h2' hW hr hc ht hk
    obtain ⟨m, rfl⟩ : ∃ q, m = q + 1 := ⟨m - 1, by omega⟩
    obtain ⟨m', rfl⟩ : ∃ q, m' = q + 1 := ⟨m' - 1, by omega⟩
    refine ⟨σ, τ, ?_, ?_, FrC.refl _ _ _, FrM.refl _ _ _, fun i hi => hk i (by omega)⟩
    · show (if nI n ≤ nI k then _ else _) = _
      rw [if_pos (nI_le (by omega) (by omega))]
    · show (if nI n ≤ nI k then _ else _) = _
      rw [if_pos (nI_le (by omega) (by omega))]
  | succ d ih =>
    intro k m m' σ τ h1 h2 h2' hW hr hc ht hk
    obtain ⟨m, rfl⟩ : ∃ q, m = q + 1 := ⟨m - 1, by omega⟩
    obtain ⟨m', rfl⟩ : ∃ q, m' = q + 1 := ⟨m' - 1, by omega⟩
    obtain ⟨v, hv⟩ : ∃ v, v = τ0.2.1 6 k &&& 255 := ⟨_, rfl⟩
    have eC : L_Search_go_31 K (nI n) (m + 1) (nI k) σ = L_Search_go_31 K (nI n) m (nI (k + 1)) (sA σ 17 (upd (σ.2.1 17) k v)) := by
      show (if nI n ≤ nI k then _ else _) = _
      rw [if_neg (nI_ge (by omega) (by omega)), if_neg (fun z => absurd ((lit_le 6 (by omega) (by omega)).mp z) (by omega)), tb_gl hW 0 (by omega) k 0 (by omega) (by decide), bnd_s, gix_n (by omega) (by omega), hc k (by omega), wrn (by omega), nI_1, ← hv]
    have eM : L_M_walk_67 K' (nI n) (m' + 1) (nI k) τ = L_M_walk_67 K' (nI n) m' (nI (k + 1)) (sA τ 16 (upd (τ.2.1 16) k v)) := by
      show (if nI n ≤ nI k then _ else _) = _
      rw [if_neg (nI_ge (by omega) (by omega)), gix_n (by omega) (by omega), gix_n (by omega) (by omega), rdn (by omega), ht, wrn (by omega), nI_1, ← hv]
    have hW2 : WC (sA σ 17 (upd (σ.2.1 17) k v)) := hW
    obtain ⟨σ', τ', g1, g2, g3, g4, g5⟩ := ih (k + 1) m m' (sA σ 17 (upd (σ.2.1 17) k v)) (sA τ 16 (upd (τ.2.1 16) k v)) (by omega) (by omega) (by omega) hW2 hr (fun i hi => by
      rw [(FrC.f2 (I := []) (A := [17]) σ (upd (σ.2.1 17) k v) (by decide)).fc (by decide)]
      exact hc i hi) (by simp only [va_up, reduceIte, Nat.reduceEqDiff]; exact ht) (fun i hi => by
      simp only [va_up, reduceIte, upd]
      by_cases q : i = k
      · rw [if_pos q, if_pos q]
      · rw [if_neg q, if_neg q]; exact hk i (by omega))
    exact ⟨σ', τ', eC.trans g1, eM.trans g2, (FrC.f2 _ _ (by decide)).trans g3, (FrM.f2 _ _ (by decide)).trans g4, g5⟩
abbrev JWlk (σ τ σ1 τ1 : CS) : Prop := WC σ1 ∧ ITap σ1 τ1 ∧ IWlk σ1 τ1 ∧ FrC [2, 49, 50, 51] [17, 18, 19] σ σ1 ∧ FrM [0, 7, 9, 18, 19, 20] [8, 16, 17] τ τ1
theorem pm_walk {σ τ : CS} (hW : WC σ) (hA : ITap σ τ) (hM : IMar σ τ) (hK : IWlk σ τ) (a0 : Int32) : AgX (f_FC_walk a0 σ) (f_M_walk a0 τ) (fun c0 => c0 = 0 ∨ c0 = 1) (fun c0 => (if c0 = 0 then (0 : Int32) else 1)) (JWlk σ τ) := by
  have h400 : rws σ 0 ≤ 400 := hW.hlim (t := 0) (by omega)
  unfold f_FC_walk f_M_walk
  simp only [tb_size hW 0 (by omega), bnd_s, fc_within, hA.1]
  by_cases q1 : a0 < 0 ∨ nI (rws σ 0) < a0
  · have eM : (if a0 < 0 then B_M_walk_23 a0 1 (sF τ 0 0) else if a0 ≤ nI (rws σ 0) then B_M_walk_23 a0 0 (sF τ 0 0) else B_M_walk_23 a0 1 (sF τ 0 0)) = B_M_walk_23 a0 1 (sF τ 0 0) := by
      by_cases z : a0 < 0
      · rw [if_pos z]
      · rw [if_neg z, if_neg (Int32.not_le.mpr (q1.resolve_left z))]
    rw [eM]
    simp only [if_pos q1, if_true, B_M_walk_23, fm_bad1, bnd_s, if_neg i10]
    exact AgX.mk 1 0 σ 0 _ rfl (Or.inr rfl) rfl rfl (fun z => absurd z (by decide)) ⟨hW, ITap.thr _ _ (ITap.thr _ _ hA), hK.fr rfl rfl rfl rfl rfl rfl, FrC.refl _ _ _, (FrM.f1 _ _ (by decide)).trans (FrM.f1 _ _ (by decide))⟩
  rw [if_neg (fun z => q1 (Or.inl z)), if_pos (Int32.not_lt.mp (fun z => q1 (Or.inr z)))]
  simp only [if_neg q1, if_neg i10]
  obtain ⟨n, hn, rfl⟩ := Rg.of q1 (n := rws σ 0) rfl (by omega) (by decide)
  obtain ⟨σ1, c1, c2, c3, c4⟩ := tb_cut hW 0 (by omega) hn
  obtain ⟨τ1, hτ1⟩ : ∃ t : CS, t = sF (sF (sF (sF (sF τ 0 0) 7 0) 18 0) 19 0) 20 (-1) := ⟨_, rfl⟩
  have z7 : FrM [0, 7, 9, 18, 19, 20] [8, 16, 17] τ τ1 := by
    rw [hτ1]
    exact (FrM.f1 _ _ (by decide)).trans ((FrM.f1 _ _ (by decide)).trans ((FrM.f1 _ _ (by decide)).trans ((FrM.f1 _ _ (by decide)).trans (FrM.f1 _ _ (by decide)))))
  have t0 : τ1.1 0 = 0 := by rw [hτ1]; simp only [va_up, reduceIte, Nat.reduceEqDiff]
  have t7 : τ1.1 7 = 0 := by rw [hτ1]; simp only [va_up, reduceIte, Nat.reduceEqDiff]
  have t18 : τ1.1 18 = 0 := by rw [hτ1]; simp only [va_up, reduceIte, Nat.reduceEqDiff]
  have t19 : τ1.1 19 = 0 := by rw [hτ1]; simp only [va_up, reduceIte, Nat.reduceEqDiff]
  have t20 : τ1.1 20 = -1 := by rw [hτ1]; simp only [va_up, reduceIte]
  rw [c1, bnd_s]
  -- the end: the tape is cut
  have fin : ∀ (v : Int32) (σ2 τ2 : CS), f_Search_go σ1 = some (v, σ2) → B_M_walk_23 (nI n) 0 (sF τ 0 0) = some (v, τ2) → WC σ2 → IWlk σ2 τ2 → FrC [49, 50, 51] [17, 18, 19] σ1 σ2 → FrM [9, 18, 19, 20] [8, 16, 17] τ1 τ2 → AgX (bnd (f_Search_go σ1) fun r31 σ31 => bnd (f_Table_cut 0 0 σ31) fun _ σ40 => some ((0, r31), σ40)) (B_M_walk_23 (nI n) 0 (sF τ 0 0)) (fun c0 => c0 = 0 ∨ c0 = 1) (fun c0 => (if c0 = 0 then (0 : Int32) else 1)) (JWlk σ τ) := by
    intro v σ2 τ2 g1 g2 w1 w2 w3 w4
    obtain ⟨σ3, d1, d2, d3, d4⟩ := tb_cut w1 0 (by omega) (k := 0) (by omega)
    have d1' : f_Table_cut 0 0 σ2 = some (0, σ3) := d1
    refine AgX.mk 0 v σ3 v τ2 ?_ (Or.inl rfl) g2 ?_ (fun _ => rfl) ⟨d2, ⟨?_, fun i hi => absurd hi (by rw [d3]; omega)⟩, ?_, ?_, z7.trans (w4.mono (by decide) (by decide))⟩
    · rw [g1, bnd_s, d1', bnd_s]
    · rw [w4.1 0 (by decide), t0]; rfl
    · rw [d3, w4.1 7 (by decide), t7]; rfl
    · exact w2.fr (d4.1 51 (by decide)) (d4.1 49 (by decide)) (d4.2 19 (by decide)).1 rfl rfl rfl
    · exact (c4.mono (by decide) (by decide)).trans ((w3.mono (by decide) (by decide)).trans (d4.mono (by decide) (by decide)))
  have eM0 : B_M_walk_23 (nI n) 0 (sF τ 0 0) = bnd (f_M_in (nI n) 3 6 τ1) (fun r56 σ56 => if r56 = 0 then some ((-2), σ56) else L_M_walk_67 (B_M_walk_94) (nI n) FU 0 σ56) := by
    unfold B_M_walk_23
    rw [fm_bad0, bnd_s, if_pos rfl, hτ1]
  have eS : f_Table_size 0 σ1 = some (nI n, σ1) := by rw [tb_size c2 0 (by omega), c3]
  by_cases q3 : 3 ≤ n ∧ n ≤ 6
  · -- the search
    have W1 : WC (sF (sF σ1 51 0) 49 (nI n)) := sF_W (sF_W c2 (by omega) _) (by omega) _
    have fr1 : FrC [49, 50, 51] [17, 18, 19] σ1 (sF (sF σ1 51 0) 49 (nI n)) := (FrC.f1 _ _ (by decide)).trans (FrC.f1 _ _ (by decide))
    obtain ⟨σ2, τ2, g1, g2, g3, g4, g5⟩ := names_ag (τ0 := τ) q3.2 B_Search_go_63 B_M_walk_94 n 0 FU FU (sF (sF σ1 51 0) 49 (nI n)) τ1 (by omega) (lt_FU (by omega)) (lt_FU (by omega)) W1 (by rw [fr1.fr (by decide)]; exact c3) (fun i hi => by
      rw [fr1.fc (by decide), c4.fc (by decide)]
      exact hA.2 i (by omega)) (by rw [hτ1]) (fun i hi => absurd hi (by omega))
    have fr2 : FrC [49, 50, 51] [17, 18, 19] σ1 σ2 := fr1.trans (g3.mono (by simp) (by decide))
    have W2 : WC σ2 := W1.of (fun j hj => g3.1 j (by simp)) (fun t ht => (g3.2 t (by simp; omega)).2)
    have sm1 : SM σ σ1 := c4.sm (by decide) (by decide)
    have sm2 : SM σ1 σ2 := fr2.sm (by decide) (by decide)
    have sm : SM σ σ2 := ⟨by rw [sm2.1, sm1.1], fun i c => by rw [sm2.2, sm1.2]⟩
    have zz : FrM [0, 7, 9, 18, 19, 20] [8, 16, 17] τ τ2 := z7.trans (g4.mono (by simp) (by decide))
    have hM2 : IMar σ τ2 := hM.fr rfl rfl (zz.1 2 (by decide)) (zz.2 3 (by decide)) (zz.2 4 (by decide)) (zz.2 5 (by decide))
    have hS : Sk σ n 0 (fun _ => 0) σ2 τ2 := ⟨W2, sm, hM2, by rw [g3.1 49 (by simp)]; exact va_up_self (sF σ1 51 0).1 49 (nI n), g5, fun i hi => absurd hi (by omega)⟩
    have hK0 : Wk n σ2 τ2 0 := ⟨by rw [g3.1 51 (by simp)]; simp only [va_up, reduceIte, Nat.reduceEqDiff]; rfl, by rw [g4.1 19 (by simp), t19]; rfl, fun _ => by rw [g4.1 20 (by simp), t20], fun z => absurd z (by omega)⟩
    have h46 : 4 ^ n ≤ 4 ^ 6 := Nat.pow_le_pow_right (by omega) q3.2
    obtain ⟨σ3, τ3, f, b1, b2, b3, b4, -, -, b5, b6, b7⟩ := walk_ag q3.1 q3.2 hM.2.2 n 0 16 16 σ2 τ2 (fun _ => 0) 0 (by omega) (by omega) (by omega) hS (fun i hi => absurd hi (by omega)) hK0 (by omega)
    have b1' : g_S 16 0 0 0 σ2 = some (0, σ3) := b1
    have b2' : g_MW 16 0 0 (nI n) τ2 = some (0, τ3) := b2
    have hf : f ≤ 4096 := by omega
    have W3 : WC σ3 := W2.of (fun j hj => b3.1 j (by simp; omega)) (fun t ht => (b3.2 t (by simp; omega)).2)
    have F3 : FrC [49, 50, 51] [17, 18, 19] σ1 σ3 := fr2.trans (b3.mono (by decide) (by decide))
    have G3 : FrM [9, 18, 19, 20] [8, 16, 17] τ1 τ3 := (g4.mono (by simp) (by decide)).trans (b4.mono (by decide) (by decide))
    obtain ⟨k1, k2, k3, k4⟩ := b5
    have eC : f_Search_go σ1 = if nI f ≤ 0 then some (-1, σ3) else some (σ3.1 50, σ3) := by
      unfold f_Search_go
      rw [eS, bnd_s, if_neg (fun z => absurd ((lt_lit 3 (by omega) (by omega)).mp z) (by omega)), if_pos ((le_lit 6 (by omega) (by omega)).mpr q3.2)]
      refine (show L_Search_go_31 B_Search_go_63 (nI n) FU 0 (sF (sF σ1 51 0) 49 (nI n)) = _ from g1).trans ?_
      unfold B_Search_go_63
      rw [b1', bnd_s, k1]
    have eM : B_M_walk_23 (nI n) 0 (sF τ 0 0) = if nI f = 0 then some (-1, τ3) else some (τ3.1 20, sF τ3 18 (nI n)) := by
      rw [eM0, fm_in, if_neg (by
        rintro (z | z)
        · exact absurd ((lt_lit 3 (by omega) (by omega)).mp z) (by omega)
        · exact absurd ((lit_lt 6 (by omega) (by omega)).mp z) (by omega)), bnd_s, if_neg i10]
      refine (show L_M_walk_67 B_M_walk_94 (nI n) FU 0 τ1 = _ from g2).trans ?_
      unfold B_M_walk_94
      rw [b2', bnd_s, k2]
    by_cases q : f = 0
    · have w : IWlk σ3 τ3 := ⟨f, hf, k1, k2, fun _ => by rw [b4.1 18 (by decide), g4.1 18 (by simp)]; exact t18, fun z => absurd z (by omega)⟩
      refine fin (-1) σ3 τ3 ?_ ?_ W3 w F3 G3
      · rw [eC, q, if_pos (by decide)]
      · rw [eM, q, if_pos (by decide)]
    · obtain ⟨⟨l, l1, l2, l3⟩, l4⟩ := k4 (by omega)
      refine fin (nI l) σ3 (sF τ3 18 (nI n)) ?_ ?_ W3 ⟨f, hf, k1, ?_, fun z => absurd z q, fun _ => ⟨n, q3.1, q3.2, ?_, ?_, fun i hi => (l4 i hi).1⟩⟩ F3 (G3.trans (FrM.f1 _ _ (by decide)))
      · rw [eC, if_neg (fun z => absurd ((le_lit 0 (by omega) (by omega)).mp z) (by omega)), l2]
      · rw [eM, if_neg (fun z => absurd ((eq_lit 0 (by omega) (by omega)).mp z) q), l3]
      · simp only [va_up, reduceIte, Nat.reduceEqDiff]; exact k2
      · rw [b3.1 49 (by decide)]; exact hS.2.2.2.1
      · simp only [va_up, reduceIte]
  · have w : IWlk (sF σ1 51 0) τ1 := ⟨0, by omega, by simp only [va_up, reduceIte]; rfl, by rw [t19]; rfl, fun _ => t18, fun z => absurd z (by omega)⟩
    refine fin (-2) (sF σ1 51 0) τ1 ?_ ?_ (sF_W c2 (by omega) _) w (FrC.f1 _ _ (by decide)) (FrM.refl _ _ _)
    · unfold f_Search_go
      rw [eS, bnd_s]
      by_cases z : n < 3
      · rw [if_pos ((lt_lit 3 (by omega) (by omega)).mpr z)]
      · rw [if_neg (fun y => z ((lt_lit 3 (by omega) (by omega)).mp y)), if_neg (fun y => absurd ((le_lit 6 (by omega) (by omega)).mp y) (by omega))]
    · rw [eM0, fm_in, if_pos (by
        by_cases z : n < 3
        · exact Or.inl ((lt_lit 3 (by omega) (by omega)).mpr z)
        · exact Or.inr ((lit_lt 6 (by omega) (by omega)).mpr (by omega))), bnd_s, if_pos rfl]
theorem pm_walked {σ τ : CS} (hK : IWlk σ τ) (a0 : Int32) : ∃ v, f_FC_walked a0 σ = some (v, σ) ∧ f_M_walked a0 τ = some (v, sF τ 0 0) := by
  obtain ⟨f, hf, k1, k2, k3, k4⟩ := hK
  unfold f_FC_walked f_M_walked f_Search_markAt
  rw [k1]
  by_cases q : f = 0
  · rw [q, if_pos (by decide), bnd_s, k3 q, fm_in, if_pos (by
      by_cases z : a0 < 0
      · exact Or.inl z
      · right
        exact Int32.lt_of_lt_of_le (show (0 : Int32) - 1 < 0 by decide) (Int32.not_lt.mp z)), bnd_s, if_pos rfl]
    exact ⟨-1, rfl, rfl⟩
  · obtain ⟨n, n1, n2, n3, n4, n5⟩ := k4 (by omega)
    rw [if_neg (fun z => absurd ((le_lit 0 (by omega) (by omega)).mp z) (by omega)), n3, n4]
    by_cases r : ∃ j, j < n ∧ a0 = nI j
    · obtain ⟨j, hj, rfl⟩ := r
      rw [if_neg (nI_pos (by omega)), if_neg (nI_ge hj (by omega)), if_neg (fun z => absurd ((lit_le 6 (by omega) (by omega)).mp z) (by omega)), gix_n (by omega) (by omega), bnd_s, fm_idx1 hj (by omega), bnd_s, if_neg i10, gix_n (by omega) (by omega), rdn (by omega), rdn (by omega), n5 j hj]
      exact ⟨_, rfl, rfl⟩
    · rw [fm_idx0 (by omega) r, bnd_s, if_pos rfl]
      refine ⟨-1, ?_, rfl⟩
      by_cases z : a0 < 0
      · rw [if_pos z, bnd_s]
      · rw [if_neg z]
        obtain ⟨j, hj, rfl⟩ := nI_of z
        rw [if_pos (nI_le (Nat.not_lt.mp (fun y => r ⟨j, y, rfl⟩)) hj), bnd_s]
theorem pm_rivals {σ τ : CS} (hK : IWlk σ τ) : ∃ v, f_FC_rivals σ = some (v, σ) ∧ f_M_rivals τ = some (v, sF τ 0 0) := by
  obtain ⟨f, hf, k1, k2, k3, k4⟩ := hK
  unfold f_FC_rivals f_M_rivals
  rw [k1, k2]
  by_cases q : f = 0
  · rw [q, if_pos (by decide)]
    exact ⟨-1, rfl, rfl⟩
  · rw [if_neg (fun z => absurd ((le_lit 0 (by omega) (by omega)).mp z) (by omega))]
    exact ⟨_, rfl, rfl⟩
