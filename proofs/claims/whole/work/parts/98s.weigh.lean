/-! ===== layer 2: rolls; what stands ahead of what ===== -/
theorem sumN_s (f : Nat → Nat) (n : Nat) : sumN f (n + 1) = sumN f n + f n := rfl
theorem sumN_zero {f : Nat → Nat} : ∀ n, (∀ i, i < n → f i = 0) → sumN f n = 0 := by
  intro n
  induction n with
  | zero => intro _; rfl
  | succ n ih =>
    intro h
    rw [sumN_s, ih (fun i hi => h i (by omega)), h n (by omega)]
theorem sumN_one {f : Nat → Nat} {i0 : Nat} : ∀ n, i0 < n → (∀ i, i < n → i ≠ i0 → f i = 0) → sumN f n = f i0 := by
  intro n
  induction n with
  | zero => intro h; omega
  | succ n ih =>
    intro h1 h2
    rw [sumN_s]
    by_cases q : i0 = n
    · subst q
      rw [sumN_zero i0 (fun i hi => h2 i (by omega) (by omega)), Nat.zero_add]
    · rw [ih (by omega) (fun i hi hne => h2 i (by omega) hne), h2 n (by omega) (fun z => q z.symm), Nat.add_zero]
theorem sumN_add {f g : Nat → Nat} : ∀ n, sumN (fun i => f i + g i) n = sumN f n + sumN g n := by
  intro n
  induction n with
  | zero => rfl
  | succ n ih =>
    rw [sumN_s, sumN_s, sumN_s, ih]
    omega
theorem sumN_swap {f : Nat → Nat → Nat} (m : Nat) : ∀ n, sumN (fun i => sumN (fun j => f i j) m) n = sumN (fun j => sumN (fun i => f i j) n) m := by
  intro n
  induction n with
  | zero =>
    show 0 = _
    exact (sumN_zero (f := fun j => sumN (fun i => f i j) 0) m (fun j _ => rfl)).symm
  | succ n ih =>
    rw [sumN_s, ih]
    show _ = sumN (fun j => sumN (fun i => f i j) n + f n j) m
    rw [sumN_add]
def bef (σ : CS) (h p' p : Nat) : Bool := anyR (fun l => decide (hd σ l = h ∧ pr σ l = p) && anyR (fun e => decide (hd σ e = h ∧ pr σ e = p')) l) (rws σ 12)
theorem bef_iff {σ : CS} {h p' p : Nat} : bef σ h p' p = true ↔ ∃ e l, e < l ∧ l < rws σ 12 ∧ hd σ e = h ∧ pr σ e = p' ∧ hd σ l = h ∧ pr σ l = p := by
  unfold bef
  rw [anyR_iff]
  constructor
  · rintro ⟨l, h1, h2⟩
    rw [Bool.and_eq_true, decide_eq_true_iff, anyR_iff] at h2
    obtain ⟨⟨a, b⟩, e, c, d⟩ := h2
    rw [decide_eq_true_iff] at d
    exact ⟨e, l, c, h1, d.1, d.2, a, b⟩
  · rintro ⟨e, l, h1, h2, h3, h4, h5, h6⟩
    refine ⟨l, h2, ?_⟩
    rw [Bool.and_eq_true, decide_eq_true_iff, anyR_iff]
    exact ⟨⟨h5, h6⟩, e, h1, decide_eq_true ⟨h3, h4⟩⟩
def wR (σ : CS) (i j : Nat) : Nat := sumN (fun h => if bef σ h (el σ j) (el σ i) = true then 1 else 0) 4
theorem wR_b (σ : CS) (i j : Nat) : wR σ i j ≤ 4 := by
  have := sumN_le (f := fun h => if bef σ h (el σ j) (el σ i) = true then 1 else 0) (b := 1) 4 (fun h _ => by
    show (if bef σ h (el σ j) (el σ i) = true then 1 else 0) ≤ 1
    split <;> omega)
  unfold wR
  omega
def fP (σ : CS) (i j e l : Nat) : Nat := if e < l ∧ hd σ e = hd σ l ∧ pr σ l = el σ i ∧ pr σ e = el σ j then 1 else 0
def fPh (σ : CS) (i j h e l : Nat) : Nat := if e < l ∧ hd σ e = h ∧ hd σ l = h ∧ pr σ l = el σ i ∧ pr σ e = el σ j then 1 else 0
theorem fP_sum {σ τ : CS} (hT : RolT σ τ) (i j : Nat) : sumN (fun e => sumN (fun l => fP σ i j e l) (rws σ 12)) (rws σ 12) = wR σ i j := by
  have e1 : sumN (fun e => sumN (fun l => fP σ i j e l) (rws σ 12)) (rws σ 12) = sumN (fun e => sumN (fun h => sumN (fun l => fPh σ i j h e l) (rws σ 12)) 4) (rws σ 12) := by
    refine sumN_congr _ (fun e he => ?_)
    rw [← sumN_swap (f := fun l h => fPh σ i j h e l)]
    refine sumN_congr _ (fun l _ => ?_)
    have h4 := (hT.1 e he).1.2
    rw [sumN_one (i0 := hd σ e) 4 h4 (fun h _ hne => by
      show fPh σ i j h e l = 0
      unfold fPh
      rw [if_neg (fun z => hne z.2.1.symm)])]
    show fP σ i j e l = fPh σ i j (hd σ e) e l
    unfold fP fPh
    by_cases q : e < l ∧ hd σ e = hd σ l ∧ pr σ l = el σ i ∧ pr σ e = el σ j
    · rw [if_pos q, if_pos ⟨q.1, rfl, q.2.1.symm, q.2.2⟩]
    · rw [if_neg q, if_neg (fun z => q ⟨z.1, z.2.2.1.symm, z.2.2.2⟩)]
  rw [e1, sumN_swap (f := fun e h => sumN (fun l => fPh σ i j h e l) (rws σ 12))]
  unfold wR
  refine sumN_congr 4 (fun h _ => ?_)
  by_cases q : bef σ h (el σ j) (el σ i) = true
  · rw [if_pos q]
    obtain ⟨e0, l0, b1, b2, b3, b4, b5, b6⟩ := bef_iff.1 q
    rw [sumN_one (i0 := e0) (rws σ 12) (by omega) (fun e he hne => sumN_zero _ (fun l _ => by
      unfold fPh
      rw [if_neg (fun z => hne (hT.2.2 e e0 he (by omega) (by rw [z.2.1, b3]) (by rw [z.2.2.2.2, b4])))]))]
    rw [sumN_one (i0 := l0) (rws σ 12) b2 (fun l hl hne => by
      unfold fPh
      rw [if_neg (fun z => hne (hT.2.2 l l0 hl b2 (by rw [z.2.2.1, b5]) (by rw [z.2.2.2.1, b6])))])]
    unfold fPh
    rw [if_pos ⟨b1, b3, b5, b6, b4⟩]
  · rw [if_neg q]
    refine sumN_zero _ (fun e he => sumN_zero _ (fun l hl => ?_))
    unfold fPh
    rw [if_neg (fun z => q (bef_iff.2 ⟨e, l, z.1, hl, z.2.1, z.2.2.2.2, z.2.2.1, z.2.2.2.1⟩))]
theorem placeOfC {σ : CS} (hW : WC σ) {e : Nat} (he : e < rws σ 12) (c1 : cel σ 12 e 1 = nI (pr σ e)) (hp : pr σ e < 40) (hn : nL σ ≤ 8) (h64 : σ.1 64 = nI (nL σ)) (h23 : ∀ i, i < nL σ → σ.2.1 23 i = nI (el σ i)) : f_Rolls_placeOf (nI e) σ = some (nI (cnt (Lp σ) (pr σ e)), σ) := by
  obtain ⟨k1, k2⟩ := el_cnt (Lp_iff.2 ⟨e, he, rfl⟩) hp
  have lp : ∀ (d i m : Nat), i + d = cnt (Lp σ) (pr σ e) → d < m → L_Rolls_placeOf_2 (nI e) m (nI i) σ = some (nI (cnt (Lp σ) (pr σ e)), σ) := by
    intro d
    induction d with
    | zero =>
      intro i m h1 h2
      obtain ⟨m, rfl⟩ : ∃ n, m = n + 1 := ⟨m - 1, by omega⟩
      have : i = cnt (Lp σ) (pr σ e) := by omega
      subst this
      rw [L_Rolls_placeOf_2, h64, if_neg (nI_ge k1 (by omega)), if_neg (fun z => absurd ((lit_le 8 (by omega) (by omega)).1 z) (by omega)), gix_n (by omega) (by omega), tb_gl hW 12 (by omega) e 1 he (by decide), bnd_s, rdn (by omega), h23 _ k1, k2, c1, if_pos rfl]
    | succ d ih =>
      intro i m h1 h2
      obtain ⟨m, rfl⟩ : ∃ n, m = n + 1 := ⟨m - 1, by omega⟩
      obtain ⟨x, y, z⟩ := el_ok (show i < nL σ by omega)
      rw [L_Rolls_placeOf_2, h64, if_neg (nI_ge (by omega) (by omega)), if_neg (fun z => absurd ((lit_le 8 (by omega) (by omega)).1 z) (by omega)), gix_n (by omega) (by omega), tb_gl hW 12 (by omega) e 1 he (by decide), bnd_s, rdn (by omega), h23 _ (by omega), c1, if_neg (fun w => by
        have := nI_eqI (by omega) (by omega) w
        rw [this] at z
        omega), nI_1]
      exact ih (i + 1) m (by omega) (by omega)
  exact lp (cnt (Lp σ) (pr σ e)) 0 FU (by omega) (lt_FU (by omega))
theorem fillC {σ : CS} : ∃ σ', f_java_util_Arrays_fill 24 0 σ = some (0, σ') ∧ FrC [] [24] σ σ' ∧ ∀ x, x < 64 → σ'.2.1 24 x = 0 := by
  have lp : ∀ (d x m : Nat) (σ1 : CS), x + d = 64 → d < m → FrC [] [24] σ σ1 → (∀ y, y < x → σ1.2.1 24 y = 0) → ∃ σ', L_java_util_Arrays_fill_5 24 0 (nI 64) m (nI x) σ1 = some (0, σ') ∧ FrC [] [24] σ σ' ∧ ∀ x, x < 64 → σ'.2.1 24 x = 0 := by
    intro d
    induction d with
    | zero =>
      intro x m σ1 h1 h2 h3 h4
      obtain ⟨m, rfl⟩ : ∃ n, m = n + 1 := ⟨m - 1, by omega⟩
      exact ⟨σ1, by rw [L_java_util_Arrays_fill_5, if_pos (nI_le (by omega) (by omega))], h3, fun y hy => h4 y (by omega)⟩
    | succ d ih =>
      intro x m σ1 h1 h2 h3 h4
      obtain ⟨m, rfl⟩ : ∃ n, m = n + 1 := ⟨m - 1, by omega⟩
      rw [L_java_util_Arrays_fill_5, if_neg (nI_ge (by omega) (by omega)), gix_n (show x < lenA 24 by show x < 64; omega) (by decide), wrn (by omega), nI_1]
      refine ih (x + 1) m _ (by omega) (by omega) (h3.trans (FrC.f2 _ _ (by decide))) (fun y hy => ?_)
      simp only [va_up, reduceIte, upd]
      by_cases z : y = x
      · rw [if_pos z]
      · rw [if_neg z]; exact h4 y (by omega)
  exact lp 64 0 FU σ rfl (lt_FU (by omega)) (FrC.refl _ _ _) (fun y hy => by omega)
/-- the rows, their number and the list are the same -/
def SR (σ0 σ : CS) : Prop := rws σ 12 = rws σ0 12 ∧ ∀ i c, cel σ 12 i c = cel σ0 12 i c
theorem SR.of {I A : List Nat} {σ0 σ : CS} (f : FrC I A σ0 σ) (h1 : 38 ∉ I) (h2 : 12 ∉ A) : SR σ0 σ := ⟨f.fr (t := 12) h1, fun i c => f.fc h2 i c⟩
theorem SR.ehd {σ0 σ : CS} (h : SR σ0 σ) : hd σ = hd σ0 := by funext e; unfold hd; rw [h.2]
theorem SR.epr {σ0 σ : CS} (h : SR σ0 σ) : pr σ = pr σ0 := by funext e; unfold pr; rw [h.2]
theorem SR.esm {σ0 σ : CS} (h : SR σ0 σ) : sm σ = sm σ0 := by funext e; unfold sm; rw [h.2]
theorem SR.eLp {σ0 σ : CS} (h : SR σ0 σ) : Lp σ = Lp σ0 := by funext p; unfold Lp; rw [h.epr, h.1]
theorem SR.enL {σ0 σ : CS} (h : SR σ0 σ) : nL σ = nL σ0 := by unfold nL; rw [h.eLp]
theorem SR.eel {σ0 σ : CS} (h : SR σ0 σ) : el σ = el σ0 := by funext i; unfold el; rw [h.eLp]
theorem SR.ebef {σ0 σ : CS} (h : SR σ0 σ) : bef σ = bef σ0 := by funext a b c; unfold bef; rw [h.ehd, h.epr, h.1]
theorem SR.ewR {σ0 σ : CS} (h : SR σ0 σ) : wR σ = wR σ0 := by funext i j; unfold wR; rw [h.ebef, h.eel]
theorem weighC {σ0 τ : CS} (hW : WC σ0) (hT : RolT σ0 τ) (h40 : rws σ0 11 ≤ 40) (hn : nL σ0 ≤ 8) (h64 : σ0.1 64 = nI (nL σ0)) (h23 : ∀ i, i < nL σ0 → σ0.2.1 23 i = nI (el σ0 i)) : ∃ σ', f_Rolls_weigh σ0 = some (0, σ') ∧ FrC [] [24] σ0 σ' ∧ ∀ i j, i < nL σ0 → j < nL σ0 → σ'.2.1 24 (8 * i + j) = nI (wR σ0 i j) := by
  have h32 : rws σ0 12 ≤ 32 := hW.hlim (t := 12) (by omega)
  -- places
  have pl : ∀ (σ : CS) (e : Nat), FrC [] [24] σ0 σ → e < rws σ0 12 → f_Rolls_placeOf (nI e) σ = some (nI (cnt (Lp σ0) (pr σ0 e)), σ) := by
    intro σ e f he
    have s := SR.of f (by decide) (by decide)
    have := placeOfC (hW.fr f (by decide) (by decide)) (e := e) (by rw [s.1]; exact he) (by rw [s.2, s.epr]; exact (hT.1 e he).2.1.1) (by rw [s.epr]; have := (hT.1 e he).2.1.2; omega) (by rw [s.enL]; exact hn) (by rw [f.1 64 (by decide), s.enL]; exact h64) (by rw [s.enL, s.eel, (f.2 23 (by decide)).1]; exact h23)
    rw [s.eLp, s.epr] at this
    exact this
  have inner : ∀ (e : Nat) (K : Int32 → CS → Option (Int32 × CS)) (P0 : Nat → Nat → Nat), e < rws σ0 12 → (∀ i j, P0 i j ≤ 2000) → ∀ (d l m : Nat) (σ : CS), e < l → l + d = rws σ0 12 → d < m → FrC [] [24] σ0 σ → (∀ i j, i < nL σ0 → j < nL σ0 → σ.2.1 24 (8 * i + j) = nI (P0 i j + sumN (fun l => fP σ0 i j e l) l)) → ∃ σ', L_Rolls_weigh_25 K (nI e) m (nI l) σ = K (nI (e + 1)) σ' ∧ FrC [] [24] σ0 σ' ∧ ∀ i j, i < nL σ0 → j < nL σ0 → σ'.2.1 24 (8 * i + j) = nI (P0 i j + sumN (fun l => fP σ0 i j e l) (rws σ0 12)) := by
    intro e K P0 he hP0 d
    induction d with
    | zero =>
      intro l m σ h0 h1 h2 h3 h4
      obtain ⟨m, rfl⟩ : ∃ n, m = n + 1 := ⟨m - 1, by omega⟩
      have : l = rws σ0 12 := by omega
      subst this
      have Ws : WC σ := hW.fr h3 (by decide) (by decide)
      exact ⟨σ, by rw [L_Rolls_weigh_25, tb_size Ws 12 (by omega), bnd_s, h3.fr (t := 12) (by decide), if_pos (nI_le (Nat.le_refl _) (by omega)), nI_1], h3, h4⟩
    | succ d ih =>
      intro l m σ h0 h1 h2 h3 h4
      obtain ⟨m, rfl⟩ : ∃ n, m = n + 1 := ⟨m - 1, by omega⟩
      have Ws : WC σ := hW.fr h3 (by decide) (by decide)
      have r12 : rws σ 12 = rws σ0 12 := h3.fr (t := 12) (by decide)
      have ae := hT.1 e he
      have al := hT.1 l (by omega)
      obtain ⟨ke1, ke2⟩ := el_cnt (Lp_iff.2 ⟨e, he, rfl⟩) (show pr σ0 e < 40 by have := ae.2.1.2; omega)
      obtain ⟨kl1, kl2⟩ := el_cnt (Lp_iff.2 ⟨l, by omega, rfl⟩) (show pr σ0 l < 40 by have := al.2.1.2; omega)
      rw [L_Rolls_weigh_25, tb_size Ws 12 (by omega), bnd_s, r12, if_neg (nI_ge (by omega) (by omega)), tb_gl Ws 12 (by omega) e 0 (by omega) (by decide), bnd_s, tb_gl Ws 12 (by omega) l 0 (by omega) (by decide), bnd_s, h3.fc (by decide), h3.fc (by decide), ae.1.1, al.1.1, pl σ l h3 (by omega), bnd_s, pl σ e h3 he, bnd_s, nI_1]
      by_cases q : hd σ0 e = hd σ0 l
      · have e8 : nI (cnt (Lp σ0) (pr σ0 l)) * (8 : Int32) + nI (cnt (Lp σ0) (pr σ0 e)) = nI (8 * cnt (Lp σ0) (pr σ0 l) + cnt (Lp σ0) (pr σ0 e)) := by rw [show (8 : Int32) = nI 8 from rfl, nI_mul, nI_add, Nat.mul_comm]
        rw [if_pos (by rw [q]), e8, if_neg (nI_pos (by omega)), if_neg (fun z => absurd ((lit_le 64 (by omega) (by omega)).1 z) (by omega)), gix_n (by omega) (by omega), gix_n (by omega) (by omega), wrn (by omega), rdn (by omega), h4 _ _ kl1 ke1, nI_1]
        refine ih (l + 1) m _ (by omega) (by omega) (by omega) (h3.trans (FrC.f2 _ _ (by decide))) (fun i j hi hj => ?_)
        simp only [va_up, reduceIte, upd]
        rw [sumN_s]
        by_cases z : 8 * i + j = 8 * cnt (Lp σ0) (pr σ0 l) + cnt (Lp σ0) (pr σ0 e)
        · have zi : i = cnt (Lp σ0) (pr σ0 l) := by omega
          have zj : j = cnt (Lp σ0) (pr σ0 e) := by omega
          rw [if_pos z]
          have : fP σ0 i j e l = 1 := by
            unfold fP
            rw [if_pos ⟨h0, q, by rw [zi, kl2], by rw [zj, ke2]⟩]
          rw [this, ← zi, ← zj]
          rfl
        · have : fP σ0 i j e l = 0 := by
            unfold fP
            rw [if_neg (fun y => z ?_)]
            obtain ⟨-, -, y1, y2⟩ := y
            have x1 := (el_ok hi).2.2
            have x2 := (el_ok hj).2.2
            rw [← y1] at x1
            rw [← y2] at x2
            omega
          rw [if_neg z, h4 i j hi hj, this, Nat.add_zero]
      · rw [if_neg (fun z => q (nI_eqI (by have := ae.1.2; omega) (by have := al.1.2; omega) z))]
        refine ih (l + 1) m σ (by omega) (by omega) (by omega) h3 (fun i j hi hj => ?_)
        have : fP σ0 i j e l = 0 := by
          unfold fP
          rw [if_neg (fun y => q y.2.1)]
        rw [sumN_s, this, Nat.add_zero]
        exact h4 i j hi hj
  have bd : ∀ i j e, e ≤ 32 → sumN (fun e => sumN (fun l => fP σ0 i j e l) (rws σ0 12)) e ≤ 2000 := by
    intro i j e he
    have b1 : ∀ e', sumN (fun l => fP σ0 i j e' l) (rws σ0 12) ≤ 32 := fun e' => by
      have := sumN_le (f := fun l => fP σ0 i j e' l) (b := 1) (rws σ0 12) (fun l _ => by
        show fP σ0 i j e' l ≤ 1
        unfold fP
        split <;> omega)
      omega
    have := sumN_le (f := fun e => sumN (fun l => fP σ0 i j e l) (rws σ0 12)) (b := 32) e (fun e' _ => b1 e')
    omega
  have outer : ∀ (d e m : Nat) (σ : CS), e + d = rws σ0 12 → d < m → FrC [] [24] σ0 σ → (∀ i j, i < nL σ0 → j < nL σ0 → σ.2.1 24 (8 * i + j) = nI (sumN (fun e => sumN (fun l => fP σ0 i j e l) (rws σ0 12)) e)) → ∃ σ', L_Rolls_weigh_10 m (nI e) σ = some (0, σ') ∧ FrC [] [24] σ0 σ' ∧ ∀ i j, i < nL σ0 → j < nL σ0 → σ'.2.1 24 (8 * i + j) = nI (sumN (fun e => sumN (fun l => fP σ0 i j e l) (rws σ0 12)) (rws σ0 12)) := by
    intro d
    induction d with
    | zero =>
      intro e m σ h1 h2 h3 h4
      obtain ⟨m, rfl⟩ : ∃ n, m = n + 1 := ⟨m - 1, by omega⟩
      have : e = rws σ0 12 := by omega
      subst this
      have Ws : WC σ := hW.fr h3 (by decide) (by decide)
      exact ⟨σ, by rw [L_Rolls_weigh_10, tb_size Ws 12 (by omega), bnd_s, h3.fr (t := 12) (by decide), if_pos (nI_le (Nat.le_refl _) (by omega))], h3, h4⟩
    | succ d ih =>
      intro e m σ h1 h2 h3 h4
      obtain ⟨m, rfl⟩ : ∃ n, m = n + 1 := ⟨m - 1, by omega⟩
      have Ws : WC σ := hW.fr h3 (by decide) (by decide)
      rw [L_Rolls_weigh_10, tb_size Ws 12 (by omega), bnd_s, h3.fr (t := 12) (by decide), if_neg (nI_ge (by omega) (by omega)), nI_1]
      obtain ⟨σ1, k1, k2, k3⟩ := inner e (L_Rolls_weigh_10 m) (fun i j => sumN (fun e => sumN (fun l => fP σ0 i j e l) (rws σ0 12)) e) (by omega) (fun i j => bd i j e (by omega)) (rws σ0 12 - (e + 1)) (e + 1) FU σ (by omega) (by omega) (lt_FU (by omega)) h3 (fun i j hi hj => by
        rw [h4 i j hi hj, sumN_zero (f := fun l => fP σ0 i j e l) (e + 1) (fun l hl => by
          show fP σ0 i j e l = 0
          unfold fP
          rw [if_neg (fun z => by omega)]), Nat.add_zero])
      rw [k1]
      exact ih (e + 1) m σ1 (by omega) (by omega) k2 k3
  obtain ⟨σ1, f1, f2, f3⟩ := fillC (σ := σ0)
  obtain ⟨σ2, g1, g2, g3⟩ := outer (rws σ0 12) 0 FU σ1 (by omega) (lt_FU (by omega)) f2 (fun i j hi hj => f3 _ (by omega))
  refine ⟨σ2, ?_, g2, fun i j hi hj => ?_⟩
  · unfold f_Rolls_weigh
    rw [f1, bnd_s]
    exact g1
  · rw [g3 i j hi hj, fP_sum hT]
theorem aheadM {σ τ0 : CS} (hT : RolT σ τ0) (h40 : rws σ 11 ≤ 40) (hn : nL σ ≤ 8) (h86 : τ0.1 86 = nI (nL σ)) (h82 : ∀ i, i < nL σ → τ0.2.1 82 i = nI (el σ i)) (K : CS → Option (Int32 × CS)) : ∃ τ', L_M_lists_65 K FU 0 τ0 = K τ' ∧ FrM [] [83] τ0 τ' ∧ MQr (wR σ) (nL σ) τ' := by
  have hpr : ∀ i, i < nL σ → el σ i < 40 := fun i hi => (el_ok hi).1
  have r82 : ∀ (τ : CS) i, FrM [] [83] τ0 τ → i < nL σ → τ.2.1 82 i = nI (el σ i) := fun τ i f hi => by rw [f.2 82 (by decide)]; exact h82 i hi
  -- one cell
  have cell : ∀ (x1 x2 : Nat) (K' : Int32 → CS → Option (Int32 × CS)), x1 < nL σ → x2 < nL σ → ∀ (d h m : Nat) (τ : CS), h + d = 4 → d < m → FrM [] [83] τ0 τ → τ.2.1 83 (8 * x1 + x2) = nI (sumN (fun h => if bef σ h (el σ x1) (el σ x2) = true then 1 else 0) h) → ∃ τ', L_M_lists_97 K' (nI x1) (nI x2) m (nI h) τ = K' (nI (x2 + 1)) τ' ∧ FrM [] [83] τ0 τ' ∧ τ'.2.1 83 (8 * x1 + x2) = nI (wR σ x2 x1) ∧ ∀ y, y ≠ 8 * x1 + x2 → τ'.2.1 83 y = τ.2.1 83 y := by
    intro x1 x2 K' hx1 hx2 d
    induction d with
    | zero =>
      intro h m τ h1 h2 h3 h4
      obtain ⟨m, rfl⟩ : ∃ n, m = n + 1 := ⟨m - 1, by omega⟩
      have : h = 4 := by omega
      subst this
      exact ⟨τ, by rw [L_M_lists_97, if_pos (by decide), nI_1], h3, h4, fun _ _ => rfl⟩
    | succ d ih =>
      intro h m τ h1 h2 h3 h4
      obtain ⟨m, rfl⟩ : ∃ n, m = n + 1 := ⟨m - 1, by omega⟩
      have hT1 : RolT σ τ := hT.frM h3 (by decide)
      have e8 : (8 : Int32) * nI x1 + nI x2 = nI (8 * x1 + x2) := by rw [show (8 : Int32) = nI 8 from rfl, nI_mul, nI_add]
      unfold L_M_lists_97 B_M_lists_161 B_M_lists_162
      rw [if_neg (fun z => absurd ((lit_le 4 (by omega) (by omega)).1 z) (by omega)), gix_n (show x1 < 8 by omega) (by omega), rdn (show x1 < 2147483648 by omega), r82 τ x1 h3 hx1]
      have go : ∀ (v : Nat), v = (if bef σ h (el σ x1) (el σ x2) = true then 1 else 0) → ∃ τ', gix (nI (8 * x1 + x2)) 64 (L_M_lists_97 K' (nI x1) (nI x2) m (nI (h + 1)) (wr τ 83 (nI (8 * x1 + x2)) (nI (sumN (fun h => if bef σ h (el σ x1) (el σ x2) = true then 1 else 0) h) + nI v))) = K' (nI (x2 + 1)) τ' ∧ FrM [] [83] τ0 τ' ∧ τ'.2.1 83 (8 * x1 + x2) = nI (wR σ x2 x1) ∧ ∀ y, y ≠ 8 * x1 + x2 → τ'.2.1 83 y = τ.2.1 83 y := by
        intro v hv
        rw [gix_n (by omega) (by omega), wrn (by omega), nI_add]
        obtain ⟨τ', k1, k2, k3, k4⟩ := ih (h + 1) m (sA τ 83 (upd (τ.2.1 83) (8 * x1 + x2) (nI (sumN (fun h => if bef σ h (el σ x1) (el σ x2) = true then 1 else 0) h + v)))) (by omega) (by omega) (h3.trans (FrM.f2 _ _ (by decide))) (by
          simp only [va_up, reduceIte, upd]
          rw [sumN_s, hv])
        refine ⟨τ', k1, k2, k3, fun y hy => ?_⟩
        rw [k4 y hy]
        simp only [va_up, reduceIte, upd]
        rw [if_neg hy]
      have go0 := go 0
      have go1 := go 1
      rcases placeM hT1 (show h < 4 by omega) (show el σ x1 < 1000 by have := hpr x1 hx1; omega) with ⟨e, e1, e2, e3, e4⟩ | ⟨e1, e4⟩
      · have hce : cnt (ofH σ h) e ≤ 8 := Nat.le_trans (cnt_mono _ (by omega)) (hT.2.1 h (by omega)).2
        rw [e4, bnd_s, gix_n (show x2 < 8 by omega) (by omega), rdn (show x2 < 2147483648 by omega), r82 τ x2 h3 hx2]
        rcases placeM hT1 (show h < 4 by omega) (show el σ x2 < 1000 by have := hpr x2 hx2; omega) with ⟨l, l1, l2, l3, l4⟩ | ⟨l1, l4⟩
        · have hcl : cnt (ofH σ h) l ≤ 8 := Nat.le_trans (cnt_mono _ (by omega)) (hT.2.1 h (by omega)).2
          rw [l4, bnd_s, e8, gix_n (by omega) (by omega), rdn (by omega), h4, nI_1, if_neg (nI_pos (by omega)), if_neg (nI_pos (by omega))]
          by_cases q : e < l
          · have := cnt_lt (P := ofH σ h) q (decide_eq_true e2)
            rw [if_neg (nI_ge this (by omega))]
            exact go1 (by rw [if_pos (bef_iff.2 ⟨e, l, q, l1, e2, e3, l2, l3⟩)])
          · have : cnt (ofH σ h) l ≤ cnt (ofH σ h) e := cnt_mono _ (by omega)
            rw [if_pos (nI_le this (by omega))]
            exact go0 (by
              rw [if_neg]
              intro y
              obtain ⟨e', l', y1, y2, y3, y4, y5, y6⟩ := bef_iff.1 y
              have z1 := hT.2.2 e' e (by omega) e1 (by rw [y3, e2]) (by rw [y4, e3])
              have z2 := hT.2.2 l' l y2 l1 (by rw [y5, l2]) (by rw [y6, l3])
              omega)
        · rw [l4, bnd_s, e8, gix_n (by omega) (by omega), rdn (by omega), h4, nI_1, if_neg (nI_pos (by omega)), if_pos (by decide)]
          exact go0 (by
            rw [if_neg]
            intro y
            obtain ⟨e', l', y1, y2, y3, y4, y5, y6⟩ := bef_iff.1 y
            exact l1 l' y2 ⟨y5, y6⟩)
      · rw [e4, bnd_s, gix_n (show x2 < 8 by omega) (by omega), rdn (show x2 < 2147483648 by omega), r82 τ x2 h3 hx2]
        have rest : ∀ r : Int32, f_M_placeIn (nI h) (nI (el σ x2)) τ = some (r, τ) → ∃ τ', bnd (f_M_placeIn (nI h) (nI (el σ x2)) τ) (fun r123 σ123 => gix (8 * nI x1 + nI x2) 64 (if (-1 : Int32) < 0 then gix (8 * nI x1 + nI x2) 64 (L_M_lists_97 K' (nI x1) (nI x2) m (nI h + 1) (wr σ123 83 (8 * nI x1 + nI x2) ((rd σ123 83 (8 * nI x1 + nI x2)) + 0))) else if r123 < 0 then gix (8 * nI x1 + nI x2) 64 (L_M_lists_97 K' (nI x1) (nI x2) m (nI h + 1) (wr σ123 83 (8 * nI x1 + nI x2) ((rd σ123 83 (8 * nI x1 + nI x2)) + 0))) else if r123 ≤ (-1) then gix (8 * nI x1 + nI x2) 64 (L_M_lists_97 K' (nI x1) (nI x2) m (nI h + 1) (wr σ123 83 (8 * nI x1 + nI x2) ((rd σ123 83 (8 * nI x1 + nI x2)) + 0))) else gix (8 * nI x1 + nI x2) 64 (L_M_lists_97 K' (nI x1) (nI x2) m (nI h + 1) (wr σ123 83 (8 * nI x1 + nI x2) ((rd σ123 83 (8 * nI x1 + nI x2)) + 1))))) = K' (nI (x2 + 1)) τ' ∧ FrM [] [83] τ0 τ' ∧ τ'.2.1 83 (8 * x1 + x2) = nI (wR σ x2 x1) ∧ ∀ y, y ≠ 8 * x1 + x2 → τ'.2.1 83 y = τ.2.1 83 y := by
          intro r hr
          rw [hr, bnd_s, if_pos (by decide), e8, gix_n (by omega) (by omega), rdn (by omega), h4, nI_1]
          exact go0 (by
            rw [if_neg]
            intro y
            obtain ⟨e', l', y1, y2, y3, y4, y5, y6⟩ := bef_iff.1 y
            exact e1 e' (by omega) ⟨y3, y4⟩)
        rcases placeM hT1 (show h < 4 by omega) (show el σ x2 < 1000 by have := hpr x2 hx2; omega) with ⟨l, l1, l2, l3, l4⟩ | ⟨l1, l4⟩
        · exact rest _ l4
        · exact rest _ l4
  have row : ∀ (x1 : Nat) (K' : Int32 → CS → Option (Int32 × CS)), x1 < nL σ → ∀ (d x2 m : Nat) (τ : CS), x2 + d = nL σ → d < m → FrM [] [83] τ0 τ → (∀ y, y < x2 → τ.2.1 83 (8 * x1 + y) = nI (wR σ y x1)) → ∃ τ', L_M_lists_75 K' (nI x1) m (nI x2) τ = K' (nI (x1 + 1)) τ' ∧ FrM [] [83] τ0 τ' ∧ (∀ y, y < nL σ → τ'.2.1 83 (8 * x1 + y) = nI (wR σ y x1)) ∧ ∀ y, y < 8 * x1 → τ'.2.1 83 y = τ.2.1 83 y := by
    intro x1 K' hx1 d
    induction d with
    | zero =>
      intro x2 m τ h1 h2 h3 h4
      obtain ⟨m, rfl⟩ : ∃ n, m = n + 1 := ⟨m - 1, by omega⟩
      have : x2 = nL σ := by omega
      subst this
      exact ⟨τ, by rw [L_M_lists_75, h3.1 86 (by decide), h86, if_pos (nI_le (Nat.le_refl _) (by omega)), nI_1], h3, h4, fun _ _ => rfl⟩
    | succ d ih =>
      intro x2 m τ h1 h2 h3 h4
      obtain ⟨m, rfl⟩ : ∃ n, m = n + 1 := ⟨m - 1, by omega⟩
      have e8 : (8 : Int32) * nI x1 + nI x2 = nI (8 * x1 + x2) := by rw [show (8 : Int32) = nI 8 from rfl, nI_mul, nI_add]
      rw [L_M_lists_75, h3.1 86 (by decide), h86, if_neg (nI_ge (by omega) (by omega)), e8, gix_n (by omega) (by omega), wrn (by omega)]
      obtain ⟨τ1, k1, k2, k3, k4⟩ := cell x1 x2 (L_M_lists_75 K' (nI x1) m) hx1 (by omega) 4 0 FU (sA τ 83 (upd (τ.2.1 83) (8 * x1 + x2) 0)) rfl (lt_FU (by omega)) (h3.trans (FrM.f2 _ _ (by decide))) (by simp [va_up, upd]; rfl)
      have k1' : L_M_lists_97 (L_M_lists_75 K' (nI x1) m) (nI x1) (nI x2) FU 0 (sA τ 83 (upd (τ.2.1 83) (8 * x1 + x2) 0)) = L_M_lists_75 K' (nI x1) m (nI (x2 + 1)) τ1 := k1
      have ko : ∀ y, y ≠ 8 * x1 + x2 → τ1.2.1 83 y = τ.2.1 83 y := fun y hy => by
        rw [k4 y hy]
        simp only [va_up, reduceIte, upd]
        rw [if_neg hy]
      rw [k1']
      obtain ⟨τ2, j1, j2, j3, j4⟩ := ih (x2 + 1) m τ1 (by omega) (by omega) k2 (fun y hy => by
        by_cases z : y = x2
        · rw [z]; exact k3
        · rw [ko _ (by omega)]; exact h4 y (by omega))
      exact ⟨τ2, j1, j2, j3, fun y hy => (j4 y hy).trans (ko y (by omega))⟩
  have all : ∀ (d x1 m : Nat) (τ : CS), x1 + d = nL σ → d < m → FrM [] [83] τ0 τ → (∀ x y, x < x1 → y < nL σ → τ.2.1 83 (8 * x + y) = nI (wR σ y x)) → ∃ τ', L_M_lists_65 K m (nI x1) τ = K τ' ∧ FrM [] [83] τ0 τ' ∧ ∀ x y, x < nL σ → y < nL σ → τ'.2.1 83 (8 * x + y) = nI (wR σ y x) := by
    intro d
    induction d with
    | zero =>
      intro x1 m τ h1 h2 h3 h4
      obtain ⟨m, rfl⟩ : ∃ n, m = n + 1 := ⟨m - 1, by omega⟩
      have : x1 = nL σ := by omega
      subst this
      exact ⟨τ, by rw [L_M_lists_65, h3.1 86 (by decide), h86, if_pos (nI_le (Nat.le_refl _) (by omega))], h3, h4⟩
    | succ d ih =>
      intro x1 m τ h1 h2 h3 h4
      obtain ⟨m, rfl⟩ : ∃ n, m = n + 1 := ⟨m - 1, by omega⟩
      obtain ⟨τ1, k1, k2, k3, k4⟩ := row x1 (L_M_lists_65 K m) (by omega) (nL σ) 0 FU τ (by omega) (lt_FU (by omega)) h3 (fun y hy => by omega)
      have k1' : L_M_lists_75 (L_M_lists_65 K m) (nI x1) FU 0 τ = L_M_lists_65 K m (nI (x1 + 1)) τ1 := k1
      rw [L_M_lists_65, h3.1 86 (by decide), h86, if_neg (nI_ge (by omega) (by omega)), k1']
      refine ih (x1 + 1) m τ1 (by omega) (by omega) k2 (fun x y hx hy => ?_)
      by_cases z : x = x1
      · rw [z]; exact k3 y hy
      · rw [k4 _ (by omega)]; exact h4 x y (by omega) hy
  obtain ⟨τ', g1, g2, g3⟩ := all (nL σ) 0 FU τ0 (by omega) (lt_FU (by omega)) (FrM.refl _ _ _) (fun x y hx => by omega)
  exact ⟨τ', g1, g2, (g2.1 86 (by decide)).trans h86, fun i j hi hj => g3 j i hj hi⟩
