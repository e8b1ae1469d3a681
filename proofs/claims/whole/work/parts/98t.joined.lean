/-! ===== layer 2: rolls; enter, quarrel, joined ===== -/
def JS (σ : CS) : Prop := (8 < nL σ ∧ σ.1 65 = 1) ∨ (nL σ ≤ 8 ∧ σ.1 65 = 0 ∧ σ.1 64 = nI (nL σ) ∧ σ.2.1 25 0 = nI (LSf (wR σ) (nL σ) 0) ∧ ∀ k, k < nL σ → σ.2.1 26 k = nI (el σ (gch (wR σ) (nL σ) (LSf (wR σ) (nL σ)) 0 k)))
def IRol (σ τ : CS) : Prop := RolT σ τ ∧ ((σ.1 66 = 0 ∧ JS σ) ∨ σ.1 66 = 1)
theorem JS.fr {σ σ' : CS} {I A : List Nat} (h : JS σ) (f : FrC I A σ σ') (h1 : 38 ∉ I ∧ 64 ∉ I ∧ 65 ∉ I) (h2 : 12 ∉ A ∧ 25 ∉ A ∧ 26 ∉ A) : JS σ' := by
  have s := SR.of f h1.1 h2.1
  unfold JS at h ⊢
  rw [s.enL, s.ewR, s.eel, f.1 64 h1.2.1, f.1 65 h1.2.2, (f.2 25 h2.2.1).1, (f.2 26 h2.2.2).1]
  exact h
theorem IRol.fr {σ τ σ' τ' : CS} {I A I' A' : List Nat} (h : IRol σ τ) (f : FrC I A σ σ') (g : FrM I' A' τ τ') (h0 : rws σ 11 ≤ rws σ' 11) (h1 : 38 ∉ I ∧ 64 ∉ I ∧ 65 ∉ I ∧ 66 ∉ I) (h2 : 12 ∉ A ∧ 25 ∉ A ∧ 26 ∉ A) (h3 : 79 ∉ A' ∧ 80 ∉ A' ∧ 81 ∉ A') : IRol σ' τ' := by
  refine ⟨h.1.fr h0 (f.1 38 h1.1) (f.2 12 h2.1).1 (g.2 79 h3.1) (g.2 80 h3.2.1) (g.2 81 h3.2.2), ?_⟩
  rcases h.2 with ⟨a, b⟩ | a
  · exact Or.inl ⟨(f.1 66 h1.2.2.2).trans a, b.fr f ⟨h1.1, h1.2.1, h1.2.2.1⟩ h2⟩
  · exact Or.inr ((f.1 66 h1.2.2.2).trans a)
theorem rjoinC {σ τ : CS} (hW : WC σ) (hR : IRol σ τ) : ∃ σ', f_Rolls_join σ = some (0, σ') ∧ WC σ' ∧ FrC [64, 65, 66] [23, 24, 25, 26] σ σ' ∧ JS σ' ∧ σ'.1 66 = 0 := by
  have h40 : rws σ 11 ≤ 40 := hW.hlim (t := 11) (by omega)
  unfold f_Rolls_join
  rcases hR.2 with ⟨h66, hJ⟩ | h66
  · rw [if_pos h66]
    exact ⟨σ, rfl, hW, FrC.refl _ _ _, hJ, h66⟩
  rw [if_neg (by rw [h66]; decide)]
  have F0 : FrC [66] [] σ (sF σ 66 0) := FrC.f1 _ _ (by decide)
  have W0 : WC (sF σ 66 0) := hW.fr F0 (by decide) (by decide)
  have T0 : RolT (sF σ 66 0) τ := hR.1.fr (Nat.le_of_eq (F0.fr (t := 11) (by decide)).symm) (F0.1 38 (by decide)) (F0.2 12 (by decide)).1 rfl rfl rfl
  have h40' : rws (sF σ 66 0) 11 ≤ 40 := h40
  have z66 : (sF σ 66 0).1 66 = 0 := sF_self σ 66 0
  generalize sF σ 66 0 = σ0 at *
  obtain ⟨σ1, g1, g2, g3, g4, g5⟩ := listC W0 (fun e he => ⟨(T0.1 e he).2.1.1, by have := (T0.1 e he).2.1.2; omega⟩)
  have W1 : WC σ1 := W0.fr g2 (by decide) (by decide)
  have s1 := SR.of g2 (by decide) (by decide)
  rw [g1, bnd_s, g4]
  by_cases q : 8 < nL σ0
  · rw [if_pos q, if_neg (by decide)]
    exact ⟨σ1, rfl, W1, (F0.mono (by decide) (by decide)).trans (g2.mono (by decide) (by decide)), Or.inl ⟨by rw [s1.enL]; exact q, by rw [g4, if_pos q]; rfl⟩, (g2.1 66 (by decide)).trans z66⟩
  rw [if_neg q] at g4 ⊢
  have hn : nL σ0 ≤ 8 := by omega
  rw [Nat.min_eq_left hn] at g3
  have T1 : RolT σ1 τ := T0.fr (Nat.le_of_eq (g2.fr (t := 11) (by decide)).symm) (g2.1 38 (by decide)) (g2.2 12 (by decide)).1 rfl rfl rfl
  obtain ⟨σ2, k1, k2, k3⟩ := weighC W1 T1 (by rw [g2.fr (t := 11) (by decide)]; exact h40') (by rw [s1.enL]; exact hn) (by rw [s1.enL]; exact g3) (fun i hi => by
    rw [s1.enL] at hi
    rw [s1.eel]
    exact g5 i hi (by omega))
  have s2 := SR.of k2 (by decide) (by decide)
  rw [s1.enL, s1.ewR] at k3
  have M2 : MC (wR σ0) (nL σ0) σ2 := ⟨(k2.1 64 (by decide)).trans g3, k3⟩
  have hw := wR_b σ0
  obtain ⟨σ3, l1, l2, l3⟩ := measureC hw hn M2
  have M3 := M2.fr l2 (by decide) (by decide)
  obtain ⟨σ4, o1, o2, o3⟩ := chooseC hw hn M3 l3
  have F4 : FrC [64, 65] [23, 24, 25, 26] σ0 σ4 := (g2.mono (by decide) (by decide)).trans ((k2.mono (by decide) (by decide)).trans ((l2.mono (by decide) (by decide)).trans (o2.mono (by decide) (by decide))))
  have s4 := SR.of F4 (by decide) (by decide)
  have hO := LSf_opt hw hn
  rw [if_pos (show nI 0 = (0 : Int32) from rfl), k1, bnd_s, l1, bnd_s, o1, bnd_s]
  refine ⟨σ4, rfl, W0.fr F4 (by decide) (by decide), (F0.mono (by decide) (by decide)).trans (F4.mono (by decide) (by decide)), Or.inr ⟨by rw [s4.enL]; exact hn, ?_, ?_, ?_, fun k hk => ?_⟩, (F4.1 66 (by decide)).trans z66⟩
  · rw [o2.1 65 (by decide), l2.1 65 (by decide), k2.1 65 (by decide), g4]
    rfl
  · rw [s4.enL]
    exact (M3.fr o2 (by decide) (by decide)).1
  · rw [s4.enL, s4.ewR, (o2.2 25 (by decide)).1]
    exact l3 0 (Nat.pow_pos (by omega))
  · rw [s4.enL] at hk
    rw [s4.enL, s4.ewR, s4.eel, o3 k hk, (l2.2 23 (by decide)).1, (k2.2 23 (by decide)).1]
    have := (fst_lt hO hk).1
    exact g5 _ this (by omega)
/-- what the reference has listed and joined -/
theorem listsM {σ τ : CS} (hT : RolT σ τ) (hN : τ.1 60 = nI (rws σ 11)) (h40 : rws σ 11 ≤ 40) : (8 < nL σ ∧ ∃ τ', f_M_lists τ = some (0, τ') ∧ FrM [86, 87] [82, 83, 84, 85] τ τ') ∨ (nL σ ≤ 8 ∧ ∃ τ', f_M_lists τ = some (1, τ') ∧ FrM [86, 87] [82, 83, 84, 85] τ τ' ∧ τ'.1 86 = nI (nL σ) ∧ τ'.1 87 = nI (LSf (wR σ) (nL σ) 0) ∧ (∀ i, i < nL σ → τ'.2.1 82 i = nI (el σ i)) ∧ ∀ k, k < nL σ → τ'.2.1 85 k = nI (gch (wR σ) (nL σ) (LSf (wR σ) (nL σ)) 0 k)) := by
  unfold f_M_lists
  rcases listM hT hN h40 B_M_lists_182 with ⟨a, τ', b, c⟩ | ⟨a, τ1, b, c, d, e⟩
  · exact Or.inl ⟨a, τ', b, c.mono (by decide) (by decide)⟩
  right
  refine ⟨a, ?_⟩
  obtain ⟨τ2, g1, g2, g3⟩ := aheadM (hT.frM c (by decide)) h40 a d e B_M_lists_182
  have hw := wR_b σ
  have hO := LSf_opt hw a
  have hc0 := (path_ok hO 0 (Nat.zero_le _)).2
  have hc0' : cnt (fun i => (0 : Nat).testBit i) (nL σ) = 0 := hc0
  have M3 : MQr (wR σ) (nL σ) (sF τ2 87 (-1)) := g3.fr (I := [87]) (A := []) (FrM.f1 _ _ (by decide)) (by decide) (by decide)
  obtain ⟨v', τ3, k1, k2, -, k4⟩ := orders_ag hw a hO (nL σ) 0 0 0 16 (fun _ => 0) (sF τ2 87 (-1)) (by omega) (by omega) (Nat.pow_pos (by omega)) hc0' (Nat.le_refl _) M3 (fun j hj => by omega) (Or.inl (sF_self τ2 87 _))
  have k1' : g_MO 16 0 0 0 0 (sF τ2 87 (-1)) = some (v', τ3) := k1
  have f3 : FrM [87] [84, 85] τ2 τ3 := (FrM.f1 _ _ (by decide)).trans k2
  rw [b, g1]
  unfold B_M_lists_182
  rw [k1', bnd_s]
  have F : FrM [86, 87] [82, 83, 84, 85] τ τ3 := (c.mono (by decide) (by decide)).trans ((g2.mono (by decide) (by decide)).trans (f3.mono (by decide) (by decide)))
  rcases k4 with ⟨-, x2, x3⟩ | ⟨x1, -⟩
  · rw [Nat.zero_add] at x2
    refine ⟨τ3, rfl, F, (f3.1 86 (by decide)).trans g3.1, x2, fun i hi => ?_, fun k hk => ?_⟩
    · rw [f3.2 82 (by decide), g2.2 82 (by decide)]
      exact e i hi
    · rw [x3 k hk, if_neg (by omega), Nat.sub_zero]
  · exact absurd (Or.inl (sF_self τ2 87 _)) x1
abbrev JRol (σ τ σ1 τ1 : CS) : Prop := WC σ1 ∧ IRol σ1 τ1 ∧ FrC [64, 65, 66] [23, 24, 25, 26] σ σ1 ∧ FrM [0, 86, 87] [82, 83, 84, 85] τ τ1
theorem pm_quarrel {σ τ : CS} (hW : WC σ) (hR : IRol σ τ) (hN : τ.1 60 = nI (rws σ 11)) : ∃ v σ1 τ1, f_FC_quarrel σ = some (v, σ1) ∧ f_M_quarrel τ = some (v, τ1) ∧ τ1.1 0 = 0 ∧ JRol σ τ σ1 τ1 := by
  have h40 : rws σ 11 ≤ 40 := hW.hlim (t := 11) (by omega)
  obtain ⟨σ1, g1, g2, g3, g4, g5⟩ := rjoinC hW hR
  have s := SR.of g3 (by decide) (by decide)
  have T0 : RolT σ (sF τ 0 0) := hR.1
  have R1 : ∀ τ', FrM [0, 86, 87] [82, 83, 84, 85] τ τ' → IRol σ1 τ' := fun τ' f => ⟨hR.1.fr (Nat.le_of_eq (g3.fr (t := 11) (by decide)).symm) (g3.1 38 (by decide)) (g3.2 12 (by decide)).1 (f.2 79 (by decide)) (f.2 80 (by decide)) (f.2 81 (by decide)), Or.inl ⟨g5, g4⟩⟩
  unfold f_FC_quarrel f_Rolls_leastQuarrel f_M_quarrel
  rw [g1, bnd_s]
  rcases listsM T0 hN h40 with ⟨a, τ', b, c⟩ | ⟨a, τ', b, c, d, e, -⟩
  · have F : FrM [0, 86, 87] [82, 83, 84, 85] τ τ' := (FrM.f1 _ _ (by decide)).trans (c.mono (by decide) (by decide))
    rcases g4 with ⟨x1, x2⟩ | ⟨x1, -⟩
    · rw [b, bnd_s, if_pos rfl, x2, if_neg i10, bnd_s]
      exact ⟨-1, σ1, τ', rfl, rfl, (c.1 0 (by decide)).trans (sF_self τ 0 0), g2, R1 τ' F, g3, F⟩
    · rw [s.enL] at x1; omega
  · have F : FrM [0, 86, 87] [82, 83, 84, 85] τ τ' := (FrM.f1 _ _ (by decide)).trans (c.mono (by decide) (by decide))
    rcases id g4 with ⟨x1, -⟩ | ⟨x1, x2, x3, x4, -⟩
    · rw [s.enL] at x1; omega
    · rw [s.enL, s.ewR] at x4
      have r0 : rd σ1 25 0 = nI (LSf (wR σ) (nL σ) 0) := by
        rw [← x4]
        exact rdn (j := 0) (by omega) σ1 25
      rw [b, bnd_s, if_neg i10, x2, if_pos rfl, if_neg (show ¬ (256 : Int32) = 0 by decide), lit_gix 0 256 _ (by omega) (by omega), bnd_s, r0, e]
      exact ⟨_, σ1, τ', rfl, rfl, (c.1 0 (by decide)).trans (sF_self τ 0 0), g2, R1 τ' F, g3, F⟩
/-! the sum of one that is joined -/
def dist (a b : Nat) : Nat := (a - b) + (b - a)
def apt (σ : CS) (p v : Nat) : Nat := sumN (fun e => if pr σ e = p then dist (sm σ e) v else 0) (rws σ 12)
theorem abs_d {a b : Nat} (ha : a ≤ 1000000) (hb : b ≤ 1000000) : (if 0 ≤ nI a - nI b then nI a - nI b else 0 - (nI a - nI b)) = nI (dist a b) ∧ (if 0 ≤ nI a - nI b then nI a - nI b else -(nI a - nI b)) = nI (dist a b) := by
  unfold dist
  by_cases q : b ≤ a
  · have : (0 : Int32) ≤ nI a - nI b := by rw [nI_sub q]; exact (lit_le 0 (by omega) (by omega)).2 (Nat.zero_le _)
    rw [if_pos this, if_pos this, nI_sub q, show b - a = 0 by omega, Nat.add_zero]
    exact ⟨rfl, rfl⟩
  · have : ¬ (0 : Int32) ≤ nI a - nI b := Int32.not_le.2 ((sub_lt0 (by omega) (by omega)).2 (by omega))
    have e : -(nI a - nI b) = nI b - nI a := Int32.neg_sub
    rw [if_neg this, if_neg this, Int32.zero_sub, e, nI_sub (by omega), show a - b = 0 by omega, Nat.zero_add]
    exact ⟨rfl, rfl⟩
theorem dist_b {a b : Nat} (ha : a ≤ 100000) (hb : b ≤ 100000) : dist a b ≤ 100000 := by unfold dist; omega
theorem apt_b {σ τ : CS} (hT : RolT σ τ) (h32 : rws σ 12 ≤ 32) {p v : Nat} (hv : v ≤ 100000) : ∀ e, e ≤ rws σ 12 → sumN (fun e => if pr σ e = p then dist (sm σ e) v else 0) e ≤ 3200000 := by
  intro e he
  have := sumN_le (f := fun e => if pr σ e = p then dist (sm σ e) v else 0) (b := 100000) e (fun i hi => by
    show (if pr σ i = p then dist (sm σ i) v else 0) ≤ 100000
    split
    · exact dist_b ((hT.1 i (by omega)).2.2.1.2) hv
    · omega)
  omega
theorem apartC {σ τ : CS} (hW : WC σ) (hT : RolT σ τ) {p v : Nat} (hp : p < 1000) (hv : v ≤ 100000) (h40 : rws σ 11 ≤ 40) : f_Rolls_apartFrom (nI p) (nI v) σ = some (nI (apt σ p v), σ) := by
  have h32 : rws σ 12 ≤ 32 := hW.hlim (t := 12) (by omega)
  have lp : ∀ (d e m : Nat), e + d = rws σ 12 → d < m → L_Rolls_apartFrom_5 (nI p) (nI v) m (nI (sumN (fun e => if pr σ e = p then dist (sm σ e) v else 0) e)) (nI e) σ = some (nI (apt σ p v), σ) := by
    intro d
    induction d with
    | zero =>
      intro e m h1 h2
      obtain ⟨m, rfl⟩ : ∃ n, m = n + 1 := ⟨m - 1, by omega⟩
      have : e = rws σ 12 := by omega
      subst this
      rw [L_Rolls_apartFrom_5, tb_size hW 12 (by omega), bnd_s, if_pos (nI_le (Nat.le_refl _) (by omega))]
      rfl
    | succ d ih =>
      intro e m h1 h2
      obtain ⟨m, rfl⟩ : ∃ n, m = n + 1 := ⟨m - 1, by omega⟩
      obtain ⟨-, ⟨b1, b2⟩, ⟨c1, c2⟩, -⟩ := hT.1 e (by omega)
      have ih' := ih (e + 1) m (by omega) (by omega)
      rw [sumN_s] at ih'
      rw [L_Rolls_apartFrom_5, tb_size hW 12 (by omega), bnd_s, if_neg (nI_ge (by omega) (by omega)), tb_gl hW 12 (by omega) e 1 (by omega) (by decide), bnd_s, b1, nI_1]
      by_cases q : pr σ e = p
      · rw [if_pos (by rw [q]), tb_gl hW 12 (by omega) e 2 (by omega) (by decide), bnd_s, c1, (abs_d (by omega) (by omega)).1, nI_add]
        rw [if_pos q] at ih'
        exact ih'
      · rw [if_neg (fun z => q (nI_eqI (by omega) (by omega) z))]
        rw [if_neg q, Nat.add_zero] at ih'
        exact ih'
  exact lp (rws σ 12) 0 FU (by omega) (lt_FU (by omega))
def fH (σ : CS) (p v h : Nat) : Nat := sumN (fun e => if hd σ e = h ∧ pr σ e = p then dist (sm σ e) v else 0) (rws σ 12)
theorem apt_h {σ τ : CS} (hT : RolT σ τ) (p v : Nat) : apt σ p v = sumN (fun h => fH σ p v h) 4 := by
  unfold apt fH
  rw [← sumN_swap (f := fun e h => if hd σ e = h ∧ pr σ e = p then dist (sm σ e) v else 0)]
  refine sumN_congr _ (fun e he => ?_)
  have h4 := (hT.1 e he).1.2
  rw [sumN_one (f := fun h => if hd σ e = h ∧ pr σ e = p then dist (sm σ e) v else 0) (i0 := hd σ e) 4 h4 (fun h _ hne => if_neg (fun z => hne z.1.symm))]
  by_cases q : pr σ e = p
  · rw [if_pos q, if_pos ⟨rfl, q⟩]
  · rw [if_neg q, if_neg (fun z => q z.2)]
theorem fH_row {σ τ : CS} (hT : RolT σ τ) {p v h e : Nat} (he : e < rws σ 12) (h1 : hd σ e = h) (h2 : pr σ e = p) : fH σ p v h = dist (sm σ e) v := by
  unfold fH
  rw [sumN_one (f := fun e => if hd σ e = h ∧ pr σ e = p then dist (sm σ e) v else 0) (i0 := e) (rws σ 12) he (fun i hi hne => if_neg (fun z => hne (hT.2.2 i e hi he (by rw [z.1, h1]) (by rw [z.2, h2]))))]
  exact if_pos ⟨h1, h2⟩
theorem fH_no {σ : CS} {p v h : Nat} (hno : ∀ e, e < rws σ 12 → ¬ (hd σ e = h ∧ pr σ e = p)) : fH σ p v h = 0 := by
  unfold fH
  exact sumN_zero _ (fun e he => if_neg (hno e he))
theorem apartM {σ τ : CS} (hT : RolT σ τ) (h32 : rws σ 12 ≤ 32) {p v : Nat} (hp : p < 1000) (hv : v ≤ 100000) : f_M_apart (nI p) (nI v) τ = some (nI (apt σ p v), τ) := by
  have hb : ∀ h, fH σ p v h ≤ 3200000 := fun h => by
    have := sumN_le (f := fun e => if hd σ e = h ∧ pr σ e = p then dist (sm σ e) v else 0) (b := 100000) (rws σ 12) (fun e he => by
      show (if hd σ e = h ∧ pr σ e = p then dist (sm σ e) v else 0) ≤ 100000
      split
      · exact dist_b (hT.1 e he).2.2.1.2 hv
      · omega)
    unfold fH
    omega
  have lp : ∀ (d h m : Nat), h + d = 4 → d < m → L_M_apart_5 (nI p) (nI v) m (nI (sumN (fun h => fH σ p v h) h)) (nI h) τ = some (nI (apt σ p v), τ) := by
    intro d
    induction d with
    | zero =>
      intro h m h1 h2
      obtain ⟨m, rfl⟩ : ∃ n, m = n + 1 := ⟨m - 1, by omega⟩
      have : h = 4 := by omega
      subst this
      rw [L_M_apart_5, if_pos (by decide), apt_h hT]
    | succ d ih =>
      intro h m h1 h2
      obtain ⟨m, rfl⟩ : ∃ n, m = n + 1 := ⟨m - 1, by omega⟩
      have ih' := ih (h + 1) m (by omega) (by omega)
      rw [sumN_s] at ih'
      unfold L_M_apart_5 B_M_apart_48
      rw [if_neg (fun z => absurd ((lit_le 4 (by omega) (by omega)).1 z) (by omega))]
      rcases placeM hT (show h < 4 by omega) hp with ⟨e, e1, e2, e3, e4⟩ | ⟨e1, e4⟩
      · have hc : cnt (ofH σ h) e < 8 := Nat.lt_of_lt_of_le (cnt_lt (P := ofH σ h) e1 (decide_eq_true e2)) (hT.2.1 h (by omega)).2
        have e8 : (8 : Int32) * nI h + nI (cnt (ofH σ h) e) = nI (8 * h + cnt (ofH σ h) e) := by rw [show (8 : Int32) = nI 8 from rfl, nI_mul, nI_add]
        obtain ⟨-, -, ⟨-, c2⟩, -, c4⟩ := hT.1 e e1
        rw [e2] at c4
        have es : f_M_size (nI (sm σ e) - nI v) τ = some (nI (dist (sm σ e) v), τ) := by
          unfold f_M_size
          rw [some_ite, (abs_d (by omega) (by omega)).2]
        rw [e4, bnd_s, if_pos ((lit_le 0 (by omega) (by omega)).2 (Nat.zero_le _)), e8, gix_n (by omega) (by omega), rdn (by omega), c4, es, bnd_s, nI_add, nI_1]
        rw [fH_row hT e1 e2 e3] at ih'
        exact ih'
      · rw [e4, bnd_s, if_neg (by decide), nI_1]
        rw [fH_no e1] at ih'
        show L_M_apart_5 (nI p) (nI v) m (nI _ + nI 0) (nI (h + 1)) τ = _
        rw [nI_add]
        exact ih'
  exact lp 4 0 FU rfl (lt_FU (by omega))
/-- u is no worse than v -/
def lxe (σ : CS) (p u v : Nat) : Prop := apt σ p u < apt σ p v ∨ (apt σ p u = apt σ p v ∧ u ≤ v)
theorem sumC {σ τ : CS} (hW : WC σ) (hT : RolT σ τ) {p : Nat} (hp : p < 40) (h40 : rws σ 11 ≤ 40) (hl : Lp σ p = true) : ∃ e0, e0 < rws σ 12 ∧ pr σ e0 = p ∧ (∀ e, e < rws σ 12 → pr σ e = p → lxe σ p (sm σ e0) (sm σ e)) ∧ L_Rolls_sumAt_14 (nI p) FU (-1) 0 0 σ = some (nI (sm σ e0), σ) := by
  have h32 : rws σ 12 ≤ 32 := hW.hlim (t := 12) (by omega)
  have lp : ∀ (d e m : Nat) (b a : Int32), e + d = rws σ 12 → d < m → ((b = -1 ∧ ∀ e', e' < e → ¬ pr σ e' = p) ∨ (∃ e0, e0 < e ∧ pr σ e0 = p ∧ b = nI (sm σ e0) ∧ a = nI (apt σ p (sm σ e0)) ∧ ∀ e', e' < e → pr σ e' = p → lxe σ p (sm σ e0) (sm σ e'))) → ∃ e0, e0 < rws σ 12 ∧ pr σ e0 = p ∧ (∀ e, e < rws σ 12 → pr σ e = p → lxe σ p (sm σ e0) (sm σ e)) ∧ L_Rolls_sumAt_14 (nI p) m b a (nI e) σ = some (nI (sm σ e0), σ) := by
    intro d
    induction d with
    | zero =>
      intro e m b a h1 h2 h3
      obtain ⟨m, rfl⟩ : ∃ n, m = n + 1 := ⟨m - 1, by omega⟩
      have : e = rws σ 12 := by omega
      subst this
      rcases h3 with ⟨-, g⟩ | ⟨e0, g1, g2, g3, g4, g5⟩
      · obtain ⟨e', x, y⟩ := Lp_iff.1 hl
        exact absurd y (g e' x)
      · exact ⟨e0, g1, g2, g5, by rw [L_Rolls_sumAt_14, tb_size hW 12 (by omega), bnd_s, if_pos (nI_le (Nat.le_refl _) (by omega)), g3]⟩
    | succ d ih =>
      intro e m b a h1 h2 h3
      obtain ⟨m, rfl⟩ : ∃ n, m = n + 1 := ⟨m - 1, by omega⟩
      obtain ⟨-, ⟨b1, b2⟩, ⟨c1, c2⟩, -⟩ := hT.1 e (by omega)
      unfold L_Rolls_sumAt_14 B_Rolls_sumAt_94
      rw [tb_size hW 12 (by omega), bnd_s, if_neg (nI_ge (by omega) (by omega)), if_neg (nI_neg1 (by omega)), tb_gl hW 12 (by omega) e 1 (by omega) (by decide), bnd_s, b1, nI_1]
      by_cases q : pr σ e = p
      rotate_left
      · rw [if_neg (fun z => q (nI_eqI (by omega) (by omega) z))]
        refine ih (e + 1) m b a (by omega) (by omega) ?_
        rcases h3 with ⟨g0, g⟩ | ⟨e0, g1, g2, g3, g4, g5⟩
        · refine Or.inl ⟨g0, fun e' he' => ?_⟩
          by_cases z : e' = e
          · rw [z]; exact q
          · exact g e' (by omega)
        · refine Or.inr ⟨e0, by omega, g2, g3, g4, fun e' he' hp' => ?_⟩
          by_cases z : e' = e
          · rw [z] at hp'; exact absurd hp' q
          · exact g5 e' (by omega) hp'
      have ha := apt_b hT h32 (p := p) c2 (rws σ 12) (Nat.le_refl _)
      have ha' : apt σ p (sm σ e) ≤ 3200000 := ha
      rw [if_pos (by rw [q]), tb_gl hW 12 (by omega) e 2 (by omega) (by decide), bnd_s, c1, apartC hW hT (by omega) c2 h40, bnd_s]
      have new : (∀ e', e' < e → pr σ e' = p → lxe σ p (sm σ e) (sm σ e')) → ∃ e0, e0 < rws σ 12 ∧ pr σ e0 = p ∧ (∀ e, e < rws σ 12 → pr σ e = p → lxe σ p (sm σ e0) (sm σ e)) ∧ L_Rolls_sumAt_14 (nI p) m (nI (sm σ e)) (nI (apt σ p (sm σ e))) (nI (e + 1)) σ = some (nI (sm σ e0), σ) := fun hx =>
        ih (e + 1) m _ _ (by omega) (by omega) (Or.inr ⟨e, by omega, q, rfl, rfl, fun e' he' hp' => by
          by_cases z : e' = e
          · rw [z]; exact Or.inr ⟨rfl, Nat.le_refl _⟩
          · exact hx e' (by omega) hp'⟩)
      rcases h3 with ⟨g0, g⟩ | ⟨e0, g1, g2, g3, g4, g5⟩
      · rw [if_pos g0]
        exact new (fun e' he' hp' => absurd hp' (g e' he'))
      have c20 := (hT.1 e0 (by omega)).2.2.1.2
      have ha0 : apt σ p (sm σ e0) ≤ 3200000 := apt_b hT h32 (p := p) c20 (rws σ 12) (Nat.le_refl _)
      have keep : lxe σ p (sm σ e0) (sm σ e) → ∃ e0, e0 < rws σ 12 ∧ pr σ e0 = p ∧ (∀ e, e < rws σ 12 → pr σ e = p → lxe σ p (sm σ e0) (sm σ e)) ∧ L_Rolls_sumAt_14 (nI p) m b a (nI (e + 1)) σ = some (nI (sm σ e0), σ) := fun hx =>
        ih (e + 1) m b a (by omega) (by omega) (Or.inr ⟨e0, by omega, g2, g3, g4, fun e' he' hp' => by
          by_cases z : e' = e
          · rw [z]; exact hx
          · exact g5 e' (by omega) hp'⟩)
      rw [if_neg (by rw [g3]; exact nI_neg1 (by omega))]
      by_cases r1 : apt σ p (sm σ e) < apt σ p (sm σ e0)
      · rw [if_pos (by rw [g4]; exact (nI_ltI (by omega) (by omega)).2 r1)]
        refine new (fun e' he' hp' => ?_)
        rcases g5 e' he' hp' with y | ⟨y1, y2⟩
        · exact Or.inl (by omega)
        · exact Or.inl (by omega)
      rw [if_neg (by rw [g4]; exact fun z => r1 ((nI_ltI (by omega) (by omega)).1 z))]
      by_cases r2 : apt σ p (sm σ e) = apt σ p (sm σ e0)
      · rw [if_pos (by rw [g4, r2]), g3]
        by_cases r3 : sm σ e0 ≤ sm σ e
        · rw [if_pos (nI_le r3 (by omega)), ← g3]
          exact keep (Or.inr ⟨r2.symm, r3⟩)
        · rw [if_neg (nI_ge (by omega) (by omega))]
          refine new (fun e' he' hp' => ?_)
          rcases g5 e' he' hp' with y | ⟨y1, y2⟩
          · exact Or.inl (by omega)
          · exact Or.inr ⟨by omega, by omega⟩
      · rw [if_neg (by rw [g4]; exact fun z => r2 (nI_eqI (by omega) (by omega) z))]
        exact keep (Or.inl (by omega))
  exact lp (rws σ 12) 0 FU (-1) 0 (by omega) (lt_FU (by omega)) (Or.inl ⟨rfl, fun e' he' => by omega⟩)
theorem sumM {σ τ : CS} (hT : RolT σ τ) (h32 : rws σ 12 ≤ 32) {p : Nat} (hp : p < 40) (hl : Lp σ p = true) : ∃ e0, e0 < rws σ 12 ∧ pr σ e0 = p ∧ (∀ e, e < rws σ 12 → pr σ e = p → lxe σ p (sm σ e0) (sm σ e)) ∧ f_M_sumOf (nI p) τ = some (nI (sm σ e0), τ) := by
  have lp : ∀ (d h m : Nat) (b : Int32), h + d = 4 → d < m → ((b = -1 ∧ ∀ e', e' < rws σ 12 → hd σ e' < h → ¬ pr σ e' = p) ∨ (∃ e0, e0 < rws σ 12 ∧ pr σ e0 = p ∧ b = nI (sm σ e0) ∧ ∀ e', e' < rws σ 12 → hd σ e' < h → pr σ e' = p → lxe σ p (sm σ e0) (sm σ e'))) → ∃ e0, e0 < rws σ 12 ∧ pr σ e0 = p ∧ (∀ e, e < rws σ 12 → pr σ e = p → lxe σ p (sm σ e0) (sm σ e)) ∧ L_M_sumOf_4 (nI p) m b (nI h) τ = some (nI (sm σ e0), τ) := by
    intro d
    induction d with
    | zero =>
      intro h m b h1 h2 h3
      obtain ⟨m, rfl⟩ : ∃ n, m = n + 1 := ⟨m - 1, by omega⟩
      have : h = 4 := by omega
      subst this
      rcases h3 with ⟨-, g⟩ | ⟨e0, g1, g2, g3, g5⟩
      · obtain ⟨e', x, y⟩ := Lp_iff.1 hl
        exact absurd y (g e' x (hT.1 e' x).1.2)
      · exact ⟨e0, g1, g2, fun e he => g5 e he (hT.1 e he).1.2, by rw [L_M_sumOf_4, if_pos (by decide), g3]⟩
    | succ d ih =>
      intro h m b h1 h2 h3
      obtain ⟨m, rfl⟩ : ∃ n, m = n + 1 := ⟨m - 1, by omega⟩
      unfold L_M_sumOf_4 B_M_sumOf_81
      rw [if_neg (fun z => absurd ((lit_le 4 (by omega) (by omega)).1 z) (by omega))]
      rcases placeM hT (show h < 4 by omega) (show p < 1000 by omega) with ⟨e, e1, e2, e3, e4⟩ | ⟨e1, e4⟩
      rotate_left
      · rw [e4, bnd_s, if_neg (by decide), nI_1]
        refine ih (h + 1) m b (by omega) (by omega) ?_
        rcases h3 with ⟨g0, g⟩ | ⟨e0, g1, g2, g3, g5⟩
        · refine Or.inl ⟨g0, fun e' he' hh => ?_⟩
          by_cases z : hd σ e' = h
          · exact fun y => e1 e' he' ⟨z, y⟩
          · exact g e' he' (by omega)
        · refine Or.inr ⟨e0, g1, g2, g3, fun e' he' hh hp' => ?_⟩
          by_cases z : hd σ e' = h
          · exact absurd ⟨z, hp'⟩ (e1 e' he')
          · exact g5 e' he' (by omega) hp'
      have hc : cnt (ofH σ h) e < 8 := Nat.lt_of_lt_of_le (cnt_lt (P := ofH σ h) e1 (decide_eq_true e2)) (hT.2.1 h (by omega)).2
      have e8 : (8 : Int32) * nI h + nI (cnt (ofH σ h) e) = nI (8 * h + cnt (ofH σ h) e) := by rw [show (8 : Int32) = nI 8 from rfl, nI_mul, nI_add]
      obtain ⟨-, -, ⟨-, c2⟩, -, c4⟩ := hT.1 e e1
      rw [e2] at c4
      have ha' : apt σ p (sm σ e) ≤ 3200000 := apt_b hT h32 (p := p) c2 (rws σ 12) (Nat.le_refl _)
      have only : ∀ e', e' < rws σ 12 → hd σ e' = h → pr σ e' = p → e' = e := fun e' x y z => hT.2.2 e' e x e1 (by rw [y, e2]) (by rw [z, e3])
      have new : (∀ e', e' < rws σ 12 → hd σ e' < h → pr σ e' = p → lxe σ p (sm σ e) (sm σ e')) → ∃ e0, e0 < rws σ 12 ∧ pr σ e0 = p ∧ (∀ e, e < rws σ 12 → pr σ e = p → lxe σ p (sm σ e0) (sm σ e)) ∧ L_M_sumOf_4 (nI p) m (nI (sm σ e)) (nI (h + 1)) τ = some (nI (sm σ e0), τ) := fun hx =>
        ih (h + 1) m _ (by omega) (by omega) (Or.inr ⟨e, e1, e3, rfl, fun e' he' hh hp' => by
          by_cases z : hd σ e' = h
          · rw [only e' he' z hp']; exact Or.inr ⟨rfl, Nat.le_refl _⟩
          · exact hx e' he' (by omega) hp'⟩)
      rw [e4, bnd_s, if_pos ((lit_le 0 (by omega) (by omega)).2 (Nat.zero_le _)), e8, gix_n (by omega) (by omega), rdn (by omega), c4, nI_1]
      rcases h3 with ⟨g0, g⟩ | ⟨e0, g1, g2, g3, g5⟩
      · rw [if_pos (by rw [g0]; decide)]
        exact new (fun e' he' hh hp' => absurd hp' (g e' he' hh))
      have c20 := (hT.1 e0 g1).2.2.1.2
      have ha0 : apt σ p (sm σ e0) ≤ 3200000 := apt_b hT h32 (p := p) c20 (rws σ 12) (Nat.le_refl _)
      have keep : lxe σ p (sm σ e0) (sm σ e) → ∃ e0, e0 < rws σ 12 ∧ pr σ e0 = p ∧ (∀ e, e < rws σ 12 → pr σ e = p → lxe σ p (sm σ e0) (sm σ e)) ∧ L_M_sumOf_4 (nI p) m b (nI (h + 1)) τ = some (nI (sm σ e0), τ) := fun hx =>
        ih (h + 1) m b (by omega) (by omega) (Or.inr ⟨e0, g1, g2, g3, fun e' he' hh hp' => by
          by_cases z : hd σ e' = h
          · rw [only e' he' z hp']; exact hx
          · exact g5 e' he' (by omega) hp'⟩)
      have a1 := apartM hT h32 (show p < 1000 by omega) c2
      have a2 := apartM hT h32 (show p < 1000 by omega) c20
      rw [if_neg (by rw [g3]; exact nI_pos (by omega)), a1, bnd_s, g3, a2, bnd_s]
      by_cases r1 : apt σ p (sm σ e) < apt σ p (sm σ e0)
      · rw [if_pos ((nI_ltI (by omega) (by omega)).2 r1)]
        refine new (fun e' he' hh hp' => ?_)
        rcases g5 e' he' hh hp' with y | ⟨y1, y2⟩
        · exact Or.inl (by omega)
        · exact Or.inl (by omega)
      rw [if_neg (fun z => r1 ((nI_ltI (by omega) (by omega)).1 z)), a1, bnd_s, a2, bnd_s]
      by_cases r2 : apt σ p (sm σ e) = apt σ p (sm σ e0)
      · rw [if_pos (by rw [r2])]
        by_cases r3 : sm σ e0 ≤ sm σ e
        · rw [if_pos (nI_le r3 (by omega)), ← g3]
          exact keep (Or.inr ⟨r2.symm, r3⟩)
        · rw [if_neg (nI_ge (by omega) (by omega))]
          refine new (fun e' he' hh hp' => ?_)
          rcases g5 e' he' hh hp' with y | ⟨y1, y2⟩
          · exact Or.inl (by omega)
          · exact Or.inr ⟨by omega, by omega⟩
      · rw [if_neg (fun z => r2 (nI_eqI (by omega) (by omega) z)), ← g3]
        exact keep (Or.inl (by omega))
  exact lp 4 0 FU (-1) rfl (lt_FU (by omega)) (Or.inl ⟨rfl, fun e' _ hh => by omega⟩)
