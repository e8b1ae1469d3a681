/-! ===== layer 2: who answers for a case ===== -/
theorem ans_new {σ τ τr : CS} (hK : ICas σ τ) (hr : FrM [] [37] τ τr) {k h : Nat} (hk : k < rws σ 11) (hh : h < rws σ 6) : ICas (pt σ 11 k 1 (nI h)) (sA τr 64 (upd (τr.2.1 64) k (nI h))) := by
  have fO : ∀ a, 61 ≤ a → τr.2.1 a = τ.2.1 a := fun a h1 => hr.2 a (by simp only [List.mem_cons, List.not_mem_nil, or_false]; omega)
  have pc : ∀ i c, c < 13 → c ≠ 1 → cel (pt σ 11 k 1 (nI h)) 11 i c = cel σ 11 i c := fun i c hc h1 => by
    rw [pt_cel _ _ _ _ _ _ _ (by decide) (show c < 13 from hc), if_neg (fun z => h1 z.2)]
  have hK' : ICas σ τr := hK.frM (hr.1 60 (by decide)) (fun a h1 _ => fO a h1)
  refine hK'.row (k := k) rfl rfl rfl rfl rfl (fun i => pt_other _ _ _ _ _ _ _ _ (by omega)) (pc k 8 (by omega) (by omega)) (fun i c hi hc => ?_) rfl (fun a i h1 h2 h3 h4 h5 => ?_) rfl (fun i q h1 h2 => rfl) hk ?_
  · rw [pt_cel _ _ _ _ _ _ _ (by decide) (show c < 13 from hc), if_neg (fun z => hi z.1)]
  · simp only [va_up]
    by_cases q : a = 64
    · rw [if_pos q, q]
      unfold upd
      rw [if_neg h5]
    · rw [if_neg q]
  · obtain ⟨z1, z2, z3, z4, z5, z6, z7, z8, z9, z10, z11⟩ := hK'.2.1 k hk
    unfold Cas
    rw [pc k 8 (by omega) (by omega), pc k 9 (by omega) (by omega), pc k 10 (by omega) (by omega), pc k 11 (by omega) (by omega), pc k 0 (by omega) (by omega), pc k 2 (by omega) (by omega), pc k 12 (by omega) (by omega), pc k 7 (by omega) (by omega), pc k 3 (by omega) (by omega), pt_same]
    refine ⟨z1, z2, z3, z4, ⟨by simp [va_up, upd], h, hh, rfl⟩, z6, z7, z8, fun q hq => ?_, z10, z11⟩
    rw [pc k (4 + q) (by omega) (by omega)]
    exact z9 q hq
theorem ans_end {σ τ τr : CS} (hK : ICas σ τ) (hr : FrM [] [37] τ τr) (t1 : τ.1 1 = σ.1 62) (hT2 : Rg (σ.1 62) 100000) {k : Nat} (hk : k < rws σ 11) (h6 : ¬ cel σ 11 k 0 = 6) : ICas (pt (pt (pt σ 11 k 0 6) 11 k 2 (σ.1 62)) 11 k 3 (-1)) (sA (sA τr 65 (upd (τr.2.1 65) k 6)) 66 (upd (τr.2.1 66) k (τr.1 1))) := by
  have fO : ∀ a, 61 ≤ a → τr.2.1 a = τ.2.1 a := fun a h1 => hr.2 a (by simp only [List.mem_cons, List.not_mem_nil, or_false]; omega)
  have hK' : ICas σ τr := hK.frM (hr.1 60 (by decide)) (fun a h1 _ => fO a h1)
  have t1' : τr.1 1 = σ.1 62 := (hr.1 1 (by decide)).trans t1
  have pc : ∀ i c, c < 13 → cel (pt (pt (pt σ 11 k 0 6) 11 k 2 (σ.1 62)) 11 k 3 (-1)) 11 i c = if i = k ∧ c = 3 then -1 else if i = k ∧ c = 2 then σ.1 62 else if i = k ∧ c = 0 then 6 else cel σ 11 i c := fun i c hc => by
    rw [pt_cel _ _ _ _ _ _ _ (by decide) (show c < 13 from hc), pt_cel _ _ _ _ _ _ _ (by decide) (show c < 13 from hc), pt_cel _ _ _ _ _ _ _ (by decide) (show c < 13 from hc)]
  have po : ∀ c, c < 13 → c ≠ 0 → c ≠ 2 → c ≠ 3 → cel (pt (pt (pt σ 11 k 0 6) 11 k 2 (σ.1 62)) 11 k 3 (-1)) 11 k c = cel σ 11 k c := fun c hc h1 h2 h3 => by
    rw [pc k c hc, if_neg (fun z => h3 z.2), if_neg (fun z => h2 z.2), if_neg (fun z => h1 z.2)]
  refine hK'.row (k := k) rfl rfl rfl rfl rfl (fun i => ?_) (po 8 (by omega) (by omega) (by omega) (by omega)) (fun i c hi hc => ?_) rfl (fun a i h1 h2 h3 h4 h5 => ?_) rfl (fun i q h1 h2 => rfl) hk ?_
  · rw [pt_other _ _ _ _ _ _ _ _ (by omega), pt_other _ _ _ _ _ _ _ _ (by omega), pt_other _ _ _ _ _ _ _ _ (by omega)]
  · rw [pc i c hc, if_neg (fun z => hi z.1), if_neg (fun z => hi z.1), if_neg (fun z => hi z.1)]
  · simp only [va_up]
    by_cases q : a = 66
    · rw [if_pos q, q]
      unfold upd
      rw [if_neg h5]
    · rw [if_neg q]
      by_cases q2 : a = 65
      · rw [if_pos q2, q2]
        unfold upd
        rw [if_neg h5]
      · rw [if_neg q2]
  · obtain ⟨z1, z2, z3, z4, z5, z6, z7, z8, z9, z10, z11⟩ := hK'.2.1 k hk
    obtain ⟨t, ht, et⟩ := hT2
    unfold Cas
    rw [po 8 (by omega) (by omega) (by omega) (by omega), po 9 (by omega) (by omega) (by omega) (by omega), po 10 (by omega) (by omega) (by omega) (by omega), po 11 (by omega) (by omega) (by omega) (by omega), po 1 (by omega) (by omega) (by omega) (by omega), po 12 (by omega) (by omega) (by omega) (by omega), po 7 (by omega) (by omega) (by omega) (by omega), pc k 0 (by omega), pc k 2 (by omega), pc k 3 (by omega)]
    simp only [Nat.reduceEqDiff, and_false, and_true, reduceIte]
    refine ⟨z1, z2, z3, z4, z5, ⟨by simp [va_up, upd], 6, by omega, rfl⟩, ⟨by simp [va_up, upd, t1'], t, t, et, et, Nat.le_refl _, ht⟩, z8, fun q hq => ?_, z10, Or.inr (by decide)⟩
    rw [po (4 + q) (by omega) (by omega) (by omega) (by omega)]
    exact z9 q hq
theorem answer_ag {σ τ : CS} (hW : WC σ) (hP : IPeo σ τ) (hT : ITxt σ τ) (hK : ICas σ τ) (t1 : τ.1 1 = σ.1 62) (hT2 : Rg (σ.1 62) 100000) {k : Nat} (hk : k < rws σ 11) (h6 : ¬ cel σ 11 k 0 = 6) : ∃ b σ' τ', (b = 0 ∨ b = 1) ∧ f_Courts_findAccused (nI k) σ = some (b, σ') ∧ f_M_isAnswered (nI k) τ = some (b, τ') ∧ WC σ' ∧ ICas σ' τ' ∧ FrC [] [11] σ σ' ∧ FrM [] [37, 64, 65, 66] τ τ' ∧ (∀ i c, i ≠ k → c < 13 → cel σ' 11 i c = cel σ 11 i c) ∧ (b = 1 → ∀ c, c < 13 → c ≠ 1 → cel σ' 11 k c = cel σ 11 k c) ∧ (b = 0 → cel σ' 11 k 0 = 6) := by
  have h40 : rws σ 11 ≤ 40 := hW.hlim (t := 11) (by omega)
  obtain ⟨-, -, -, -, ⟨y1, p, hp, ep⟩, ⟨y0, -⟩, -⟩ := hK.2.1 k hk
  have gk : ∀ {X : Type} (a : Option X), gix (nI k) 40 a = a := fun a => gix_n (by omega) (by omega)
  unfold f_Courts_findAccused f_M_isAnswered
  rw [tb_gl hW 11 (by omega) k 1 hk (by decide), bnd_s, ep, gk, rdn (by omega), y1, ep]
  rcases lives_ag hW hP hp with ⟨-, l1, l2⟩ | ⟨-, l1, l2⟩
  · rw [l1, l2, bnd_s, bnd_s, if_neg i10, if_pos rfl]
    exact ⟨1, σ, τ, Or.inr rfl, rfl, rfl, hW, hK, FrC.refl _ _ _, FrM.refl _ _ _, fun _ _ _ _ => rfl, fun _ _ _ _ => rfl, fun z => absurd z (by decide)⟩
  obtain ⟨v, τr, r1, r2, r3, -⟩ := rule_ag hW hT (σ.1 62) (w := 4) (by omega)
  have r1' : f_Laws_ruleOn (σ.1 62) 4 σ = some (v, σ) := r1
  have r2' : f_M_ruleOf (τ.1 1) 4 τ = some (v, τr) := by rw [t1]; exact r2
  have hP' : IPeo σ τr := hP.frM r3 (by decide) (by decide)
  have yr : τr.2.1 64 k = nI p := by rw [r3.2 64 (by decide), y1, ep]
  have yr0 : τr.2.1 65 k = cel σ 11 k 0 := by rw [r3.2 65 (by decide), y0]
  obtain ⟨z, g1, g2, g3⟩ := heir_ag hW hP' hp
  -- the two ends
  have endB : ∃ σ' τ', B_Courts_findAccused_61 (nI k) (-1) σ = some (0, σ') ∧ B_M_isAnswered_42 (nI k) (-1) τr = some (0, τ') ∧ WC σ' ∧ ICas σ' τ' ∧ FrC [] [11] σ σ' ∧ FrM [] [37, 64, 65, 66] τ τ' ∧ (∀ i c, i ≠ k → c < 13 → cel σ' 11 i c = cel σ 11 i c) ∧ cel σ' 11 k 0 = 6 := by
    unfold B_Courts_findAccused_61 B_M_isAnswered_42 B_M_isAnswered_64
    rw [if_pos rfl, settle_c hW hk, bnd_s, if_neg h6, tb_pl (pt_W (pt_W hW _ _ _ _) _ _ _ _) 11 (by omega) k 3 hk (by decide), bnd_s, if_neg (by decide), becomes_m (by omega), bnd_s, if_pos (by decide), yr0, if_neg h6]
    refine ⟨_, _, rfl, rfl, pt_W (pt_W (pt_W hW _ _ _ _) _ _ _ _) _ _ _ _, ans_end hK r3 t1 hT2 hk h6, (FrC.f3 _ _ _ _ (by decide)).trans ((FrC.f3 _ _ _ _ (by decide)).trans (FrC.f3 _ _ _ _ (by decide))), (r3.mono (by decide) (by decide)).trans ((FrM.f2 _ _ (by decide)).trans (FrM.f2 _ _ (by decide))), fun i c hi hc => ?_, ?_⟩
    · rw [pt_cel _ _ _ _ _ _ _ (by decide) (show c < 13 from hc), pt_cel _ _ _ _ _ _ _ (by decide) (show c < 13 from hc), pt_cel _ _ _ _ _ _ _ (by decide) (show c < 13 from hc), if_neg (fun z => hi z.1), if_neg (fun z => hi z.1), if_neg (fun z => hi z.1)]
    · rw [pt_cel _ _ _ _ _ _ _ (by decide) (by decide), pt_cel _ _ _ _ _ _ _ (by decide) (by decide), if_neg (by omega), if_neg (by omega), pt_same]
  obtain ⟨σe, τe, n1, n2, n3, n4, n5, n6, n7, n8⟩ := endB
  have done0 : ∃ b σ' τ', (b = 0 ∨ b = 1) ∧ B_Courts_findAccused_61 (nI k) (-1) σ = some (b, σ') ∧ B_M_isAnswered_42 (nI k) (-1) τr = some (b, τ') ∧ WC σ' ∧ ICas σ' τ' ∧ FrC [] [11] σ σ' ∧ FrM [] [37, 64, 65, 66] τ τ' ∧ (∀ i c, i ≠ k → c < 13 → cel σ' 11 i c = cel σ 11 i c) ∧ (b = 1 → ∀ c, c < 13 → c ≠ 1 → cel σ' 11 k c = cel σ 11 k c) ∧ (b = 0 → cel σ' 11 k 0 = 6) :=
    ⟨0, σe, τe, Or.inl rfl, n1, n2, n3, n4, n5, n6, n7, fun z => absurd z (by decide), fun _ => n8⟩
  rw [l1, l2, bnd_s, bnd_s, if_pos rfl, if_neg i10, r1', r2', bnd_s, bnd_s]
  unfold B_Courts_findAccused_44
  by_cases q1 : v = 1
  rotate_left
  · rw [if_neg q1, if_neg q1, if_pos rfl]
    exact done0
  rw [if_pos q1, if_pos q1, if_neg i10, g1, bnd_s, gk, rdn (by omega), yr, g2, bnd_s]
  rcases g3 with rfl | ⟨h, hh, rfl, -⟩
  · exact done0
  have h46 : rws σ 6 ≤ 40 := hW.hlim (t := 6) (by omega)
  unfold B_Courts_findAccused_61 B_M_isAnswered_42 B_M_isAnswered_64
  rw [if_neg (nI_neg1 (by omega)), tb_pl hW 11 (by omega) k 1 hk (by decide), bnd_s, if_pos ((lit_le 0 (by omega) (by omega)).2 (Nat.zero_le _)), gk, wrn (by omega), if_neg (fun z => absurd ((lt_lit 0 (by omega) (by omega)).1 z) (by omega))]
  refine ⟨1, _, _, Or.inr rfl, rfl, rfl, pt_W hW _ _ _ _, ans_new hK r3 hk hh, FrC.f3 _ _ _ _ (by decide), (r3.mono (by decide) (by decide)).trans (FrM.f2 _ _ (by decide)), fun i c hi hc => ?_, fun _ c hc h1 => ?_, fun z => absurd z (by decide)⟩
  · rw [pt_cel _ _ _ _ _ _ _ (by decide) (show c < 13 from hc), if_neg (fun z => hi z.1)]
  · rw [pt_cel _ _ _ _ _ _ _ (by decide) (show c < 13 from hc), if_neg (fun z => h1 z.2)]
