/-! ===== layer 2: barred deeds ===== -/
theorem way_nI {x y u v : Int32} {X Y U V : Int} (hx : B32 x X 999) (hy : B32 y Y 999) (hu : B32 u U 999) (hv : B32 v V 999) (σ : CS) : f_FC_wayBetween x y u v σ = some (nI ((X - U).natAbs + (Y - V).natAbs), σ) := by
  unfold f_FC_wayBetween
  rw [abs_nI (hx.sub hu (by omega)) (by omega), abs_nI (hy.sub hv (by omega)) (by omega), nI_add]
theorem lives_ag {σ τ : CS} (hW : WC σ) (hP : IPeo σ τ) {h : Nat} (hh : h < rws σ 6) : (cel σ 6 h 2 = -1 ∧ f_People_lives (nI h) σ = some (1, σ) ∧ f_M_isDead (nI h) τ = some (0, τ)) ∨ (¬ cel σ 6 h 2 = -1 ∧ f_People_lives (nI h) σ = some (0, σ) ∧ f_M_isDead (nI h) τ = some (1, τ)) := by
  by_cases q : cel σ 6 h 2 = -1
  · exact Or.inl ⟨q, by rw [lives_c hW hh, if_pos q], by rw [dead_m hW hP hh, if_pos q]⟩
  · exact Or.inr ⟨q, by rw [lives_c hW hh, if_neg q], by rw [dead_m hW hP hh, if_neg q]⟩
theorem IPeo.frM {σ τ τ' : CS} {I A : List Nat} (h : IPeo σ τ) (f : FrM I A τ τ') (h1 : 38 ∉ I) (h2 : 40 ∉ A ∧ 41 ∉ A ∧ 42 ∉ A ∧ 43 ∉ A) : IPeo σ τ' := h.fr rfl rfl (f.1 38 h1) (f.2 40 h2.1) (f.2 41 h2.2.1) (f.2 42 h2.2.2.1) (f.2 43 h2.2.2.2)
theorem ICla.frM {σ τ τ' : CS} {I A : List Nat} (h : ICla σ τ) (f : FrM I A τ τ') (h1 : 71 ∉ I) (h2 : 72 ∉ A ∧ 73 ∉ A ∧ 74 ∉ A ∧ 75 ∉ A ∧ 76 ∉ A ∧ 77 ∉ A ∧ 78 ∉ A) : ICla σ τ' := h.fr (Nat.le_refl _) rfl rfl rfl rfl (f.1 71 h1) (f.2 72 h2.1) (f.2 73 h2.2.1) (f.2 74 h2.2.2.1) (f.2 75 h2.2.2.2.1) (f.2 76 h2.2.2.2.2.1) (f.2 77 h2.2.2.2.2.2.1) (f.2 78 h2.2.2.2.2.2.2)
/-- who holds a claim, in both: the class's way and the reference's three steps -/
theorem held_ag {σ τ : CS} (hW : WC σ) (hP : IPeo σ τ) (hC : ICla σ τ) {c p : Nat} (hc : c < rws σ 7) : ∃ b, (b = 0 ∨ b = 1) ∧ f_Claims_isHeldBy (nI c) (nI p) σ = some (b, σ) ∧ ∃ h, h < rws σ 6 ∧ cel σ 7 c 0 = nI h ∧ ((b = 1 ∧ nI h = nI p) ∨ (¬ nI h = nI p ∧ b = 0 ∧ f_M_isDead (nI h) τ = some (0, τ)) ∨ (¬ nI h = nI p ∧ f_M_isDead (nI h) τ = some (1, τ) ∧ ∃ r, f_M_owes (nI h) τ = some (r, τ) ∧ (r = nI p ↔ b = 1))) := by
  obtain ⟨-, -, -, -, -, ⟨h, hh, eh⟩, -⟩ := hC.2.1 c hc
  unfold f_Claims_isHeldBy
  rw [tb_gl hW 7 (by omega) c 0 hc (by decide), bnd_s, eh]
  by_cases q : nI h = nI p
  · rw [if_pos q]
    exact ⟨1, Or.inr rfl, rfl, h, hh, rfl, Or.inl ⟨rfl, q⟩⟩
  · rw [if_neg q]
    rcases lives_ag hW hP hh with ⟨l1, l2, l3⟩ | ⟨l1, l2, l3⟩
    · rw [l2, bnd_s, if_neg i10]
      exact ⟨0, Or.inl rfl, rfl, h, hh, rfl, Or.inr (Or.inl ⟨q, rfl, l3⟩)⟩
    · rw [l2, bnd_s, if_pos rfl]
      obtain ⟨r, g1, g2, -⟩ := heir_ag hW hP hh
      rw [g1, bnd_s]
      by_cases z : r = nI p
      · rw [if_pos z]
        exact ⟨1, Or.inr rfl, rfl, h, hh, rfl, Or.inr (Or.inr ⟨q, l3, r, g2, fun _ => rfl, fun _ => z⟩)⟩
      · rw [if_neg z]
        exact ⟨0, Or.inl rfl, rfl, h, hh, rfl, Or.inr (Or.inr ⟨q, l3, r, g2, fun y => absurd y z, fun y => absurd y (by decide)⟩)⟩
theorem allows_loop {σ τ0 : CS} (hW : WC σ) (hT : ITxt σ τ0) (hP : IPeo σ τ0) (hC : ICla σ τ0) {d p ac dd : Nat} {x y : Int32} (hd : d < 60) (hdd : dd ≤ 100000) (hx : Rg x 999) (hy : Rg y 999) (h49 : τ0.2.1 49 d = nI p) (h50 : τ0.2.1 50 d = nI ac) (h51 : τ0.2.1 51 d = x) (h52 : τ0.2.1 52 d = y) (h53 : τ0.2.1 53 d = nI dd) : ∀ (e c m m' : Nat) (τ : CS), c + e = rws σ 7 → e < m → e < m' → FrM [] [37] τ0 τ →
    ∃ b τ', (b = 0 ∨ b = 1) ∧ L_Claims_allows_3 (nI p) (nI ac) x y (nI dd) m (nI c) σ = some (b, σ) ∧ L_M_isBarred_24 (nI d) m' (nI c) τ = some ((if b = 0 then 1 else 0), τ') ∧ FrM [] [37] τ0 τ' := by
  have h20 : rws σ 7 ≤ 20 := hW.hlim (t := 7) (by omega)
  have h40 : rws σ 6 ≤ 40 := hW.hlim (t := 6) (by omega)
  intro e
  induction e with
  | zero =>
    intro c m m' τ h1 h2 h2' fM
    obtain ⟨m, rfl⟩ : ∃ q, m = q + 1 := ⟨m - 1, by omega⟩
    obtain ⟨m', rfl⟩ : ∃ q, m' = q + 1 := ⟨m' - 1, by omega⟩
    have hc : c = rws σ 7 := by omega
    subst hc
    refine ⟨0, τ, Or.inl rfl, ?_, ?_, fM⟩
    · show bnd (f_Table_size 7 σ) _ = _
      rw [tb_size hW 7 (by omega), bnd_s, if_pos (nI_le (Nat.le_refl _) (by omega))]
    · show (if τ.1 71 ≤ _ then _ else _) = _
      rw [fM.1 71 (by simp), hC.1, if_pos (nI_le (Nat.le_refl _) (by omega)), if_pos rfl]
  | succ e ih =>
    intro c m m' τ h1 h2 h2' fM
    obtain ⟨m, rfl⟩ : ∃ q, m = q + 1 := ⟨m - 1, by omega⟩
    obtain ⟨m', rfl⟩ : ∃ q, m' = q + 1 := ⟨m' - 1, by omega⟩
    have hc : c < rws σ 7 := by omega
    have hP1 : IPeo σ τ := hP.frM fM (by simp) (by decide)
    have hC1 : ICla σ τ := hC.frM fM (by simp) (by decide)
    obtain ⟨c1, c2, c3, c4, c5, c6, c7, c8, c9, c10⟩ := hC1.2.1 c hc
    obtain ⟨b, hb, g1, h, hh, eh, g2⟩ := held_ag hW hP1 hC1 (p := p) hc
    have go : ∃ b τ', (b = 0 ∨ b = 1) ∧ L_Claims_allows_3 (nI p) (nI ac) x y (nI dd) m (nI (c + 1)) σ = some (b, σ) ∧ L_M_isBarred_24 (nI d) m' (nI (c + 1)) τ = some ((if b = 0 then 1 else 0), τ') ∧ FrM [] [37] τ0 τ' := ih (c + 1) m m' τ (by omega) (by omega) (by omega) fM
    obtain ⟨w, hw⟩ : ∃ w, w = (x.toInt - (cel σ 7 c 2).toInt).natAbs + (y.toInt - (cel σ 7 c 3).toInt).natAbs := ⟨_, rfl⟩
    have hwb : w ≤ 4000 := by
      have k1 := (hx.b999.sub c8.b999 (by omega)).2
      have k2 := (hy.b999.sub c9.b999 (by omega)).2
      omega
    have eC : L_Claims_allows_3 (nI p) (nI ac) x y (nI dd) (m + 1) (nI c) σ = if w ≤ 20 then (if cel σ 7 c 1 = nI ac then (if b = 0 then L_Claims_allows_3 (nI p) (nI ac) x y (nI dd) m (nI (c + 1)) σ else bnd (f_Claims_sureOn (nI c) (nI dd) σ) (fun r87 σ87 => if r87 = 2 then some (1, σ87) else L_Claims_allows_3 (nI p) (nI ac) x y (nI dd) m (nI (c + 1)) σ87)) else L_Claims_allows_3 (nI p) (nI ac) x y (nI dd) m (nI (c + 1)) σ) else L_Claims_allows_3 (nI p) (nI ac) x y (nI dd) m (nI (c + 1)) σ := by
      show bnd (f_Table_size 7 σ) _ = _
      rw [tb_size hW 7 (by omega), bnd_s, if_neg (nI_ge hc (by omega)), tb_gl hW 7 (by omega) c 2 hc (by decide), bnd_s, tb_gl hW 7 (by omega) c 3 hc (by decide), bnd_s, way_nI hx.b999 hy.b999 c8.b999 c9.b999, bnd_s, ← hw]
      unfold B_Claims_allows_51
      by_cases z : w ≤ 20
      · rw [if_pos z, if_neg (fun v => absurd ((lit_lt 20 (by omega) (by omega)).mp v) (by omega)), if_neg i10, tb_gl hW 7 (by omega) c 1 hc (by decide), bnd_s, g1, bnd_s, nI_1]
      · rw [if_neg z, if_pos ((lit_lt 20 (by omega) (by omega)).mpr (by omega)), if_pos rfl, nI_1]
    -- the reference: who holds it, then the rest
    have eM84 : ∀ z0 : Int32, (z0 = 0 ∨ z0 = 1) → B_M_isBarred_84 (L_M_isBarred_24 (nI d) m') (nI d) (nI c) z0 τ = if z0 = 0 then L_M_isBarred_24 (nI d) m' (nI (c + 1)) τ else if cel σ 7 c 1 = nI ac then (if w ≤ 20 then bnd (f_M_sureOf (nI c) (nI dd) τ) (fun r150 σ150 => if r150 = 2 then some (0, σ150) else L_M_isBarred_24 (nI d) m' (nI (c + 1)) σ150) else L_M_isBarred_24 (nI d) m' (nI (c + 1)) τ) else L_M_isBarred_24 (nI d) m' (nI (c + 1)) τ := by
      intro z0 hz
      have s1 : f_M_size (cel σ 7 c 2 - x) τ = some (nI ((cel σ 7 c 2).toInt - x.toInt).natAbs, τ) := sizeM (c8.b999.sub hx.b999 (by omega)) (by omega) τ
      have s2 : f_M_size (cel σ 7 c 3 - y) τ = some (nI ((cel σ 7 c 3).toInt - y.toInt).natAbs, τ) := sizeM (c9.b999.sub hy.b999 (by omega)) (by omega) τ
      have ew : ((cel σ 7 c 2).toInt - x.toInt).natAbs + ((cel σ 7 c 3).toInt - y.toInt).natAbs = w := by omega
      unfold B_M_isBarred_84
      simp only [gix_n (show c < 20 by omega) (show 20 < 2147483648 by omega), gix_n hd (show 60 < 2147483648 by omega), rdn (show c < 2147483648 by omega), rdn (show d < 2147483648 by omega), c2, c3, c4, fM.2 50 (by decide), fM.2 51 (by decide), fM.2 52 (by decide), fM.2 53 (by decide), h50, h51, h52, h53, s1, s2, bnd_s, nI_add, ew, nI_1]
      by_cases v : w ≤ 20
      · rw [if_pos v, if_neg (fun u => absurd ((lit_lt 20 (by omega) (by omega)).mp u) (by omega))]
      · rw [if_neg v, if_pos ((lit_lt 20 (by omega) (by omega)).mpr (by omega))]
    have eM : L_M_isBarred_24 (nI d) (m' + 1) (nI c) τ = B_M_isBarred_84 (L_M_isBarred_24 (nI d) m') (nI d) (nI c) b τ := by
      show (if τ.1 71 ≤ nI c then _ else _) = _
      rw [fM.1 71 (by simp), hC.1, if_neg (nI_ge hc (by omega))]
      unfold B_M_isBarred_83
      simp only [gix_n (show c < 20 by omega) (show 20 < 2147483648 by omega), gix_n hd (show 60 < 2147483648 by omega), rdn (show c < 2147483648 by omega), rdn (show d < 2147483648 by omega), c1, eh, fM.2 49 (by decide), h49]
      rcases g2 with ⟨b1, b2⟩ | ⟨b1, b2, b3⟩ | ⟨b1, b2, r, b3, b4⟩
      · rw [if_pos b2, b1]
      · rw [if_neg b1, b3, bnd_s, if_pos rfl, b2]
      · rw [if_neg b1, b2, bnd_s, if_neg i10]
        simp only [rdn (show c < 2147483648 by omega), c1, eh, b3, bnd_s, rdn (show d < 2147483648 by omega), fM.2 49 (by decide), h49]
        by_cases z : r = nI p
        · rw [if_pos z, b4.mp z]
        · rw [if_neg z, hb.resolve_right (fun v => z (b4.mpr v))]
    rw [eC, eM, eM84 b hb]
    by_cases q1 : w ≤ 20
    · simp only [if_pos q1]
      by_cases q2 : cel σ 7 c 1 = nI ac
      · simp only [if_pos q2]
        by_cases q3 : b = 0
        · simp only [if_pos q3]; exact go
        · simp only [if_neg q3]
          obtain ⟨v, τ', s1, s2, s3, s4⟩ := sure_ag hW (hT.fr rfl rfl (SmT.of fM (by simp) (by simp))) hC1 hc hdd
          rw [s1, s2, bnd_s, bnd_s]
          have fM' : FrM [] [37] τ0 τ' := fM.trans s3
          by_cases q4 : v = 2
          · rw [if_pos q4, if_pos q4]
            exact ⟨1, τ', Or.inr rfl, rfl, rfl, fM'⟩
          · rw [if_neg q4, if_neg q4]
            exact ih (c + 1) m m' τ' (by omega) (by omega) (by omega) fM'
      · simp only [if_neg q2]
        by_cases q3 : b = 0
        · simp only [if_pos q3]; exact go
        · simp only [if_neg q3]; exact go
    · simp only [if_neg q1, ite_self]; exact go
theorem barred_ag {σ τ : CS} (hW : WC σ) (hM : IMar σ τ) (hR : IRin σ τ) (hT : ITxt σ τ) (hC : ICls σ τ) (hP : IPeo σ τ) (hD : IDee σ τ) (hL : ICla σ τ) {d : Nat} (hd : d < rws σ 10) :
    ∃ b σ' τ', (b = 0 ∨ b = 1) ∧ f_Courts_isBarred (nI d) σ = some (b, σ') ∧ f_M_isBarred (nI d) τ = some (b, τ') ∧ WC σ' ∧ FrC [53, 54] [20, 21] σ σ' ∧ FrM [9, 56, 57, 58, 59] [8, 37, 55] τ τ' := by
  have h60 : rws σ 10 ≤ 60 := hW.hlim (t := 10) (by omega)
  have h120 : rws σ 4 ≤ 120 := hW.hlim (t := 4) (by omega)
  have h20 : rws σ 7 ≤ 20 := hW.hlim (t := 7) (by omega)
  obtain ⟨v, σ1, τ1, g1, g2, g3, g4, g5, -, g7, g8, g9, g10⟩ := words_ag hW hM hR hT hC hP hD hd
  have W1 : WC σ1 := hW.fr g3 (by decide) (by decide)
  obtain ⟨d1, d2, d3, d4, d5, d6, ⟨p, hp, d7⟩, ⟨ac, hac, d8⟩, d9, d10, ⟨dy, hdy, d11⟩, d12⟩ := hD.2 d hd
  -- the word is bar, or not
  have hbar : ∃ z, (z = 0 ∨ z = 1) ∧ f_Laws_wordIsBar σ1 = some (z, σ1) ∧ τ1.1 59 = z := by
    unfold f_Laws_wordIsBar
    rcases g5 with ⟨x1, x2, x3⟩ | ⟨t, k, y1, y2, y3, y4, y5, y6⟩
    · exact ⟨0, Or.inl rfl, by rw [x1, if_pos rfl], x3⟩
    · have hcb := cB_le τ y1
      rw [← hC.1] at hcb
      have hrow : cB τ t + k < rws σ1 4 := by rw [g3.fr (by decide)]; omega
      obtain ⟨-, -, c3, -⟩ := hC.2.2 t y1 k y2
      rw [y3, if_neg (nI_neg1 (by omega)), tb_gl W1 4 (by omega) _ 2 hrow (by decide), bnd_s, g3.fc (by decide), c3, some_ite, y6]
      refine ⟨_, ?_, rfl, rfl⟩
      split
      · exact Or.inr rfl
      · exact Or.inl rfl
  obtain ⟨z, hz, z1, z2⟩ := hbar
  have eM : f_M_isBarred (nI d) τ = if z = 0 then some (0, τ1) else bnd (f_M_deedPlace (nI d) τ1) (fun r14 σ14 => if r14 = 0 then some (0, σ14) else L_M_isBarred_24 (nI d) FU 0 σ14) := by
    unfold f_M_isBarred
    rw [g2, bnd_s, z2]
  have eC : f_Courts_isBarred (nI d) σ = if v = 0 then B_Courts_isBarred_32 (nI d) 1 σ1 else B_Courts_isBarred_32 (nI d) 0 σ1 := by
    unfold f_Courts_isBarred
    rw [g1, bnd_s, ft_gl σ1 4 (by omega), bnd_s, ft_gl σ1 5 (by omega), bnd_s, g8, g9]
    rcases g7 with rfl | rfl | rfl
    · rw [if_pos (by decide), if_pos rfl]
    · rw [if_neg (by decide), if_neg (by decide)]
    · rw [if_neg (by decide), if_neg (by decide)]
  rw [eC, eM]
  unfold B_Courts_isBarred_32
  rw [z1, bnd_s, bnd_s]
  by_cases q0 : z = 0
  · rw [if_pos q0, if_pos q0, if_pos q0, ite_self]
    exact ⟨0, σ1, τ1, Or.inl rfl, rfl, rfl, W1, g3, g4⟩
  rw [if_neg q0, if_neg q0, if_neg q0, if_neg i10, if_pos rfl]
  -- the place once more
  have hM1 : IMar σ τ1 := g4.imar hM (by decide) (by decide)
  have hR1 : IRin σ τ1 := g4.irin hR (by decide) (by decide)
  obtain ⟨v', τ2, p1, p2, p3, -⟩ := place_ag hW hM1 hR1 (cel σ 10 d 4) d9.b999 d10.b999
  have hv : v' = v := by
    rw [g10] at p1
    exact (Prod.mk.inj (Option.some.inj p1)).1.symm
  have eP : f_M_deedPlace (nI d) τ1 = some (v, τ2) := by
    unfold f_M_deedPlace
    rw [gix_n (show d < 60 by omega) (by omega), gix_n (show d < 60 by omega) (by omega), gix_n (show d < 60 by omega) (by omega), rdn (by omega), rdn (by omega), rdn (by omega), g4.2 53 (by decide), g4.2 51 (by decide), g4.2 52 (by decide), d3, d4, d5, p2, bnd_s, hv]
  rw [eP, bnd_s]
  have g42 : FrM [9, 56, 57, 58, 59] [8, 37, 55] τ τ2 := g4.trans (p3.mono (by decide) (by decide))
  by_cases q1 : v = 0
  · rw [if_pos q1, if_pos q1]
    exact ⟨0, σ1, τ2, Or.inl rfl, rfl, rfl, W1, g3, g42⟩
  rw [if_neg q1, if_neg q1]
  have er10 : rws σ1 10 = rws σ 10 := g3.fr (by decide)
  have ec10 : ∀ i c, cel σ1 10 i c = cel σ 10 i c := fun i c => g3.fc (by decide) i c
  have hP2 : IPeo σ1 τ2 := (hP.frM g42 (by decide) (by decide)).fr (g3.1 20 (by decide)) (g3.2 6 (by decide)).1 rfl rfl rfl rfl rfl
  have hL2 : ICla σ1 τ2 := (hL.frM g42 (by decide) (by decide)).fr (Nat.le_of_eq (g3.fr (t := 6) (by decide)).symm) (g3.1 23 (by decide)) (g3.1 26 (by decide)) (g3.2 7 (by decide)).1 (g3.2 8 (by decide)).1 rfl rfl rfl rfl rfl rfl rfl rfl
  have hT2 : ITxt σ1 τ2 := hT.fr (g3.1 11 (by decide)) (g3.2 3 (by decide)).1 (SmT.of g42 (by decide) (by decide))
  have er7 : rws σ1 7 = rws σ 7 := g3.fr (by decide)
  obtain ⟨b, τ3, hb, a1, a2, a3⟩ := allows_loop W1 hT2 hP2 hL2 (d := d) (p := p) (ac := ac) (dd := dy) (x := cel σ 10 d 2) (y := cel σ 10 d 3) (by omega) hdy d9 d10 (by rw [g42.2 49 (by decide), d1, d7]) (by rw [g42.2 50 (by decide), d2, d8]) (by rw [g42.2 51 (by decide), d3]) (by rw [g42.2 52 (by decide), d4]) (by rw [g42.2 53 (by decide), d5, d11]) (rws σ1 7) 0 FU FU τ2 (by omega) (lt_FU (by omega)) (lt_FU (by omega)) (FrM.refl _ _ _)
  have a1' : f_Claims_allows (nI p) (nI ac) (cel σ 10 d 2) (cel σ 10 d 3) (nI dy) σ1 = some (b, σ1) := a1
  have a2' : L_M_isBarred_24 (nI d) FU 0 τ2 = some ((if b = 0 then 1 else 0), τ3) := a2
  rw [tb_gl W1 10 (by omega) d 0 (by omega) (by decide), bnd_s, tb_gl W1 10 (by omega) d 1 (by omega) (by decide), bnd_s, tb_gl W1 10 (by omega) d 2 (by omega) (by decide), bnd_s, tb_gl W1 10 (by omega) d 3 (by omega) (by decide), bnd_s, tb_gl W1 10 (by omega) d 4 (by omega) (by decide), bnd_s, ec10, ec10, ec10, ec10, ec10, d7, d8, d11, a1', bnd_s, a2', some_ite]
  refine ⟨_, σ1, τ3, ?_, rfl, rfl, W1, g3, g42.trans (a3.mono (by simp) (by decide))⟩
  split
  · exact Or.inr rfl
  · exact Or.inl rfl
theorem pm_barred {σ τ : CS} (hW : WC σ) (hM : IMar σ τ) (hR : IRin σ τ) (hT : ITxt σ τ) (hC : ICls σ τ) (hP : IPeo σ τ) (hD : IDee σ τ) (hL : ICla σ τ) (a0 : Int32) : AgX (f_FC_barred a0 σ) (f_M_barred a0 τ) (fun c0 => c0 = 0 ∨ c0 = 3) (fun c0 => (if c0 = 0 then (0 : Int32) else 1)) (JWor σ τ) := by
  unfold f_FC_barred f_M_barred
  by_cases q0 : ∃ j, j < rws σ 10 ∧ a0 = nI j
  · obtain ⟨j, hj, rfl⟩ := q0
    have s0 : SmT τ (sF τ 0 0) := ⟨rfl, fun _ _ _ => rfl⟩
    obtain ⟨b, σ', τ', hb, g1, g2, g3, g4, g5⟩ := barred_ag hW (IMar.thr τ 0 hM) (IRin.thr τ 0 hR) (ITxt.thr τ 0 hT) (hC.fr rfl rfl rfl rfl rfl s0 rfl rfl) (hP.thr 0) (IDee.thr τ 0 hD) (ICla.thr τ 0 hL) hj
    simp only [tb_has1 hW 10 (by omega) hj, isDe_m hW hD hj, bnd_s, if_neg i10, g1, g2, grd_s hb, some_ite]
    refine AgX.mk 0 _ σ' _ τ' rfl (Or.inl rfl) rfl (by rw [g5.1 0 (by decide)]; rfl) (fun _ => ?_) ⟨g3, g4, (FrM.f1 _ _ (by decide)).trans (g5.mono (by decide) (by decide))⟩
    rcases hb with rfl | rfl <;> rfl
  · simp only [tb_has0 hW 10 (by omega) q0, isDe_m0 hW hD q0, bnd_s, if_true]
    exact AgX.mk 3 0 σ 0 _ rfl (Or.inr rfl) rfl rfl (fun z => absurd z (by decide)) ⟨hW, FrC.refl _ _ _, FrM.f1 _ _ (by decide)⟩
