/-! ===== layer 2: attach and find ===== -/
theorem set_ag {σ τ : CS} (hW : WC σ) (hK : ICas σ τ) (t1 : τ.1 1 = σ.1 62) (hT2 : Rg (σ.1 62) 100000) {k s : Nat} (hk : k < rws σ 11) (hs : s ≤ 6) (h3 : s ≠ 3) (h4 : s ≠ 4) (h0 : ¬ (cel σ 11 k 0 = 3 ∨ cel σ 11 k 0 = 4)) : ∃ σ' τ', f_Courts_settle (nI k) (nI s) σ = some (0, σ') ∧ f_M_becomes (nI k) (nI s) τ = some (0, τ') ∧ WC σ' ∧ ICas σ' τ' ∧ FrC [] [11] σ σ' ∧ FrM [] [65, 66] τ τ' ∧ (∀ i c, i ≠ k → c < 13 → cel σ' 11 i c = cel σ 11 i c) ∧ cel σ' 11 k 0 = nI s := by
  have h40 : rws σ 11 ≤ 40 := hW.hlim (t := 11) (by omega)
  have hKk := hK.2.1 k hk
  obtain ⟨z1, z2, z3, z4, z5, z6, z7, z8, z9, z10, z11⟩ := hKk
  rw [settle_c hW hk, becomes_m (by omega), z6.1]
  by_cases q : cel σ 11 k 0 = nI s
  · rw [if_pos q, if_pos q]
    exact ⟨σ, τ, rfl, rfl, hW, hK, FrC.refl _ _ _, FrM.refl _ _ _, fun _ _ _ _ => rfl, q⟩
  rw [if_neg q, if_neg q]
  have pc : ∀ i c, c < 13 → cel (pt (pt σ 11 k 0 (nI s)) 11 k 2 (σ.1 62)) 11 i c = if i = k ∧ c = 2 then σ.1 62 else if i = k ∧ c = 0 then nI s else cel σ 11 i c := fun i c hc => by
    rw [pt_cel _ _ _ _ _ _ _ (by decide) (show c < 13 from hc), pt_cel _ _ _ _ _ _ _ (by decide) (show c < 13 from hc)]
  have po : ∀ c, c < 13 → c ≠ 0 → c ≠ 2 → cel (pt (pt σ 11 k 0 (nI s)) 11 k 2 (σ.1 62)) 11 k c = cel σ 11 k c := fun c hc h1 h2 => by
    rw [pc k c hc, if_neg (fun z => h2 z.2), if_neg (fun z => h1 z.2)]
  have px : ∀ i c, i ≠ k → c < 13 → cel (pt (pt σ 11 k 0 (nI s)) 11 k 2 (σ.1 62)) 11 i c = cel σ 11 i c := fun i c hi hc => by
    rw [pc i c hc, if_neg (fun z => hi z.1), if_neg (fun z => hi z.1)]
  refine ⟨_, _, rfl, rfl, pt_W (pt_W hW _ _ _ _) _ _ _ _, ?_, (FrC.f3 _ _ _ _ (by decide)).trans (FrC.f3 _ _ _ _ (by decide)), (FrM.f2 _ _ (by decide)).trans (FrM.f2 _ _ (by decide)), px, ?_⟩
  rotate_left
  · rw [pc k 0 (by omega), if_neg (by omega), if_pos ⟨rfl, rfl⟩]
  refine hK.row (k := k) rfl rfl rfl rfl rfl (fun i => ?_) (po 8 (by omega) (by omega) (by omega)) px rfl (fun a i h1 h2 h3 h4 h5 => ?_) rfl (fun i q h1 h2 => rfl) hk ?_
  · rw [pt_other _ _ _ _ _ _ _ _ (by omega), pt_other _ _ _ _ _ _ _ _ (by omega)]
  · simp only [va_up]
    by_cases q : a = 66
    · rw [if_pos q, q]
      unfold upd
      rw [if_neg h5]
    · rw [if_neg q]
      by_cases q2 : a = 65
      · rw [if_pos q2, q2]
        unfold upd
        rw [if_neg h5]
      · rw [if_neg q2]
  · obtain ⟨t, ht, et⟩ := hT2
    unfold Cas
    rw [po 8 (by omega) (by omega) (by omega), po 9 (by omega) (by omega) (by omega), po 10 (by omega) (by omega) (by omega), po 11 (by omega) (by omega) (by omega), po 1 (by omega) (by omega) (by omega), po 12 (by omega) (by omega) (by omega), po 7 (by omega) (by omega) (by omega), po 3 (by omega) (by omega) (by omega), pc k 0 (by omega), pc k 2 (by omega)]
    simp only [Nat.reduceEqDiff, and_false, and_true, reduceIte]
    refine ⟨z1, z2, z3, z4, z5, ⟨by simp [va_up, upd], s, hs, rfl⟩, ⟨by simp [va_up, upd, t1], t, t, et, et, Nat.le_refl _, ht⟩, z8, fun q hq => ?_, z10, Or.inr ⟨?_, ?_⟩⟩
    · rw [po (4 + q) (by omega) (by omega) (by omega)]
      exact z9 q hq
    · rintro (y | y)
      · exact h3 ((eq_lit 3 (by omega) (by omega)).1 y)
      · exact h4 ((eq_lit 4 (by omega) (by omega)).1 y)
    · rcases z11 with ⟨y, -⟩ | ⟨-, y⟩
      · exact absurd y h0
      · exact y
theorem attach_ag {σ τ : CS} (hW : WC σ) (hA : IWar σ τ) (hK : ICas σ τ) (t1 : τ.1 1 = σ.1 62) (hT2 : Rg (σ.1 62) 100000) {k : Nat} (hk : k < rws σ 11) (h0 : ¬ (cel σ 11 k 0 = 3 ∨ cel σ 11 k 0 = 4)) : ∃ s σ' τ', (s = 1 ∨ s = 5) ∧ f_Courts_attach (nI k) σ = some (0, σ') ∧ (∀ K x1, gix (nI k) 40 (gix (rd τ 62 (nI k)) 6 (gix (nI k) 40 (if 0 < ((rd τ 46 (rd τ 62 (nI k))) + (rd τ 67 (nI k))) then B_M_sits_101 K x1 (nI k) (nI k) 1 τ else B_M_sits_101 K x1 (nI k) (nI k) 5 τ))) = K (nI k + 1) τ') ∧ WC σ' ∧ ICas σ' τ' ∧ FrC [] [11] σ σ' ∧ FrM [] [65, 66] τ τ' ∧ (∀ i c, i ≠ k → c < 13 → cel σ' 11 i c = cel σ 11 i c) ∧ cel σ' 11 k 0 = nI s := by
  have h40 : rws σ 11 ≤ 40 := hW.hlim (t := 11) (by omega)
  have h6 : rws σ 9 ≤ 6 := hW.hlim (t := 9) (by omega)
  obtain ⟨-, ⟨y9, wi, hwi, e9⟩, -, -, -, -, -, y12, -⟩ := hK.2.1 k hk
  obtain ⟨-, w1, -⟩ := hA.2.1 wi hwi
  unfold f_Courts_attach B_Courts_attach_41 B_M_sits_101
  have gk : ∀ {X : Type} (a : Option X), gix (nI k) 40 a = a := fun a => gix_n (by omega) (by omega)
  have gw : ∀ {X : Type} (a : Option X), gix (nI wi) 6 a = a := fun a => gix_n (by omega) (by omega)
  rw [tb_gl hW 11 (by omega) k 9 hk (by decide), bnd_s, e9, tb_gl hW 9 (by omega) wi 1 hwi (by decide), bnd_s, tb_gl hW 11 (by omega) k 12 hk (by decide), bnd_s]
  have m1 : rd τ 62 (nI k) = nI wi := by rw [rdn (by omega), y9, e9]
  have m2 : rd τ 46 (nI wi) = cel σ 9 wi 1 := by rw [rdn (by omega), w1]
  have m3 : rd τ 67 (nI k) = cel σ 11 k 12 := by rw [rdn (by omega), y12]
  simp only [m1, m2, m3, gk, gw]
  by_cases q : 0 < cel σ 9 wi 1 + cel σ 11 k 12
  · obtain ⟨σ', τ', g1, g2, g3⟩ := set_ag hW hK t1 hT2 (s := 1) hk (by omega) (by omega) (by omega) h0
    have g1' : f_Courts_settle (nI k) 1 σ = some (0, σ') := g1
    have g2' : f_M_becomes (nI k) 1 τ = some (0, τ') := g2
    simp only [if_pos q, g1', g2', bnd_s]
    exact ⟨1, σ', τ', Or.inl rfl, rfl, fun _ _ => rfl, g3⟩
  · obtain ⟨σ', τ', g1, g2, g3⟩ := set_ag hW hK t1 hT2 (s := 5) hk (by omega) (by omega) (by omega) h0
    have g1' : f_Courts_settle (nI k) 5 σ = some (0, σ') := g1
    have g2' : f_M_becomes (nI k) 5 τ = some (0, τ') := g2
    simp only [if_neg q, g1', g2', bnd_s]
    exact ⟨5, σ', τ', Or.inr rfl, rfl, fun _ _ => rfl, g3⟩
theorem find_ag {σ τ : CS} (hW : WC σ) (hM : IMar σ τ) (hR : IRin σ τ) (hD : IDee σ τ) (hK : ICas σ τ) (t1 : τ.1 1 = σ.1 62) (hT2 : Rg (σ.1 62) 100000) {k : Nat} (hk : k < rws σ 11) (h0 : ¬ (cel σ 11 k 0 = 3 ∨ cel σ 11 k 0 = 4)) : ∃ s σ' τ', (s = 2 ∨ s = 5) ∧ f_Courts_find (nI k) σ = some (0, σ') ∧ (∀ K x1, gix (nI k) 40 (if 0 < (rd τ 67 (nI k)) then B_M_sits_141 K x1 (nI k) (nI k) τ else gix (nI k) 40 (bnd (f_M_deedPlace (rd τ 61 (nI k)) τ) (fun r130 σ130 => if r130 = 2 then B_M_sits_142 K x1 (nI k) (nI k) 5 σ130 else B_M_sits_141 K x1 (nI k) (nI k) σ130))) = K (nI k + 1) τ') ∧ WC σ' ∧ ICas σ' τ' ∧ FrC [] [11] σ σ' ∧ FrM [9] [8, 65, 66] τ τ' ∧ (∀ i c, i ≠ k → c < 13 → cel σ' 11 i c = cel σ 11 i c) ∧ cel σ' 11 k 0 = nI s := by
  have h40 : rws σ 11 ≤ 40 := hW.hlim (t := 11) (by omega)
  have h60 : rws σ 10 ≤ 60 := hW.hlim (t := 10) (by omega)
  obtain ⟨⟨y8, d, hd, e8⟩, -, -, -, -, -, -, y12, -⟩ := hK.2.1 k hk
  obtain ⟨d1, d2, d3, d4, d5, d6, -, -, d9, d10, -⟩ := hD.2 d hd
  obtain ⟨v, τ2, p1, p2, p3, -⟩ := place_ag hW hM hR (cel σ 10 d 4) d9.b999 d10.b999
  have p3' : FrM [9] [8, 65, 66] τ τ2 := p3.mono (by decide) (by decide)
  have eP : f_M_deedPlace (nI d) τ = some (v, τ2) := by
    unfold f_M_deedPlace
    rw [gix_n (show d < 60 by omega) (by omega), gix_n (show d < 60 by omega) (by omega), gix_n (show d < 60 by omega) (by omega), rdn (by omega), rdn (by omega), rdn (by omega), d3, d4, d5, p2, bnd_s]
  have gk : ∀ {X : Type} (a : Option X), gix (nI k) 40 a = a := fun a => gix_n (by omega) (by omega)
  have m1 : rd τ 61 (nI k) = nI d := by rw [rdn (by omega), y8, e8]
  have m3 : rd τ 67 (nI k) = cel σ 11 k 12 := by rw [rdn (by omega), y12]
  have hK2 : ICas σ τ2 := hK.frM (p3.1 60 (by decide)) (fun a z1 z2 => p3.2 a (by simp only [List.mem_cons, List.not_mem_nil, or_false]; omega))
  have t12 : τ2.1 1 = σ.1 62 := (p3.1 1 (by decide)).trans t1
  unfold f_Courts_find B_Courts_find_70 B_Courts_find_71 B_M_sits_141 B_M_sits_142
  rw [tb_gl hW 11 (by omega) k 8 hk (by decide), bnd_s, e8, tb_gl hW 10 (by omega) d 4 hd (by decide), bnd_s, tb_gl hW 10 (by omega) d 2 hd (by decide), bnd_s, tb_gl hW 10 (by omega) d 3 hd (by decide), bnd_s, p1, bnd_s, tb_gl hW 11 (by omega) k 12 hk (by decide), bnd_s]
  simp only [m1, m3, gk, eP, bnd_s]
  by_cases q : 0 < cel σ 11 k 12
  · obtain ⟨σ', τ', g1, g2, g3, g4, g5, g6, g7⟩ := set_ag hW hK t1 hT2 (s := 2) hk (by omega) (by omega) (by omega) h0
    have g1' : f_Courts_settle (nI k) 2 σ = some (0, σ') := g1
    have g2' : f_M_becomes (nI k) 2 τ = some (0, τ') := g2
    simp only [if_pos q, g1', g2', bnd_s, ite_self]
    exact ⟨2, σ', τ', Or.inl rfl, rfl, fun _ _ => rfl, g3, g4, g5, g6.mono (by decide) (by decide), g7⟩
  by_cases q2 : v = 2
  · obtain ⟨σ', τ', g1, g2, g3, g4, g5, g6, g7⟩ := set_ag hW hK2 t12 hT2 (s := 5) hk (by omega) (by omega) (by omega) h0
    have g1' : f_Courts_settle (nI k) 5 σ = some (0, σ') := g1
    have g2' : f_M_becomes (nI k) 5 τ2 = some (0, τ') := g2
    simp only [if_neg q, if_pos q2, g1', g2', bnd_s]
    exact ⟨5, σ', τ', Or.inr rfl, rfl, fun _ _ => rfl, g3, g4, g5, p3'.trans (g6.mono (by decide) (by decide)), g7⟩
  · obtain ⟨σ', τ', g1, g2, g3, g4, g5, g6, g7⟩ := set_ag hW hK2 t12 hT2 (s := 2) hk (by omega) (by omega) (by omega) h0
    have g1' : f_Courts_settle (nI k) 2 σ = some (0, σ') := g1
    have g2' : f_M_becomes (nI k) 2 τ2 = some (0, τ') := g2
    simp only [if_neg q, if_neg q2, g1', g2', bnd_s]
    exact ⟨2, σ', τ', Or.inl rfl, rfl, fun _ _ => rfl, g3, g4, g5, p3'.trans (g6.mono (by decide) (by decide)), g7⟩
theorem upd_id (f : Nat → Int32) (k : Nat) {v : Int32} (h : f k = v) : upd f k v = f := by
  funext i
  unfold upd
  by_cases q : i = k
  · rw [if_pos q, q, h]
  · rw [if_neg q]
theorem chargeO_ag {σ τ : CS} (hW : WC σ) (hP : IPeo σ τ) (hA : IWar σ τ) {v : Int32} {k q a wi L : Nat} (hv : v = -1 ∨ Ix v (rws σ 6)) (hk : k < rws σ 11) (hq : q < 3) (ha : a ≤ 10000) (hwi : wi < rws σ 9) (c9 : cel σ 11 k 9 = nI wi) (t62 : τ.2.1 62 k = nI wi) (hL : τ.2.1 68 k = nI L) (haL : a ≤ L) (hc : τ.1 39 = σ.1 63) :
    ∃ x cu σ' τ', x ≤ a ∧ f_Courts_charge (nI k) (nI q) v (nI a) σ = some (nI x, σ') ∧ f_M_pays (nI k) v (nI q) (nI a) τ = some (0, τ') ∧ WC σ' ∧ IPeo σ' τ' ∧ FrC [63] [6, 11] σ σ' ∧ FrM [39] [41, 68, 69, 70] τ τ' ∧ τ'.1 39 = σ'.1 63 ∧ τ'.2.1 68 = upd (τ.2.1 68) k (nI (L - x)) ∧ τ'.2.1 69 = upd (τ.2.1 69) (3 * k + q) (τ.2.1 69 (3 * k + q) + nI x) ∧ τ'.2.1 70 = upd (τ.2.1 70) k (τ.2.1 70 k + nI cu) ∧ ∀ i c, c < 13 → cel σ' 11 i c = if i = k ∧ c = 7 then cel σ 11 k 7 + nI cu else if i = k ∧ c = 4 + q then cel σ 11 k (4 + q) + nI x else cel σ 11 i c := by
  rcases hv with rfl | ⟨h, hh, rfl⟩
  rotate_left
  · exact charge_ag hW hP hA hk hq hh ha hwi c9 t62 hL haL hc
  have z0 : ∀ y : Int32, y + nI 0 = y := fun y => Int32.add_zero y
  refine ⟨0, 0, σ, τ, Nat.zero_le _, ?_, ?_, hW, hP, FrC.refl _ _ _, FrM.refl _ _ _, hc, ?_, ?_, ?_, fun i c _ => ?_⟩
  · unfold f_Courts_charge
    rw [if_pos rfl]
    rfl
  · unfold f_M_pays
    rw [if_neg (by decide)]
  · rw [upd_id _ _ (by rw [hL]; rfl)]
  · rw [upd_id _ _ (by rw [z0])]
  · rw [upd_id _ _ (by rw [z0])]
  · rw [z0, z0]
    by_cases q1 : i = k ∧ c = 7
    · rw [if_pos q1, q1.1, q1.2]
    · rw [if_neg q1]
      by_cases q2 : i = k ∧ c = 4 + q
      · rw [if_pos q2, q2.1, q2.2]
      · rw [if_neg q2]
