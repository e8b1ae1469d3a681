/-! ===== layer 2: a court's visit to one case, a court's day ===== -/
theorem asks_ag {σ τ : CS} (hW : WC σ) (hM : IMar σ τ) (hR : IRin σ τ) (hT : ITxt σ τ) (hC : ICls σ τ) (hP : IPeo σ τ) (hD : IDee σ τ) (hA : IWar σ τ) (hK : ICas σ τ) (t1 : τ.1 1 = σ.1 62) (hT2 : Rg (σ.1 62) 100000) (hc : τ.1 39 = σ.1 63) {k : Nat} (hk : k < rws σ 11) (h0 : cel σ 11 k 0 = 2 ∨ cel σ 11 k 0 = 4) : ∃ σ' τ', f_Courts_askFor (nI k) σ = some (0, σ') ∧ f_M_asks (nI k) τ = some (0, τ') ∧ WC σ' ∧ IPeo σ' τ' ∧ ICas σ' τ' ∧ FrC [53, 54, 63] [6, 11, 20, 21] σ σ' ∧ FrM [9, 39, 56, 57, 58, 59] [8, 37, 41, 55, 65, 66, 68, 69, 70] τ τ' ∧ τ'.1 39 = σ'.1 63 ∧ (∀ i c, i ≠ k → c < 13 → cel σ' 11 i c = cel σ 11 i c) := by
  have h40 : rws σ 11 ≤ 40 := hW.hlim (t := 11) (by omega)
  have gk : ∀ {X : Type} (a : Option X), gix (nI k) 40 a = a := fun a => gix_n (by omega) (by omega)
  obtain ⟨⟨y8, d, hd, e8⟩, ⟨y9, wi, hwi, e9⟩, ⟨ya, ia⟩, ⟨yb, ib⟩, ⟨y1, i1⟩, ⟨y0, r0⟩, ⟨y2, s2⟩, y12, yq, y7, y3⟩ := hK.2.1 k hk
  obtain ⟨L, σa, τa, hL, hcl, hml, Wa, Pa, fa, ga, kL, oL⟩ : ∃ L σa τa, L ≤ 10000 ∧ f_Courts_askFor (nI k) σ = B_Courts_askFor_49 (nI k) (nI L) σa ∧ f_M_asks (nI k) τ = B_M_asks_30 (nI k) τa ∧ WC σa ∧ IPeo σa τa ∧ FrC [53, 54] [20, 21] σ σa ∧ FrM [9, 56, 57, 58, 59] [8, 37, 55, 68] τ τa ∧ τa.2.1 68 k = nI L ∧ ∀ i, i ≠ k → τa.2.1 68 i = τ.2.1 68 i := by
    unfold f_Courts_askFor B_Courts_askFor_18 f_M_asks
    rw [tb_gl hW 11 (by omega) k 0 hk (by decide), bnd_s, gk, rdn (show k < 2147483648 by omega), y0]
    rcases h0 with h0 | h0
    · obtain ⟨a, σa, τa, ha, g1, g2, g3, g4, g5, g6⟩ := fine_ag hW hM hR hT hC hP hD hd
      have ga : FrM [9, 56, 57, 58, 59] [8, 37, 55, 68] τ (sA τa 68 (upd (τa.2.1 68) k (nI a))) := (g6.mono (by decide) (by decide)).trans (FrM.f2 _ _ (by decide))
      rw [h0, if_neg (by decide), if_pos rfl, if_pos rfl, tb_gl hW 11 (by omega) k 8 hk (by decide), bnd_s, e8, g1, bnd_s, gk, rdn (show k < 2147483648 by omega), y8, e8, g2, bnd_s, gk, wrn (show k < 2147483648 by omega), g3]
      refine ⟨a, σa, _, ha, rfl, rfl, g4, hP.fr (g5.1 20 (by decide)) (g5.2 6 (by decide)).1 (ga.1 38 (by decide)) (ga.2 40 (by decide)) (ga.2 41 (by decide)) (ga.2 42 (by decide)) (ga.2 43 (by decide)), g5, ga, ?_, fun i hi => ?_⟩
      · simp [va_up, upd]
      · simp only [va_up, reduceIte, upd, if_neg hi]
        exact congrFun (g6.2 68 (by decide)) i
    · rcases y3 with ⟨-, z1, L, hL, z2⟩ | ⟨z, -⟩
      · rw [h0, if_pos rfl, if_neg i10, if_neg (by decide), tb_gl hW 11 (by omega) k 3 hk (by decide), bnd_s, z2]
        exact ⟨L, σ, τ, hL, rfl, rfl, hW, hP, FrC.refl _ _ _, FrM.refl _ _ _, z1.trans z2, fun _ _ => rfl⟩
      · exact absurd (Or.inr h0) z
  have c11 : ∀ i c, cel σa 11 i c = cel σ 11 i c := fun i c => fa.fc (by decide) i c
  have e6 : rws σa 6 = rws σ 6 := fa.fr (t := 6) (by decide)
  have e9' : rws σa 9 = rws σ 9 := fa.fr (t := 9) (by decide)
  have e11 : rws σa 11 = rws σ 11 := fa.fr (t := 11) (by decide)
  have ta : ∀ a, 61 ≤ a → a ≠ 68 → τa.2.1 a = τ.2.1 a := fun a h1 h2 => ga.2 a (by simp only [List.mem_cons, List.not_mem_nil, or_false]; omega)
  have c62 : σa.1 62 = σ.1 62 := fa.1 62 (by decide)
  obtain ⟨M, s, σ', τ', hML, hs, q1, q2, A1, A2, A3, A4, A5, A6, A7, A8, A9, A10, A11, A12, A13, A14⟩ := asks_tail Wa Pa (hA.frX fa ga (by decide) (by decide) (by decide) (by decide) (by decide)) (k := k) (L := L) (wi := wi) (by omega) hL kL (by omega) ((c11 k 9).trans e9) (by rw [ta 62 (by omega) (by omega), y9, e9]) (by rw [ta 63 (by omega) (by omega), c11, ya]) (by rw [c11, e6]; exact ia) (by rw [ta 63 (by omega) (by omega), c11, yb]) (by rw [c11, e6]; exact ib) (by rw [ta 64 (by omega) (by omega), c11, y1]) (by rw [c11, e6]; exact i1) (by rw [ta 65 (by omega) (by omega), c11, y0]) (fun q hq => by rw [ta 69 (by omega) (by omega), c11]; exact yq q hq) (by rw [ta 70 (by omega) (by omega), c11, y7]) (by rw [ga.1 39 (by decide), fa.1 63 (by decide)]; exact hc) (by rw [ga.1 1 (by decide), c62]; exact t1)
  have F : FrC [53, 54, 63] [6, 11, 20, 21] σ σ' := (fa.mono (by decide) (by decide)).trans (A3.mono (by decide) (by decide))
  have G : FrM [9, 39, 56, 57, 58, 59] [8, 37, 41, 55, 65, 66, 68, 69, 70] τ τ' := (ga.mono (by decide) (by decide)).trans (A4.mono (by decide) (by decide))
  have co : ∀ i c, i ≠ k → c < 13 → cel σ' 11 i c = cel σ 11 i c := fun i c hi h => (A12 i c hi h).trans (c11 i c)
  have cc : ∀ c, c < 13 → 7 < c ∨ c = 1 → cel σ' 11 k c = cel σ 11 k c := fun c h1 h2 => (A11 c h1 h2).trans (c11 k c)
  have d6 : rws σ' 6 = rws σ 6 := F.fr (t := 6) (by decide)
  have d9 : rws σ' 9 = rws σ 9 := F.fr (t := 9) (by decide)
  have d10 : rws σ' 10 = rws σ 10 := F.fr (t := 10) (by decide)
  have d11 : rws σ' 11 = rws σ 11 := F.fr (t := 11) (by decide)
  have d62 : σ'.1 62 = σ.1 62 := F.1 62 (by decide)
  refine ⟨σ', τ', hcl.trans q1, hml.trans q2, A1, A2, ?_, F, G, A5, co⟩
  refine hK.row (k := k) d6 d9 d10 d11 d62 (fun i => F.fc (by decide) i 6) (cc 8 (by omega) (by omega)) co (G.1 60 (by decide)) (fun a i h1 h2 h3 h4 h5 => ?_) (G.2 63 (by decide)) (fun i q h1 h2 => ?_) hk ?_
  · rw [A13 a i h1 h2 h4 h5]
    by_cases z : a = 68
    · rw [z]; exact oL i h5
    · rw [ta a h1 z]
  · rw [A14 i q h1 h2, ta 69 (by omega) (by omega)]
  · unfold Cas
    rw [cc 8 (by omega) (by omega), cc 9 (by omega) (by omega), cc 10 (by omega) (by omega), cc 11 (by omega) (by omega), cc 1 (by omega) (by omega), cc 12 (by omega) (by omega), G.2 61 (by decide), G.2 62 (by decide), G.2 63 (by decide), G.2 64 (by decide), G.2 67 (by decide), d10, d9, d6, d62]
    refine ⟨⟨y8, d, hd, e8⟩, ⟨y9, wi, hwi, e9⟩, ⟨ya, ia⟩, ⟨yb, ib⟩, ⟨y1, i1⟩, ⟨A6.2.trans A6.1.symm, ?_⟩, ⟨?_, ?_⟩, y12, A9, A10, Or.inl ⟨?_, A7.2.trans A7.1.symm, ?_⟩⟩
    · rw [A6.1]
      rcases hs with rfl | rfl
      · exact ⟨3, by omega, rfl⟩
      · exact ⟨4, by omega, rfl⟩
    · rcases A8 with ⟨u1, u2⟩ | ⟨u1, u2⟩
      · rw [u1, u2]
      · rw [u1, u2, c11, ta 66 (by omega) (by omega), y2]
    · rcases A8 with ⟨u1, u2⟩ | ⟨u1, u2⟩
      · obtain ⟨t, ht, et⟩ := hT2
        exact ⟨t, t, by rw [u1, c62, et], et, Nat.le_refl _, ht⟩
      · rw [u1, c11]
        exact s2
    · rw [A6.1]
      exact hs
    · rw [A7.1]
      exact ⟨M, by omega, rfl⟩
def CB (σ τ : CS) : Prop := WC σ ∧ IMar σ τ ∧ IRin σ τ ∧ ITxt σ τ ∧ ICls σ τ ∧ IPeo σ τ ∧ IDee σ τ ∧ IWar σ τ ∧ ICas σ τ ∧ τ.1 1 = σ.1 62 ∧ Rg (σ.1 62) 100000 ∧ τ.1 39 = σ.1 63
abbrev FdC := FrC [53, 54, 63] [6, 11, 20, 21]
abbrev FdM := FrM [9, 39, 56, 57, 58, 59] [8, 37, 41, 55, 64, 65, 66, 68, 69, 70]
theorem CB.frG {σ τ σ' τ' : CS} {I A I' A' : List Nat} (h : CB σ τ) (F : FrC I A σ σ') (G : FrM I' A' τ τ') (hI : ∀ k, k ∈ I → 49 ≤ k ∧ k ≠ 62) (hA : ∀ a, a ∈ A → a = 6 ∨ 11 ≤ a) (hI' : ∀ k, k ∈ I' → ¬ (k = 1 ∨ k = 2 ∨ k = 10 ∨ k = 11 ∨ k = 21 ∨ k = 44 ∨ k = 48)) (hA' : ∀ a, a ∈ A' → ¬ ((3 ≤ a ∧ a ≤ 5) ∨ (12 ≤ a ∧ a ≤ 15) ∨ (28 ≤ a ∧ a ≤ 36) ∨ (45 ≤ a ∧ a ≤ 47) ∨ (49 ≤ a ∧ a ≤ 54) ∨ (88 ≤ a ∧ a ≤ 91))) (hW : WC σ') (hP : IPeo σ' τ') (hK : ICas σ' τ') (hc : τ'.1 39 = σ'.1 63) : CB σ' τ' := by
  obtain ⟨-, b2, b3, b4, b5, -, b7, b8, -, b10, b11, -⟩ := h
  have f1 : ∀ k, k < 49 ∨ k = 62 → σ'.1 k = σ.1 k := fun k hk => F.1 k (fun z => by have := hI k z; omega)
  have f2 : ∀ a, a < 11 → a ≠ 6 → σ'.2.1 a = σ.2.1 a := fun a h1 h2 => (F.2 a (fun z => by have := hA a z; omega)).1
  have g1 : ∀ k, (k = 1 ∨ k = 2 ∨ k = 10 ∨ k = 11 ∨ k = 21 ∨ k = 44 ∨ k = 48) → τ'.1 k = τ.1 k := fun k hk => G.1 k (fun z => hI' k z hk)
  have g2 : ∀ a, ((3 ≤ a ∧ a ≤ 5) ∨ (12 ≤ a ∧ a ≤ 15) ∨ (28 ≤ a ∧ a ≤ 36) ∨ (45 ≤ a ∧ a ≤ 47) ∨ (49 ≤ a ∧ a ≤ 54) ∨ (88 ≤ a ∧ a ≤ 91)) → τ'.2.1 a = τ.2.1 a := fun a ha => G.2 a (fun z => hA' a z ha)
  have S : SmT τ τ' := ⟨g1 21 (by omega), fun a h1 h2 => g2 a (by omega)⟩
  have r6 : rws σ 6 ≤ rws σ' 6 := Nat.le_of_eq (by unfold rws; rw [f1 (3 * 6 + 2) (by omega)])
  have r1 : rws σ 1 ≤ rws σ' 1 := Nat.le_of_eq (by unfold rws; rw [f1 (3 * 1 + 2) (by omega)])
  refine ⟨hW, b2.fr (f1 5 (by omega)) (f2 1 (by omega) (by omega)) (g1 2 (by omega)) (g2 3 (by omega)) (g2 4 (by omega)) (g2 5 (by omega)), b3.fr r1 (f1 8 (by omega)) (f2 2 (by omega) (by omega)) (f1 48 (by omega)) (g1 10 (by omega)) (g1 11 (by omega)) (g2 12 (by omega)) (g2 13 (by omega)) (g2 14 (by omega)) (g2 15 (by omega)), b4.fr (f1 11 (by omega)) (f2 3 (by omega) (by omega)) S, b5.fr (f1 11 (by omega)) (f1 14 (by omega)) (f1 17 (by omega)) (f2 4 (by omega) (by omega)) (f2 5 (by omega) (by omega)) S (g2 35 (by omega)) (g2 36 (by omega)), hP, b7.fr r6 (f1 32 (by omega)) (fun i c _ _ => by unfold cel; rw [f2 10 (by omega) (by omega)]) (g1 48 (by omega)) (g2 49 (by omega)) (g2 50 (by omega)) (g2 51 (by omega)) (g2 52 (by omega)) (g2 53 (by omega)) (g2 54 (by omega)), b8.fr r6 (f1 29 (by omega)) (f2 9 (by omega) (by omega)) (g1 44 (by omega)) (g2 45 (by omega)) (g2 46 (by omega)) (g2 47 (by omega)) (g2 88 (by omega)) (g2 89 (by omega)) (g2 90 (by omega)) (g2 91 (by omega)), hK, ?_, ?_, hc⟩
  · rw [g1 1 (by omega), f1 62 (by omega)]; exact b10
  · rw [f1 62 (by omega)]; exact b11
theorem CB.fr {σ τ σ' τ' : CS} (h : CB σ τ) (F : FdC σ σ') (G : FdM τ τ') (hW : WC σ') (hP : IPeo σ' τ') (hK : ICas σ' τ') (hc : τ'.1 39 = σ'.1 63) : CB σ' τ' :=
  h.frG F G (by decide) (by decide) (by decide) (by decide) hW hP hK hc
def Q4 (σ : CS) (j : Nat) : Prop := ∀ i, j ≤ i → i < rws σ 11 → cel σ 11 i 0 = 4 → cel σ 11 i 2 < σ.1 62
theorem not_le_lt {a b : Int32} : ¬ a ≤ b ↔ b < a := Int32.not_le
theorem comes_ag {σ τ : CS} (h : CB σ τ) {c k : Nat} (hc : c < 3) (hk : k < rws σ 11) (hQ : Q4 σ k) : ∃ b : Int32, (b = 0 ∨ (b = 1 ∧ (cel σ 11 k 0 = nI c ∨ (c = 2 ∧ cel σ 11 k 0 = 4)))) ∧ f_Courts_comesUp (nI k) (nI c) σ = some (b, σ) ∧ ∀ K : Int32 → CS → Option (Int32 × CS), (if (rd τ 65 (nI k)) = nI c then gix (nI k) 40 (if (rd τ 66 (nI k)) < (τ.1 1) then B_M_sits_53 K (nI c) (nI k) 1 τ else B_M_sits_33 K (nI c) (nI k) τ) else B_M_sits_33 K (nI c) (nI k) τ) = B_M_sits_53 K (nI c) (nI k) b τ := by
  obtain ⟨hW, -, -, -, -, -, -, -, hK, t1, hT2, -⟩ := h
  have h40 : rws σ 11 ≤ 40 := hW.hlim (t := 11) (by omega)
  have gk : ∀ {X : Type} (a : Option X), gix (nI k) 40 a = a := fun a => gix_n (by omega) (by omega)
  obtain ⟨-, -, -, -, -, ⟨y0, s0, hs0, es0⟩, ⟨y2, -⟩, -⟩ := hK.2.1 k hk
  unfold f_Courts_comesUp B_Courts_comesUp_29 B_Courts_comesUp_30 B_M_sits_33 B_M_sits_52
  simp only [gk, rdn (show k < 2147483648 by omega), y0, y2, t1]
  rw [tb_gl hW 11 (by omega) k 0 hk (by decide), bnd_s, tb_gl hW 11 (by omega) k 2 hk (by decide)]
  simp only [bnd_s, if_neg i10, reduceIte]
  by_cases q : cel σ 11 k 0 = nI c
  · simp only [if_pos q]
    by_cases r : cel σ 11 k 2 < σ.1 62
    · rw [if_neg (not_le_lt.2 r)]
      exact ⟨1, Or.inr ⟨rfl, Or.inl q⟩, rfl, fun K => by rw [if_pos r]⟩
    · rw [if_pos (by rw [← Int32.not_lt]; exact r)]
      refine ⟨0, Or.inl rfl, rfl, fun K => ?_⟩
      rw [if_neg r]
      by_cases z : nI c = 2
      · rw [if_pos z, if_neg (by rw [q, z]; decide)]
      · rw [if_neg z]
  · simp only [if_neg q]
    by_cases r : cel σ 11 k 0 = 4
    · simp only [if_pos r]
      by_cases z : nI c = 2
      · have hc2 : c = 2 := (eq_lit 2 (by omega) (by omega)).1 z
        simp only [if_pos z]
        rw [if_neg (not_le_lt.2 (hQ k (Nat.le_refl _) hk r))]
        exact ⟨1, Or.inr ⟨rfl, Or.inr ⟨hc2, r⟩⟩, rfl, fun K => rfl⟩
      · simp only [if_neg z]
        exact ⟨0, Or.inl rfl, rfl, fun K => rfl⟩
    · simp only [if_neg r, ite_self]
      exact ⟨0, Or.inl rfl, rfl, fun K => rfl⟩
theorem visit_ag {σ τ : CS} (h : CB σ τ) {c k : Nat} (hc : c < 3) (hk : k < rws σ 11) (hQ : Q4 σ k) (K : Int32 → CS → Option (Int32 × CS)) (m m' : Nat) : ∃ σ' τ', L_Courts_beginDay_84 K (nI c) 1 (m + 1) (nI k) σ = L_Courts_beginDay_84 K (nI c) 1 m (nI (k + 1)) σ' ∧ L_M_sits_2 (nI c) (m' + 1) (nI k) τ = L_M_sits_2 (nI c) m' (nI (k + 1)) τ' ∧ CB σ' τ' ∧ FdC σ σ' ∧ FdM τ τ' ∧ (∀ i e, i ≠ k → e < 13 → cel σ' 11 i e = cel σ 11 i e) ∧ (c < 2 → cel σ' 11 k 0 = 4 → cel σ' 11 k 0 = cel σ 11 k 0 ∧ cel σ' 11 k 2 = cel σ 11 k 2) := by
  obtain ⟨b, hb, b1, b2⟩ := comes_ag h hc hk hQ
  have hh := h
  obtain ⟨hW, hM, hR, hT, hC, hP, hD, hA, hK, t1, hT2, h39⟩ := hh
  have h40 : rws σ 11 ≤ 40 := hW.hlim (t := 11) (by omega)
  have gk : ∀ {X : Type} (a : Option X), gix (nI k) 40 a = a := fun a => gix_n (by omega) (by omega)
  have n1 : nI k + 1 = nI (k + 1) := nI_1 k
  have sC : ∀ v, v = (L_Courts_beginDay_84 K (nI c) 1 (m + 1) (nI k) σ) → v = bnd (f_Courts_comesUp (nI k) (nI c) σ) (fun r98 σ98 => if r98 = 0 then (L_Courts_beginDay_84 K (nI c) 1 m) (nI k + 1) σ98 else bnd (f_Courts_findAccused (nI k) σ98) (fun r106 σ106 => if r106 = 0 then (L_Courts_beginDay_84 K (nI c) 1 m) (nI k + 1) σ106 else if nI c = 0 then bnd (f_Courts_attach (nI k) σ106) (fun _ σ121 => (L_Courts_beginDay_84 K (nI c) 1 m) (nI k + 1) σ121) else if nI c = 1 then bnd (f_Courts_find (nI k) σ106) (fun _ σ134 => (L_Courts_beginDay_84 K (nI c) 1 m) (nI k + 1) σ134) else bnd (f_Courts_askFor (nI k) σ106) (fun _ σ142 => (L_Courts_beginDay_84 K (nI c) 1 m) (nI k + 1) σ142))) := by
    intro v hv
    rw [hv, L_Courts_beginDay_84, if_neg i10, tb_size hW 11 (by omega), bnd_s, if_neg (nI_ge hk (by omega))]
  have eC := sC _ rfl
  have eM : L_M_sits_2 (nI c) (m' + 1) (nI k) τ = B_M_sits_53 (L_M_sits_2 (nI c) m') (nI c) (nI k) b τ := by
    rw [L_M_sits_2, hK.1, if_neg (nI_ge hk (by omega)), gk]
    exact b2 _
  rw [eC, eM, b1, bnd_s]
  rcases hb with rfl | ⟨rfl, hst⟩
  · unfold B_M_sits_53
    rw [if_pos rfl, if_pos rfl, n1]
    exact ⟨σ, τ, rfl, rfl, h, FrC.refl _ _ _, FrM.refl _ _ _, fun _ _ _ _ => rfl, fun _ _ => ⟨rfl, rfl⟩⟩
  unfold B_M_sits_53
  rw [if_neg i10, if_neg i10]
  have h6 : ¬ cel σ 11 k 0 = 6 := by
    rcases hst with z | ⟨-, z⟩
    · rw [z]
      exact fun y => absurd ((eq_lit 6 (by omega) (by omega)).1 y) (by omega)
    · rw [z]; decide
  obtain ⟨b', σ1, τ1, hb', g1, g2, g3, g4, g5, g6, g7, g8, g9⟩ := answer_ag hW hP hT hK t1 hT2 hk h6
  rw [g1, g2, bnd_s, bnd_s]
  have G5 : FdC σ σ1 := g5.mono (by decide) (by decide)
  have G6 : FdM τ τ1 := g6.mono (by decide) (by decide)
  have P1 : IPeo σ1 τ1 := hP.fr (g5.1 20 (by decide)) (g5.2 6 (by decide)).1 (g6.1 38 (by decide)) (g6.2 40 (by decide)) (g6.2 41 (by decide)) (g6.2 42 (by decide)) (g6.2 43 (by decide))
  have c39 : τ1.1 39 = σ1.1 63 := by rw [g6.1 39 (by decide), g5.1 63 (by decide)]; exact h39
  have B1 : CB σ1 τ1 := h.fr G5 G6 g3 P1 g4 c39
  rcases hb' with rfl | rfl
  · rw [if_pos rfl, if_pos rfl, n1]
    exact ⟨σ1, τ1, rfl, rfl, B1, G5, G6, g7, fun _ z => absurd ((g9 rfl).symm.trans z) (by decide)⟩
  rw [if_neg i10, if_neg i10]
  have c0 : cel σ1 11 k 0 = cel σ 11 k 0 := g8 rfl 0 (by omega) (by omega)
  have e11 : rws σ1 11 = rws σ 11 := g5.fr (t := 11) (by decide)
  have hk1 : k < rws σ1 11 := by omega
  have B1' := B1
  obtain ⟨W1, M1, R1, T1, C1, -, D1, A1, K1, u1, U2, -⟩ := B1'
  have fin : ∀ (s : Nat) (σ2 τ2 : CS), (s = 1 ∨ s = 2 ∨ s = 5) → WC σ2 → ICas σ2 τ2 → FrC [] [11] σ1 σ2 → FrM [9] [8, 65, 66] τ1 τ2 → (∀ i e, i ≠ k → e < 13 → cel σ2 11 i e = cel σ1 11 i e) → cel σ2 11 k 0 = nI s → CB σ2 τ2 ∧ FdC σ σ2 ∧ FdM τ τ2 ∧ (∀ i e, i ≠ k → e < 13 → cel σ2 11 i e = cel σ 11 i e) ∧ (c < 2 → cel σ2 11 k 0 = 4 → cel σ2 11 k 0 = cel σ 11 k 0 ∧ cel σ2 11 k 2 = cel σ 11 k 2) := by
    intro s σ2 τ2 hs w2 k2 f2 m2 o2 s2
    have F2 : FdC σ1 σ2 := f2.mono (by decide) (by decide)
    have M2 : FdM τ1 τ2 := m2.mono (by decide) (by decide)
    refine ⟨B1.fr F2 M2 w2 (P1.fr (f2.1 20 (by decide)) (f2.2 6 (by decide)).1 (m2.1 38 (by decide)) (m2.2 40 (by decide)) (m2.2 41 (by decide)) (m2.2 42 (by decide)) (m2.2 43 (by decide))) k2 (by rw [m2.1 39 (by decide), f2.1 63 (by decide)]; exact c39), G5.trans F2, G6.trans M2, fun i e hi he => (o2 i e hi he).trans (g7 i e hi he), fun _ z => ?_⟩
    rw [s2] at z
    exact absurd ((eq_lit 4 (by omega) (by omega)).1 z) (by omega)
  have hcs : c = 0 ∨ c = 1 ∨ c = 2 := by omega
  rcases hcs with rfl | rfl | rfl
  · have z0 : cel σ1 11 k 0 = 0 := by
      rcases hst with z | ⟨z, -⟩
      · rw [c0, z]; rfl
      · omega
    obtain ⟨s, σ2, τ2, hs, q1, q2, q3, q4, q5, q6, q7, q8⟩ := attach_ag W1 A1 K1 u1 U2 hk1 (by rw [z0]; decide)
    have x0 : nI 0 = (0 : Int32) := rfl
    rw [if_pos x0, if_pos x0, q1, bnd_s, q2, n1]
    exact ⟨σ2, τ2, rfl, rfl, fin s σ2 τ2 (by omega) q3 q4 q5 (q6.mono (by decide) (by decide)) q7 q8⟩
  · have z0 : cel σ1 11 k 0 = 1 := by
      rcases hst with z | ⟨z, -⟩
      · rw [c0, z]; rfl
      · omega
    obtain ⟨s, σ2, τ2, hs, q1, q2, q3, q4, q5, q6, q7, q8⟩ := find_ag W1 M1 R1 D1 K1 u1 U2 hk1 (by rw [z0]; decide)
    have x0 : ¬ nI 1 = (0 : Int32) := by decide
    have x1 : nI 1 = (1 : Int32) := rfl
    rw [if_neg x0, if_neg x0, if_pos x1, if_pos x1, q1, bnd_s, q2, n1]
    exact ⟨σ2, τ2, rfl, rfl, fin s σ2 τ2 (by omega) q3 q4 q5 q6 q7 q8⟩
  · have z0 : cel σ1 11 k 0 = 2 ∨ cel σ1 11 k 0 = 4 := by
      rcases hst with z | ⟨-, z⟩
      · left; rw [c0, z]; rfl
      · right; rw [c0, z]
    obtain ⟨σ2, τ2, q1, q2, q3, q4, q5, q6, q7, q8, q9⟩ := asks_ag W1 M1 R1 T1 C1 P1 D1 A1 K1 u1 U2 c39 hk1 z0
    have x0 : ¬ nI 2 = (0 : Int32) := by decide
    have x1 : ¬ nI 2 = (1 : Int32) := by decide
    have M2 : FdM τ1 τ2 := q7.mono (by decide) (by decide)
    rw [if_neg x0, if_neg x0, if_neg x1, if_neg x1, q1, q2, bnd_s, bnd_s, n1]
    exact ⟨σ2, τ2, rfl, rfl, B1.fr q6 M2 q3 q4 q5 q8, G5.trans q6, G6.trans M2, fun i e hi he => (q9 i e hi he).trans (g7 i e hi he), fun z => absurd z (by omega)⟩
theorem court_loop {c : Nat} (hc : c < 3) (K : Int32 → CS → Option (Int32 × CS)) : ∀ (d k m m' : Nat) (σ τ : CS), CB σ τ → k + d = rws σ 11 → d < m → d < m' → Q4 σ k → (c < 2 → Q4 σ 0) → ∃ σ' τ', L_Courts_beginDay_84 K (nI c) 1 m (nI k) σ = K (nI (c + 1)) σ' ∧ L_M_sits_2 (nI c) m' (nI k) τ = some (0, τ') ∧ CB σ' τ' ∧ FdC σ σ' ∧ FdM τ τ' ∧ (c < 2 → Q4 σ' 0) := by
  intro d
  induction d with
  | zero =>
    intro k m m' σ τ h h1 h2 h3 hQ hQ0
    obtain ⟨m, rfl⟩ : ∃ n, m = n + 1 := ⟨m - 1, by omega⟩
    obtain ⟨m', rfl⟩ : ∃ n, m' = n + 1 := ⟨m' - 1, by omega⟩
    have h40 : rws σ 11 ≤ 40 := h.1.hlim (t := 11) (by omega)
    have hK := h.2.2.2.2.2.2.2.2.1
    refine ⟨σ, τ, ?_, ?_, h, FrC.refl _ _ _, FrM.refl _ _ _, hQ0⟩
    · rw [L_Courts_beginDay_84, if_neg i10, tb_size h.1 11 (by omega), bnd_s, if_pos (nI_le (by omega) (by omega)), nI_1]
    · rw [L_M_sits_2, hK.1, if_pos (nI_le (by omega) (by omega))]
  | succ d ih =>
    intro k m m' σ τ h h1 h2 h3 hQ hQ0
    obtain ⟨m, rfl⟩ : ∃ n, m = n + 1 := ⟨m - 1, by omega⟩
    obtain ⟨m', rfl⟩ : ∃ n, m' = n + 1 := ⟨m' - 1, by omega⟩
    obtain ⟨σ1, τ1, g1, g2, g3, g4, g5, g6, g7⟩ := visit_ag h hc (k := k) (by omega) hQ K m m'
    have e11 : rws σ1 11 = rws σ 11 := g4.fr (t := 11) (by decide)
    have e62 : σ1.1 62 = σ.1 62 := g4.1 62 (by decide)
    have Q1 : Q4 σ1 (k + 1) := fun i hi hi2 z => by
      rw [g6 i 0 (by omega) (by omega)] at z
      rw [g6 i 2 (by omega) (by omega), e62]
      exact hQ i (by omega) (by omega) z
    have Q2 : c < 2 → Q4 σ1 0 := fun hc2 i hi hi2 z => by
      by_cases q : i = k
      · subst q
        obtain ⟨z1, z2⟩ := g7 hc2 z
        rw [z2, e62]
        exact hQ0 hc2 i (by omega) (by omega) (z1.symm.trans z)
      · rw [g6 i 0 q (by omega)] at z
        rw [g6 i 2 q (by omega), e62]
        exact hQ0 hc2 i (by omega) (by omega) z
    obtain ⟨σ2, τ2, r1, r2, r3, r4, r5, r6⟩ := ih (k + 1) m m' σ1 τ1 g3 (by omega) (by omega) (by omega) Q1 Q2
    exact ⟨σ2, τ2, g1.trans r1, g2.trans r2, r3, g4.trans r4, g5.trans r5, r6⟩
