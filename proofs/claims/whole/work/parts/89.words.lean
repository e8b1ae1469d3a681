/-! ===== layer 2: words on a deed; why, fine ===== -/
theorem WC.fr {σ σ' : CS} {I A : List Nat} (hW : WC σ) (f : FrC I A σ σ') (h1 : ∀ k, k ∈ I → 48 ≤ k) (h2 : ∀ a, a ∈ A → 16 ≤ a) : WC σ' := hW.of (fun j hj => f.1 j (fun z => by have := h1 j z; omega)) (fun t ht => (f.2 t (fun z => by have := h2 t z; omega)).2)
theorem FrM.imar {σ τ τ' : CS} {I A : List Nat} (f : FrM I A τ τ') (h : IMar σ τ) (h1 : 2 ∉ I) (h2 : 3 ∉ A ∧ 4 ∉ A ∧ 5 ∉ A) : IMar σ τ' := h.fr rfl rfl (f.1 2 h1) (f.2 3 h2.1) (f.2 4 h2.2.1) (f.2 5 h2.2.2)
theorem FrM.irin {σ τ τ' : CS} {I A : List Nat} (f : FrM I A τ τ') (h : IRin σ τ) (h1 : 10 ∉ I ∧ 11 ∉ I) (h2 : 12 ∉ A ∧ 13 ∉ A ∧ 14 ∉ A ∧ 15 ∉ A) : IRin σ τ' := h.fr (Nat.le_refl _) rfl rfl rfl (f.1 10 h1.1) (f.1 11 h1.2) (f.2 12 h2.1) (f.2 13 h2.2.1) (f.2 14 h2.2.2.1) (f.2 15 h2.2.2.2)
theorem ICls.fr {σ τ σ' τ' : CS} (h : ICls σ τ) (e1 : σ'.1 11 = σ.1 11) (e2 : σ'.1 14 = σ.1 14) (e3 : σ'.1 17 = σ.1 17) (e4 : σ'.2.1 4 = σ.2.1 4) (e5 : σ'.2.1 5 = σ.2.1 5) (s : SmT τ τ') (e6 : τ'.2.1 35 = τ.2.1 35) (e7 : τ'.2.1 36 = τ.2.1 36) : ICls σ' τ' := by
  have r3 : rws σ' 3 = rws σ 3 := by unfold rws; rw [show 3 * 3 + 2 = 11 from rfl, e1]
  have r4 : rws σ' 4 = rws σ 4 := by unfold rws; rw [show 3 * 4 + 2 = 14 from rfl, e2]
  have r5 : rws σ' 5 = rws σ 5 := by unfold rws; rw [show 3 * 5 + 2 = 17 from rfl, e3]
  have c4 : ∀ i c, cel σ' 4 i c = cel σ 4 i c := fun i c => by unfold cel; rw [e4]
  have c5 : ∀ i c, cel σ' 5 i c = cel σ 5 i c := fun i c => by unfold cel; rw [e5]
  have cb : ∀ t, cB τ' t = cB τ t := fun t => by unfold cB; rw [s.ecM]
  unfold ICls Cls Cod
  simp only [r3, r4, r5, c4, c5, cb, s.ecM, e6, e7, s.2 30 (by omega) (by omega), s.2 31 (by omega) (by omega), s.2 32 (by omega) (by omega)]
  exact h
theorem lit_gix {X : Type} (c n : Nat) (o : Option X) (h : c < n) (hn : n < 2147483648) : gix (OfNat.ofNat c) n o = o := gix_n (j := c) h hn
theorem lit_wr (σ : CS) (a c : Nat) (v : Int32) (h : c < 2147483648) : wr σ a (OfNat.ofNat c) v = sA σ a (upd (σ.2.1 a) c v) := wrn (j := c) h σ a v
theorem lit_rd (σ : CS) (a c : Nat) (h : c < 2147483648) : rd σ a (OfNat.ofNat c) = σ.2.1 a c := rdn (j := c) h σ a
/-- what the words of the texts count on -/
def fcts (σ : CS) (d : Nat) (p : Nat) (v : Int32) (g : Nat) : Int32 := if g = 0 then cel σ 10 d 5 else if g = 1 then (cel σ 10 d 4 / 30) - (cel σ 10 d 4 / 30) / 12 * 12 else if g = 2 then cel σ 6 p 0 else if g = 3 then cel σ 10 d 4 / 360 else if g = 4 then (if v = 1 then 1 else 0) else (if v = 2 then 1 else 0)
theorem words_ag {σ τ : CS} (hW : WC σ) (hM : IMar σ τ) (hR : IRin σ τ) (hT : ITxt σ τ) (hC : ICls σ τ) (hP : IPeo σ τ) (hD : IDee σ τ) {d : Nat} (hd : d < rws σ 10) :
    ∃ v σ' τ', f_Courts_hearLaws (nI d) σ = some (0, σ') ∧ f_M_words (nI d) τ = some (0, τ') ∧ FrC [53, 54] [20, 21] σ σ' ∧ FrM [9, 56, 57, 58, 59] [8, 37, 55] τ τ' ∧ WR σ' τ' τ (rws σ 3) ∧ FR σ' τ' (cel σ 10 d 5) ∧ (v = 0 ∨ v = 1 ∨ v = 2) ∧ σ'.2.1 21 4 = (if v = 1 then 1 else 0) ∧ σ'.2.1 21 5 = (if v = 2 then 1 else 0) ∧ f_Ground_placeOn (cel σ 10 d 4) (cel σ 10 d 2) (cel σ 10 d 3) σ = some (v, σ) := by
  have h60 : rws σ 10 ≤ 60 := hW.hlim (t := 10) (by omega)
  have h40 : rws σ 6 ≤ 40 := hW.hlim (t := 6) (by omega)
  have h10 : rws σ 3 ≤ 10 := hW.hlim (t := 3) (by omega)
  obtain ⟨d1, d2, d3, d4, d5, d6, ⟨p, hp, d7⟩, ⟨ac, hac, d8⟩, d9, d10, ⟨dy, hdy, d11⟩, d12⟩ := hD.2 d hd
  obtain ⟨v, τ1, p1, p2, p3, p4⟩ := place_ag hW hM hR (cel σ 10 d 4) d9.b999 d10.b999
  have s1 : SmT τ τ1 := SmT.of p3 (by decide) (by decide)
  -- the state of the class with its facts
  obtain ⟨σ1, hσ1⟩ : ∃ s : CS, s = sA (sA (sA (sA (sA (sA σ 21 (upd (σ.2.1 21) 0 (cel σ 10 d 5))) 21 (upd (upd (σ.2.1 21) 0 (cel σ 10 d 5)) 1 ((cel σ 10 d 4 / 30) - (cel σ 10 d 4 / 30) / 12 * 12))) 21 (upd (upd (upd (σ.2.1 21) 0 (cel σ 10 d 5)) 1 ((cel σ 10 d 4 / 30) - (cel σ 10 d 4 / 30) / 12 * 12)) 2 (cel σ 6 p 0))) 21 (upd (upd (upd (upd (σ.2.1 21) 0 (cel σ 10 d 5)) 1 ((cel σ 10 d 4 / 30) - (cel σ 10 d 4 / 30) / 12 * 12)) 2 (cel σ 6 p 0)) 3 (cel σ 10 d 4 / 360))) 21 (upd (upd (upd (upd (upd (σ.2.1 21) 0 (cel σ 10 d 5)) 1 ((cel σ 10 d 4 / 30) - (cel σ 10 d 4 / 30) / 12 * 12)) 2 (cel σ 6 p 0)) 3 (cel σ 10 d 4 / 360)) 4 (if v = 1 then 1 else 0))) 21 (upd (upd (upd (upd (upd (upd (σ.2.1 21) 0 (cel σ 10 d 5)) 1 ((cel σ 10 d 4 / 30) - (cel σ 10 d 4 / 30) / 12 * 12)) 2 (cel σ 6 p 0)) 3 (cel σ 10 d 4 / 360)) 4 (if v = 1 then 1 else 0)) 5 (if v = 2 then 1 else 0)) := ⟨_, rfl⟩
  have fr1 : FrC [53, 54] [20, 21] σ σ1 := by
    rw [hσ1]
    exact (FrC.f2 _ _ (by decide)).trans ((FrC.f2 _ _ (by decide)).trans ((FrC.f2 _ _ (by decide)).trans ((FrC.f2 _ _ (by decide)).trans ((FrC.f2 _ _ (by decide)).trans (FrC.f2 _ _ (by decide))))))
  have W1 : WC σ1 := hW.fr fr1 (by decide) (by decide)
  obtain ⟨F, τ2, f1, f2, f3, f4, f5⟩ := force_ag W1 (hT.fr (fr1.1 11 (by decide)) (fr1.2 3 (by decide)).1 s1) (cel σ 10 d 4)
  have fr2 : FrM [9, 56, 57, 58, 59] [8, 37, 55] τ τ2 := (p3.mono (by decide) (by decide)).trans (f4.mono (by simp) (by decide))
  have er31 : rws σ1 3 = rws σ 3 := fr1.fr (by decide)
  have hf1 : ∀ g, g < 6 → σ1.2.1 21 g = fcts σ d p v g := by
    intro g hg
    rw [hσ1]
    unfold fcts
    obtain rfl | rfl | rfl | rfl | rfl | rfl : g = 0 ∨ g = 1 ∨ g = 2 ∨ g = 3 ∨ g = 4 ∨ g = 5 := by omega
    all_goals simp only [va_up, upd, reduceIte, Nat.reduceEqDiff]
  have eHL : f_Courts_hearLaws (nI d) σ = bnd (f_Laws_hear (nI ac) (cel σ 10 d 4) σ1) (fun _ σ152 => some (0, σ152)) := by
    unfold f_Courts_hearLaws B_Courts_hearLaws_130 B_Courts_hearLaws_149
    simp only [tb_gl hW 10 (by omega) d 4 hd (by decide), tb_gl hW 10 (by omega) d 2 hd (by decide), tb_gl hW 10 (by omega) d 3 hd (by decide), tb_gl hW 10 (by omega) d 5 hd (by decide), bnd_s, p1, ft_pl _ 0 (show 0 < 6 by omega), ft_pl _ 1 (show 1 < 6 by omega), ft_pl _ 2 (show 2 < 6 by omega), ft_pl _ 3 (show 3 < 6 by omega), ft_pl _ 4 (show 4 < 6 by omega), ft_pl _ 5 (show 5 < 6 by omega)]
    have a1 : ∀ s : CS, FrC [53, 54] [20, 21] σ s → f_Table_get 10 (nI d) 0 s = some (nI p, s) ∧ f_Table_get 6 (nI p) 0 s = some (cel σ 6 p 0, s) ∧ f_Table_get 10 (nI d) 1 s = some (nI ac, s) := by
      intro s fs
      have Ws : WC s := hW.fr fs (by decide) (by decide)
      rw [tb_gl Ws 10 (by omega) d 0 (by rw [fs.fr (by decide)]; exact hd) (by decide), tb_gl Ws 10 (by omega) d 1 (by rw [fs.fr (by decide)]; exact hd) (by decide), tb_gl Ws 6 (by omega) p 0 (by rw [fs.fr (by decide)]; exact hp) (by decide), fs.fc (by decide), fs.fc (by decide), fs.fc (by decide), d7, d8]
      exact ⟨rfl, rfl, rfl⟩
    rw [(a1 _ ((FrC.f2 _ _ (by decide)).trans (FrC.f2 _ _ (by decide)))).1, bnd_s, (a1 _ ((FrC.f2 _ _ (by decide)).trans (FrC.f2 _ _ (by decide)))).2.1, bnd_s]
    have e6 : (if v = 1 then (if v = 2 then bnd (f_Table_get 10 (nI d) 1 σ1) (fun r144 σ144 => bnd (f_Laws_hear r144 (cel σ 10 d 4) σ144) (fun _ σ152 => some ((0 : Int32), σ152))) else bnd (f_Table_get 10 (nI d) 1 σ1) (fun r144 σ144 => bnd (f_Laws_hear r144 (cel σ 10 d 4) σ144) (fun _ σ152 => some ((0 : Int32), σ152)))) else (if v = 2 then bnd (f_Table_get 10 (nI d) 1 σ1) (fun r144 σ144 => bnd (f_Laws_hear r144 (cel σ 10 d 4) σ144) (fun _ σ152 => some ((0 : Int32), σ152))) else bnd (f_Table_get 10 (nI d) 1 σ1) (fun r144 σ144 => bnd (f_Laws_hear r144 (cel σ 10 d 4) σ144) (fun _ σ152 => some ((0 : Int32), σ152))))) = bnd (f_Laws_hear (nI ac) (cel σ 10 d 4) σ1) (fun _ σ152 => some (0, σ152)) := by
      rw [(a1 σ1 fr1).2.2, bnd_s, ite_self, ite_self]
    rw [← e6, hσ1]
    simp only [va_up, reduceIte]
    rcases p4 with z | z | z
    · rw [z]; rfl
    · rw [z]; rfl
    · rw [z]; rfl
  -- the reference
  obtain ⟨τ3, hτ3⟩ : ∃ t : CS, t = sF (sF (sF (sF τ2 56 (-1)) 57 (-1)) 59 0) 58 (cel σ 10 d 5) := ⟨_, rfl⟩
  have fr3 : FrM [9, 56, 57, 58, 59] [8, 37, 55] τ τ3 := by
    rw [hτ3]
    exact fr2.trans ((FrM.f1 _ _ (by decide)).trans ((FrM.f1 _ _ (by decide)).trans ((FrM.f1 _ _ (by decide)).trans (FrM.f1 _ _ (by decide)))))
  have eMW : f_M_words (nI d) τ = L_M_words_43 (nI d) v FU 0 τ3 := by
    unfold f_M_words f_M_deedPlace
    rw [gix_n (show d < 60 by omega) (by omega), gix_n (show d < 60 by omega) (by omega), gix_n (show d < 60 by omega) (by omega), rdn (by omega), rdn (by omega), rdn (by omega), d3, d4, d5, p2, bnd_s, bnd_s, gix_n (show d < 60 by omega) (by omega), rdn (by omega), p3.2 53 (by decide), d5, f2, bnd_s, gix_n (show d < 60 by omega) (by omega), rdn (by omega), fr2.2 54 (by decide), d6, hτ3]
  have s3 : SmT τ τ3 := SmT.of fr3 (by decide) (by decide)
  have hT1 : ITxt (sF (sF σ1 53 (-1)) 54 (-1)) τ3 := hT.fr (fr1.1 11 (by decide)) (fr1.2 3 (by decide)).1 s3
  have hC1 : ICls (sF (sF σ1 53 (-1)) 54 (-1)) τ3 := hC.fr (fr1.1 11 (by decide)) (fr1.1 14 (by decide)) (fr1.1 17 (by decide)) (fr1.2 4 (by decide)).1 (fr1.2 5 (by decide)).1 s3 (fr3.2 35 (by decide)) (fr3.2 36 (by decide))
  have er3 : rws (sF (sF σ1 53 (-1)) 54 (-1)) 3 = rws σ 3 := by rw [sF_rw _ (by omega) _ (by omega), sF_rw _ (by omega) _ (by omega), fr1.fr (by decide)]
  have hf2 : ∀ g, g < 6 → ∀ τ', FrM [56, 57, 58, 59] [55] τ3 τ' → f_M_valueOf (nI g) (nI d) v τ' = some (fcts σ d p v g, τ') := by
    intro g hg τ' fr'
    have fr4 : FrM [9, 56, 57, 58, 59] [8, 37, 55] τ τ' := fr3.trans (fr'.mono (by decide) (by decide))
    unfold f_M_valueOf fcts
    simp only [some_ite, gix_n (show d < 60 by omega) (show 60 < 2147483648 by omega), rdn (show d < 2147483648 by omega), fr4.2 54 (by decide), fr4.2 53 (by decide), fr4.2 49 (by decide), d1, d5, d6, d7, gix_n (show p < 40 by omega) (show 40 < 2147483648 by omega), rdn (show p < 2147483648 by omega), fr4.2 40 (by decide), (hP.2 p hp).1]
    generalize (if v = 1 then (1 : Int32) else 0) = a4
    generalize (if v = 2 then (1 : Int32) else 0) = a5
    obtain rfl | rfl | rfl | rfl | rfl | rfl : g = 0 ∨ g = 1 ∨ g = 2 ∨ g = 3 ∨ g = 4 ∨ g = 5 := by omega
    · rw [if_pos (by decide), if_pos rfl]
    · rw [if_neg (by decide), if_pos (by decide), if_neg (by decide), if_pos rfl]
    · rw [if_neg (by decide), if_neg (by decide), if_pos (by decide), if_neg (by decide), if_neg (by decide), if_pos rfl]
    · rw [if_neg (by decide), if_neg (by decide), if_neg (by decide), if_pos (by decide), if_neg (by decide), if_neg (by decide), if_neg (by decide), if_pos rfl]
    · rw [if_neg (by decide), if_neg (by decide), if_neg (by decide), if_neg (by decide), if_pos (by decide), if_neg (by decide), if_neg (by decide), if_neg (by decide), if_neg (by decide), if_pos rfl]
    · rw [if_neg (by decide), if_neg (by decide), if_neg (by decide), if_neg (by decide), if_neg (by decide), if_neg (by decide), if_neg (by decide), if_neg (by decide), if_neg (by decide), if_neg (by decide)]
  obtain ⟨σ', τ', g1, g2, g3, g4, g5, g6⟩ := hear_all (σ0 := sF (sF σ1 53 (-1)) 54 (-1)) (τ0 := τ3) (d := d) (ac := ac) (T := rws σ 3) (F := F) (st := v) (many := cel σ 10 d 5) (fv := fcts σ d p v) (sF_W (sF_W W1 (by omega) _) (by omega) _) hT1 hC1 er3.symm f3 (fun o ho => by rw [er3] at ho; rw [hτ3]; exact f5 o (by rw [er31]; exact ho)) (by omega) hac (by rw [fr3.2 50 (by decide), d2, d8]) (by rw [fr3.2 54 (by decide), d6]) hf1 hf2 (rws σ 3) 0 FU FU (sF (sF σ1 53 (-1)) 54 (-1)) τ3 (by omega) (lt_FU (by omega)) (lt_FU (by omega)) (FrC.refl _ _ _) (FrM.refl _ _ _) (Or.inl ⟨by simp only [va_up, reduceIte, Nat.reduceEqDiff], by rw [hτ3]; simp only [va_up, reduceIte, Nat.reduceEqDiff], by rw [hτ3]; simp only [va_up, reduceIte, Nat.reduceEqDiff]⟩) (Or.inl ⟨by simp only [va_up, reduceIte], by rw [hτ3]; simp only [va_up, reduceIte]⟩)
  have cbe : ∀ t, cB τ3 t = cB τ t := fun t => by unfold cB; rw [s3.ecM]
  refine ⟨v, σ', τ', ?_, ?_, ?_, fr3.trans (g4.mono (by decide) (by decide)), ?_, g6, p4, ?_, ?_, p1⟩
  · rw [eHL]
    unfold f_Laws_hear
    rw [f1, bnd_s]
    have g1' : L_Laws_hear_20 (nI ac) (nI F) FU 0 (sF (sF σ1 53 (-1)) 54 (-1)) = some (0, σ') := g1
    rw [g1', bnd_s]
  · rw [eMW]; exact g2
  · exact fr1.trans (((FrC.f1 _ _ (by decide)).trans (FrC.f1 _ _ (by decide))).trans (g3.mono (by decide) (by decide)))
  · unfold WR at g5 ⊢
    simp only [s3.ecM, cbe, s3.2 30 (by omega) (by omega)] at g5
    exact g5
  · rw [(g3.2 21 (by decide)).1]; exact hf1 4 (by omega)
  · rw [(g3.2 21 (by decide)).1]; exact hf1 5 (by omega)

theorem isDe_m {σ τ : CS} (hW : WC σ) (hD : IDee σ τ) {j : Nat} (hj : j < rws σ 10) : f_M_isDeed (nI j) τ = some (1, sF τ 0 0) := by
  have := hW.hr4 (t := 10) (by omega)
  unfold f_M_isDeed B_M_isDeed_20
  rw [hD.1, fm_idx1 hj (by omega), bnd_s, if_neg i10, if_pos rfl]
theorem isDe_m0 {σ τ : CS} (hW : WC σ) (hD : IDee σ τ) {x : Int32} (hj : ¬ ∃ j, j < rws σ 10 ∧ x = nI j) : f_M_isDeed x τ = some (0, sF τ 0 1) := by
  have := hW.hr4 (t := 10) (by omega)
  unfold f_M_isDeed B_M_isDeed_20
  rw [hD.1, fm_idx0 (by omega) hj, bnd_s, if_pos rfl, if_neg i10]
abbrev JWor (σ τ σ1 τ1 : CS) : Prop := WC σ1 ∧ FrC [53, 54] [20, 21] σ σ1 ∧ FrM [0, 9, 56, 57, 58, 59] [8, 37, 55] τ τ1
theorem pm_why {σ τ : CS} (hW : WC σ) (hM : IMar σ τ) (hR : IRin σ τ) (hT : ITxt σ τ) (hC : ICls σ τ) (hP : IPeo σ τ) (hD : IDee σ τ) (a0 : Int32) : AgX (f_FC_why a0 σ) (f_M_why a0 τ) (fun c0 => c0 = 0 ∨ c0 = 3) (fun c0 => (if c0 = 0 then (0 : Int32) else 1)) (JWor σ τ) := by
  unfold f_FC_why f_M_why
  by_cases q0 : ∃ j, j < rws σ 10 ∧ a0 = nI j
  · obtain ⟨j, hj, rfl⟩ := q0
    have h10 : rws σ 3 ≤ 10 := hW.hlim (t := 3) (by omega)
    have h120 : rws σ 4 ≤ 120 := hW.hlim (t := 4) (by omega)
    have s0 : SmT τ (sF τ 0 0) := ⟨rfl, fun _ _ _ => rfl⟩
    obtain ⟨v, σ', τ', g1, g2, g3, g4, g5, -⟩ := words_ag hW (IMar.thr τ 0 hM) (IRin.thr τ 0 hR) (ITxt.thr τ 0 hT) (hC.fr rfl rfl rfl rfl rfl s0 rfl rfl) (hP.thr 0) (IDee.thr τ 0 hD) hj
    have W' : WC σ' := hW.fr g3 (by decide) (by decide)
    simp only [tb_has1 hW 10 (by omega) hj, isDe_m hW hD hj, bnd_s, if_neg i10, g1, g2]
    have t0 : τ'.1 0 = 0 := by rw [g4.1 0 (by decide)]; rfl
    have J : JWor σ τ σ' τ' := ⟨W', g3, (FrM.f1 _ _ (by decide)).trans (g4.mono (by decide) (by decide))⟩
    rcases g5 with ⟨x1, x2, x3⟩ | ⟨t, k, y1, y2, y3, y4, y5, y6⟩
    · have eC : f_Laws_wordNumber σ' = some (-1, σ') := by unfold f_Laws_wordNumber; rw [x1, if_pos rfl]
      rw [eC, bnd_s, x2, if_neg (by decide)]
      exact AgX.mk 0 _ σ' _ τ' rfl (Or.inl rfl) rfl t0 (fun _ => rfl) J
    · have ht : t < rws σ 3 := y1
      have hk : k < cM τ t := y2
      have hcb := cB_le τ ht
      rw [← hC.1] at hcb
      have y3' : σ'.1 53 = nI (cB τ t + k) := y3
      have hrow : cB τ t + k < rws σ' 4 := by rw [g3.fr (by decide)]; omega
      obtain ⟨c1, c2, -⟩ := hC.2.2 t ht k hk
      have eC : f_Laws_wordNumber σ' = some (100 * nI t + nI k, σ') := by
        unfold f_Laws_wordNumber
        rw [y3', if_neg (nI_neg1 (by omega)), tb_gl W' 4 (by omega) _ 0 hrow (by decide), bnd_s, y3', tb_gl W' 4 (by omega) _ 1 hrow (by decide), bnd_s, g3.fc (by decide), g3.fc (by decide), c1, c2]
      rw [eC, bnd_s, y4, y5, if_pos (nI_pos' (by omega))]
      exact AgX.mk 0 _ σ' _ τ' rfl (Or.inl rfl) rfl t0 (fun _ => rfl) J
  · simp only [tb_has0 hW 10 (by omega) q0, isDe_m0 hW hD q0, bnd_s, if_true]
    exact AgX.mk 3 0 σ 0 _ rfl (Or.inr rfl) rfl rfl (fun z => absurd z (by decide)) ⟨hW, FrC.refl _ _ _, FrM.f1 _ _ (by decide)⟩
/-- the fine, in both -/
theorem fine_ag {σ τ : CS} (hW : WC σ) (hM : IMar σ τ) (hR : IRin σ τ) (hT : ITxt σ τ) (hC : ICls σ τ) (hP : IPeo σ τ) (hD : IDee σ τ) {d : Nat} (hd : d < rws σ 10) : ∃ a σ' τ', a ≤ 10000 ∧ f_Courts_fineOf (nI d) σ = some (nI a, σ') ∧ f_M_words (nI d) τ = some (0, τ') ∧ τ'.1 58 = nI a ∧ WC σ' ∧ FrC [53, 54] [20, 21] σ σ' ∧ FrM [9, 56, 57, 58, 59] [8, 37, 55] τ τ' := by
  obtain ⟨v, σ', τ', g1, g2, g3, g4, g5, g6, -⟩ := words_ag hW hM hR hT hC hP hD hd
  have W' : WC σ' := hW.fr g3 (by decide) (by decide)
  obtain ⟨m, hm, em⟩ := (hD.2 d hd).2.2.2.2.2.2.2.2.2.2.2
  have eC : f_Courts_fineOf (nI d) σ = some ((if σ'.1 54 = -1 then nI m else σ'.1 54), σ') := by
    unfold f_Courts_fineOf f_Laws_fineOr
    rw [g1, bnd_s, tb_gl W' 10 (by omega) d 5 (by rw [g3.fr (by decide)]; exact hd) (by decide), bnd_s, g3.fc (by decide), em, some_ite, bnd_s]
  rcases g6 with ⟨x1, x2⟩ | ⟨a, x0, x1, x2⟩
  · exact ⟨m, σ', τ', by omega, by rw [eC, x1, if_pos rfl], g2, by rw [x2, em], W', g3, g4⟩
  · exact ⟨a, σ', τ', x0, by rw [eC, x1, if_neg (nI_neg1 (by omega))], g2, x2, W', g3, g4⟩
theorem pm_fine {σ τ : CS} (hW : WC σ) (hM : IMar σ τ) (hR : IRin σ τ) (hT : ITxt σ τ) (hC : ICls σ τ) (hP : IPeo σ τ) (hD : IDee σ τ) (a0 : Int32) : AgX (f_FC_fine a0 σ) (f_M_fine a0 τ) (fun c0 => c0 = 0 ∨ c0 = 3) (fun c0 => (if c0 = 0 then (0 : Int32) else 1)) (JWor σ τ) := by
  unfold f_FC_fine f_M_fine
  by_cases q0 : ∃ j, j < rws σ 10 ∧ a0 = nI j
  · obtain ⟨j, hj, rfl⟩ := q0
    have s0 : SmT τ (sF τ 0 0) := ⟨rfl, fun _ _ _ => rfl⟩
    obtain ⟨a, σ', τ', g0, g1, g2, g3, g4, g5, g6⟩ := fine_ag hW (IMar.thr τ 0 hM) (IRin.thr τ 0 hR) (ITxt.thr τ 0 hT) (hC.fr rfl rfl rfl rfl rfl s0 rfl rfl) (hP.thr 0) (IDee.thr τ 0 hD) hj
    simp only [tb_has1 hW 10 (by omega) hj, isDe_m hW hD hj, bnd_s, if_neg i10, g1, g2]
    exact AgX.mk 0 _ σ' _ τ' rfl (Or.inl rfl) rfl (by rw [g6.1 0 (by decide)]; rfl) (fun _ => g3.symm) ⟨g4, g5, (FrM.f1 _ _ (by decide)).trans (g6.mono (by decide) (by decide))⟩
  · simp only [tb_has0 hW 10 (by omega) q0, isDe_m0 hW hD q0, bnd_s, if_true]
    exact AgX.mk 3 0 σ 0 _ rfl (Or.inr rfl) rfl rfl (fun z => absurd z (by decide)) ⟨hW, FrC.refl _ _ _, FrM.f1 _ _ (by decide)⟩
