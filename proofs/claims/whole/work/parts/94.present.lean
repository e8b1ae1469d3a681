/-! ===== layer 2: a presentment ===== -/
theorem App.ptO {σ σ' : CS} {t : Nat} {row : Nat → Int32} (h : App σ t row σ') {u : Nat} (hu : u ≠ t) (i c : Nat) (v : Int32) : App (pt σ u i c v) t row (pt σ' u i c v) := by
  obtain ⟨h1, h2, h3, h4, h5, h6⟩ := h
  refine ⟨pt_W h1 _ _ _ _, h2, h3, fun a ha => ⟨?_, (h4 a ha).2⟩, fun d hd => ?_, fun j d hj hd => ?_⟩
  · by_cases q : a = u
    · subst q
      simp only [pt, va_up, if_true, (h4 a ha).1]
    · rw [pt_arr _ _ _ _ _ _ q, pt_arr _ _ _ _ _ _ q]
      exact (h4 a ha).1
  · rw [pt_other _ _ _ _ _ _ _ _ (Ne.symm hu)]
    exact h5 d hd
  · rw [pt_other _ _ _ _ _ _ _ _ (Ne.symm hu), pt_other _ _ _ _ _ _ _ _ (Ne.symm hu)]
    exact h6 j d hj hd
theorem zer_loop {σ0 : CS} : ∀ m c fu row σ, c + m = 8 → m < fu → App σ0 11 row σ → ∃ σ' row', L_Courts_addPresentment_218 (nI (rws σ0 11)) fu (nI c) σ = some (nI (rws σ0 11), σ') ∧ App σ0 11 row' σ' ∧ ∀ e, row' e = if c ≤ e ∧ e < 8 then 0 else row e := by
  intro m
  induction m with
  | zero =>
    intro c fu row σ hc hf hA
    obtain ⟨f, rfl⟩ : ∃ q, fu = q + 1 := ⟨fu - 1, by omega⟩
    have : c = 8 := by omega
    subst this
    refine ⟨σ, row, ?_, hA, fun e => by rw [if_neg (by omega)]⟩
    rw [L_Courts_addPresentment_218, if_pos (by decide)]
  | succ m ih =>
    intro c fu row σ hc hf hA
    obtain ⟨f, rfl⟩ : ∃ q, fu = q + 1 := ⟨fu - 1, by omega⟩
    obtain ⟨e1, A1⟩ := tb_putA hA (by omega) c (show c < 13 by omega) 0 (ci := nI c) rfl
    obtain ⟨σ', row', g1, g2, g3⟩ := ih (c + 1) f _ _ (by omega) (by omega) A1
    refine ⟨σ', row', ?_, g2, fun e => ?_⟩
    · rw [L_Courts_addPresentment_218, if_neg (fun z => absurd ((lit_lt 7 (by omega) (by omega)).1 z) (by omega)), e1, bnd_s, nI_1]
      exact g1
    · rw [g3 e]
      unfold upd
      by_cases q : e = c
      · rw [if_neg (by omega), if_pos q, if_pos (by omega)]
      · rw [if_neg q]
        by_cases q2 : c + 1 ≤ e ∧ e < 8
        · rw [if_pos q2, if_pos (by omega)]
        · rw [if_neg q2, if_neg (by omega)]
theorem add_case {σ : CS} (hW : WC σ) {d : Nat} (hd : d < rws σ 10) (hr : rws σ 11 < 40) (ac x2 x3 x4 : Int32) : ∃ σf row, bnd (f_Table_add 11 σ) (fun r100 σ100 => bnd (f_Table_put 10 (nI d) 6 r100 σ100) (fun _ σ114 => bnd (f_Table_put 11 r100 0 0 σ114) (fun _ σ125 => bnd (f_Table_put 11 r100 1 ac σ125) (fun _ σ137 => bnd (f_Table_put 11 r100 2 (σ137.1 62) σ137) (fun _ σ151 => bnd (f_Table_put 11 r100 8 (nI d) σ151) (fun _ σ163 => bnd (f_Table_put 11 r100 9 x2 σ163) (fun _ σ175 => bnd (f_Table_put 11 r100 10 x3 σ175) (fun _ σ187 => bnd (f_Table_put 11 r100 11 x4 σ187) (fun _ σ200 => bnd (f_Table_put 11 r100 12 0 σ200) (fun _ σ212 => L_Courts_addPresentment_218 r100 FU 4 σ212)))))))))) = some (nI (rws σ 11), σf) ∧ App (pt σ 10 d 6 (nI (rws σ 11))) 11 row σf ∧ row 0 = 0 ∧ row 1 = ac ∧ row 2 = σ.1 62 ∧ row 3 = -1 ∧ (∀ q, q < 3 → row (4 + q) = 0) ∧ row 7 = 0 ∧ row 8 = nI d ∧ row 9 = x2 ∧ row 10 = x3 ∧ row 11 = x4 ∧ row 12 = 0 := by
  obtain ⟨σa, ea, Aa⟩ := tb_add hW 11 (by omega) hr
  have r10 : rws σa 10 = rws σ 10 := Aa.fr.fr (by decide)
  have eb := tb_pl Aa.1 10 (by omega) d 6 (by omega) (by decide) (nI (rws σ 11))
  have Ab := Aa.ptO (u := 10) (by omega) d 6 (nI (rws σ 11))
  have e62 : σa.1 62 = σ.1 62 := Aa.2.2.1 62 (by omega)
  obtain ⟨e2, A2⟩ := tb_putA Ab (by omega) 0 (by decide) 0 (ci := 0) rfl
  obtain ⟨e3, A3⟩ := tb_putA A2 (by omega) 1 (by decide) ac (ci := 1) rfl
  obtain ⟨e4, A4⟩ := tb_putA A3 (by omega) 2 (by decide) (σ.1 62) (ci := 2) rfl
  obtain ⟨e5, A5⟩ := tb_putA A4 (by omega) 8 (by decide) (nI d) (ci := 8) rfl
  obtain ⟨e6, A6⟩ := tb_putA A5 (by omega) 9 (by decide) x2 (ci := 9) rfl
  obtain ⟨e7, A7⟩ := tb_putA A6 (by omega) 10 (by decide) x3 (ci := 10) rfl
  obtain ⟨e8, A8⟩ := tb_putA A7 (by omega) 11 (by decide) x4 (ci := 11) rfl
  obtain ⟨e9, A9⟩ := tb_putA A8 (by omega) 12 (by decide) 0 (ci := 12) rfl
  obtain ⟨σf, row, g1, g2, g3⟩ := zer_loop 4 4 FU _ _ (by omega) (lt_FU (by omega)) A9
  have g1' : L_Courts_addPresentment_218 (nI (rws (pt σ 10 d 6 (nI (rws σ 11))) 11)) FU 4 _ = _ := g1
  simp only [pt_rws] at e2 e3 e4 e5 e6 e7 e8 e9 g1'
  refine ⟨σf, row, ?_, g2, ?_⟩
  · simp only [ea, bnd_s, eb, e2, e3, pt_1, e62, e4, e5, e6, e7, e8, e9, g1']
  · refine ⟨by rw [g3]; rfl, by rw [g3]; rfl, by rw [g3]; rfl, by rw [g3]; rfl, fun q hq => by rw [g3, if_pos (by omega)], by rw [g3]; rfl, by rw [g3]; rfl, by rw [g3]; rfl, by rw [g3]; rfl, by rw [g3]; rfl, by rw [g3]; rfl⟩
theorem pres_no {τ : CS} {n : Nat} (hn : n ≤ 40) (e : τ.1 60 = nI n) (K : Int32 → Int32 → Int32 → Int32 → CS → Option (Int32 × CS)) (x1 x2 x3 x4 : Int32) : ∀ m i fu, i + m = n → m < fu → (∀ k, i ≤ k → k < n → τ.2.1 61 k ≠ x1) → L_M_present_79 K x1 x2 x3 x4 fu (nI i) τ = K x1 x2 x3 x4 τ := by
  intro m
  induction m with
  | zero =>
    intro i fu hi hf _
    obtain ⟨f, rfl⟩ : ∃ q, fu = q + 1 := ⟨fu - 1, by omega⟩
    have : i = n := by omega
    subst this
    rw [L_M_present_79, e, if_pos ((nI_leI (by omega) (by omega)).2 (Nat.le_refl _))]
  | succ m ih =>
    intro i fu hi hf h
    obtain ⟨f, rfl⟩ : ∃ q, fu = q + 1 := ⟨fu - 1, by omega⟩
    rw [L_M_present_79, e, if_neg (fun z => absurd ((nI_leI (by omega) (by omega)).1 z) (by omega)), gix_n (by omega) (by omega), rdn (by omega), if_neg (h i (Nat.le_refl _) (by omega)), nI_1]
    exact ih (i + 1) f (by omega) (by omega) (fun k h1 h2 => h k (by omega) h2)
theorem pres_yes {τ : CS} {n : Nat} (hn : n ≤ 40) (e : τ.1 60 = nI n) (K : Int32 → Int32 → Int32 → Int32 → CS → Option (Int32 × CS)) (x1 x2 x3 x4 : Int32) {k : Nat} (hk : k < n) (ek : τ.2.1 61 k = x1) : ∀ m i fu, i + m = k → m < fu → L_M_present_79 K x1 x2 x3 x4 fu (nI i) τ = some (-2, τ) := by
  intro m
  induction m with
  | zero =>
    intro i fu hi hf
    obtain ⟨f, rfl⟩ : ∃ q, fu = q + 1 := ⟨fu - 1, by omega⟩
    have : i = k := by omega
    subst this
    rw [L_M_present_79, e, if_neg (fun z => absurd ((nI_leI (by omega) (by omega)).1 z) (by omega)), gix_n (by omega) (by omega), rdn (by omega), if_pos ek]
  | succ m ih =>
    intro i fu hi hf
    obtain ⟨f, rfl⟩ : ∃ q, fu = q + 1 := ⟨fu - 1, by omega⟩
    rw [L_M_present_79, e, if_neg (fun z => absurd ((nI_leI (by omega) (by omega)).1 z) (by omega)), gix_n (by omega) (by omega), rdn (by omega), nI_1]
    by_cases q : τ.2.1 61 i = x1
    · rw [if_pos q]
    · rw [if_neg q]
      exact ih (i + 1) f (by omega) (by omega)
theorem cas_new {σ τ0 σ1 τ' σf : CS} {row : Nat → Int32} {d w p q ac : Nat} (hW : WC σ) (hK : ICas σ τ0) (hr : rws σ 11 < 40) (f1 : FrC [53, 54] [20, 21] σ σ1) (f2 : FrM [9, 56, 57, 58, 59] [8, 37, 55] τ0 τ') (hd : d < rws σ 10) (hw : w < rws σ 9) (hp : p < rws σ 6) (hq : q < rws σ 6) (hac : ac < rws σ 6) (hT2 : Rg (σ.1 62) 100000)
    (hA : App (pt σ1 10 d 6 (nI (rws σ 11))) 11 row σf) (r0 : row 0 = 0) (r1 : row 1 = nI ac) (r2 : row 2 = σ.1 62) (r3 : row 3 = -1) (r4 : ∀ q, q < 3 → row (4 + q) = 0) (r7 : row 7 = 0) (r8 : row 8 = nI d) (r9 : row 9 = nI w) (r10 : row 10 = nI p) (r11 : row 11 = nI q) (r12 : row 12 = 0) (hnc : ∀ k, k < rws σ 11 → cel σ 11 k 8 ≠ nI d) {τf : CS}
    (t60 : τf.1 60 = nI (rws σ 11 + 1)) (t61 : τf.2.1 61 = upd (τ'.2.1 61) (rws σ 11) (nI d)) (t62 : τf.2.1 62 = upd (τ'.2.1 62) (rws σ 11) (nI w)) (t63 : τf.2.1 63 = upd (upd (τ'.2.1 63) (2 * rws σ 11) (nI p)) (2 * rws σ 11 + 1) (nI q)) (t64 : τf.2.1 64 = upd (τ'.2.1 64) (rws σ 11) (nI ac)) (t66 : τf.2.1 66 = upd (τ'.2.1 66) (rws σ 11) (σ.1 62)) (tO : ∀ a, a = 65 ∨ a = 67 ∨ a = 68 ∨ a = 69 ∨ a = 70 → τf.2.1 a = τ'.2.1 a) : ICas σf τf := by
  have n10 : rws σf 10 = rws σ 10 := (hA.fr.fr (by decide)).trans (f1.fr (by decide))
  have n9 : rws σf 9 = rws σ 9 := (hA.fr.fr (by decide)).trans (f1.fr (by decide))
  have n6 : rws σf 6 = rws σ 6 := (hA.fr.fr (by decide)).trans (f1.fr (by decide))
  have n11 : rws σ1 11 = rws σ 11 := f1.fr (by decide)
  have s62 : σf.1 62 = σ.1 62 := (hA.fr.1 62 (by decide)).trans (f1.1 62 (by decide))
  have c10 : ∀ i c, c < 7 → cel σf 10 i c = if i = d ∧ c = 6 then nI (rws σ 11) else cel σ 10 i c := fun i c hc => by
    rw [hA.fr.fc (by decide), pt_cel _ _ _ _ _ _ _ (by decide) (show c < 7 from hc), f1.fc (by decide)]
  obtain ⟨-, b2, -, -, b5, b6⟩ := hA
  rw [pt_rws, n11] at b2 b5 b6
  have c11 : ∀ i c, i < rws σ 11 → c < 13 → cel σf 11 i c = cel σ 11 i c := fun i c hi hc => by
    rw [b6 i c hi hc, pt_other _ _ _ _ _ _ _ _ (by omega), f1.fc (by decide)]
  have fO : ∀ a, 61 ≤ a → a ≤ 70 → τ'.2.1 a = τ0.2.1 a := fun a h1 h2 => f2.2 a (by simp only [List.mem_cons, List.not_mem_nil, or_false]; omega)
  refine ⟨by rw [t60, b2], fun k hk => ?_, fun k hk1 hk2 => ?_, fun e he => ?_⟩
  · rw [b2] at hk
    by_cases qk : k = rws σ 11
    · subst qk
      obtain ⟨z1, z2, z3, z4⟩ := hK.2.2.1 (rws σ 11) (Nat.le_refl _) hr
      unfold Cas
      rw [b5 0 (by decide), b5 1 (by decide), b5 2 (by decide), b5 3 (by decide), b5 7 (by decide), b5 8 (by decide), b5 9 (by decide), b5 10 (by decide), b5 11 (by decide), b5 12 (by decide), r0, r1, r2, r3, r7, r8, r9, r10, r11, r12, t61, t62, t63, t64, t66, tO 65 (by omega), tO 67 (by omega), tO 69 (by omega), tO 70 (by omega), fO 65 (by omega) (by omega), fO 67 (by omega) (by omega), fO 69 (by omega) (by omega), fO 70 (by omega) (by omega), n10, n9, n6, s62]
      obtain ⟨t, ht, et⟩ := hT2
      refine ⟨⟨by simp [upd], d, hd, rfl⟩, ⟨by simp [upd], w, hw, rfl⟩, ⟨by simp [upd], p, hp, rfl⟩, ⟨by simp [upd], q, hq, rfl⟩, ⟨by simp [upd], ac, hac, rfl⟩, ⟨z1, 0, by omega, rfl⟩, ⟨by simp [upd], t, t, et, et, Nat.le_refl _, ht⟩, z2, fun q hq => ?_, z3, Or.inr ⟨by decide, rfl⟩⟩
      rw [b5 (4 + q) (show 4 + q < 13 by omega), r4 q hq]
      exact z4 q hq
    · have hk' : k < rws σ 11 := by omega
      obtain ⟨z1, z2, z3, z4, z5, z6, z7, z8, z9, z10, z11⟩ := hK.2.1 k hk'
      unfold Cas
      rw [c11 k 8 hk' (by omega), c11 k 9 hk' (by omega), c11 k 10 hk' (by omega), c11 k 11 hk' (by omega), c11 k 1 hk' (by omega), c11 k 0 hk' (by omega), c11 k 2 hk' (by omega), c11 k 12 hk' (by omega), c11 k 7 hk' (by omega), c11 k 3 hk' (by omega), t61, t62, t63, t64, t66, tO 65 (by omega), tO 67 (by omega), tO 68 (by omega), tO 69 (by omega), tO 70 (by omega), fO 65 (by omega) (by omega), fO 67 (by omega) (by omega), fO 68 (by omega) (by omega), fO 69 (by omega) (by omega), fO 70 (by omega) (by omega), fO 61 (by omega) (by omega), fO 62 (by omega) (by omega), fO 63 (by omega) (by omega), fO 64 (by omega) (by omega), fO 66 (by omega) (by omega), n10, n9, n6, s62]
      unfold upd
      rw [if_neg qk, if_neg qk, if_neg (by omega), if_neg (by omega), if_neg (by omega), if_neg (by omega), if_neg qk, if_neg qk]
      refine ⟨z1, z2, z3, z4, z5, z6, z7, z8, fun q hq => ?_, z10, z11⟩
      rw [c11 k (4 + q) hk' (by omega)]
      exact z9 q hq
  · rw [b2] at hk1
    obtain ⟨z1, z2, z3, z4⟩ := hK.2.2.1 k (by omega) hk2
    unfold Nul
    rw [tO 65 (by omega), tO 67 (by omega), tO 69 (by omega), tO 70 (by omega), fO 65 (by omega) (by omega), fO 67 (by omega) (by omega), fO 69 (by omega) (by omega), fO 70 (by omega) (by omega)]
    exact ⟨z1, z2, z3, z4⟩
  · rw [n10] at he
    have h60 : rws σ 10 ≤ 60 := hW.hlim (t := 10) (by omega)
    unfold Doc
    rw [c10 e 6 (by omega), b2]
    by_cases qe : e = d
    · rw [if_pos ⟨qe, rfl⟩]
      exact Or.inr ⟨rws σ 11, by omega, rfl, by rw [b5 8 (by decide), r8, qe]⟩
    · rw [if_neg (fun z => qe z.1)]
      rcases hK.2.2.2 e he with ⟨x1, x2⟩ | ⟨k, hk, x1, x2⟩
      · refine Or.inl ⟨x1, fun k hk => ?_⟩
        by_cases qk : k = rws σ 11
        · subst qk
          rw [b5 8 (by decide), r8]
          intro z
          exact qe ((nI_eq (by omega) (by omega)).1 z).symm
        · rw [c11 k 8 (by omega) (by omega)]
          exact x2 k (by omega)
      · exact Or.inr ⟨k, by omega, x1, by rw [c11 k 8 hk (by omega)]; exact x2⟩
theorem ICas.frC {I A : List Nat} {σ σ' τ : CS} (h : ICas σ τ) (f : FrC I A σ σ') (h1 : 20 ∉ I ∧ 29 ∉ I ∧ 32 ∉ I ∧ 35 ∉ I ∧ 62 ∉ I) (h2 : 10 ∉ A ∧ 11 ∉ A) : ICas σ' τ := by
  unfold ICas Cas Doc at h ⊢
  simp only [f.fr (t := 6) h1.1, f.fr (t := 9) h1.2.1, f.fr (t := 10) h1.2.2.1, f.fr (t := 11) h1.2.2.2.1, f.1 62 h1.2.2.2.2, f.fc (t := 10) h2.1, f.fc (t := 11) h2.2]
  exact h
abbrev JPre (σ τ σ1 τ1 : CS) : Prop := Jg [35, 53, 54] [10, 11, 20, 21] [0, 9, 56, 57, 58, 59, 60] [8, 37, 55, 61, 62, 63, 64, 66] ICas σ τ σ1 τ1 ∧ ∀ i c, c < 6 → cel σ1 10 i c = cel σ 10 i c
theorem pm_present {σ τ : CS} (hW : WC σ) (hM : IMar σ τ) (hR : IRin σ τ) (hT : ITxt σ τ) (hC : ICls σ τ) (hP : IPeo σ τ) (hD : IDee σ τ) (hL : ICla σ τ) (hA : IWar σ τ) (hK : ICas σ τ) (hT1 : τ.1 1 = σ.1 62) (hT2 : Rg (σ.1 62) 100000) (a0 a1 a2 a3 : Int32) : AgX (f_FC_present a0 a1 a2 a3 σ) (f_M_present a0 a1 a2 a3 τ) (fun c0 => c0 = 0 ∨ c0 = 3) (fun c0 => (if c0 = 0 then (0 : Int32) else 1)) (JPre σ τ) := by
  have h40 : rws σ 11 ≤ 40 := hW.hlim (t := 11) (by omega)
  have h60 : rws σ 10 ≤ 60 := hW.hlim (t := 10) (by omega)
  have h6 : rws σ 9 ≤ 6 := hW.hlim (t := 9) (by omega)
  have h46 : rws σ 6 ≤ 40 := hW.hlim (t := 6) (by omega)
  have e48 : (sF τ 0 0).1 48 = nI (rws σ 10) := hD.1
  have e44 : (sF τ 0 0).1 44 = nI (rws σ 9) := hA.1
  have e38 : (sF τ 0 0).1 38 = nI (rws σ 6) := hP.1
  have e44' : τ.1 44 = nI (rws σ 9) := hA.1
  have e60' : τ.1 60 = nI (rws σ 11) := hK.1
  have e48' : τ.1 48 = nI (rws σ 10) := hD.1
  have thr2 : ∀ c, JPre σ τ σ (sF (sF τ 0 0) 0 c) := fun c => ⟨Jg.thr2 hW ICas.thr hK (by decide) _ _, fun _ _ _ => rfl⟩
  have thr1 : JPre σ τ σ (sF τ 0 0) := ⟨Jg.thr hW ICas.thr hK (by decide) _, fun _ _ _ => rfl⟩
  unfold f_FC_present f_M_present
  by_cases q0 : ∃ j, j < rws σ 10 ∧ a0 = nI j
  rotate_left
  · simp only [tb_has0 hW 10 (by omega) q0, e48', fm_idx0 (by omega) q0, bnd_s, if_true, B_FC_present_32, B_FC_present_33, B_M_present_56, fm_bad1, if_neg i10]
    exact AgX.mk 3 0 σ 0 _ rfl (Or.inr rfl) rfl rfl (fun z => absurd z (by decide)) (thr2 _)
  obtain ⟨d, hd, rfl⟩ := q0
  by_cases q1 : ∃ j, j < rws σ 9 ∧ a1 = nI j
  rotate_left
  · simp only [tb_has1 hW 10 (by omega) hd, e48', fm_idx1 hd (show rws σ 10 < 2147483648 by omega), tb_has0 hW 9 (by omega) q1, e44', va_up, reduceIte, Nat.reduceEqDiff, fm_idx0 (show rws σ 9 < 2147483648 by omega) q1, bnd_s, if_true, B_FC_present_32, B_FC_present_33, B_M_present_56, fm_bad1, if_neg i10]
    exact AgX.mk 3 0 σ 0 _ rfl (Or.inr rfl) rfl rfl (fun z => absurd z (by decide)) (thr2 _)
  obtain ⟨w, hw, rfl⟩ := q1
  by_cases q2 : ∃ j, j < rws σ 6 ∧ a2 = nI j
  rotate_left
  · simp only [tb_has1 hW 10 (by omega) hd, e48', fm_idx1 hd (show rws σ 10 < 2147483648 by omega), tb_has1 hW 9 (by omega) hw, e44', va_up, reduceIte, Nat.reduceEqDiff, fm_idx1 hw (show rws σ 9 < 2147483648 by omega), tb_has0 hW 6 (by omega) q2, isPer_m0 hW e38 q2, bnd_s, if_true, B_FC_present_69, B_FC_present_70, B_FC_present_33, B_M_present_56, fm_bad1, if_neg i10]
    exact AgX.mk 3 0 σ 0 _ rfl (Or.inr rfl) rfl rfl (fun z => absurd z (by decide)) (thr2 _)
  obtain ⟨p, hp, rfl⟩ := q2
  by_cases q3 : ∃ j, j < rws σ 6 ∧ a3 = nI j
  rotate_left
  · simp only [tb_has1 hW 10 (by omega) hd, e48', fm_idx1 hd (show rws σ 10 < 2147483648 by omega), tb_has1 hW 9 (by omega) hw, e44', va_up, reduceIte, Nat.reduceEqDiff, fm_idx1 hw (show rws σ 9 < 2147483648 by omega), tb_has1 hW 6 (by omega) hp, isPer_m hW e38 hp, tb_has0 hW 6 (by omega) q3, isPer_m0 hW e38 q3, bnd_s, if_true, B_FC_present_69, B_FC_present_70, B_FC_present_33, B_M_present_56, fm_bad1, if_neg i10]
    exact AgX.mk 3 0 σ 0 _ rfl (Or.inr rfl) rfl rfl (fun z => absurd z (by decide)) (thr2 _)
  obtain ⟨q, hq, rfl⟩ := q3
  have e60 : (sF τ 0 0).1 60 = nI (rws σ 11) := hK.1
  simp only [tb_has1 hW 10 (by omega) hd, e48', fm_idx1 hd (show rws σ 10 < 2147483648 by omega), tb_has1 hW 9 (by omega) hw, e44', va_up, reduceIte, Nat.reduceEqDiff, fm_idx1 hw (show rws σ 9 < 2147483648 by omega), tb_has1 hW 6 (by omega) hp, isPer_m hW e38 hp, tb_has1 hW 6 (by omega) hq, isPer_m hW e38 hq, bnd_s, if_true, B_FC_present_70, B_FC_present_33, B_M_present_56, fm_bad0, if_neg i10, e60']
  unfold f_Courts_addPresentment
  rw [tb_full hW 11 (by omega), bnd_s, show lim 11 = 40 from rfl]
  by_cases q4 : rws σ 11 < 40
  rotate_left
  · rw [if_neg q4, if_neg i10, if_pos ((nI_full (n := 40) (L := 40) rfl h40 (by omega)).mpr q4), bnd_s]
    exact AgX.mk 0 _ σ _ _ rfl (Or.inl rfl) rfl rfl (fun _ => rfl) thr1
  rw [if_pos q4, if_pos rfl, if_neg (fun z => (nI_full (n := 40) (L := 40) rfl h40 (by omega)).mp z q4), tb_gl hW 10 (by omega) d 6 hd (by decide), bnd_s]
  have K61 : ∀ k, k < rws σ 11 → (sF τ 0 0).2.1 61 k = cel σ 11 k 8 := fun k hk => (hK.2.1 k hk).1.1
  rcases hK.2.2.2 d hd with ⟨x1, x2⟩ | ⟨k, hk, x1, x2⟩
  rotate_left
  · rw [x1, if_neg (nI_neg1 (by omega)), bnd_s]
    have this : L_M_present_79 B_M_present_108 (nI d) (nI w) (nI p) (nI q) FU 0 (sF τ 0 0) = some (-2, sF τ 0 0) := pres_yes (n := rws σ 11) h40 e60 B_M_present_108 (nI d) (nI w) (nI p) (nI q) hk ((K61 k hk).trans x2) k 0 FU (by omega) (lt_FU (by omega))
    rw [this]
    exact AgX.mk 0 _ σ _ _ rfl (Or.inl rfl) rfl rfl (fun _ => rfl) thr1
  rw [x1, if_pos rfl, show L_M_present_79 B_M_present_108 (nI d) (nI w) (nI p) (nI q) FU 0 (sF τ 0 0) = B_M_present_108 (nI d) (nI w) (nI p) (nI q) (sF τ 0 0) from pres_no (n := rws σ 11) h40 e60 B_M_present_108 (nI d) (nI w) (nI p) (nI q) (rws σ 11) 0 FU (by omega) (lt_FU (by omega)) (fun k _ hk => by rw [K61 k hk]; exact x2 k hk)]
  unfold B_M_present_108
  have s0 : SmT τ (sF τ 0 0) := ⟨rfl, fun _ _ _ => rfl⟩
  obtain ⟨b, σ', τ', hb, g1, g2, g3, g4, g5⟩ := barred_ag hW (IMar.thr τ 0 hM) (IRin.thr τ 0 hR) (ITxt.thr τ 0 hT) (hC.fr rfl rfl rfl rfl rfl s0 rfl rfl) (hP.thr 0) (IDee.thr τ 0 hD) (ICla.thr τ 0 hL) hd
  rw [g1, g2, bnd_s, bnd_s]
  have k0 : τ'.1 0 = 0 := g5.1 0 (by decide)
  have f2 : FrM [0, 9, 56, 57, 58, 59, 60] [8, 37, 55, 61, 62, 63, 64, 66] τ τ' := (FrM.f1 _ _ (by decide)).trans (g5.mono (by decide) (by decide))
  have jB : JPre σ τ σ' τ' := ⟨⟨g3, ((hK.thr τ 0).frM (g5.1 60 (by decide)) (fun a z1 z2 => g5.2 a (by simp only [List.mem_cons, List.not_mem_nil, or_false]; omega))).frC g4 (by decide) (by decide), g4.mono (by decide) (by decide), f2⟩, fun i c _ => g4.fc (by decide) i c⟩
  have jX : ∀ v, AgX (bnd (some ((v : Int32), σ')) fun r82 σ82 => some (((0 : Int32), r82), σ82)) (some (v, τ')) (fun c0 => c0 = 0 ∨ c0 = 3) (fun c0 => (if c0 = 0 then (0 : Int32) else 1)) (JPre σ τ) := fun v => by
    rw [bnd_s]
    exact AgX.mk 0 _ σ' _ τ' rfl (Or.inl rfl) rfl k0 (fun _ => rfl) jB
  by_cases q5 : b = 0
  · rw [if_pos q5, if_pos q5]
    exact jX _
  rw [if_neg q5, if_neg q5]
  have r10 : rws σ' 10 = rws σ 10 := g4.fr (by decide)
  have r11 : rws σ' 11 = rws σ 11 := g4.fr (by decide)
  have r6 : rws σ' 6 = rws σ 6 := g4.fr (by decide)
  obtain ⟨d1, -, -, -, -, -, ⟨ac, hac, d7⟩, -⟩ := hD.2 d hd
  have hP' : IPeo σ' τ' := ((hP.thr 0).frM g5 (by decide) (by decide)).fr (g4.1 20 (by decide)) (g4.2 6 (by decide)).1 rfl rfl rfl rfl rfl
  rw [tb_gl g3 10 (by omega) d 0 (by omega) (by decide), bnd_s, g4.fc (by decide), d7]
  have e49 : rd τ' 49 (nI d) = nI ac := by
    rw [rdn (by omega), g5.2 49 (by decide)]
    exact d1.trans d7
  have t60 : τ'.1 60 = nI (rws σ 11) := (g5.1 60 (by decide)).trans e60
  have t1 : τ'.1 1 = σ.1 62 := (g5.1 1 (by decide)).trans hT1
  rcases lives_ag g3 hP' (h := p) (by omega) with ⟨-, l1, l2⟩ | ⟨-, l1, l2⟩
  rotate_left
  · rw [l1, l2, bnd_s, bnd_s, if_pos rfl, if_neg i10]
    exact jX _
  rw [l1, l2, bnd_s, bnd_s, if_neg i10, if_pos rfl]
  rcases lives_ag g3 hP' (h := q) (by omega) with ⟨-, l3, l4⟩ | ⟨-, l3, l4⟩
  rotate_left
  · rw [l3, l4, bnd_s, bnd_s, if_pos rfl, if_neg i10]
    exact jX _
  rw [l3, l4, bnd_s, bnd_s, if_neg i10, if_pos rfl, gix_n (show d < 60 by omega) (by omega), e49, gix_n (show d < 60 by omega) (by omega)]
  by_cases q6 : nI p = nI ac
  · rw [if_pos q6, if_pos q6]
    exact jX _
  rw [if_neg q6, if_neg q6]
  by_cases q7 : nI q = nI ac
  · rw [if_pos q7, if_pos q7]
    exact jX _
  rw [if_neg q7, if_neg q7]
  by_cases q8 : nI p = nI q
  · rw [if_pos q8, if_pos q8]
    exact jX _
  rw [if_neg q8, if_neg q8]
  obtain ⟨σf, row, a1, a2, v0, v1, v2, v3, v4, v7, v8, v9, v10, v11, v12⟩ := add_case g3 (d := d) (by omega) (by omega) (nI ac) (nI w) (nI p) (nI q)
  have m2 : (2 : Int32) * nI (rws σ 11) = nI (2 * rws σ 11) := nI_mul 2 _
  rw [a1, bnd_s, t60, m2, nI_1, gix_n q4 (by omega), gix_n q4 (by omega), gix_n (show 2 * rws σ 11 < 80 by omega) (by omega), gix_n (show 2 * rws σ 11 + 1 < 80 by omega) (by omega), gix_n (show d < 60 by omega) (by omega), gix_n q4 (by omega), gix_n q4 (by omega), wrn (by omega), wrn (by omega), wrn (by omega), wrn (by omega), wrn (by omega), wrn (by omega), nI_1, nI_p1, t1]
  rw [r11] at a2 ⊢
  refine AgX.mk 0 _ σf _ _ rfl (Or.inl rfl) rfl (by simp only [va_up, reduceIte, Nat.reduceEqDiff]; exact k0) (fun _ => rfl) ⟨⟨a2.1, ?_, ?_, ?_⟩, fun i c hc => ?_⟩
  · exact cas_new (τ0 := sF τ 0 0) hW (hK.thr τ 0) q4 g4 g5 hd hw hp hq hac hT2 a2 v0 v1 (v2.trans (g4.1 62 (by decide))) v3 v4 v7 v8 v9 v10 v11 v12 x2 (by simp only [va_up, reduceIte]) (by simp only [va_up, reduceIte, Nat.reduceEqDiff]) (by simp only [va_up, reduceIte, Nat.reduceEqDiff]) (by simp only [va_up, reduceIte, Nat.reduceEqDiff]) (by simp only [va_up, reduceIte, Nat.reduceEqDiff]) (by simp only [va_up, reduceIte, Nat.reduceEqDiff]) (fun a ha => by rcases ha with rfl | rfl | rfl | rfl | rfl <;> simp only [va_up, reduceIte, Nat.reduceEqDiff])
  · exact (g4.mono (by decide) (by decide)).trans ((FrC.f3 _ _ _ _ (by decide)).trans (a2.fr.mono (by decide) (by decide)))
  · exact f2.trans ((FrM.f2 _ _ (by decide)).trans ((FrM.f2 _ _ (by decide)).trans ((FrM.f2 _ _ (by decide)).trans ((FrM.f2 _ _ (by decide)).trans ((FrM.f2 _ _ (by decide)).trans ((FrM.f2 _ _ (by decide)).trans (FrM.f1 _ _ (by decide))))))))
  · rw [a2.fr.fc (by decide), pt_cel _ _ _ _ _ _ _ (by decide) (show c < 7 by omega), if_neg (by omega), g4.fc (by decide)]
