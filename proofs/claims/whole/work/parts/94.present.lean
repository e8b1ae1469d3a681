/-! ===== layer 2: a presentment ===== -/
theorem App.ptO {σ σ' : CS} {t : Nat} {row : Nat → Int32} (h : App σ t row σ') {u : Nat} (hu : u ≠ t) (i c : Nat) (v : Int32) : App (pt σ u i c v) t row (pt σ' u i c v) := by
  obtain ⟨h1, h2, h3, h4, h5, h6⟩ := h
  refine ⟨pt_W h1 _ _ _ _, h2, h3, fun a ha => ⟨?_, (h4 a ha).2⟩, fun d hd => ?_, fun j d hj hd => ?_⟩
  · by_cases q : a = u
    · subst q
      simp only [pt, va_up, if_true, (h4 a ha).1]
    · rw [pt_arr _ _ _ _ _ _ q, pt_arr _ _ _ _ _ _ q]
      exact (h4 a ha).1
  · rw [pt_other _ _ _ _ _ _ _ _ (Ne.symm hu)]
    exact h5 d hd
  · rw [pt_other _ _ _ _ _ _ _ _ (Ne.symm hu), pt_other _ _ _ _ _ _ _ _ (Ne.symm hu)]
    exact h6 j d hj hd
theorem zer_loop {σ0 : CS} : ∀ m c fu row σ, c + m = 8 → m < fu → App σ0 11 row σ → ∃ σ' row', L_Courts_addPresentment_218 (nI (rws σ0 11)) fu (nI c) σ = some (nI (rws σ0 11), σ') ∧ App σ0 11 row' σ' ∧ ∀ e, row' e = if c ≤ e ∧ e < 8 then 0 else row e := by
  intro m
  induction m with
  | zero =>
    intro c fu row σ hc hf hA
    obtain ⟨f, rfl⟩ : ∃ q, fu = q + 1 := ⟨fu - 1, by omega⟩
    have : c = 8 := by omega
    subst this
    refine ⟨σ, row, ?_, hA, fun e => by rw [if_neg (by omega)]⟩
    rw [L_Courts_addPresentment_218, if_pos (by decide)]
  | succ m ih =>
    intro c fu row σ hc hf hA
    obtain ⟨f, rfl⟩ : ∃ q, fu = q + 1 := ⟨fu - 1, by omega⟩
    obtain ⟨e1, A1⟩ := tb_putA hA (by omega) c (show c < 13 by omega) 0 (ci := nI c) rfl
    obtain ⟨σ', row', g1, g2, g3⟩ := ih (c + 1) f _ _ (by omega) (by omega) A1
    refine ⟨σ', row', ?_, g2, fun e => ?_⟩
    · rw [L_Courts_addPresentment_218, if_neg (fun z => absurd ((lit_lt 7 (by omega) (by omega)).1 z) (by omega)), e1, bnd_s, nI_1]
      exact g1
    · rw [g3 e]
      unfold upd
      by_cases q : e = c
      · rw [if_neg (by omega), if_pos q, if_pos (by omega)]
      · rw [if_neg q]
        by_cases q2 : c + 1 ≤ e ∧ e < 8
        · rw [if_pos q2, if_pos (by omega)]
        · rw [if_neg q2, if_neg (by omega)]
theorem add_case {σ : CS} (hW : WC σ) {d : Nat} (hd : d < rws σ 10) (hr : rws σ 11 < 40) (ac x2 x3 x4 : Int32) : ∃ σf row, bnd (f_Table_add 11 σ) (fun r100 σ100 => bnd (f_Table_put 10 (nI d) 6 r100 σ100) (fun _ σ114 => bnd (f_Table_put 11 r100 0 0 σ114) (fun _ σ125 => bnd (f_Table_put 11 r100 1 ac σ125) (fun _ σ137 => bnd (f_Table_put 11 r100 2 (σ137.1 62) σ137) (fun _ σ151 => bnd (f_Table_put 11 r100 8 (nI d) σ151) (fun _ σ163 => bnd (f_Table_put 11 r100 9 x2 σ163) (fun _ σ175 => bnd (f_Table_put 11 r100 10 x3 σ175) (fun _ σ187 => bnd (f_Table_put 11 r100 11 x4 σ187) (fun _ σ200 => bnd (f_Table_put 11 r100 12 0 σ200) (fun _ σ212 => L_Courts_addPresentment_218 r100 FU 4 σ212)))))))))) = some (nI (rws σ 11), σf) ∧ App (pt σ 10 d 6 (nI (rws σ 11))) 11 row σf ∧ row 0 = 0 ∧ row 1 = ac ∧ row 2 = σ.1 62 ∧ row 3 = -1 ∧ (∀ q, q < 3 → row (4 + q) = 0) ∧ row 7 = 0 ∧ row 8 = nI d ∧ row 9 = x2 ∧ row 10 = x3 ∧ row 11 = x4 ∧ row 12 = 0 := by
  obtain ⟨σa, ea, Aa⟩ := tb_add hW 11 (by omega) hr
  have r10 : rws σa 10 = rws σ 10 := Aa.fr.fr (by decide)
  have eb := tb_pl Aa.1 10 (by omega) d 6 (by omega) (by decide) (nI (rws σ 11))
  have Ab := Aa.ptO (u := 10) (by omega) d 6 (nI (rws σ 11))
  have e62 : σa.1 62 = σ.1 62 := Aa.2.2.1 62 (by omega)
  obtain ⟨e2, A2⟩ := tb_putA Ab (by omega) 0 (by decide) 0 (ci := 0) rfl
  obtain ⟨e3, A3⟩ := tb_putA A2 (by omega) 1 (by decide) ac (ci := 1) rfl
  obtain ⟨e4, A4⟩ := tb_putA A3 (by omega) 2 (by decide) (σ.1 62) (ci := 2) rfl
  obtain ⟨e5, A5⟩ := tb_putA A4 (by omega) 8 (by decide) (nI d) (ci := 8) rfl
  obtain ⟨e6, A6⟩ := tb_putA A5 (by omega) 9 (by decide) x2 (ci := 9) rfl
  obtain ⟨e7, A7⟩ := tb_putA A6 (by omega) 10 (by decide) x3 (ci := 10) rfl
  obtain ⟨e8, A8⟩ := tb_putA A7 (by omega) 11 (by decide) x4 (ci := 11) rfl
  obtain ⟨e9, A9⟩ := tb_putA A8 (by omega) 12 (by decide) 0 (ci := 12) rfl
  obtain ⟨σf, row, g1, g2, g3⟩ := zer_loop 4 4 FU _ _ (by omega) (lt_FU (by omega)) A9
  have g1' : L_Courts_addPresentment_218 (nI (rws (pt σ 10 d 6 (nI (rws σ 11))) 11)) FU 4 _ = _ := g1
  simp only [pt_rws] at e2 e3 e4 e5 e6 e7 e8 e9 g1'
  refine ⟨σf, row, ?_, g2, ?_⟩
  · simp only [ea, bnd_s, eb, e2, e3, pt_1, e62, e4, e5, e6, e7, e8, e9, g1']
  · refine ⟨by rw [g3]; rfl, by rw [g3]; rfl, by rw [g3]; rfl, by rw [g3]; rfl, fun q hq => by rw [g3, if_pos (by omega)], by rw [g3]; rfl, by rw [g3]; rfl, by rw [g3]; rfl, by rw [g3]; rfl, by rw [g3]; rfl, by rw [g3]; rfl⟩
theorem pres_no {τ : CS} {n : Nat} (hn : n ≤ 40) (e : τ.1 60 = nI n) (K : Int32 → Int32 → Int32 → Int32 → CS → Option (Int32 × CS)) (x1 x2 x3 x4 : Int32) : ∀ m i fu, i + m = n → m < fu → (∀ k, i ≤ k → k < n → τ.2.1 61 k ≠ x1) → L_M_present_79 K x1 x2 x3 x4 fu (nI i) τ = K x1 x2 x3 x4 τ := by
  intro m
  induction m with
  | zero =>
    intro i fu hi hf _
    obtain ⟨f, rfl⟩ : ∃ q, fu = q + 1 := ⟨fu - 1, by omega⟩
    have : i = n := by omega
    subst this
    rw [L_M_present_79, e, if_pos ((nI_leI (by omega) (by omega)).2 (Nat.le_refl _))]
  | succ m ih =>
    intro i fu hi hf h
    obtain ⟨f, rfl⟩ : ∃ q, fu = q + 1 := ⟨fu - 1, by omega⟩
    rw [L_M_present_79, e, if_neg (fun z => absurd ((nI_leI (by omega) (by omega)).1 z) (by omega)), gix_n (by omega) (by omega), rdn (by omega), if_neg (h i (Nat.le_refl _) (by omega)), nI_1]
    exact ih (i + 1) f (by omega) (by omega) (fun k h1 h2 => h k (by omega) h2)
theorem pres_yes {τ : CS} {n : Nat} (hn : n ≤ 40) (e : τ.1 60 = nI n) (K : Int32 → Int32 → Int32 → Int32 → CS → Option (Int32 × CS)) (x1 x2 x3 x4 : Int32) {k : Nat} (hk : k < n) (ek : τ.2.1 61 k = x1) : ∀ m i fu, i + m = k → m < fu → L_M_present_79 K x1 x2 x3 x4 fu (nI i) τ = some (-2, τ) := by
  intro m
  induction m with
  | zero =>
    intro i fu hi hf
    obtain ⟨f, rfl⟩ : ∃ q, fu = q + 1 := ⟨fu - 1, by omega⟩
    have : i = k := by omega
    subst this
    rw [L_M_present_79, e, if_neg (fun z => absurd ((nI_leI (by omega) (by omega)).1 z) (by omega)), gix_n (by omega) (by omega), rdn (by omega), if_pos ek]
  | succ m ih =>
    intro i fu hi hf
    obtain ⟨f, rfl⟩ : ∃ q, fu = q + 1 := ⟨fu - 1, by omega⟩
    rw [L_M_present_79, e, if_neg (fun z => absurd ((nI_leI (by omega) (by omega)).1 z) (by omega)), gix_n (by omega) (by omega), rdn (by omega), nI_1]
    by_cases q : τ.2.1 61 i = x1
    · rw [if_pos q]
    · rw [if_neg q]
      exact ih (i + 1) f (by omega) (by omega)
theorem cas_new {σ τ0 σ1 τ' σf : CS} {row : Nat → Int32} {d w p q ac : Nat} (hW : WC σ) (hK : ICas σ τ0) (hr : rws σ 11 < 40) (f1 : FrC [53, 54] [20, 21] σ σ1) (f2 : FrM [9, 56, 57, 58, 59] [8, 37, 55] τ0 τ') (hd : d < rws σ 10) (hw : w < rws σ 9) (hp : p < rws σ 6) (hq : q < rws σ 6) (hac : ac < rws σ 6) (hT2 : Rg (σ.1 62) 100000)
    (hA : App (pt σ1 10 d 6 (nI (rws σ 11))) 11 row σf) (r0 : row 0 = 0) (r1 : row 1 = nI ac) (r2 : row 2 = σ.1 62) (r3 : row 3 = -1) (r4 : ∀ q, q < 3 → row (4 + q) = 0) (r7 : row 7 = 0) (r8 : row 8 = nI d) (r9 : row 9 = nI w) (r10 : row 10 = nI p) (r11 : row 11 = nI q) (r12 : row 12 = 0) (hnc : ∀ k, k < rws σ 11 → cel σ 11 k 8 ≠ nI d) {τf : CS}
    (t60 : τf.1 60 = nI (rws σ 11 + 1)) (t61 : τf.2.1 61 = upd (τ'.2.1 61) (rws σ 11) (nI d)) (t62 : τf.2.1 62 = upd (τ'.2.1 62) (rws σ 11) (nI w)) (t63 : τf.2.1 63 = upd (upd (τ'.2.1 63) (2 * rws σ 11) (nI p)) (2 * rws σ 11 + 1) (nI q)) (t64 : τf.2.1 64 = upd (τ'.2.1 64) (rws σ 11) (nI ac)) (t66 : τf.2.1 66 = upd (τ'.2.1 66) (rws σ 11) (σ.1 62)) (tO : ∀ a, a = 65 ∨ a = 67 ∨ a = 68 ∨ a = 69 ∨ a = 70 → τf.2.1 a = τ'.2.1 a) : ICas σf τf := by
  have n10 : rws σf 10 = rws σ 10 := (hA.fr.fr (by decide)).trans (f1.fr (by decide))
  have n9 : rws σf 9 = rws σ 9 := (hA.fr.fr (by decide)).trans (f1.fr (by decide))
  have n6 : rws σf 6 = rws σ 6 := (hA.fr.fr (by decide)).trans (f1.fr (by decide))
  have n11 : rws σ1 11 = rws σ 11 := f1.fr (by decide)
  have s62 : σf.1 62 = σ.1 62 := (hA.fr.1 62 (by decide)).trans (f1.1 62 (by decide))
  have c10 : ∀ i c, c < 7 → cel σf 10 i c = if i = d ∧ c = 6 then nI (rws σ 11) else cel σ 10 i c := fun i c hc => by
    rw [hA.fr.fc (by decide), pt_cel _ _ _ _ _ _ _ (by decide) (show c < 7 from hc), f1.fc (by decide)]
  obtain ⟨-, b2, -, -, b5, b6⟩ := hA
  rw [pt_rws, n11] at b2 b5 b6
  have c11 : ∀ i c, i < rws σ 11 → c < 13 → cel σf 11 i c = cel σ 11 i c := fun i c hi hc => by
    rw [b6 i c hi hc, pt_other _ _ _ _ _ _ _ _ (by omega), f1.fc (by decide)]
  have fO : ∀ a, 61 ≤ a → a ≤ 70 → τ'.2.1 a = τ0.2.1 a := fun a h1 h2 => f2.2 a (by simp only [List.mem_cons, List.not_mem_nil, or_false]; omega)
  refine ⟨by rw [t60, b2], fun k hk => ?_, fun k hk1 hk2 => ?_, fun e he => ?_⟩
  · rw [b2] at hk
    by_cases qk : k = rws σ 11
    · subst qk
      obtain ⟨z1, z2, z3, z4⟩ := hK.2.2.1 (rws σ 11) (Nat.le_refl _) hr
      unfold Cas
      rw [b5 0 (by decide), b5 1 (by decide), b5 2 (by decide), b5 3 (by decide), b5 7 (by decide), b5 8 (by decide), b5 9 (by decide), b5 10 (by decide), b5 11 (by decide), b5 12 (by decide), r0, r1, r2, r3, r7, r8, r9, r10, r11, r12, t61, t62, t63, t64, t66, tO 65 (by omega), tO 67 (by omega), tO 69 (by omega), tO 70 (by omega), fO 65 (by omega) (by omega), fO 67 (by omega) (by omega), fO 69 (by omega) (by omega), fO 70 (by omega) (by omega), n10, n9, n6, s62]
      obtain ⟨t, ht, et⟩ := hT2
      refine ⟨⟨by simp [upd], d, hd, rfl⟩, ⟨by simp [upd], w, hw, rfl⟩, ⟨by simp [upd], p, hp, rfl⟩, ⟨by simp [upd], q, hq, rfl⟩, ⟨by simp [upd], ac, hac, rfl⟩, ⟨z1, 0, by omega, rfl⟩, ⟨by simp [upd], t, t, et, et, Nat.le_refl _, ht⟩, z2, fun q hq => ?_, z3, Or.inr ⟨by decide, rfl⟩⟩
      rw [b5 (4 + q) (show 4 + q < 13 by omega), r4 q hq]
      exact z4 q hq
    · have hk' : k < rws σ 11 := by omega
      obtain ⟨z1, z2, z3, z4, z5, z6, z7, z8, z9, z10, z11⟩ := hK.2.1 k hk'
      unfold Cas
      rw [c11 k 8 hk' (by omega), c11 k 9 hk' (by omega), c11 k 10 hk' (by omega), c11 k 11 hk' (by omega), c11 k 1 hk' (by omega), c11 k 0 hk' (by omega), c11 k 2 hk' (by omega), c11 k 12 hk' (by omega), c11 k 7 hk' (by omega), c11 k 3 hk' (by omega), t61, t62, t63, t64, t66, tO 65 (by omega), tO 67 (by omega), tO 68 (by omega), tO 69 (by omega), tO 70 (by omega), fO 65 (by omega) (by omega), fO 67 (by omega) (by omega), fO 68 (by omega) (by omega), fO 69 (by omega) (by omega), fO 70 (by omega) (by omega), fO 61 (by omega) (by omega), fO 62 (by omega) (by omega), fO 63 (by omega) (by omega), fO 64 (by omega) (by omega), fO 66 (by omega) (by omega), n10, n9, n6, s62]
      unfold upd
      rw [if_neg qk, if_neg qk, if_neg (by omega), if_neg (by omega), if_neg (by omega), if_neg (by omega), if_neg qk, if_neg qk]
      refine ⟨z1, z2, z3, z4, z5, z6, z7, z8, fun q hq => ?_, z10, z11⟩
      rw [c11 k (4 + q) hk' (by omega)]
      exact z9 q hq
  · rw [b2] at hk1
    obtain ⟨z1, z2, z3, z4⟩ := hK.2.2.1 k (by omega) hk2
    unfold Nul
    rw [tO 65 (by omega), tO 67 (by omega), tO 69 (by omega), tO 70 (by omega), fO 65 (by omega) (by omega), fO 67 (by omega) (by omega), fO 69 (by omega) (by omega), fO 70 (by omega) (by omega)]
    exact ⟨z1, z2, z3, z4⟩
  · rw [n10] at he
    have h60 : rws σ 10 ≤ 60 := hW.hlim (t := 10) (by omega)
    unfold Doc
    rw [c10 e 6 (by omega), b2]
    by_cases qe : e = d
    · rw [if_pos ⟨qe, rfl⟩]
      exact Or.inr ⟨rws σ 11, by omega, rfl, by rw [b5 8 (by decide), r8, qe]⟩
    · rw [if_neg (fun z => qe z.1)]
      rcases hK.2.2.2 e he with ⟨x1, x2⟩ | ⟨k, hk, x1, x2⟩
      · refine Or.inl ⟨x1, fun k hk => ?_⟩
        by_cases qk : k = rws σ 11
        · subst qk
          rw [b5 8 (by decide), r8]
          intro z
          exact qe ((nI_eq (by omega) (by omega)).1 z).symm
        · rw [c11 k 8 (by omega) (by omega)]
          exact x2 k (by omega)
      · exact Or.inr ⟨k, by omega, x1, by rw [c11 k 8 hk (by omega)]; exact x2⟩
