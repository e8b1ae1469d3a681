/-! ===== layer 2: a presentment ===== -/
theorem App.ptO {σ σ' : CS} {t : Nat} {row : Nat → Int32} (h : App σ t row σ') {u : Nat} (hu : u ≠ t) (i c : Nat) (v : Int32) : App (pt σ u i c v) t row (pt σ' u i c v) := by
  obtain ⟨h1, h2, h3, h4, h5, h6⟩ := h
  refine ⟨pt_W h1 _ _ _ _, h2, h3, fun a ha => ⟨?_, (h4 a ha).2⟩, fun d hd => ?_, fun j d hj hd => ?_⟩
  · by_cases q : a = u
    · subst q
      simp only [pt, va_up, if_true, (h4 a ha).1]
    · rw [pt_arr _ _ _ _ _ _ q, pt_arr _ _ _ _ _ _ q]
      exact (h4 a ha).1
  · rw [pt_other _ _ _ _ _ _ _ _ (Ne.symm hu)]
    exact h5 d hd
  · rw [pt_other _ _ _ _ _ _ _ _ (Ne.symm hu), pt_other _ _ _ _ _ _ _ _ (Ne.symm hu)]
    exact h6 j d hj hd
theorem zer_loop {σ0 : CS} : ∀ m c fu row σ, c + m = 8 → m < fu → App σ0 11 row σ → ∃ σ' row', L_Courts_addPresentment_218 (nI (rws σ0 11)) fu (nI c) σ = some (nI (rws σ0 11), σ') ∧ App σ0 11 row' σ' ∧ ∀ e, row' e = if c ≤ e ∧ e < 8 then 0 else row e := by
  intro m
  induction m with
  | zero =>
    intro c fu row σ hc hf hA
    obtain ⟨f, rfl⟩ : ∃ q, fu = q + 1 := ⟨fu - 1, by omega⟩
    have : c = 8 := by omega
    subst this
    refine ⟨σ, row, ?_, hA, fun e => by rw [if_neg (by omega)]⟩
    rw [L_Courts_addPresentment_218, if_pos (by decide)]
  | succ m ih =>
    intro c fu row σ hc hf hA
    obtain ⟨f, rfl⟩ : ∃ q, fu = q + 1 := ⟨fu - 1, by omega⟩
    obtain ⟨e1, A1⟩ := tb_putA hA (by omega) c (show c < 13 by omega) 0 (ci := nI c) rfl
    obtain ⟨σ', row', g1, g2, g3⟩ := ih (c + 1) f _ _ (by omega) (by omega) A1
    refine ⟨σ', row', ?_, g2, fun e => ?_⟩
    · rw [L_Courts_addPresentment_218, if_neg (fun z => absurd ((lit_lt 7 (by omega) (by omega)).1 z) (by omega)), e1, bnd_s, nI_1]
      exact g1
    · rw [g3 e]
      unfold upd
      by_cases q : e = c
      · rw [if_neg (by omega), if_pos q, if_pos (by omega)]
      · rw [if_neg q]
        by_cases q2 : c + 1 ≤ e ∧ e < 8
        · rw [if_pos q2, if_pos (by omega)]
        · rw [if_neg q2, if_neg (by omega)]
theorem add_case {σ : CS} (hW : WC σ) {d : Nat} (hd : d < rws σ 10) (hr : rws σ 11 < 40) (ac x2 x3 x4 : Int32) : ∃ σf row, bnd (f_Table_add 11 σ) (fun r100 σ100 => bnd (f_Table_put 10 (nI d) 6 r100 σ100) (fun _ σ114 => bnd (f_Table_put 11 r100 0 0 σ114) (fun _ σ125 => bnd (f_Table_put 11 r100 1 ac σ125) (fun _ σ137 => bnd (f_Table_put 11 r100 2 (σ137.1 62) σ137) (fun _ σ151 => bnd (f_Table_put 11 r100 8 (nI d) σ151) (fun _ σ163 => bnd (f_Table_put 11 r100 9 x2 σ163) (fun _ σ175 => bnd (f_Table_put 11 r100 10 x3 σ175) (fun _ σ187 => bnd (f_Table_put 11 r100 11 x4 σ187) (fun _ σ200 => bnd (f_Table_put 11 r100 12 0 σ200) (fun _ σ212 => L_Courts_addPresentment_218 r100 FU 4 σ212)))))))))) = some (nI (rws σ 11), σf) ∧ App (pt σ 10 d 6 (nI (rws σ 11))) 11 row σf ∧ row 0 = 0 ∧ row 1 = ac ∧ row 2 = σ.1 62 ∧ row 3 = -1 ∧ (∀ q, q < 3 → row (4 + q) = 0) ∧ row 7 = 0 ∧ row 8 = nI d ∧ row 9 = x2 ∧ row 10 = x3 ∧ row 11 = x4 ∧ row 12 = 0 := by
  obtain ⟨σa, ea, Aa⟩ := tb_add hW 11 (by omega) hr
  have r10 : rws σa 10 = rws σ 10 := Aa.fr.fr (by decide)
  have eb := tb_pl Aa.1 10 (by omega) d 6 (by omega) (by decide) (nI (rws σ 11))
  have Ab := Aa.ptO (u := 10) (by omega) d 6 (nI (rws σ 11))
  have e62 : σa.1 62 = σ.1 62 := Aa.2.2.1 62 (by omega)
  obtain ⟨e2, A2⟩ := tb_putA Ab (by omega) 0 (by decide) 0 (ci := 0) rfl
  obtain ⟨e3, A3⟩ := tb_putA A2 (by omega) 1 (by decide) ac (ci := 1) rfl
  obtain ⟨e4, A4⟩ := tb_putA A3 (by omega) 2 (by decide) (σ.1 62) (ci := 2) rfl
  obtain ⟨e5, A5⟩ := tb_putA A4 (by omega) 8 (by decide) (nI d) (ci := 8) rfl
  obtain ⟨e6, A6⟩ := tb_putA A5 (by omega) 9 (by decide) x2 (ci := 9) rfl
  obtain ⟨e7, A7⟩ := tb_putA A6 (by omega) 10 (by decide) x3 (ci := 10) rfl
  obtain ⟨e8, A8⟩ := tb_putA A7 (by omega) 11 (by decide) x4 (ci := 11) rfl
  obtain ⟨e9, A9⟩ := tb_putA A8 (by omega) 12 (by decide) 0 (ci := 12) rfl
  obtain ⟨σf, row, g1, g2, g3⟩ := zer_loop 4 4 FU _ _ (by omega) (lt_FU (by omega)) A9
  have g1' : L_Courts_addPresentment_218 (nI (rws (pt σ 10 d 6 (nI (rws σ 11))) 11)) FU 4 _ = _ := g1
  simp only [pt_rws] at e2 e3 e4 e5 e6 e7 e8 e9 g1'
  refine ⟨σf, row, ?_, g2, ?_⟩
  · simp only [ea, bnd_s, eb, e2, e3, pt_1, e62, e4, e5, e6, e7, e8, e9, g1']
  · refine ⟨by rw [g3]; rfl, by rw [g3]; rfl, by rw [g3]; rfl, by rw [g3]; rfl, fun q hq => by rw [g3, if_pos (by omega)], by rw [g3]; rfl, by rw [g3]; rfl, by rw [g3]; rfl, by rw [g3]; rfl, by rw [g3]; rfl, by rw [g3]; rfl⟩
theorem pres_no {τ : CS} {n : Nat} (hn : n ≤ 40) (e : τ.1 60 = nI n) (K : Int32 → Int32 → Int32 → Int32 → CS → Option (Int32 × CS)) (x1 x2 x3 x4 : Int32) : ∀ m i fu, i + m = n → m < fu → (∀ k, i ≤ k → k < n → τ.2.1 61 k ≠ x1) → L_M_present_79 K x1 x2 x3 x4 fu (nI i) τ = K x1 x2 x3 x4 τ := by
  intro m
  induction m with
  | zero =>
    intro i fu hi hf _
    obtain ⟨f, rfl⟩ : ∃ q, fu = q + 1 := ⟨fu - 1, by omega⟩
    have : i = n := by omega
    subst this
    rw [L_M_present_79, e, if_pos ((nI_leI (by omega) (by omega)).2 (Nat.le_refl _))]
  | succ m ih =>
    intro i fu hi hf h
    obtain ⟨f, rfl⟩ : ∃ q, fu = q + 1 := ⟨fu - 1, by omega⟩
    rw [L_M_present_79, e, if_neg (fun z => absurd ((nI_leI (by omega) (by omega)).1 z) (by omega)), gix_n (by omega) (by omega), rdn (by omega), if_neg (h i (Nat.le_refl _) (by omega)), nI_1]
    exact ih (i + 1) f (by omega) (by omega) (fun k h1 h2 => h k (by omega) h2)
theorem pres_yes {τ : CS} {n : Nat} (hn : n ≤ 40) (e : τ.1 60 = nI n) (K : Int32 → Int32 → Int32 → Int32 → CS → Option (Int32 × CS)) (x1 x2 x3 x4 : Int32) {k : Nat} (hk : k < n) (ek : τ.2.1 61 k = x1) : ∀ m i fu, i + m = k → m < fu → L_M_present_79 K x1 x2 x3 x4 fu (nI i) τ = some (-2, τ) := by
  intro m
  induction m with
  | zero =>
    intro i fu hi hf
    obtain ⟨f, rfl⟩ : ∃ q, fu = q + 1 := ⟨fu - 1, by omega⟩
    have : i = k := by omega
    subst this
    rw [L_M_present_79, e, if_neg (fun z => absurd ((nI_leI (by omega) (by omega)).1 z) (by omega)), gix_n (by omega) (by omega), rdn (by omega), if_pos ek]
  | succ m ih =>
    intro i fu hi hf
    obtain ⟨f, rfl⟩ : ∃ q, fu = q + 1 := ⟨fu - 1, by omega⟩
    rw [L_M_present_79, e, if_neg (fun z => absurd ((nI_leI (by omega) (by omega)).1 z) (by omega)), gix_n (by omega) (by omega), rdn (by omega), nI_1]
    by_cases q : τ.2.1 61 i = x1
    · rw [if_pos q]
    · rw [if_neg q]
      exact ih (i + 1) f (by omega) (by omega)
