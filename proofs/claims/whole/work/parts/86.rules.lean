/-! ===== layer 2: the rules of a day ===== -/
def dfl (w : Nat) : Int32 := if w = 0 then 40 else if w = 1 then 120 else if w = 2 then 1080 else if w = 3 then 20 else 1
/-- what the texts below t tell of rule w -/
def RV (τ : CS) (F w : Nat) : Nat → Int32
  | 0 => dfl w
  | t + 1 => if F.testBit t = true ∧ ¬ lst τ t w (cM τ t) = -1 then lst τ t w (cM τ t) else RV τ F w t
def okV (w : Nat) (x : Int32) : Prop := if w < 3 then P4 x 4000 else if w = 3 then P4 x 60 else Rg x 1
theorem okV_dfl {w : Nat} (h : w < 5) : okV w (dfl w) := by
  unfold okV dfl
  obtain rfl | rfl | rfl | rfl | rfl : w = 0 ∨ w = 1 ∨ w = 2 ∨ w = 3 ∨ w = 4 := by omega
  · exact ⟨40, by omega, by omega, rfl⟩
  · exact ⟨120, by omega, by omega, rfl⟩
  · exact ⟨1080, by omega, by omega, rfl⟩
  · exact ⟨20, by omega, by omega, rfl⟩
  · exact ⟨1, by omega, rfl⟩
theorem okV_ne {w : Nat} {x : Int32} (h : okV w x) : ¬ x = -1 := by
  unfold okV at h
  split at h
  · obtain ⟨a, h1, h2, rfl⟩ := h; exact nI_neg1 (by omega)
  · split at h
    · obtain ⟨a, h1, h2, rfl⟩ := h; exact nI_neg1 (by omega)
    · obtain ⟨a, h1, rfl⟩ := h; exact nI_neg1 (by omega)
theorem vl_ok {τ : CS} {t w i : Nat} (hw : w < 5) (hK : Kok τ t i) (h : τ.2.1 30 i = kdO w) : okV w (vlO τ w i) := by
  unfold okV vlO
  obtain rfl | rfl | rfl | rfl | rfl : w = 0 ∨ w = 1 ∨ w = 2 ∨ w = 3 ∨ w = 4 := by omega
  · exact (hK.2.2.2.1 h).1
  · exact (hK.2.2.2.1 h).2.1
  · exact (hK.2.2.2.1 h).2.2
  · exact hK.2.2.2.2.1 h
  · exact hK.2.2.1 h
theorem lst_ok {τ : CS} {t w : Nat} (hw : w < 5) : ∀ m, (∀ k, k < m → Kok τ t (12 * t + k)) → lst τ t w m = -1 ∨ okV w (lst τ t w m) := by
  intro m
  induction m with
  | zero => intro _; exact Or.inl rfl
  | succ m ih =>
    intro hk
    show (if τ.2.1 30 (12 * t + m) = kdO w then vlO τ w (12 * t + m) else lst τ t w m) = -1 ∨ okV w (if τ.2.1 30 (12 * t + m) = kdO w then vlO τ w (12 * t + m) else lst τ t w m)
    by_cases q : τ.2.1 30 (12 * t + m) = kdO w
    · rw [if_pos q]; exact Or.inr (vl_ok hw (hk m (by omega)) q)
    · rw [if_neg q]; exact ih (fun k h => hk k (by omega))
theorem RV_ok {τ : CS} {F w : Nat} (hw : w < 5) : ∀ t, (∀ s, s < t → ∀ k, k < cM τ s → Kok τ s (12 * s + k)) → okV w (RV τ F w t) := by
  intro t
  induction t with
  | zero => intro _; exact okV_dfl hw
  | succ t ih =>
    intro h
    show okV w (if F.testBit t = true ∧ ¬ lst τ t w (cM τ t) = -1 then lst τ t w (cM τ t) else RV τ F w t)
    split
    · rename_i z
      exact (lst_ok hw (cM τ t) (h t (by omega))).resolve_left z.2
    · exact ih (fun s hs => h s (by omega))
theorem ruleC {σ τ : CS} (hW : WC σ) (hT : ITxt σ τ) {F w : Nat} (hF : F < 2 ^ 10) (hw : w < 5) : ∀ (t m : Nat), t ≤ rws σ 3 → t < m → L_Laws_ruleOn_31 B_Laws_ruleOn_75 (nI w) (nI F) m (nI t - 1) σ = some (RV τ F w t, σ) := by
  have h10 : rws σ 3 ≤ 10 := hW.hlim (t := 3) (by omega)
  intro t
  induction t with
  | zero =>
    intro m h1 h2
    obtain ⟨m, rfl⟩ : ∃ q, m = q + 1 := ⟨m - 1, by omega⟩
    show (if nI 0 - 1 < 0 then _ else _) = _
    rw [if_pos (by decide)]
    unfold B_Laws_ruleOn_75
    rw [gix_n (by omega) (by omega), nI_clamp (by omega)]
    obtain rfl | rfl | rfl | rfl | rfl : w = 0 ∨ w = 1 ∨ w = 2 ∨ w = 3 ∨ w = 4 := by omega
    · rfl
    · rfl
    · rfl
    · rfl
    · rfl
  | succ t ih =>
    intro m h1 h2
    obtain ⟨m, rfl⟩ : ∃ q, m = q + 1 := ⟨m - 1, by omega⟩
    have ht : t < rws σ 3 := by omega
    obtain ⟨-, -, -, -, t5, t6⟩ := hT.2 t ht
    have ih' := ih m (by omega) (by omega)
    have em1 : nI t + (-1) = nI t - 1 := by grind
    rw [nI_p1]
    show (if nI t < 0 then _ else _) = some ((if F.testBit t = true ∧ ¬ lst τ t w (cM τ t) = -1 then lst τ t w (cM τ t) else RV τ F w t), σ)
    rw [if_neg (nI_pos (by omega)), tb_get hW 3 (by omega) t (2 + w) ht (by show 2 + w < 7; omega) (ci := 2 + nI w) (nI_add 2 w), bnd_s, t5 w hw, em1, ih']
    by_cases q : F.testBit t = true
    · rw [if_pos ((bit_1 (by omega) (by omega)).mpr q)]
      by_cases r : lst τ t w (cM τ t) = -1
      · rw [if_pos r, if_neg (fun z => z.2 r)]
      · rw [if_neg r, if_pos ⟨q, r⟩]
    · rw [if_neg (fun z => q ((bit_1 (by omega) (by omega)).mp z)), if_neg (fun z => q z.1)]
theorem ruleM_102 {τ : CS} {t w : Nat} (ht : t < 10) (hw : w < 5) (h29 : τ.2.1 29 t = nI (cM τ t)) (h12 : cM τ t ≤ 12) (hK : ∀ k, k < cM τ t → Kok τ t (12 * t + k)) (v : Int32) (K : Int32 → Int32 → CS → Option (Int32 × CS)) : ∀ (d k m : Nat), k + d = cM τ t → d < m →
    L_M_ruleOf_102 K (nI w) (kdO w) (nI t) m (if lst τ t w k = -1 then v else lst τ t w k) (nI (12 * t + k)) τ = K (if lst τ t w (cM τ t) = -1 then v else lst τ t w (cM τ t)) (nI (t + 1)) τ := by
  intro d
  induction d with
  | zero =>
    intro k m h1 h2
    obtain ⟨m, rfl⟩ : ∃ q, m = q + 1 := ⟨m - 1, by omega⟩
    have hk : k = cM τ t := by omega
    rw [L_M_ruleOf_102, gix_n (by omega) (by omega), rdn (by omega), h29, show (12 : Int32) = nI 12 from rfl, nI_mul, nI_add, if_pos (nI_le (by omega) (by omega)), nI_1, hk]
  | succ d ih =>
    intro k m h1 h2
    obtain ⟨m, rfl⟩ : ∃ q, m = q + 1 := ⟨m - 1, by omega⟩
    have ih' := ih (k + 1) m (by omega) (by omega)
    have el : lst τ t w (k + 1) = if τ.2.1 30 (12 * t + k) = kdO w then vlO τ w (12 * t + k) else lst τ t w k := rfl
    rw [L_M_ruleOf_102, gix_n (by omega) (by omega), gix_n (by omega) (by omega), gix_n (by omega) (by omega), gix_n (by omega) (by omega), gix_n (by omega) (by omega), rdn (by omega), rdn (by omega), rdn (by omega), rdn (by omega), rdn (by omega), h29, show (12 : Int32) = nI 12 from rfl, nI_mul, nI_add, if_neg (nI_ge (by omega) (by omega)), nI_1]
    by_cases q : τ.2.1 30 (12 * t + k) = kdO w
    · have hv := okV_ne (vl_ok hw (hK k (by omega)) q)
      rw [el, if_pos q, if_neg hv] at ih'
      rw [if_pos q]
      obtain rfl | rfl | rfl | rfl | rfl : w = 0 ∨ w = 1 ∨ w = 2 ∨ w = 3 ∨ w = 4 := by omega
      · rw [if_neg (by decide), if_neg (by decide)]; exact ih'
      · rw [if_pos (by decide)]; exact ih'
      · rw [if_neg (by decide), if_pos (by decide)]; exact ih'
      · rw [if_neg (by decide), if_neg (by decide)]; exact ih'
      · rw [if_neg (by decide), if_neg (by decide)]; exact ih'
    · rw [el, if_neg q] at ih'
      rw [if_neg q]
      exact ih'
theorem ruleM {σ τ0 τ : CS} (hW : WC σ) (hT : ITxt σ τ0) (hF : FrM [] [37] τ0 τ) {F w : Nat} (hw : w < 5) (h37 : ∀ o, o < rws σ 3 → τ.2.1 37 o = if F.testBit o then 1 else 0) : ∀ (d t m : Nat), t + d = rws σ 3 → d < m → L_M_ruleOf_73 (nI w) (kdO w) m (RV τ0 F w t) (nI t) τ = some (RV τ0 F w (rws σ 3), τ) := by
  have h10 : rws σ 3 ≤ 10 := hW.hlim (t := 3) (by omega)
  have s : SmT τ0 τ := SmT.of hF (by simp) (by simp)
  intro d
  induction d with
  | zero =>
    intro t m h1 h2
    obtain ⟨m, rfl⟩ : ∃ q, m = q + 1 := ⟨m - 1, by omega⟩
    have ht : t = rws σ 3 := by omega
    show (if τ.1 21 ≤ nI t then _ else _) = _
    rw [hF.1 21 (by simp), hT.1, ht, if_pos (nI_le (Nat.le_refl _) (by omega))]
  | succ d ih =>
    intro t m h1 h2
    obtain ⟨m, rfl⟩ : ∃ q, m = q + 1 := ⟨m - 1, by omega⟩
    have ih' := ih (t + 1) m (by omega) (by omega)
    have er : RV τ0 F w (t + 1) = if F.testBit t = true ∧ ¬ lst τ0 t w (cM τ0 t) = -1 then lst τ0 t w (cM τ0 t) else RV τ0 F w t := rfl
    obtain ⟨-, t2, t3, -, -, t6⟩ := hT.2 t (by omega)
    show (if τ.1 21 ≤ nI t then _ else _) = _
    rw [hF.1 21 (by simp), hT.1, if_neg (nI_ge (by omega) (by omega)), gix_n (by omega) (by omega), rdn (by omega), h37 t (by omega), nI_1]
    by_cases q : F.testBit t = true
    · rw [if_pos q, if_neg i10, show (12 : Int32) = nI 12 from rfl, nI_mul]
      have hT2 : ITxt σ τ := hT.fr rfl rfl s
      obtain ⟨-, u2, u3, -, -, u6⟩ := hT2.2 t (by omega)
      have h102 := ruleM_102 (τ := τ) (t := t) (w := w) (by omega) hw u2 u3 u6 (RV τ0 F w t) (L_M_ruleOf_73 (nI w) (kdO w) m) (cM τ t) 0 FU (by omega) (lt_FU (by omega))
      have h102' : L_M_ruleOf_102 (L_M_ruleOf_73 (nI w) (kdO w) m) (nI w) (kdO w) (nI t) FU (RV τ0 F w t) (nI (12 * t)) τ = _ := h102
      rw [h102', s.ecM, s.elst]
      by_cases r : lst τ0 t w (cM τ0 t) = -1
      · rw [if_pos r]
        rw [er, if_neg (fun z => z.2 r)] at ih'
        exact ih'
      · rw [if_neg r]
        rw [er, if_pos ⟨q, r⟩] at ih'
        exact ih'
    · rw [if_neg q, if_pos rfl]
      rw [er, if_neg (fun z => q z.1)] at ih'
      exact ih'
theorem rule_ag {σ τ : CS} (hW : WC σ) (hT : ITxt σ τ) (day : Int32) {w : Nat} (hw : w < 5) : ∃ v τ', f_Laws_ruleOn day (nI w) σ = some (v, σ) ∧ f_M_ruleOf day (nI w) τ = some (v, τ') ∧ FrM [] [37] τ τ' ∧ okV w v := by
  have h10 : rws σ 3 ≤ 10 := hW.hlim (t := 3) (by omega)
  obtain ⟨F, τ', g1, g2, g3, g4, g5⟩ := force_ag hW hT day
  refine ⟨RV τ F w (rws σ 3), τ', ?_, ?_, g4, RV_ok hw _ (fun s hs => (hT.2 s hs).2.2.2.2.2)⟩
  · unfold f_Laws_ruleOn
    rw [if_neg (nI_pos (by omega)), if_pos ((lt_lit 5 (by omega) (by omega)).mpr hw), g1, bnd_s, tb_size hW 3 (by omega), bnd_s]
    exact ruleC hW hT g3 hw (rws σ 3) FU (Nat.le_refl _) (lt_FU (by omega))
  · have h73 : L_M_ruleOf_73 (nI w) (kdO w) FU (dfl w) 0 τ' = some (RV τ F w (rws σ 3), τ') := ruleM hW hT g4 hw g5 (rws σ 3) 0 FU (by omega) (lt_FU (by omega))
    unfold f_M_ruleOf B_M_ruleOf_46
    rw [g2, bnd_s]
    obtain rfl | rfl | rfl | rfl | rfl : w = 0 ∨ w = 1 ∨ w = 2 ∨ w = 3 ∨ w = 4 := by omega
    · rw [if_pos (by decide), if_neg (by decide)]; exact h73
    · rw [if_neg (by decide), if_pos (by decide), if_neg (by decide)]; exact h73
    · rw [if_neg (by decide), if_neg (by decide), if_pos (by decide), if_neg (by decide)]; exact h73
    · rw [if_neg (by decide), if_neg (by decide), if_neg (by decide), if_pos (by decide), if_pos (by decide), if_pos (by decide)]; exact h73
    · rw [if_neg (by decide), if_neg (by decide), if_neg (by decide), if_neg (by decide), if_pos (by decide), if_neg (by decide)]; exact h73
theorem ITxt.thr {σ : CS} (τ : CS) (c : Int32) (h : ITxt σ τ) : ITxt σ (sF τ 0 c) := h.fr rfl rfl ⟨rfl, fun _ _ _ => rfl⟩
theorem isTx_m {σ τ : CS} (hW : WC σ) (h : τ.1 21 = nI (rws σ 3)) {j : Nat} (hj : j < rws σ 3) : f_M_isText (nI j) τ = some (1, τ) := by
  have := hW.hr4 (t := 3) (by omega)
  unfold f_M_isText
  rw [h, fm_idx1 hj (by omega), bnd_s, grd_s (Or.inr rfl)]
theorem isTx_m0 {σ τ : CS} (hW : WC σ) (h : τ.1 21 = nI (rws σ 3)) {x : Int32} (hj : ¬ ∃ j, j < rws σ 3 ∧ x = nI j) : f_M_isText x τ = some (0, τ) := by
  have := hW.hr4 (t := 3) (by omega)
  unfold f_M_isText
  rw [h, fm_idx0 (by omega) hj, bnd_s, grd_s (Or.inl rfl)]
theorem pm_rule {σ τ : CS} (hW : WC σ) (hT : ITxt σ τ) (a0 a1 : Int32) : AgX (f_FC_rule a0 a1 σ) (f_M_rule a0 a1 τ) (fun c0 => c0 = 0 ∨ c0 = 1) (fun c0 => (if c0 = 0 then (0 : Int32) else 1)) (fun σ1 τ1 => σ1 = σ ∧ FrM [0] [37] τ τ1) := by
  unfold f_FC_rule f_M_rule B_FC_rule_20
  simp only [fc_isDay, fm_isDay, fc_within, fm_in, bnd_s]
  by_cases q0 : a0 < 0 ∨ 100000 < a0
  · simp only [if_pos q0, if_true, B_FC_rule_21, B_M_rule_27, fm_bad1, bnd_s, if_neg i10]
    exact AgX.mk 1 0 σ 0 _ rfl (Or.inr rfl) rfl rfl (fun z => absurd z (by decide)) ⟨rfl, (FrM.f1 _ _ (by decide)).trans (FrM.f1 _ _ (by decide))⟩
  simp only [if_neg q0, if_neg i10]
  by_cases q1 : a1 < 0 ∨ 4 < a1
  · simp only [if_pos q1, if_true, B_FC_rule_21, B_M_rule_27, fm_bad1, bnd_s, if_neg i10]
    exact AgX.mk 1 0 σ 0 _ rfl (Or.inr rfl) rfl rfl (fun z => absurd z (by decide)) ⟨rfl, (FrM.f1 _ _ (by decide)).trans (FrM.f1 _ _ (by decide))⟩
  obtain ⟨w, hw, rfl⟩ := Rg.of q1 (n := 4) rfl (by omega) (by decide)
  obtain ⟨v, τ', e1, e2, e3, -⟩ := rule_ag hW (ITxt.thr τ 0 hT) a0 (w := w) (by omega)
  simp only [if_neg q1, if_neg i10, B_FC_rule_21, B_M_rule_27, fm_bad0, bnd_s, if_true, e1, e2]
  refine AgX.mk 0 _ σ _ _ rfl (Or.inl rfl) rfl ?_ (fun _ => rfl) ⟨rfl, (FrM.f1 _ _ (by decide)).trans (e3.mono (by simp) (by decide))⟩
  rw [e3.1 0 (by simp)]
  rfl
theorem pm_force {σ τ : CS} (hW : WC σ) (hT : ITxt σ τ) (a0 a1 : Int32) : AgX (f_FC_force a0 a1 σ) (f_M_force a0 a1 τ) (fun c0 => c0 = 0 ∨ c0 = 3 ∨ c0 = 1) (fun c0 => (if c0 = 0 then (0 : Int32) else if c0 = 3 then 1 else 2)) (fun σ1 τ1 => σ1 = σ ∧ FrM [0] [37] τ τ1) := by
  have h10 : rws σ 3 ≤ 10 := hW.hlim (t := 3) (by omega)
  have e21 : (sF τ 0 0).1 21 = nI (rws σ 3) := hT.1
  unfold f_FC_force f_M_force
  by_cases q0 : ∃ j, j < rws σ 3 ∧ a0 = nI j
  · obtain ⟨j, hj, rfl⟩ := q0
    simp only [tb_has1 hW 3 (by omega) hj, isTx_m hW e21 hj, bnd_s, if_neg i10, B_M_force_19, fm_bad0, if_true, fc_isDay, fm_isDay]
    by_cases q1 : a1 < 0 ∨ 100000 < a1
    · simp only [if_pos q1, if_true, B_M_force_39, fm_bad1, bnd_s, if_neg i10]
      exact AgX.mk 1 0 σ 0 _ rfl (Or.inr (Or.inr rfl)) rfl rfl (fun z => absurd z (by decide)) ⟨rfl, (FrM.f1 _ _ (by decide)).trans (FrM.f1 _ _ (by decide))⟩
    · obtain ⟨F, τ', g1, g2, g3, g4, g5⟩ := force_ag hW (ITxt.thr τ 0 hT) a1
      have hg : rd τ' 37 (nI j) = if F.testBit j then 1 else 0 := by rw [rdn (by omega), g5 j hj]
      simp only [if_neg q1, if_neg i10, B_M_force_39, fm_bad0, bnd_s, if_true, g1, g2, gix_n (show j < 10 by omega) (show 10 < 2147483648 by omega), hg]
      have h0 : τ'.1 0 = 0 := by rw [g4.1 0 (by simp)]; rfl
      have fr : FrM [0] [37] τ τ' := (FrM.f1 _ _ (by decide)).trans (g4.mono (by simp) (by decide))
      by_cases q : F.testBit j = true
      · rw [if_pos ((bit_1 (by omega) (by omega)).mpr q), if_pos q, grd_s (Or.inr rfl)]
        exact AgX.mk 0 _ σ _ _ rfl (Or.inl rfl) rfl h0 (fun _ => rfl) ⟨rfl, fr⟩
      · rw [if_neg (fun z => q ((bit_1 (by omega) (by omega)).mp z)), if_neg q, grd_s (Or.inl rfl)]
        exact AgX.mk 0 _ σ _ _ rfl (Or.inl rfl) rfl h0 (fun _ => rfl) ⟨rfl, fr⟩
  · simp only [tb_has0 hW 3 (by omega) q0, isTx_m0 hW e21 q0, bnd_s, if_true, B_M_force_19, fm_bad1, if_neg i10]
    exact AgX.mk 3 0 σ 0 _ rfl (Or.inr (Or.inl rfl)) rfl rfl (fun z => absurd z (by decide)) ⟨rfl, (FrM.f1 _ _ (by decide)).trans (FrM.f1 _ _ (by decide))⟩
