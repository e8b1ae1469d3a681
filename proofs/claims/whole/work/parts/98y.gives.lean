/-! ===== layer 2: beats; the reference's search ===== -/
theorem dgi_c {k W0 d i : Nat} (hd : d < 3) (hi : i < k) : dgi (k + 1) (3 * W0 + d) i = dgi k W0 i := by
  unfold dgi
  rw [show k + 1 - 1 - i = (k - 1 - i) + 1 by omega, Nat.pow_succ, Nat.mul_comm (3 ^ (k - 1 - i)) 3, ← Nat.div_div_eq_div_mul, show (3 * W0 + d) / 3 = W0 by omega]
theorem dgi_d {k W0 d : Nat} (hd : d < 3) : dgi (k + 1) (3 * W0 + d) k = d := by
  unfold dgi
  rw [show k + 1 - 1 - k = 0 by omega, Nat.pow_zero, Nat.div_one]
  omega
theorem dSt_c {v k W0 d : Nat} (hd : d < 3) : dSt v (k + 1) (3 * W0 + d) = if d = v then dSt v k W0 ||| 2 ^ k else dSt v k W0 := by
  unfold dSt
  rw [bs_s, bs_congr (Q := fun i => decide (dgi k W0 i = v)) k (fun i hi => by rw [dgi_c hd hi]), dgi_d hd]
  by_cases q : d = v
  · rw [if_pos (decide_eq_true q), if_pos q]
  · rw [if_neg (by rw [decide_eq_false q]; decide), if_neg q]
theorem wth_c {Z : Nat → Nat} {k W0 d : Nat} (hd : d < 3) : wth Z (k + 1) (3 * W0 + d) = wth Z k W0 + (if d = 2 then 0 else Z k) := by
  unfold wth
  rw [sumN_s, sumN_congr (f := tm Z (k + 1) (3 * W0 + d)) (g := tm Z k W0) k (fun i hi => by unfold tm; rw [dgi_c hd hi])]
  congr 1
  unfold tm
  rw [dgi_d hd]
theorem rng3 (W e : Nat) : 3 * W * 3 ^ e = W * 3 ^ (e + 1) := by
  rw [Nat.pow_succ, Nat.mul_comm 3 W, Nat.mul_assoc, Nat.mul_comm 3]
def GR (n : Nat) (c1 c2 : Nat → Bool) (o1 o2 : Option Nat) (two : Nat) (τ : CS) : Prop := (∀ S, S < 2 ^ n → τ.2.1 97 S = nI (b2n (c1 S))) ∧ τ.2.1 98 0 = oW o1 ∧ ((two = 1 ∧ (∀ S, S < 2 ^ n → τ.2.1 97 (256 + S) = nI (b2n (c2 S))) ∧ τ.2.1 98 1 = oW o2) ∨ (two = 0 ∧ ∀ S, c2 S = decide (S = 0)))
theorem GR.fr {n : Nat} {c1 c2 : Nat → Bool} {o1 o2 : Option Nat} {two : Nat} {τ τ' : CS} {I A : List Nat} (h : GR n c1 c2 o1 o2 two τ) (f : FrM I A τ τ') (h2 : 97 ∉ A ∧ 98 ∉ A) : GR n c1 c2 o1 o2 two τ' := by
  unfold GR
  rw [f.2 97 h2.1, f.2 98 h2.2]
  exact h
theorem keepM {n : Nat} {X Y Z : Nat → Nat} {τ0 : CS} (h : Mys n X Y Z τ0) (rc : Nat → Int32 → Int32 → Int32 → Int32 → Int32 → CS → Option (Int32 × CS)) : ∃ τ1, L_M_gives_54 rc FU 0 τ0 = some (0, τ1) ∧ FrM [] [100] τ0 τ1 ∧ ∀ i, i < n → τ1.2.1 100 i = τ0.2.1 99 i := by
  have hn := h.2.1
  have lp : ∀ (d j m : Nat) (τ : CS), j + d = n → d < m → FrM [] [100] τ0 τ → (∀ i, i < j → τ.2.1 100 i = τ0.2.1 99 i) → ∃ τ1, L_M_gives_54 rc m (nI j) τ = some (0, τ1) ∧ FrM [] [100] τ0 τ1 ∧ ∀ i, i < n → τ1.2.1 100 i = τ0.2.1 99 i := by
    intro d
    induction d with
    | zero =>
      intro j m τ h1 h2 f0 g1
      obtain ⟨m, rfl⟩ : ∃ n, m = n + 1 := ⟨m - 1, by omega⟩
      have : j = n := by omega
      subst this
      have hs := h.fr f0 (by decide) (by decide)
      exact ⟨τ, by rw [L_M_gives_54, hs.1, if_pos (nI_le (Nat.le_refl _) (by omega))], f0, g1⟩
    | succ d ih =>
      intro j m τ h1 h2 f0 g1
      obtain ⟨m, rfl⟩ : ∃ n, m = n + 1 := ⟨m - 1, by omega⟩
      have hs := h.fr f0 (by decide) (by decide)
      rw [L_M_gives_54, hs.1, if_neg (nI_ge (by omega) (by omega)), gix_n (by omega) (by omega), gix_n (by omega) (by omega), rdn (by omega), wrn (by omega), nI_1]
      refine ih (j + 1) m _ (by omega) (by omega) (f0.trans (FrM.f2 _ _ (by decide))) (fun i hi => ?_)
      rw [sA_self]
      unfold upd
      by_cases z : i = j
      · rw [if_pos z, z, f0.2 99 (by decide)]
      · rw [if_neg z]
        exact g1 i (by omega)
  exact lp n 0 FU τ0 (by omega) (lt_FU (by omega)) (FrM.refl _ _ _) (fun i hi => by omega)
theorem givesM {n : Nat} {X Y Z : Nat → Nat} {c1 c2 : Nat → Bool} {o1 o2 : Option Nat} {two : Nat} : ∀ (e k W0 m : Nat) (τ : CS), k + e = n → e < m → W0 < 3 ^ k → Mys n X Y Z τ → GR n c1 c2 o1 o2 two τ → (∀ i, i < k → τ.2.1 99 i = whD o1 o2 (dgi k W0 i)) → (two = 0 → dSt 1 k W0 = 0) → BstC Z o1 o2 n (scn (Vw c1 c2 n) (wth Z n) (W0 * 3 ^ e)) (τ.1 101) (τ.2.1 100) → ∃ τ', g_MG m 0 (nI k) (nI (dSt 0 k W0)) (nI (dSt 1 k W0)) (nI (wth Z k W0)) (nI two) τ = some (0, τ') ∧ FrM [101] [99, 100] τ τ' ∧ (∀ i, i < k → τ'.2.1 99 i = τ.2.1 99 i) ∧ BstC Z o1 o2 n (scn (Vw c1 c2 n) (wth Z n) ((W0 + 1) * 3 ^ e)) (τ'.1 101) (τ'.2.1 100) := by
  intro e
  induction e with
  | zero =>
    intro k W0 m τ h1 h2 hW0 hM hG h99 hB hb
    obtain ⟨m, rfl⟩ : ∃ n, m = n + 1 := ⟨m - 1, by omega⟩
    have : k = n := by omega
    subst this
    have hn := hM.2.1
    have p8 := pow8 hn
    have p3 := pow3 hn
    have hZ : ∀ i, i < k → Z i ≤ 1000 := fun i hi => (hM.2.2 i hi).2.2.2.2.2
    have lA := bs_lt (fun i => decide (dgi k W0 i = 0)) k
    have lB := bs_lt (fun i => decide (dgi k W0 i = 1)) k
    have lA' : dSt 0 k W0 < 2 ^ k := lA
    have lB' : dSt 1 k W0 < 2 ^ k := lB
    have hw := wth_b hZ hn W0
    rw [Nat.pow_zero, Nat.mul_one] at hb
    rw [Nat.pow_zero, Nat.mul_one, g_MG, if_pos rfl]
    unfold f_M_gives B_M_gives_35
    rw [if_pos hM.1.symm, gix_n (by omega) (by omega), rdn (by omega), hG.1 _ lA']
    have skip : scn (Vw c1 c2 k) (wth Z k) (W0 + 1) = scn (Vw c1 c2 k) (wth Z k) W0 → ∃ τ', some ((0 : Int32), τ) = some (0, τ') ∧ FrM [101] [99, 100] τ τ' ∧ (∀ i, i < k → τ'.2.1 99 i = τ.2.1 99 i) ∧ BstC Z o1 o2 k (scn (Vw c1 c2 k) (wth Z k) (W0 + 1)) (τ'.1 101) (τ'.2.1 100) := fun z => ⟨τ, rfl, FrM.refl _ _ _, fun _ _ => rfl, by rw [z]; exact hb⟩
    have tst : Vw c1 c2 k W0 = true → ∃ τ', (if τ.1 101 < nI (wth Z k W0) then L_M_gives_54 (g_MG m) FU 0 (sF τ 101 (nI (wth Z k W0))) else some (0, τ)) = some (0, τ') ∧ FrM [101] [99, 100] τ τ' ∧ (∀ i, i < k → τ'.2.1 99 i = τ.2.1 99 i) ∧ BstC Z o1 o2 k (scn (Vw c1 c2 k) (wth Z k) (W0 + 1)) (τ'.1 101) (τ'.2.1 100) := by
      intro q
      have es : scn (Vw c1 c2 k) (wth Z k) (W0 + 1) = (match scn (Vw c1 c2 k) (wth Z k) W0 with
        | none => some W0
        | some v => if wth Z k v < wth Z k W0 then some W0 else some v) := if_pos q
      have take : scn (Vw c1 c2 k) (wth Z k) (W0 + 1) = some W0 → ∃ τ', L_M_gives_54 (g_MG m) FU 0 (sF τ 101 (nI (wth Z k W0))) = some (0, τ') ∧ FrM [101] [99, 100] τ τ' ∧ (∀ i, i < k → τ'.2.1 99 i = τ.2.1 99 i) ∧ BstC Z o1 o2 k (scn (Vw c1 c2 k) (wth Z k) (W0 + 1)) (τ'.1 101) (τ'.2.1 100) := by
        intro z
        have fa : FrM [101] [] τ (sF τ 101 (nI (wth Z k W0))) := FrM.f1 _ _ (by decide)
        obtain ⟨τ1, k1, k2, k3⟩ := keepM (hM.fr fa (by decide) (by decide)) (g_MG m)
        refine ⟨τ1, k1, (fa.mono (by decide) (by decide)).trans (k2.mono (by decide) (by decide)), fun i hi => by rw [k2.2 99 (by decide)], ?_⟩
        rw [z]
        refine ⟨(k2.1 101 (by decide)).trans (sF_self τ 101 _), fun v hv i hi => ?_⟩
        simp only [Option.some.injEq] at hv
        subst hv
        rw [k3 i hi]
        exact h99 i hi
      rw [hb.1]
      cases ec : scn (Vw c1 c2 k) (wth Z k) W0 with
      | none =>
        rw [ec] at es
        rw [if_pos (show encO (Option.map (wth Z k) none) < nI (wth Z k W0) from neg1_lt (by omega))]
        exact take es
      | some v =>
        rw [ec] at es
        have hv := wth_b hZ hn v
        have es' : scn (Vw c1 c2 k) (wth Z k) (W0 + 1) = if wth Z k v < wth Z k W0 then some W0 else some v := es
        by_cases z : wth Z k v < wth Z k W0
        · rw [if_pos (show encO (Option.map (wth Z k) (some v)) < nI (wth Z k W0) from (nI_ltI (by omega) (by omega)).2 z)]
          exact take (by rw [es', if_pos z])
        · rw [if_neg (show ¬ encO (Option.map (wth Z k) (some v)) < nI (wth Z k W0) from fun y => z ((nI_ltI (by omega) (by omega)).1 y))]
          exact skip (by rw [es', if_neg z, ec])
    cases q1 : c1 (dSt 0 k W0) with
    | false =>
      rw [if_pos (show nI (b2n false) = 0 from rfl)]
      exact skip (scn_no (by unfold Vw; rw [q1, Bool.false_and]; decide))
    | true =>
      rw [if_neg (show ¬ nI (b2n true) = 0 by decide)]
      rcases hG.2.2 with ⟨t1, g1, g2⟩ | ⟨t1, g1⟩
      · rw [if_neg (show ¬ nI two = 0 by rw [t1]; decide), show (256 : Int32) + nI (dSt 1 k W0) = nI (256 + dSt 1 k W0) by rw [show (256 : Int32) = nI 256 from rfl, nI_add], gix_n (by omega) (by omega), rdn (by omega), g1 _ lB']
        cases q2 : c2 (dSt 1 k W0) with
        | false =>
          rw [if_pos (show nI (b2n false) = 0 from rfl)]
          exact skip (scn_no (by unfold Vw; rw [q1, q2]; decide))
        | true =>
          rw [if_neg (show ¬ nI (b2n true) = 0 by decide)]
          exact tst (by unfold Vw; rw [q1, q2]; rfl)
      · rw [if_pos (show nI two = 0 by rw [t1]; rfl)]
        exact tst (by unfold Vw; rw [q1, g1, decide_eq_true (hB t1)]; rfl)
  | succ e ih =>
    intro k W0 m τ h1 h2 hW0 hM hG h99 hB hb
    obtain ⟨m, rfl⟩ : ∃ n, m = n + 1 := ⟨m - 1, by omega⟩
    have hn := hM.2.1
    have p3 := pow3 hn
    have pk : 3 ^ k * 3 ^ (e + 1) = 3 ^ n := by rw [← Nat.pow_add, h1]
    have ch : ∀ (d : Nat) (τ2 : CS), d < 3 → Mys n X Y Z τ2 → GR n c1 c2 o1 o2 two τ2 → (∀ i, i < k → τ2.2.1 99 i = whD o1 o2 (dgi k W0 i)) → (two = 0 → ¬ d = 1) → BstC Z o1 o2 n (scn (Vw c1 c2 n) (wth Z n) ((3 * W0 + d) * 3 ^ e)) (τ2.1 101) (τ2.2.1 100) → ∃ τ', g_MG m 0 (nI (k + 1)) (nI (dSt 0 (k + 1) (3 * W0 + d))) (nI (dSt 1 (k + 1) (3 * W0 + d))) (nI (wth Z (k + 1) (3 * W0 + d))) (nI two) (sA τ2 99 (upd (τ2.2.1 99) k (whD o1 o2 d))) = some (0, τ') ∧ FrM [101] [99, 100] τ2 τ' ∧ (∀ i, i < k → τ'.2.1 99 i = τ2.2.1 99 i) ∧ BstC Z o1 o2 n (scn (Vw c1 c2 n) (wth Z n) ((3 * W0 + d + 1) * 3 ^ e)) (τ'.1 101) (τ'.2.1 100) := by
      intro d τ2 hd a1 a2 a3 a4 a5
      have fa : FrM [] [99] τ2 (sA τ2 99 (upd (τ2.2.1 99) k (whD o1 o2 d))) := FrM.f2 _ _ (by decide)
      obtain ⟨τ', r1, r2, r3, r4⟩ := ih (k + 1) (3 * W0 + d) m (sA τ2 99 (upd (τ2.2.1 99) k (whD o1 o2 d))) (by omega) (by omega) (by rw [Nat.pow_succ]; omega) (a1.fr fa (by decide) (by decide)) (a2.fr fa (by decide)) (fun i hi => by
        rw [sA_self]
        unfold upd
        by_cases z : i = k
        · rw [if_pos z, z, dgi_d hd]
        · rw [if_neg z, dgi_c hd (by omega)]
          exact a3 i (by omega)) (fun z => by rw [dSt_c hd, if_neg (a4 z)]; exact hB z) (by rw [sA_ne _ _ (by decide)]; exact a5)
      refine ⟨τ', r1, (fa.mono (by decide) (by decide)).trans r2, fun i hi => ?_, r4⟩
      rw [r3 i (by omega), sA_self]
      unfold upd
      rw [if_neg (by omega)]
    have hb0 : BstC Z o1 o2 n (scn (Vw c1 c2 n) (wth Z n) ((3 * W0 + 0) * 3 ^ e)) (τ.1 101) (τ.2.1 100) := by
      rw [Nat.add_zero, rng3]
      exact hb
    obtain ⟨τ1, a1, a2, a3, a4⟩ := ch 0 τ (by omega) hM hG h99 (fun _ z => by omega) hb0
    rw [dSt_c (v := 0) (by omega), if_pos rfl, dSt_c (v := 1) (by omega), if_neg (by omega), wth_c (by omega), if_neg (by omega)] at a1
    have hM1 := hM.fr a2 (by decide) (by decide)
    have hG1 := hG.fr a2 (by decide)
    have h991 : ∀ i, i < k → τ1.2.1 99 i = whD o1 o2 (dgi k W0 i) := fun i hi => by rw [a3 i hi]; exact h99 i hi
    have last : ∀ τ2, FrM [101] [99, 100] τ τ2 → (∀ i, i < k → τ2.2.1 99 i = τ.2.1 99 i) → BstC Z o1 o2 n (scn (Vw c1 c2 n) (wth Z n) ((3 * W0 + 2) * 3 ^ e)) (τ2.1 101) (τ2.2.1 100) → ∃ τ', B_M_gives_160 (g_MG m) (nI k) (nI (dSt 0 k W0)) (nI (dSt 1 k W0)) (nI (wth Z k W0)) (nI two) τ2 = some (0, τ') ∧ FrM [101] [99, 100] τ τ' ∧ (∀ i, i < k → τ'.2.1 99 i = τ.2.1 99 i) ∧ BstC Z o1 o2 n (scn (Vw c1 c2 n) (wth Z n) ((W0 + 1) * 3 ^ (e + 1))) (τ'.1 101) (τ'.2.1 100) := by
      intro τ2 b2 b3 b4
      obtain ⟨τ3, d1, d2, d3, d4⟩ := ch 2 τ2 (by omega) (hM.fr b2 (by decide) (by decide)) (hG.fr b2 (by decide)) (fun i hi => by rw [b3 i hi]; exact h99 i hi) (fun _ z => by omega) b4
      rw [dSt_c (v := 0) (by omega), if_neg (by omega), dSt_c (v := 1) (by omega), if_neg (by omega), wth_c (by omega), if_pos rfl, Nat.add_zero] at d1
      have d1' : g_MG m 0 (nI (k + 1)) (nI (dSt 0 k W0)) (nI (dSt 1 k W0)) (nI (wth Z k W0)) (nI two) (sA τ2 99 (upd (τ2.2.1 99) k (-1))) = some (0, τ3) := d1
      unfold B_M_gives_160
      rw [gix_n (by omega) (by omega), wrn (by omega), nI_1, d1', bnd_s]
      refine ⟨τ3, rfl, b2.trans d2, fun i hi => by rw [d3 i hi, b3 i hi], ?_⟩
      rw [← rng3, show 3 * (W0 + 1) = 3 * W0 + 2 + 1 by omega]
      exact d4
    rw [g_MG, if_pos rfl]
    unfold f_M_gives
    have e98 : rd τ 98 0 = whD o1 o2 0 := hG.2.1
    have ez : τ.2.1 95 k = nI (Z k) := (hM.2.2 k (by omega)).2.2.2.2.1
    have ez1 : τ1.2.1 95 k = nI (Z k) := (hM1.2.2 k (by omega)).2.2.2.2.1
    rw [if_neg (by rw [hM.1]; exact fun z => absurd (nI_eqI (by omega) (by omega) z) (by omega)), lit_gix 0 2 _ (by omega) (by omega), gix_n (by omega) (by omega), gix_n (by omega) (by omega), nI_shl (by omega), nI_or, wrn (by omega), rdn (by omega), ez, nI_add, nI_1, e98, a1, bnd_s]
    rcases hG.2.2 with ⟨t1, g1, g2⟩ | ⟨t1, g1⟩
    · rw [if_neg (show ¬ nI two = 0 by rw [t1]; decide)]
      obtain ⟨τ2, b1, b2, b3, b4⟩ := ch 1 τ1 (by omega) hM1 hG1 h991 (fun z => by omega) a4
      rw [dSt_c (v := 0) (by omega), if_neg (by omega), dSt_c (v := 1) (by omega), if_pos rfl, wth_c (by omega), if_neg (by omega)] at b1
      have e98b : rd τ1 98 1 = whD o1 o2 1 := by
        show τ1.2.1 98 1 = _
        rw [a2.2 98 (by decide)]
        exact g2
      have t1' : (1 : Int32) = nI two := by rw [t1]; rfl
      rw [lit_gix 1 2 _ (by omega) (by omega), gix_n (by omega) (by omega), gix_n (by omega) (by omega), nI_or, wrn (by omega), rdn (by omega), ez1, nI_add, e98b, t1', b1, bnd_s]
      exact last τ2 (a2.trans b2) (fun i hi => by rw [b3 i hi, a3 i hi]) b4
    · rw [if_pos (show nI two = 0 by rw [t1]; rfl)]
      refine last τ1 a2 a3 ?_
      have es : scn (Vw c1 c2 n) (wth Z n) ((3 * W0 + 1) * 3 ^ e + 3 ^ e) = scn (Vw c1 c2 n) (wth Z n) ((3 * W0 + 1) * 3 ^ e) := by
        refine scn_skip _ _ (fun W w1 w2 => ?_)
        have ed : dgi n W k = 1 := by
          unfold dgi
          have : W / 3 ^ e = 3 * W0 + 1 := Nat.div_eq_of_lt_le w1 (by rw [Nat.succ_mul]; exact w2)
          rw [show n - 1 - k = e by omega, this]
          omega
        have hbit : (dSt 1 n W).testBit k = true := by
          unfold dSt
          rw [bs_bit, ed, decide_eq_true (show k < n by omega)]
          rfl
        unfold Vw
        rw [g1, decide_eq_false (fun z => by rw [z, Nat.zero_testBit] at hbit; cases hbit), Bool.and_false]
      rw [show (3 * W0 + 2) * 3 ^ e = (3 * W0 + 1) * 3 ^ e + 3 ^ e by rw [show 3 * W0 + 2 = (3 * W0 + 1) + 1 from rfl, Nat.succ_mul], es]
      exact a4
