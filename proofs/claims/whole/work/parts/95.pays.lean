/-! ===== layer 2: what a court's day does to one case ===== -/
theorem ICas.row {σ τ σ' τ' : CS} {k : Nat} (h : ICas σ τ) (e6 : rws σ' 6 = rws σ 6) (e9 : rws σ' 9 = rws σ 9) (e10 : rws σ' 10 = rws σ 10) (e11 : rws σ' 11 = rws σ 11) (e62 : σ'.1 62 = σ.1 62) (c10 : ∀ i, cel σ' 10 i 6 = cel σ 10 i 6) (c8 : cel σ' 11 k 8 = cel σ 11 k 8) (co : ∀ i c, i ≠ k → c < 13 → cel σ' 11 i c = cel σ 11 i c) (t60 : τ'.1 60 = τ.1 60) (to : ∀ a i, 61 ≤ a → a ≤ 70 → a ≠ 63 → a ≠ 69 → i ≠ k → τ'.2.1 a i = τ.2.1 a i) (t63 : τ'.2.1 63 = τ.2.1 63) (t69 : ∀ i q, i ≠ k → q < 3 → τ'.2.1 69 (3 * i + q) = τ.2.1 69 (3 * i + q)) (hk : k < rws σ 11) (hn : Cas σ' τ' k) : ICas σ' τ' := by
  have c8a : ∀ i, cel σ' 11 i 8 = cel σ 11 i 8 := fun i => by
    by_cases q : i = k
    · rw [q, c8]
    · exact co i 8 q (by omega)
  refine ⟨by rw [t60, e11]; exact h.1, fun i hi => ?_, fun i h1 h2 => ?_, fun d hd => ?_⟩
  · rw [e11] at hi
    by_cases q : i = k
    · rw [q]; exact hn
    obtain ⟨z1, z2, z3, z4, z5, z6, z7, z8, z9, z10, z11⟩ := h.2.1 i hi
    unfold Cas
    rw [co i 8 q (by omega), co i 9 q (by omega), co i 10 q (by omega), co i 11 q (by omega), co i 1 q (by omega), co i 0 q (by omega), co i 2 q (by omega), co i 12 q (by omega), co i 7 q (by omega), co i 3 q (by omega), to 61 i (by omega) (by omega) (by omega) (by omega) q, to 62 i (by omega) (by omega) (by omega) (by omega) q, t63, to 64 i (by omega) (by omega) (by omega) (by omega) q, to 65 i (by omega) (by omega) (by omega) (by omega) q, to 66 i (by omega) (by omega) (by omega) (by omega) q, to 67 i (by omega) (by omega) (by omega) (by omega) q, to 68 i (by omega) (by omega) (by omega) (by omega) q, to 70 i (by omega) (by omega) (by omega) (by omega) q, e6, e9, e10, e62]
    refine ⟨z1, z2, z3, z4, z5, z6, z7, z8, fun r hr => ?_, z10, z11⟩
    rw [t69 i r q hr, co i (4 + r) q (by omega)]
    exact z9 r hr
  · rw [e11] at h1
    obtain ⟨z1, z2, z3, z4⟩ := h.2.2.1 i h1 h2
    have q : i ≠ k := by omega
    refine ⟨(to 65 i (by omega) (by omega) (by omega) (by omega) q).trans z1, (to 67 i (by omega) (by omega) (by omega) (by omega) q).trans z2, (to 70 i (by omega) (by omega) (by omega) (by omega) q).trans z3, fun r hr => (t69 i r q hr).trans (z4 r hr)⟩
  · rw [e10] at hd
    have hx := h.2.2.2 d hd
    unfold Doc at hx ⊢
    simp only [e11, c10, c8a]
    exact hx
theorem settle_c {σ : CS} (hW : WC σ) {k : Nat} (hk : k < rws σ 11) (s : Int32) : f_Courts_settle (nI k) s σ = some (0, if cel σ 11 k 0 = s then σ else pt (pt σ 11 k 0 s) 11 k 2 (σ.1 62)) := by
  unfold f_Courts_settle
  rw [tb_gl hW 11 (by omega) k 0 hk (by decide), bnd_s]
  by_cases q : cel σ 11 k 0 = s
  · rw [if_pos q, if_pos q]
  · rw [if_neg q, if_neg q, tb_pl hW 11 (by omega) k 0 hk (by decide), bnd_s, tb_pl (pt_W hW _ _ _ _) 11 (by omega) k 2 hk (by decide), bnd_s, pt_1]
theorem becomes_m {τ : CS} {k : Nat} (hk : k < 40) (s : Int32) : f_M_becomes (nI k) s τ = some (0, if τ.2.1 65 k = s then τ else sA (sA τ 65 (upd (τ.2.1 65) k s)) 66 (upd (τ.2.1 66) k (τ.1 1))) := by
  unfold f_M_becomes
  rw [gix_n hk (by omega), gix_n hk (by omega), gix_n hk (by omega), rdn (by omega), wrn (by omega), wrn (by omega)]
  by_cases q : τ.2.1 65 k = s
  · rw [if_pos q, if_pos q]
  · rw [if_neg q, if_neg q]
    simp only [va_up, reduceIte, Nat.reduceEqDiff]
theorem payer_ag {σ τ : CS} (hW : WC σ) (hP : IPeo σ τ) {p : Nat} (hp : p < rws σ 6) : ∃ v, (v = -1 ∨ Ix v (rws σ 6)) ∧ f_Courts_whoPaysFor (nI p) σ = some (v, σ) ∧ f_M_payer (nI p) τ = some (v, τ) := by
  unfold f_Courts_whoPaysFor f_M_payer
  rcases lives_ag hW hP hp with ⟨-, l1, l2⟩ | ⟨-, l1, l2⟩
  · rw [l1, l2, bnd_s, bnd_s, if_neg i10, if_pos rfl]
    exact ⟨nI p, Or.inr ⟨p, hp, rfl⟩, rfl, rfl⟩
  · rw [l1, l2, bnd_s, bnd_s, if_pos rfl, if_neg i10]
    obtain ⟨v, g1, g2, g3⟩ := heir_ag hW hP hp
    rw [g1, g2, bnd_s, bnd_s]
    refine ⟨v, ?_, rfl, rfl⟩
    rcases g3 with g3 | ⟨h, h1, h2, -⟩
    · exact Or.inl g3
    · exact Or.inr ⟨h, h1, h2⟩
theorem nI_addneg {a b : Nat} (h : b ≤ a) : nI a + -nI b = nI (a - b) := by
  rw [← Int32.sub_eq_add_neg, nI_sub h]
theorem pay_c {σ : CS} (hW : WC σ) {h m a : Nat} (hh : h < rws σ 6) (hm : m ≤ 1000000) (em : cel σ 6 h 1 = nI m) (ha : a ≤ 1000000) : f_People_pay (nI h) (nI a) σ = some (nI (min m a), pt σ 6 h 1 (nI (m - min m a))) := by
  unfold f_People_pay
  have e1 : (if nI m < nI a then nI m else nI a) = nI (min m a) := by
    by_cases q : m < a
    · rw [if_pos ((nI_ltI (by omega) (by omega)).2 q), Nat.min_eq_left (by omega)]
    · rw [if_neg (fun z => q ((nI_ltI (by omega) (by omega)).1 z)), Nat.min_eq_right (by omega)]
  have e2 : (if 0 < nI (min m a) then nI (min m a) else 0) = nI (min m a) := by
    by_cases q : 0 < min m a
    · rw [if_pos ((lit_lt 0 (by omega) (by omega)).2 q)]
    · have : min m a = 0 := by omega
      rw [this]
      rfl
  rw [tb_gl hW 6 (by omega) h 1 hh (by decide), bnd_s, em, e1, e2, tb_raise hW 6 (by omega) h 1 hh (by decide), bnd_s, em, nI_addneg (Nat.min_le_left _ _)]
theorem give_c {σ : CS} (hW : WC σ) {h m a : Nat} (hh : h < rws σ 6) (hm : m ≤ 1000000) (em : cel σ 6 h 1 = nI m) (ha : a ≤ 1000000) : f_People_give (nI h) (nI a) σ = some (0, pt σ 6 h 1 (nI (min (m + a) 1000000))) := by
  unfold f_People_give
  have e1 : (if nI m + nI a < 1000000 then nI m + nI a else 1000000) = nI (min (m + a) 1000000) := by
    rw [nI_add]
    by_cases q : m + a < 1000000
    · rw [if_pos ((lt_lit 1000000 (by omega) (by omega)).2 q), Nat.min_eq_left (by omega)]
    · rw [if_neg (fun z => q ((lt_lit 1000000 (by omega) (by omega)).1 z)), Nat.min_eq_right (by omega)]
      rfl
  rw [tb_gl hW 6 (by omega) h 1 hh (by decide), bnd_s, em, e1, tb_pl hW 6 (by omega) h 1 hh (by decide), bnd_s]
theorem gains_m {τ : CS} {h m a : Nat} (hh : h < 40) (hm : m ≤ 1000000) (em : τ.2.1 41 h = nI m) (ha : a ≤ 1000000) : f_M_gains (nI h) (nI a) τ = some (0, sA τ 41 (upd (τ.2.1 41) h (nI (min (m + a) 1000000)))) := by
  unfold f_M_gains B_M_gains_33
  rw [gix_n hh (by omega), gix_n hh (by omega), gix_n hh (by omega), gix_n hh (by omega), rdn (by omega), em, nI_add, wrn (by omega), wrn (by omega)]
  by_cases q : m + a ≤ 1000000
  · rw [if_pos ((le_lit 1000000 (by omega) (by omega)).2 q), Nat.min_eq_left q]
  · rw [if_neg (fun z => q ((le_lit 1000000 (by omega) (by omega)).1 z)), Nat.min_eq_right (by omega)]
    rfl
