/-! ===== layer 2: what a court's day does to one case ===== -/
theorem ICas.row {σ τ σ' τ' : CS} {k : Nat} (h : ICas σ τ) (e6 : rws σ' 6 = rws σ 6) (e9 : rws σ' 9 = rws σ 9) (e10 : rws σ' 10 = rws σ 10) (e11 : rws σ' 11 = rws σ 11) (e62 : σ'.1 62 = σ.1 62) (c10 : ∀ i, cel σ' 10 i 6 = cel σ 10 i 6) (c8 : cel σ' 11 k 8 = cel σ 11 k 8) (co : ∀ i c, i ≠ k → c < 13 → cel σ' 11 i c = cel σ 11 i c) (t60 : τ'.1 60 = τ.1 60) (to : ∀ a i, 61 ≤ a → a ≤ 70 → a ≠ 63 → a ≠ 69 → i ≠ k → τ'.2.1 a i = τ.2.1 a i) (t63 : τ'.2.1 63 = τ.2.1 63) (t69 : ∀ i q, i ≠ k → q < 3 → τ'.2.1 69 (3 * i + q) = τ.2.1 69 (3 * i + q)) (hk : k < rws σ 11) (hn : Cas σ' τ' k) : ICas σ' τ' := by
  have c8a : ∀ i, cel σ' 11 i 8 = cel σ 11 i 8 := fun i => by
    by_cases q : i = k
    · rw [q, c8]
    · exact co i 8 q (by omega)
  refine ⟨by rw [t60, e11]; exact h.1, fun i hi => ?_, fun i h1 h2 => ?_, fun d hd => ?_⟩
  · rw [e11] at hi
    by_cases q : i = k
    · rw [q]; exact hn
    obtain ⟨z1, z2, z3, z4, z5, z6, z7, z8, z9, z10, z11⟩ := h.2.1 i hi
    unfold Cas
    rw [co i 8 q (by omega), co i 9 q (by omega), co i 10 q (by omega), co i 11 q (by omega), co i 1 q (by omega), co i 0 q (by omega), co i 2 q (by omega), co i 12 q (by omega), co i 7 q (by omega), co i 3 q (by omega), to 61 i (by omega) (by omega) (by omega) (by omega) q, to 62 i (by omega) (by omega) (by omega) (by omega) q, t63, to 64 i (by omega) (by omega) (by omega) (by omega) q, to 65 i (by omega) (by omega) (by omega) (by omega) q, to 66 i (by omega) (by omega) (by omega) (by omega) q, to 67 i (by omega) (by omega) (by omega) (by omega) q, to 68 i (by omega) (by omega) (by omega) (by omega) q, to 70 i (by omega) (by omega) (by omega) (by omega) q, e6, e9, e10, e62]
    refine ⟨z1, z2, z3, z4, z5, z6, z7, z8, fun r hr => ?_, z10, z11⟩
    rw [t69 i r q hr, co i (4 + r) q (by omega)]
    exact z9 r hr
  · rw [e11] at h1
    obtain ⟨z1, z2, z3, z4⟩ := h.2.2.1 i h1 h2
    have q : i ≠ k := by omega
    refine ⟨(to 65 i (by omega) (by omega) (by omega) (by omega) q).trans z1, (to 67 i (by omega) (by omega) (by omega) (by omega) q).trans z2, (to 70 i (by omega) (by omega) (by omega) (by omega) q).trans z3, fun r hr => (t69 i r q hr).trans (z4 r hr)⟩
  · rw [e10] at hd
    have hx := h.2.2.2 d hd
    unfold Doc at hx ⊢
    simp only [e11, c10, c8a]
    exact hx
theorem settle_c {σ : CS} (hW : WC σ) {k : Nat} (hk : k < rws σ 11) (s : Int32) : f_Courts_settle (nI k) s σ = some (0, if cel σ 11 k 0 = s then σ else pt (pt σ 11 k 0 s) 11 k 2 (σ.1 62)) := by
  unfold f_Courts_settle
  rw [tb_gl hW 11 (by omega) k 0 hk (by decide), bnd_s]
  by_cases q : cel σ 11 k 0 = s
  · rw [if_pos q, if_pos q]
  · rw [if_neg q, if_neg q, tb_pl hW 11 (by omega) k 0 hk (by decide), bnd_s, tb_pl (pt_W hW _ _ _ _) 11 (by omega) k 2 hk (by decide), bnd_s, pt_1]
theorem becomes_m {τ : CS} {k : Nat} (hk : k < 40) (s : Int32) : f_M_becomes (nI k) s τ = some (0, if τ.2.1 65 k = s then τ else sA (sA τ 65 (upd (τ.2.1 65) k s)) 66 (upd (τ.2.1 66) k (τ.1 1))) := by
  unfold f_M_becomes
  rw [gix_n hk (by omega), gix_n hk (by omega), gix_n hk (by omega), rdn (by omega), wrn (by omega), wrn (by omega)]
  by_cases q : τ.2.1 65 k = s
  · rw [if_pos q, if_pos q]
  · rw [if_neg q, if_neg q]
    simp only [va_up, reduceIte, Nat.reduceEqDiff]
