/-! ===== layer 2: beats; the reference's rounds ===== -/
theorem nI_xor (a b : Nat) : nI a ^^^ nI b = nI (a ^^^ b) := by
  apply Int32.toBitVec_inj.mp
  rw [Int32.toBitVec_xor, nI_bv, nI_bv, nI_bv, BitVec.ofNat_xor]
theorem dist_c (a b : Nat) : dist a b = dist b a := Nat.add_comm _ _
theorem size_d {a b : Nat} (ha : a ≤ 999) (hb : b ≤ 999) (τ : CS) : f_M_size (nI a - nI b) τ = some (nI (dist a b), τ) := by
  unfold f_M_size
  rw [some_ite, (abs_d (by omega) (by omega)).2]
def Mys (n : Nat) (X Y Z : Nat → Nat) (τ : CS) : Prop := τ.1 92 = nI n ∧ n ≤ 8 ∧ ∀ i, i < n → τ.2.1 93 i = nI (X i) ∧ X i ≤ 999 ∧ τ.2.1 94 i = nI (Y i) ∧ Y i ≤ 999 ∧ τ.2.1 95 i = nI (Z i) ∧ Z i ≤ 1000
theorem Mys.fr {n : Nat} {X Y Z : Nat → Nat} {τ τ' : CS} {I A : List Nat} (h : Mys n X Y Z τ) (f : FrM I A τ τ') (h1 : 92 ∉ I) (h2 : 93 ∉ A ∧ 94 ∉ A ∧ 95 ∉ A) : Mys n X Y Z τ' := by
  unfold Mys
  rw [f.1 92 h1, f.2 93 h2.1, f.2 94 h2.2.1, f.2 95 h2.2.2]
  exact h
def Mdg (w x y r : Nat) (τ : CS) : Prop := w < 6 ∧ τ.2.1 89 w = nI x ∧ x ≤ 999 ∧ τ.2.1 90 w = nI y ∧ y ≤ 999 ∧ τ.2.1 91 w = nI r ∧ r ≤ 4000
theorem Mdg.fr {w x y r : Nat} {τ τ' : CS} {I A : List Nat} (h : Mdg w x y r τ) (f : FrM I A τ τ') (h2 : 89 ∉ A ∧ 90 ∉ A ∧ 91 ∉ A) : Mdg w x y r τ' := by
  unfold Mdg
  rw [f.2 89 h2.1, f.2 90 h2.2.1, f.2 91 h2.2.2]
  exact h
theorem Mys.dS {n : Nat} {X Y Z : Nat → Nat} {τ : CS} (h : Mys n X Y Z τ) : ∀ j k, j < n → k < n → dSS X Y j k ≤ 2000 := fun j k hj hk => by
  obtain ⟨-, a1, -, a2, -⟩ := h.2.2 j hj
  obtain ⟨-, b1, -, b2, -⟩ := h.2.2 k hk
  have := dist_9 a1 b1
  have := dist_9 a2 b2
  unfold dSS
  omega
theorem Mys.dL {n : Nat} {X Y Z : Nat → Nat} {τ : CS} (h : Mys n X Y Z τ) {x y : Nat} (hx : x ≤ 999) (hy : y ≤ 999) : ∀ k, k < n → dLS X Y x y k ≤ 2000 := fun k hk => by
  obtain ⟨-, b1, -, b2, -⟩ := h.2.2 k hk
  have := dist_9 hx b1
  have := dist_9 hy b2
  unfold dLS
  omega
theorem rnd_0 {n : Nat} {X Y Z : Nat → Nat} {τ : CS} (h : Mys n X Y Z τ) (K : Int32 → Int32 → Int32 → Int32 → CS → Option (Int32 × CS)) (x1 x2 x3 x4 x5 x6 x7 : Int32) : ∀ (d j m : Nat), j + d = n → d < m → L_M_rounds_122 K x1 x2 x3 x4 x5 x6 (nI 0) m x7 (nI j) τ = K x4 x5 x6 x7 τ := by
  have hn := h.2.1
  intro d
  induction d with
  | zero =>
    intro j m h1 h2
    obtain ⟨m, rfl⟩ : ∃ n, m = n + 1 := ⟨m - 1, by omega⟩
    rw [L_M_rounds_122, h.1, if_pos (nI_le (by omega) (by omega))]
  | succ d ih =>
    intro j m h1 h2
    obtain ⟨m, rfl⟩ : ∃ n, m = n + 1 := ⟨m - 1, by omega⟩
    rw [L_M_rounds_122, h.1, if_neg (nI_ge (by omega) (by omega)), if_pos ((bit_0 (by omega) (by omega)).2 (Nat.zero_testBit j)), nI_1]
    exact ih (j + 1) m (by omega) (by omega)
theorem rnd_122 {n : Nat} {X Y Z : Nat → Nat} {τ : CS} (h : Mys n X Y Z τ) {x y S k : Nat} (hx : x ≤ 999) (hy : y ≤ 999) (hS : S < 2 ^ n) (hk : k < n) (hb : S.testBit k = true) (h96 : Fil n (dSS X Y) (dLS X Y x y) S (τ.2.1 96)) (K : Int32 → Int32 → Int32 → Int32 → CS → Option (Int32 × CS)) (x1 x2 x3 x4 x6 : Int32) : ∀ (d j m : Nat), j + d = n → d < m → L_M_rounds_122 K x1 x2 x3 x4 (nI k) x6 (nI (S ^^^ 2 ^ k)) m (encF 1000000000 (mnO (bgP n (dSS X Y) (dLS X Y x y) S k) j)) (nI j) τ = K x4 (nI k) x6 (encF 1000000000 (mnO (bgP n (dSS X Y) (dLS X Y x y) S k) n)) τ := by
  have hn := h.2.1
  have p8 := pow8 hn
  have lt := xor_lt hb
  have hD := h.dS
  have hl := h.dL hx hy
  intro d
  induction d with
  | zero =>
    intro j m h1 h2
    obtain ⟨m, rfl⟩ : ∃ n, m = n + 1 := ⟨m - 1, by omega⟩
    have : j = n := by omega
    subst this
    rw [L_M_rounds_122, h.1, if_pos (nI_le (Nat.le_refl _) (by omega))]
  | succ d ih =>
    intro j m h1 h2
    obtain ⟨m, rfl⟩ : ∃ n, m = n + 1 := ⟨m - 1, by omega⟩
    have ih' := ih (j + 1) m (by omega) (by omega)
    rw [L_M_rounds_122, h.1, if_neg (nI_ge (by omega) (by omega)), nI_1]
    by_cases q : (S ^^^ 2 ^ k).testBit j = true
    · have e8 : (8 : Int32) * nI (S ^^^ 2 ^ k) + nI j = nI (8 * (S ^^^ 2 ^ k) + j) := by rw [show (8 : Int32) = nI 8 from rfl, nI_mul, nI_add]
      obtain ⟨a1, a2, a3, a4, -⟩ := h.2.2 j (by omega)
      obtain ⟨b1, b2, b3, b4, -⟩ := h.2.2 k hk
      have eb : bgP n (dSS X Y) (dLS X Y x y) S k j = some (bpt n (dSS X Y) (dLS X Y x y) (S ^^^ 2 ^ k) j + dSS X Y j k) := if_pos q
      have es := encF_r (F := 1000000000) (by omega) (by omega) (f := bgP n (dSS X Y) (dLS X Y x y) S k) (m := j) (fun i v hi hv => bgP_b hD hl (by omega) hk hb (by omega) hv) eb
      have ed : bpt n (dSS X Y) (dLS X Y x y) (S ^^^ 2 ^ k) j + dist (X k) (X j) + dist (Y k) (Y j) = bpt n (dSS X Y) (dLS X Y x y) (S ^^^ 2 ^ k) j + dSS X Y j k := by
        unfold dSS
        rw [dist_c (X k), dist_c (Y k), Nat.add_assoc]
      rw [if_neg (fun z => by rw [(bit_0 (by omega) (by omega)).1 z] at q; cases q), e8, gix_n (by omega) (by omega), gix_n (by omega) (by omega), gix_n (by omega) (by omega), rdn (by omega), rdn (by omega), a1, b1, size_d b2 a2, bnd_s, gix_n (by omega) (by omega), gix_n (by omega) (by omega), rdn (by omega), rdn (by omega), a3, b3, size_d b4 a4, bnd_s, rdn (by omega), h96 _ j lt (by omega) q, nI_add, nI_add, ed]
      rw [← es] at ih'
      by_cases z : encF 1000000000 (mnO (bgP n (dSS X Y) (dLS X Y x y) S k) j) ≤ nI (bpt n (dSS X Y) (dLS X Y x y) (S ^^^ 2 ^ k) j + dSS X Y j k)
      · rw [if_pos z]
        rw [if_pos z] at ih'
        exact ih'
      · rw [if_neg z]
        rw [if_neg z] at ih'
        exact ih'
    · rw [if_pos ((bit_0 (by omega) (by omega)).2 (Bool.eq_false_iff.2 q))]
      rw [encF_n (f := bgP n (dSS X Y) (dLS X Y x y) S k) (if_neg q)] at ih'
      exact ih'
/-- the way to one spot, in the reference -/
theorem rnd_k {n : Nat} {X Y Z : Nat → Nat} {τ : CS} (h : Mys n X Y Z τ) {x y S k : Nat} (hx : x ≤ 999) (hy : y ≤ 999) (hS : S < 2 ^ n) (hk : k < n) (hb : S.testBit k = true) (h96 : Fil n (dSS X Y) (dLS X Y x y) S (τ.2.1 96)) (K : Int32 → Int32 → Int32 → Int32 → CS → Option (Int32 × CS)) (x1 x2 x3 x4 : Int32) (b : Int32) (hbb : b = if S ^^^ 2 ^ k = 0 then nI (dLS X Y x y k) else 1000000000) : L_M_rounds_122 K x1 x2 x3 x4 (nI k) (nI (dLS X Y x y k)) (nI (S ^^^ 2 ^ k)) FU b 0 τ = K x4 (nI k) (nI (dLS X Y x y k)) (nI (bpt n (dSS X Y) (dLS X Y x y) S k)) τ := by
  have hn := h.2.1
  by_cases h0 : S ^^^ 2 ^ k = 0
  · rw [hbb, if_pos h0, h0, bpt_0 hb h0]
    exact rnd_0 h K x1 x2 x3 x4 (nI k) _ _ n 0 FU (by omega) (lt_FU (by omega))
  · rw [hbb, if_neg h0, bpt_1 hb h0]
    have e := rnd_122 h hx hy hS hk hb h96 K x1 x2 x3 x4 (nI (dLS X Y x y k)) n 0 FU (by omega) (lt_FU (by omega))
    have e' : L_M_rounds_122 K x1 x2 x3 x4 (nI k) (nI (dLS X Y x y k)) (nI (S ^^^ 2 ^ k)) FU 1000000000 0 τ = _ := e
    rw [e']
    obtain ⟨i, i1, i2⟩ := bit_ex (Nat.lt_trans (xor_lt hb) hS) h0
    rcases mnO_ok (bgP n (dSS X Y) (dLS X Y x y) S k) n with ⟨-, z⟩ | ⟨v, z, -⟩
    · have := z i i1
      rw [show bgP n (dSS X Y) (dLS X Y x y) S k i = some _ from if_pos i2] at this
      cases this
    · rw [z]
      rfl
def zR (n : Nat) (X Y : Nat → Nat) (x y S k : Nat) : Int32 := if S = 0 then 0 else encF 1000000000 (mnO (bgR n (dSS X Y) (dLS X Y x y) S) k)
theorem roundM {n : Nat} {X Y Z : Nat → Nat} {τ0 : CS} (h : Mys n X Y Z τ0) {w x y r : Nat} (hL : Mdg w x y r τ0) {S : Nat} (hS : S < 2 ^ n) (h96 : Fil n (dSS X Y) (dLS X Y x y) S (τ0.2.1 96)) (K : Int32 → Int32 → CS → Option (Int32 × CS)) (x1 : Int32) (b : Int32) (hbb : b = if S = 0 then 0 else 1000000000) : ∃ τ1, L_M_rounds_35 K x1 (nI w) (nI S) FU b 0 τ0 = K (nI S) (nI (if S = 0 then 0 else brd n (dSS X Y) (dLS X Y x y) S)) τ1 ∧ FrM [] [96] τ0 τ1 ∧ Fil n (dSS X Y) (dLS X Y x y) (S + 1) (τ1.2.1 96) := by
  have hn := h.2.1
  have p8 := pow8 hn
  have hx := hL.2.2.1
  have hy := hL.2.2.2.2.1
  have hD := h.dS
  have hl := h.dL hx hy
  have lp : ∀ (d k m : Nat) (τ : CS), k + d = n → d < m → FrM [] [96] τ0 τ → Fil n (dSS X Y) (dLS X Y x y) S (τ.2.1 96) → (∀ j, j < k → S.testBit j = true → τ.2.1 96 (8 * S + j) = nI (bpt n (dSS X Y) (dLS X Y x y) S j)) → ∃ τ1, L_M_rounds_35 K x1 (nI w) (nI S) m (zR n X Y x y S k) (nI k) τ = K (nI S) (zR n X Y x y S n) τ1 ∧ FrM [] [96] τ0 τ1 ∧ Fil n (dSS X Y) (dLS X Y x y) (S + 1) (τ1.2.1 96) := by
    intro d
    induction d with
    | zero =>
      intro k m τ h1 h2 f0 g1 g2
      obtain ⟨m, rfl⟩ : ∃ n, m = n + 1 := ⟨m - 1, by omega⟩
      have : k = n := by omega
      subst this
      have hs := h.fr f0 (by decide) (by decide)
      refine ⟨τ, by rw [L_M_rounds_35, hs.1, if_pos (nI_le (Nat.le_refl _) (by omega))], f0, fun S' j a b c => ?_⟩
      by_cases z : S' = S
      · rw [z] at c ⊢
        exact g2 j b c
      · exact g1 S' j (by omega) b c
    | succ d ih =>
      intro k m τ h1 h2 f0 g1 g2
      obtain ⟨m, rfl⟩ : ∃ n, m = n + 1 := ⟨m - 1, by omega⟩
      have hs := h.fr f0 (by decide) (by decide)
      have hL' := hL.fr f0 (by decide)
      have st : ∀ (v : Int32), (S.testBit k = true → v = nI (bpt n (dSS X Y) (dLS X Y x y) S k)) → ∃ τ1, L_M_rounds_35 K x1 (nI w) (nI S) m (zR n X Y x y S (k + 1)) (nI (k + 1)) (sA τ 96 (upd (τ.2.1 96) (8 * S + k) v)) = K (nI S) (zR n X Y x y S n) τ1 ∧ FrM [] [96] τ0 τ1 ∧ Fil n (dSS X Y) (dLS X Y x y) (S + 1) (τ1.2.1 96) := by
        intro v hv
        refine ih (k + 1) m _ (by omega) (by omega) (f0.trans (FrM.f2 _ _ (by decide))) (fun S' j a b c => ?_) (fun j a c => ?_)
        · rw [sA_self]
          unfold upd
          rw [if_neg (by omega)]
          exact g1 S' j a b c
        · rw [sA_self]
          unfold upd
          by_cases z : j = k
          · rw [if_pos (by omega), z]
            exact hv (by rw [← z]; exact c)
          · rw [if_neg (by omega)]
            exact g2 j (by omega) c
      have hw := hL.1
      have e8 : (8 : Int32) * nI S + nI k = nI (8 * S + k) := by rw [show (8 : Int32) = nI 8 from rfl, nI_mul, nI_add]
      obtain ⟨a1, a2, a3, a4, -⟩ := hs.2.2 k (by omega)
      have ed : dist (X k) x + dist (Y k) y = dLS X Y x y k := by
        unfold dLS
        rw [dist_c (X k), dist_c (Y k)]
      rw [L_M_rounds_35, hs.1, if_neg (nI_ge (by omega) (by omega)), gix_n (by omega) (by omega), gix_n (by omega) (by omega), rdn (by omega), rdn (by omega), a1, hL'.2.1, size_d a2 hx, bnd_s, gix_n (by omega) (by omega), gix_n (by omega) (by omega), rdn (by omega), rdn (by omega), a3, hL'.2.2.2.1, size_d a4 hy, bnd_s, nI_add, ed, nI_shl (by omega), nI_xor]
      by_cases q : S.testBit k = true
      · have h0 : ¬ S = 0 := fun z => by rw [z, Nat.zero_testBit] at q; cases q
        have eb : bgR n (dSS X Y) (dLS X Y x y) S k = some (bpt n (dSS X Y) (dLS X Y x y) S k + dLS X Y x y k) := if_pos q
        have es := encF_r (F := 1000000000) (by omega) (by omega) (f := bgR n (dSS X Y) (dLS X Y x y) S) (m := k) (fun i v hi hv => bgR_b hD hl (by omega) (by omega) hv) eb
        have key : B_M_rounds_219 (L_M_rounds_35 K x1 (nI w) (nI S) m) x1 (nI w) (nI S) (zR n X Y x y S k) (nI k) (nI (dLS X Y x y k)) (nI (bpt n (dSS X Y) (dLS X Y x y) S k)) τ = L_M_rounds_35 K x1 (nI w) (nI S) m (zR n X Y x y S (k + 1)) (nI (k + 1)) (sA τ 96 (upd (τ.2.1 96) (8 * S + k) (nI (bpt n (dSS X Y) (dLS X Y x y) S k)))) := by
          unfold B_M_rounds_219 B_M_rounds_239 B_M_rounds_241
          rw [e8, gix_n (by omega) (by omega), gix_n (by omega) (by omega), wrn (by omega), nI_add, nI_1]
          unfold zR
          rw [if_neg h0, if_neg h0, ← es]
          by_cases z : encF 1000000000 (mnO (bgR n (dSS X Y) (dLS X Y x y) S) k) ≤ nI (bpt n (dSS X Y) (dLS X Y x y) S k + dLS X Y x y k)
          · rw [if_pos z, if_pos z]
          · rw [if_neg z, if_neg z]
        rw [if_pos ((bit_1 (by omega) (by omega)).2 q)]
        by_cases h1 : S ^^^ 2 ^ k = 0
        · rw [if_pos (by rw [h1]; rfl), rnd_k hs hx hy hS (by omega) q g1 _ x1 (nI w) (nI S) _ _ (if_pos h1).symm, key]
          exact st _ (fun _ => rfl)
        · have lt := xor_lt q
          rw [if_neg (fun z => h1 ((eq_lit 0 (by omega) (by omega)).1 z)), rnd_k hs hx hy hS (by omega) q g1 _ x1 (nI w) (nI S) _ _ (if_neg h1).symm, key]
          exact st _ (fun _ => rfl)
      · have ez : zR n X Y x y S (k + 1) = zR n X Y x y S k := by
          unfold zR
          rw [encF_n (f := bgR n (dSS X Y) (dLS X Y x y) S) (if_neg q)]
        have st' := st 1000000000 (fun z => absurd z q)
        rw [ez] at st'
        unfold B_M_rounds_241
        rw [if_neg (fun z => q ((bit_1 (by omega) (by omega)).1 z)), e8, gix_n (by omega) (by omega), wrn (by omega), nI_1]
        exact st'
  have hb0 : b = zR n X Y x y S 0 := by
    rw [hbb]
    unfold zR
    rfl
  obtain ⟨τ1, e, e2, e3⟩ := lp n 0 FU τ0 (by omega) (lt_FU (by omega)) (FrM.refl _ _ _) h96 (fun j hj => by omega)
  refine ⟨τ1, ?_, e2, e3⟩
  have e' : L_M_rounds_35 K x1 (nI w) (nI S) FU b 0 τ0 = K (nI S) (zR n X Y x y S n) τ1 := by rw [hb0]; exact e
  rw [e']
  congr 1
  unfold zR
  by_cases h0 : S = 0
  · rw [if_pos h0, if_pos h0]
    rfl
  · rw [if_neg h0, if_neg h0]
    obtain ⟨i, i1, i2⟩ := bit_ex hS h0
    unfold brd
    rcases mnO_ok (bgR n (dSS X Y) (dLS X Y x y) S) n with ⟨-, z⟩ | ⟨v, z, -⟩
    · have := z i i1
      rw [show bgR n (dSS X Y) (dLS X Y x y) S i = some _ from if_pos i2] at this
      cases this
    · rw [z]
      rfl
theorem roundsM {n : Nat} {X Y Z : Nat → Nat} {τ0 : CS} (h : Mys n X Y Z τ0) {w x y r : Nat} (hL : Mdg w x y r τ0) {t : Nat} (ht : t < 2) (h98 : τ0.2.1 98 t = nI w) : ∃ τ1, f_M_rounds (nI t) τ0 = some (0, τ1) ∧ FrM [] [96, 97] τ0 τ1 ∧ (∀ S, S < 2 ^ n → τ1.2.1 97 (256 * t + S) = nI (b2n (canW n X Y (some (x, y, r)) S))) ∧ ∀ v, (v < 256 * t ∨ 256 * t + 256 ≤ v) → τ1.2.1 97 v = τ0.2.1 97 v := by
  have hn := h.2.1
  have p8 := pow8 hn
  have hw := hL.1
  have v1 : vp_nar .boolean 1 = nI (b2n true) := rfl
  have v0 : vp_nar .boolean 0 = nI (b2n false) := rfl
  have lp : ∀ (d S m : Nat) (τ : CS), S + d = 2 ^ n → d < m → FrM [] [96, 97] τ0 τ → Fil n (dSS X Y) (dLS X Y x y) S (τ.2.1 96) → (∀ S', S' < S → τ.2.1 97 (256 * t + S') = nI (b2n (canW n X Y (some (x, y, r)) S'))) → (∀ v, (v < 256 * t ∨ 256 * t + 256 ≤ v) → τ.2.1 97 v = τ0.2.1 97 v) → ∃ τ1, L_M_rounds_9 (nI t) (nI w) m (nI S) τ = some (0, τ1) ∧ FrM [] [96, 97] τ0 τ1 ∧ (∀ S, S < 2 ^ n → τ1.2.1 97 (256 * t + S) = nI (b2n (canW n X Y (some (x, y, r)) S))) ∧ ∀ v, (v < 256 * t ∨ 256 * t + 256 ≤ v) → τ1.2.1 97 v = τ0.2.1 97 v := by
    intro d
    induction d with
    | zero =>
      intro S m τ h1 h2 f0 g1 g2 g3
      obtain ⟨m, rfl⟩ : ∃ n, m = n + 1 := ⟨m - 1, by omega⟩
      have : S = 2 ^ n := by omega
      subst this
      have hs := h.fr f0 (by decide) (by decide)
      exact ⟨τ, by rw [L_M_rounds_9, hs.1, nI_shl (by omega), if_pos (nI_le (Nat.le_refl _) (by omega))], f0, g2, g3⟩
    | succ d ih =>
      intro S m τ h1 h2 f0 g1 g2 g3
      obtain ⟨m, rfl⟩ : ∃ n, m = n + 1 := ⟨m - 1, by omega⟩
      have hs := h.fr f0 (by decide) (by decide)
      have hL' := hL.fr f0 (by decide)
      have key : ∀ b : Int32, (b = if S = 0 then 0 else 1000000000) → ∃ τ1, L_M_rounds_35 (B_M_rounds_261 (L_M_rounds_9 (nI t) (nI w) m) (nI t) (nI w)) (nI t) (nI w) (nI S) FU b 0 τ = some (0, τ1) ∧ FrM [] [96, 97] τ0 τ1 ∧ (∀ S, S < 2 ^ n → τ1.2.1 97 (256 * t + S) = nI (b2n (canW n X Y (some (x, y, r)) S))) ∧ ∀ v, (v < 256 * t ∨ 256 * t + 256 ≤ v) → τ1.2.1 97 v = τ0.2.1 97 v := by
        intro b hb
        obtain ⟨τ2, k1, k2, k3⟩ := roundM hs hL' (show S < 2 ^ n by omega) g1 (B_M_rounds_261 (L_M_rounds_9 (nI t) (nI w) m) (nI t) (nI w)) (nI t) b hb
        have hL2 := hL'.fr k2 (by decide)
        have st : ∀ c : Bool, canW n X Y (some (x, y, r)) S = c → ∃ τ1, L_M_rounds_9 (nI t) (nI w) m (nI (S + 1)) (sA τ2 97 (upd (τ2.2.1 97) (256 * t + S) (nI (b2n c)))) = some (0, τ1) ∧ FrM [] [96, 97] τ0 τ1 ∧ (∀ S, S < 2 ^ n → τ1.2.1 97 (256 * t + S) = nI (b2n (canW n X Y (some (x, y, r)) S))) ∧ ∀ v, (v < 256 * t ∨ 256 * t + 256 ≤ v) → τ1.2.1 97 v = τ0.2.1 97 v := by
          intro c hc
          refine ih (S + 1) m _ (by omega) (by omega) (f0.trans ((k2.mono (by decide) (by decide)).trans (FrM.f2 _ _ (by decide)))) (by rw [sA_ne _ _ (by decide)]; exact k3) (fun S' hS' => ?_) (fun v hv => ?_)
          · rw [sA_self]
            unfold upd
            by_cases z : S' = S
            · rw [if_pos (by omega), z, hc]
            · rw [if_neg (by omega), k2.2 97 (by decide)]
              exact g2 S' (by omega)
          · rw [sA_self]
            unfold upd
            rw [if_neg (by omega), k2.2 97 (by decide)]
            exact g3 v hv
        have hbr := brd_b hs.dS (hs.dL hL.2.2.1 hL.2.2.2.2.1) (S := S) (by omega)
        have hr := hL.2.2.2.2.2.2
        have e8 : (256 : Int32) * nI t + nI S = nI (256 * t + S) := by rw [show (256 : Int32) = nI 256 from rfl, nI_mul, nI_add]
        rw [k1]
        unfold B_M_rounds_261 B_M_rounds_288
        rw [gix_n (by omega) (by omega), rdn (by omega), hL2.2.2.2.2.2.1, e8, gix_n (by omega) (by omega), gix_n (by omega) (by omega), wrn (by omega), wrn (by omega), v1, v0, nI_1]
        by_cases h0 : S = 0
        · rw [if_pos h0, if_neg (fun z => absurd ((nI_ltI (by omega) (by omega)).1 z) (by omega))]
          exact st true (decide_eq_true (Or.inl h0))
        · rw [if_neg h0]
          by_cases q1 : r < brd n (dSS X Y) (dLS X Y x y) S
          · rw [if_pos ((nI_ltI (by omega) (by omega)).2 q1)]
            exact st false (decide_eq_false (by omega))
          · rw [if_neg (fun z => q1 ((nI_ltI (by omega) (by omega)).1 z))]
            exact st true (decide_eq_true (by omega))
      rw [L_M_rounds_9, hs.1, nI_shl (by omega), if_neg (nI_ge (by omega) (by omega))]
      by_cases q0 : S = 0
      · rw [if_pos (by rw [q0]; rfl)]
        exact key 0 (if_pos q0).symm
      · rw [if_neg (fun z => q0 ((eq_lit 0 (by omega) (by omega)).1 z))]
        exact key _ (if_neg q0).symm
  have p0 : 0 < 2 ^ n := Nat.pow_pos (by omega)
  unfold f_M_rounds
  rw [gix_n ht (by omega), rdn (by omega), h98]
  exact lp (2 ^ n) 0 FU τ0 (by omega) (lt_FU (by omega)) (FrM.refl _ _ _) (fun S' j a1 => by omega) (fun S' hS' => by omega) (fun v _ => rfl)
