/-! ===== layer 2: beats; the rounds, purely, and the class's measures ===== -/
theorem sA_self (σ : CS) (a : Nat) (f : Nat → Int32) : (sA σ a f).2.1 a = f := va_up_self σ.2.1 a f
theorem sA_ne (σ : CS) {a b : Nat} (f : Nat → Int32) (h : b ≠ a) : (sA σ a f).2.1 b = σ.2.1 b := va_up_ne σ.2.1 f h
theorem xor_bit (S k j : Nat) : (S ^^^ 2 ^ k).testBit j = (S.testBit j ^^ decide (k = j)) := by
  rw [Nat.testBit_xor, Nat.testBit_two_pow]
theorem xor_lt {S k : Nat} (h : S.testBit k = true) : S ^^^ 2 ^ k < S := by
  have h1 : S ^^^ 2 ^ k ≤ S := Nat.le_of_testBit (fun j hj => by
    rw [xor_bit] at hj
    by_cases q : k = j
    · rw [← q]; exact h
    · rw [decide_eq_false q, Bool.xor_false] at hj; exact hj)
  have h2 : ¬ S ^^^ 2 ^ k = S := fun z => by
    have := xor_bit S k k
    rw [z, h, decide_eq_true rfl] at this
    cases this
  omega
def bpt (n : Nat) (D : Nat → Nat → Nat) (dl : Nat → Nat) (S k : Nat) : Nat :=
  if h : S.testBit k = true then
    if S ^^^ 2 ^ k = 0 then dl k
    else (mnO (fun j => if (S ^^^ 2 ^ k).testBit j = true then some (bpt n D dl (S ^^^ 2 ^ k) j + D j k) else none) n).getD 0
  else 0
termination_by S
decreasing_by exact xor_lt h
def bgP (n : Nat) (D : Nat → Nat → Nat) (dl : Nat → Nat) (S k j : Nat) : Option Nat := if (S ^^^ 2 ^ k).testBit j = true then some (bpt n D dl (S ^^^ 2 ^ k) j + D j k) else none
theorem bpt_0 {n : Nat} {D : Nat → Nat → Nat} {dl : Nat → Nat} {S k : Nat} (h : S.testBit k = true) (h0 : S ^^^ 2 ^ k = 0) : bpt n D dl S k = dl k := by
  rw [bpt, dif_pos h, if_pos h0]
theorem bpt_1 {n : Nat} {D : Nat → Nat → Nat} {dl : Nat → Nat} {S k : Nat} (h : S.testBit k = true) (h0 : ¬ S ^^^ 2 ^ k = 0) : bpt n D dl S k = (mnO (bgP n D dl S k) n).getD 0 := by
  rw [bpt, dif_pos h, if_neg h0]
  rfl
theorem bpt_b {n : Nat} {D : Nat → Nat → Nat} {dl : Nat → Nat} (hD : ∀ j k, j < n → k < n → D j k ≤ 2000) (hl : ∀ k, k < n → dl k ≤ 2000) : ∀ S k, k < n → bpt n D dl S k ≤ 2000 * S := by
  intro S
  induction S using Nat.strongRecOn with
  | _ S ih =>
    intro k hk
    by_cases h : S.testBit k = true
    · have lt := xor_lt h
      by_cases h0 : S ^^^ 2 ^ k = 0
      · rw [bpt_0 h h0]
        have := hl k hk
        omega
      · rw [bpt_1 h h0]
        rcases mnO_ok (bgP n D dl S k) n with ⟨h1, -⟩ | ⟨v, h1, ⟨i, h2, h3⟩, -⟩
        · rw [h1]; exact Nat.zero_le _
        · rw [h1]
          show v ≤ _
          unfold bgP at h3
          by_cases q : (S ^^^ 2 ^ k).testBit i = true
          · rw [if_pos q] at h3
            simp only [Option.some.injEq] at h3
            have a := ih (S ^^^ 2 ^ k) lt i h2
            have b := hD i k h2 hk
            omega
          · rw [if_neg q] at h3; cases h3
    · rw [bpt, dif_neg h]
      exact Nat.zero_le _
def bgR (n : Nat) (D : Nat → Nat → Nat) (dl : Nat → Nat) (S k : Nat) : Option Nat := if S.testBit k = true then some (bpt n D dl S k + dl k) else none
def brd (n : Nat) (D : Nat → Nat → Nat) (dl : Nat → Nat) (S : Nat) : Nat := (mnO (bgR n D dl S) n).getD 0
theorem bit_ex {T n : Nat} (h : T < 2 ^ n) (h0 : ¬ T = 0) : ∃ i, i < n ∧ T.testBit i = true := by
  obtain ⟨i, hi⟩ := Nat.exists_testBit_of_ne_zero h0
  refine ⟨i, ?_, hi⟩
  by_cases q : i < n
  · exact q
  · have := Nat.testBit_lt_two_pow (x := T) (i := i) (Nat.lt_of_lt_of_le h (Nat.pow_le_pow_right (by omega) (by omega)))
    rw [this] at hi; cases hi
def encF (F : Nat) (o : Option Nat) : Int32 := match o with
  | none => nI F
  | some v => nI v
theorem encF_n {f : Nat → Option Nat} {m : Nat} (h : f m = none) : mnO f (m + 1) = mnO f m := by
  rw [mnO_s, h]
  cases mnO f m <;> rfl
theorem encF_b {F : Nat} (hF : 1000000 ≤ F) (hF2 : F ≤ 1000000000) {f : Nat → Option Nat} {m b : Nat} (hf : ∀ i v, i ≤ m → f i = some v → v < 1000000) (h : f m = some b) : (if nI b < encF F (mnO f m) then nI b else encF F (mnO f m)) = encF F (mnO f (m + 1)) := by
  have hb := hf m b (Nat.le_refl _) h
  rw [mnO_s, h]
  rcases mnO_ok f m with ⟨h1, -⟩ | ⟨v, h1, ⟨i, h2, h3⟩, -⟩
  · rw [h1]
    show (if nI b < nI F then nI b else nI F) = nI b
    rw [if_pos ((nI_ltI (by omega) (by omega)).2 (by omega))]
  · have hv := hf i v (by omega) h3
    rw [h1]
    show (if nI b < nI v then nI b else nI v) = nI (min b v)
    by_cases q : b < v
    · rw [if_pos ((nI_ltI (by omega) (by omega)).2 q), Nat.min_eq_left (by omega)]
    · rw [if_neg (fun z => q ((nI_ltI (by omega) (by omega)).1 z)), Nat.min_eq_right (by omega)]
theorem encF_r {F : Nat} (hF : 1000000 ≤ F) (hF2 : F ≤ 1000000000) {f : Nat → Option Nat} {m b : Nat} (hf : ∀ i v, i ≤ m → f i = some v → v < 1000000) (h : f m = some b) : (if encF F (mnO f m) ≤ nI b then encF F (mnO f m) else nI b) = encF F (mnO f (m + 1)) := by
  rw [← encF_b hF hF2 hf h]
  by_cases q : nI b < encF F (mnO f m)
  · rw [if_pos q, if_neg (Int32.not_le.2 q)]
  · rw [if_neg q, if_pos (Int32.not_lt.1 q)]
/-! the class -/
theorem rmC_all : ∀ S : _root_.Fin 256, ∀ k : _root_.Fin 8, S.val.testBit k.val = true → nI S.val &&& (((1 : Int32) <<< (nI k.val &&& 31)) ^^^ (-1)) = nI (S.val ^^^ 2 ^ k.val) := by decide +kernel
theorem rmC {S k : Nat} (hS : S < 256) (hk : k < 8) (h : S.testBit k = true) : nI S &&& (((1 : Int32) <<< (nI k &&& 31)) ^^^ (-1)) = nI (S ^^^ 2 ^ k) := rmC_all ⟨S, hS⟩ ⟨k, hk⟩ h
theorem way_d {a b c d : Nat} (ha : a ≤ 999) (hb : b ≤ 999) (hc : c ≤ 999) (hd : d ≤ 999) (σ : CS) : f_FC_wayBetween (nI a) (nI b) (nI c) (nI d) σ = some (nI (dist a c + dist b d), σ) := by
  rw [way_nI (B32.nat ha (by omega)) (B32.nat hb (by omega)) (B32.nat hc (by omega)) (B32.nat hd (by omega))]
  unfold dist
  congr 3
  omega
/-- the spots -/
def Wys (n : Nat) (X Y Z : Nat → Nat) (σ : CS) : Prop := WC σ ∧ rws σ 13 = n ∧ n ≤ 8 ∧ ∀ i, i < n → cel σ 13 i 0 = nI (X i) ∧ X i ≤ 999 ∧ cel σ 13 i 1 = nI (Y i) ∧ Y i ≤ 999 ∧ cel σ 13 i 2 = nI (Z i) ∧ Z i ≤ 1000
theorem Wys.fr {n : Nat} {X Y Z : Nat → Nat} {σ σ' : CS} {I A : List Nat} (h : Wys n X Y Z σ) (f : FrC I A σ σ') (h1 : ∀ k, k ∈ I → 48 ≤ k) (h2 : ∀ a, a ∈ A → 16 ≤ a) : Wys n X Y Z σ' := by
  have n1 : 3 * 13 + 2 ∉ I := fun z => by have := h1 _ z; omega
  have n2 : 13 ∉ A := fun z => by have := h2 _ z; omega
  refine ⟨h.1.fr f h1 h2, (f.fr n1).trans h.2.1, h.2.2.1, fun i hi => ?_⟩
  rw [f.fc n2, f.fc n2, f.fc n2]
  exact h.2.2.2 i hi
/-- a warden's lodge -/
def Ldg (w x y r : Nat) (σ : CS) : Prop := w < rws σ 9 ∧ cel σ 9 w 3 = nI x ∧ x ≤ 999 ∧ cel σ 9 w 4 = nI y ∧ y ≤ 999 ∧ cel σ 9 w 5 = nI r ∧ r ≤ 4000
theorem Ldg.fr {w x y r : Nat} {σ σ' : CS} {I A : List Nat} (h : Ldg w x y r σ) (f : FrC I A σ σ') (h1 : ∀ k, k ∈ I → 48 ≤ k) (h2 : ∀ a, a ∈ A → 16 ≤ a) : Ldg w x y r σ' := by
  have n1 : 3 * 9 + 2 ∉ I := fun z => by have := h1 _ z; omega
  have n2 : 9 ∉ A := fun z => by have := h2 _ z; omega
  unfold Ldg
  rw [f.fr n1, f.fc n2, f.fc n2, f.fc n2]
  exact h
def dSS (X Y : Nat → Nat) (j k : Nat) : Nat := dist (X j) (X k) + dist (Y j) (Y k)
def dLS (X Y : Nat → Nat) (x y k : Nat) : Nat := dist x (X k) + dist y (Y k)
theorem dist_9 {a b : Nat} (ha : a ≤ 999) (hb : b ≤ 999) : dist a b ≤ 1000 := by unfold dist; omega
theorem Wys.dS {n : Nat} {X Y Z : Nat → Nat} {σ : CS} (h : Wys n X Y Z σ) : ∀ j k, j < n → k < n → dSS X Y j k ≤ 2000 := fun j k hj hk => by
  obtain ⟨-, a1, -, a2, -⟩ := h.2.2.2 j hj
  obtain ⟨-, b1, -, b2, -⟩ := h.2.2.2 k hk
  have := dist_9 a1 b1
  have := dist_9 a2 b2
  unfold dSS
  omega
theorem Wys.dL {n : Nat} {X Y Z : Nat → Nat} {σ : CS} (h : Wys n X Y Z σ) {x y : Nat} (hx : x ≤ 999) (hy : y ≤ 999) : ∀ k, k < n → dLS X Y x y k ≤ 2000 := fun k hk => by
  obtain ⟨-, b1, -, b2, -⟩ := h.2.2.2 k hk
  have := dist_9 hx b1
  have := dist_9 hy b2
  unfold dLS
  omega
theorem wayL {n : Nat} {X Y Z : Nat → Nat} {σ : CS} (h : Wys n X Y Z σ) {w x y r : Nat} (hL : Ldg w x y r σ) {k : Nat} (hk : k < n) : f_Patrols_wayFromLodge (nI w) (nI k) σ = some (nI (dLS X Y x y k), σ) := by
  obtain ⟨hW, h1, h2, h3⟩ := h
  obtain ⟨l1, l2, l3, l4, l5, -, -⟩ := hL
  obtain ⟨a1, a2, a3, a4, -⟩ := h3 k hk
  unfold f_Patrols_wayFromLodge
  rw [tb_gl hW 9 (by omega) w 3 l1 (by decide), bnd_s, tb_gl hW 9 (by omega) w 4 l1 (by decide), bnd_s, tb_gl hW 13 (by omega) k 0 (by omega) (by decide), bnd_s, tb_gl hW 13 (by omega) k 1 (by omega) (by decide), bnd_s, l2, l4, a1, a3, way_d l3 l5 a2 a4, bnd_s]
  rfl
theorem pow8 {n : Nat} (h : n ≤ 8) : 2 ^ n ≤ 256 := Nat.le_trans (Nat.pow_le_pow_right (by omega) h) (by decide)
theorem bgP_b {n : Nat} {D : Nat → Nat → Nat} {dl : Nat → Nat} (hD : ∀ j k, j < n → k < n → D j k ≤ 2000) (hl : ∀ k, k < n → dl k ≤ 2000) {S k : Nat} (hS : S < 256) (hk : k < n) (hb : S.testBit k = true) {i v : Nat} (hi : i < n) (h : bgP n D dl S k i = some v) : v < 1000000 := by
  unfold bgP at h
  by_cases q : (S ^^^ 2 ^ k).testBit i = true
  · rw [if_pos q] at h
    simp only [Option.some.injEq] at h
    have a := bpt_b hD hl (S ^^^ 2 ^ k) i hi
    have b := hD i k hi hk
    have := xor_lt hb
    omega
  · rw [if_neg q] at h; cases h
theorem bgR_b {n : Nat} {D : Nat → Nat → Nat} {dl : Nat → Nat} (hD : ∀ j k, j < n → k < n → D j k ≤ 2000) (hl : ∀ k, k < n → dl k ≤ 2000) {S : Nat} (hS : S < 256) {i v : Nat} (hi : i < n) (h : bgR n D dl S i = some v) : v < 1000000 := by
  unfold bgR at h
  by_cases q : S.testBit i = true
  · rw [if_pos q] at h
    simp only [Option.some.injEq] at h
    have a := bpt_b hD hl S i hi
    have b := hl i hi
    omega
  · rw [if_neg q] at h; cases h
/-- the table of ways, as far as it is filled -/
def Fil (n : Nat) (D : Nat → Nat → Nat) (dl : Nat → Nat) (S : Nat) (f : Nat → Int32) : Prop := ∀ S' j, S' < S → j < n → S'.testBit j = true → f (8 * S' + j) = nI (bpt n D dl S' j)
theorem pathC {n : Nat} {X Y Z : Nat → Nat} {σ : CS} (h : Wys n X Y Z σ) {w x y r : Nat} (hL : Ldg w x y r σ) {S k : Nat} (hS : S < 2 ^ n) (hk : k < n) (hb : S.testBit k = true) (h27 : Fil n (dSS X Y) (dLS X Y x y) S (σ.2.1 27)) : f_Patrols_pathTo (nI w) (nI S) (nI k) σ = some (nI (bpt n (dSS X Y) (dLS X Y x y) S k), σ) := by
  have hn := h.2.2.1
  have p8 := pow8 hn
  have lt := xor_lt hb
  unfold f_Patrols_pathTo
  rw [rmC (by omega) (by omega) hb]
  by_cases h0 : S ^^^ 2 ^ k = 0
  · rw [if_pos (by rw [h0]; rfl), wayL h hL hk, bnd_s, bpt_0 hb h0]
  rw [if_neg (fun z => h0 ((eq_lit 0 (by omega) (by omega)).1 z)), bpt_1 hb h0]
  have hD := h.dS
  have hl := h.dL hL.2.2.1 hL.2.2.2.2.1
  have lp : ∀ (d j m : Nat), j + d = n → d < m → L_Patrols_pathTo_28 (nI k) (nI (S ^^^ 2 ^ k)) m (encF 1000000 (mnO (bgP n (dSS X Y) (dLS X Y x y) S k) j)) (nI j) σ = some (encF 1000000 (mnO (bgP n (dSS X Y) (dLS X Y x y) S k) n), σ) := by
    intro d
    induction d with
    | zero =>
      intro j m h1 h2
      obtain ⟨m, rfl⟩ : ∃ n, m = n + 1 := ⟨m - 1, by omega⟩
      have : j = n := by omega
      subst this
      rw [L_Patrols_pathTo_28, tb_size h.1 13 (by omega), bnd_s, if_pos (nI_le (by rw [h.2.1]; exact Nat.le_refl _) (by omega))]
    | succ d ih =>
      intro j m h1 h2
      obtain ⟨m, rfl⟩ : ∃ n, m = n + 1 := ⟨m - 1, by omega⟩
      have ih' := ih (j + 1) m (by omega) (by omega)
      rw [L_Patrols_pathTo_28, tb_size h.1 13 (by omega), bnd_s, h.2.1, if_neg (nI_ge (by omega) (by omega)), nI_1]
      by_cases q : (S ^^^ 2 ^ k).testBit j = true
      · have e8 : nI (S ^^^ 2 ^ k) * (8 : Int32) + nI j = nI (8 * (S ^^^ 2 ^ k) + j) := by rw [show (8 : Int32) = nI 8 from rfl, nI_mul, nI_add, Nat.mul_comm]
        obtain ⟨a1, a2, a3, a4, -⟩ := h.2.2.2 j (by omega)
        obtain ⟨b1, b2, b3, b4, -⟩ := h.2.2.2 k hk
        have hr := h.2.1
        have eb : bgP n (dSS X Y) (dLS X Y x y) S k j = some (bpt n (dSS X Y) (dLS X Y x y) (S ^^^ 2 ^ k) j + dSS X Y j k) := if_pos q
        have es := encF_b (F := 1000000) (by omega) (by omega) (f := bgP n (dSS X Y) (dLS X Y x y) S k) (m := j) (fun i v hi hv => bgP_b hD hl (by omega) hk hb (by omega) hv) eb
        rw [if_pos ((bit_1 (by omega) (by omega)).2 q), e8, if_neg (fun z => absurd ((lit_le 2048 (by omega) (by omega)).1 z) (by omega)), tb_gl h.1 13 (by omega) j 0 (by omega) (by decide), bnd_s, tb_gl h.1 13 (by omega) j 1 (by omega) (by decide), bnd_s, tb_gl h.1 13 (by omega) k 0 (by omega) (by decide), bnd_s, tb_gl h.1 13 (by omega) k 1 (by omega) (by decide), bnd_s, a1, a3, b1, b3, way_d a2 a4 b2 b4, bnd_s, gix_n (by omega) (by omega), rdn (by omega), h27 _ j lt (by omega) q, nI_add]
        show L_Patrols_pathTo_28 (nI k) (nI (S ^^^ 2 ^ k)) m (if nI (bpt n (dSS X Y) (dLS X Y x y) (S ^^^ 2 ^ k) j + dSS X Y j k) < _ then nI (bpt n (dSS X Y) (dLS X Y x y) (S ^^^ 2 ^ k) j + dSS X Y j k) else _) (nI (j + 1)) σ = _
        rw [es]
        exact ih'
      · rw [if_neg (fun z => q ((bit_1 (by omega) (by omega)).1 z))]
        rw [encF_n (f := bgP n (dSS X Y) (dLS X Y x y) S k) (if_neg q)] at ih'
        exact ih'
  have e := lp n 0 FU (by omega) (lt_FU (by omega))
  have lt2 : S ^^^ 2 ^ k < 2 ^ n := by omega
  obtain ⟨i, i1, i2⟩ := bit_ex lt2 h0
  have e' : L_Patrols_pathTo_28 (nI k) (nI (S ^^^ 2 ^ k)) FU 1000000 0 σ = some (encF 1000000 (mnO (bgP n (dSS X Y) (dLS X Y x y) S k) n), σ) := e
  rw [e']
  rcases mnO_ok (bgP n (dSS X Y) (dLS X Y x y) S k) n with ⟨-, z⟩ | ⟨v, z, -⟩
  · have := z i i1
    rw [show bgP n (dSS X Y) (dLS X Y x y) S k i = some _ from if_pos i2] at this
    cases this
  · rw [z]
    rfl
theorem roundC {n : Nat} {X Y Z : Nat → Nat} {σ0 : CS} (h : Wys n X Y Z σ0) {w x y r : Nat} (hL : Ldg w x y r σ0) {S : Nat} (hS : S < 2 ^ n) (hS0 : ¬ S = 0) (h27 : Fil n (dSS X Y) (dLS X Y x y) S (σ0.2.1 27)) : ∃ σ1, f_Patrols_roundOf (nI w) (nI S) σ0 = some (nI (brd n (dSS X Y) (dLS X Y x y) S), σ1) ∧ FrC [] [27] σ0 σ1 ∧ Fil n (dSS X Y) (dLS X Y x y) (S + 1) (σ1.2.1 27) := by
  have hn := h.2.2.1
  have p8 := pow8 hn
  have hD := h.dS
  have hl := h.dL hL.2.2.1 hL.2.2.2.2.1
  have lp : ∀ (d k m : Nat) (σ : CS), k + d = n → d < m → FrC [] [27] σ0 σ → Fil n (dSS X Y) (dLS X Y x y) S (σ.2.1 27) → (∀ j, j < k → S.testBit j = true → σ.2.1 27 (8 * S + j) = nI (bpt n (dSS X Y) (dLS X Y x y) S j)) → ∃ σ1, L_Patrols_roundOf_6 (nI w) (nI S) m (encF 1000000 (mnO (bgR n (dSS X Y) (dLS X Y x y) S) k)) (nI k) σ = some (encF 1000000 (mnO (bgR n (dSS X Y) (dLS X Y x y) S) n), σ1) ∧ FrC [] [27] σ0 σ1 ∧ Fil n (dSS X Y) (dLS X Y x y) (S + 1) (σ1.2.1 27) := by
    intro d
    induction d with
    | zero =>
      intro k m σ h1 h2 f0 g1 g2
      obtain ⟨m, rfl⟩ : ∃ n, m = n + 1 := ⟨m - 1, by omega⟩
      have : k = n := by omega
      subst this
      have hs := h.fr f0 (by decide) (by decide)
      refine ⟨σ, by rw [L_Patrols_roundOf_6, tb_size hs.1 13 (by omega), bnd_s, if_pos (nI_le (by rw [hs.2.1]; exact Nat.le_refl _) (by omega))], f0, fun S' j a b c => ?_⟩
      by_cases z : S' = S
      · rw [z] at c ⊢
        exact g2 j b c
      · exact g1 S' j (by omega) b c
    | succ d ih =>
      intro k m σ h1 h2 f0 g1 g2
      obtain ⟨m, rfl⟩ : ∃ n, m = n + 1 := ⟨m - 1, by omega⟩
      have hs := h.fr f0 (by decide) (by decide)
      have hL' := hL.fr f0 (by decide) (by decide)
      rw [L_Patrols_roundOf_6, tb_size hs.1 13 (by omega), bnd_s, hs.2.1, if_neg (nI_ge (by omega) (by omega)), nI_1]
      by_cases q : S.testBit k = true
      · have e8 : nI S * (8 : Int32) + nI k = nI (8 * S + k) := by rw [show (8 : Int32) = nI 8 from rfl, nI_mul, nI_add, Nat.mul_comm]
        have f1 : FrC [] [27] σ (sA σ 27 (upd (σ.2.1 27) (8 * S + k) (nI (bpt n (dSS X Y) (dLS X Y x y) S k)))) := FrC.f2 _ _ (by decide)
        have hs1 := hs.fr f1 (by decide) (by decide)
        have hL1 := hL'.fr f1 (by decide) (by decide)
        have eb : bgR n (dSS X Y) (dLS X Y x y) S k = some (bpt n (dSS X Y) (dLS X Y x y) S k + dLS X Y x y k) := if_pos q
        have es := encF_b (F := 1000000) (by omega) (by omega) (f := bgR n (dSS X Y) (dLS X Y x y) S) (m := k) (fun i v hi hv => bgR_b hD hl (by omega) (by omega) hv) eb
        have e27 : ∀ v : Nat, (sA σ 27 (upd (σ.2.1 27) (8 * S + k) (nI (bpt n (dSS X Y) (dLS X Y x y) S k)))).2.1 27 v = upd (σ.2.1 27) (8 * S + k) (nI (bpt n (dSS X Y) (dLS X Y x y) S k)) v := fun v => by rw [sA_self]
        obtain ⟨σ1, k1, k2, k3⟩ := ih (k + 1) m _ (by omega) (by omega) (f0.trans f1) (fun S' j a b c => by
          rw [e27]
          unfold upd
          rw [if_neg (by omega)]
          exact g1 S' j a b c) (fun j a c => by
          rw [e27]
          unfold upd
          by_cases z : j = k
          · rw [if_pos (by omega), z]
          · rw [if_neg (by omega)]
            exact g2 j (by omega) c)
        refine ⟨σ1, ?_, k2, k3⟩
        rw [if_pos ((bit_1 (by omega) (by omega)).2 q), e8, if_neg (fun z => absurd ((lit_le 2048 (by omega) (by omega)).1 z) (by omega)), pathC hs hL' hS (by omega) q g1, bnd_s, gix_n (by omega) (by omega), gix_n (by omega) (by omega), wrn (by omega), wayL hs1 hL1 (by omega), bnd_s, rdn (by omega), e27]
        unfold upd
        rw [if_pos rfl, nI_add]
        show L_Patrols_roundOf_6 (nI w) (nI S) m (if nI (bpt n (dSS X Y) (dLS X Y x y) S k + dLS X Y x y k) < _ then nI (bpt n (dSS X Y) (dLS X Y x y) S k + dLS X Y x y k) else _) (nI (k + 1)) _ = _
        rw [es]
        exact k1
      · have ih' := ih (k + 1) m σ (by omega) (by omega) f0 g1 (fun j a c => g2 j (by
          by_cases z : j = k
          · rw [z] at c; exact absurd c q
          · omega) c)
        rw [if_neg (fun z => q ((bit_1 (by omega) (by omega)).1 z))]
        rw [encF_n (f := bgR n (dSS X Y) (dLS X Y x y) S) (if_neg q)] at ih'
        exact ih'
  obtain ⟨σ1, e, e2, e3⟩ := lp n 0 FU σ0 (by omega) (lt_FU (by omega)) (FrC.refl _ _ _) h27 (fun j hj => by omega)
  refine ⟨σ1, ?_, e2, e3⟩
  obtain ⟨i, i1, i2⟩ := bit_ex hS hS0
  have e' : f_Patrols_roundOf (nI w) (nI S) σ0 = some (encF 1000000 (mnO (bgR n (dSS X Y) (dLS X Y x y) S) n), σ1) := e
  rw [e']
  unfold brd
  rcases mnO_ok (bgR n (dSS X Y) (dLS X Y x y) S) n with ⟨-, z⟩ | ⟨v, z, -⟩
  · have := z i i1
    rw [show bgR n (dSS X Y) (dLS X Y x y) S i = some _ from if_pos i2] at this
    cases this
  · rw [z]
    rfl
/-- which sets can be walked: without a lodge, none but the empty one -/
def canW (n : Nat) (X Y : Nat → Nat) (o : Option (Nat × Nat × Nat)) (S : Nat) : Bool := match o with
  | none => decide (S = 0)
  | some (x, y, r) => decide (S = 0 ∨ brd n (dSS X Y) (dLS X Y x y) S ≤ r)
def oW (o : Option Nat) : Int32 := match o with
  | none => -1
  | some w => nI w
def LdO (o : Option Nat) (p : Option (Nat × Nat × Nat)) (σ : CS) : Prop := match o, p with
  | none, none => True
  | some w, some (x, y, r) => Ldg w x y r σ
  | _, _ => False
theorem LdO.fr {o : Option Nat} {p : Option (Nat × Nat × Nat)} {σ σ' : CS} {I A : List Nat} (h : LdO o p σ) (f : FrC I A σ σ') (h1 : ∀ k, k ∈ I → 48 ≤ k) (h2 : ∀ a, a ∈ A → 16 ≤ a) : LdO o p σ' := by
  cases o with
  | none =>
    cases p with
    | none => trivial
    | some q => exact h
  | some w =>
    cases p with
    | none => exact h
    | some q => exact Ldg.fr (x := q.1) (y := q.2.1) (r := q.2.2) h f h1 h2
def b2n (b : Bool) : Nat := if b = true then 1 else 0
theorem brd_b {n : Nat} {D : Nat → Nat → Nat} {dl : Nat → Nat} (hD : ∀ j k, j < n → k < n → D j k ≤ 2000) (hl : ∀ k, k < n → dl k ≤ 2000) {S : Nat} (hS : S < 256) : brd n D dl S < 1000000 := by
  unfold brd
  rcases mnO_ok (bgR n D dl S) n with ⟨z, -⟩ | ⟨v, z, ⟨i, i1, i2⟩, -⟩
  · rw [z]; show 0 < 1000000; omega
  · rw [z]; exact bgR_b hD hl hS i1 i2
theorem measC {n : Nat} {X Y Z : Nat → Nat} {σ0 : CS} (h : Wys n X Y Z σ0) {o : Option Nat} {p : Option (Nat × Nat × Nat)} (hL : LdO o p σ0) (a : Nat) (ha : a = 28 ∨ a = 29) : ∃ σ1, f_Patrols_measure a (oW o) σ0 = some (0, σ1) ∧ FrC [] [27, a] σ0 σ1 ∧ ∀ S, S < 2 ^ n → σ1.2.1 a S = nI (b2n (canW n X Y p S)) := by
  have hn := h.2.2.1
  have p8 := pow8 hn
  have hla : lenA a = 256 := by rcases ha with rfl | rfl <;> rfl
  have ha27 : ¬ a = 27 := by omega
  have h16 : ∀ b, b ∈ [27, a] → 16 ≤ b := by
    intro b hb
    rw [List.mem_cons, List.mem_singleton] at hb
    omega
  have v1 : vp_nar .boolean 1 = nI (b2n true) := rfl
  have v0 : vp_nar .boolean 0 = nI (b2n false) := rfl
  have lp : ∀ (d S m : Nat) (σ : CS), S + d = 2 ^ n → d < m → FrC [] [27, a] σ0 σ → (∀ S', S' < S → σ.2.1 a S' = nI (b2n (canW n X Y p S'))) → (∀ x y r, p = some (x, y, r) → Fil n (dSS X Y) (dLS X Y x y) S (σ.2.1 27)) → ∃ σ1, L_Patrols_measure_13 a (oW o) (nI (2 ^ n)) m (nI S) σ = some (0, σ1) ∧ FrC [] [27, a] σ0 σ1 ∧ ∀ S, S < 2 ^ n → σ1.2.1 a S = nI (b2n (canW n X Y p S)) := by
    intro d
    induction d with
    | zero =>
      intro S m σ h1 h2 f0 g1 g2
      obtain ⟨m, rfl⟩ : ∃ n, m = n + 1 := ⟨m - 1, by omega⟩
      have : S = 2 ^ n := by omega
      subst this
      exact ⟨σ, by rw [L_Patrols_measure_13, if_pos (nI_le (Nat.le_refl _) (by omega))], f0, g1⟩
    | succ d ih =>
      intro S m σ h1 h2 f0 g1 g2
      obtain ⟨m, rfl⟩ : ∃ n, m = n + 1 := ⟨m - 1, by omega⟩
      have st : ∀ (σ2 : CS) (b : Bool), FrC [] [27] σ σ2 → (∀ x y r, p = some (x, y, r) → Fil n (dSS X Y) (dLS X Y x y) (S + 1) (σ2.2.1 27)) → canW n X Y p S = b → ∃ σ1, L_Patrols_measure_13 a (oW o) (nI (2 ^ n)) m (nI (S + 1)) (sA σ2 a (upd (σ2.2.1 a) S (nI (b2n b)))) = some (0, σ1) ∧ FrC [] [27, a] σ0 σ1 ∧ ∀ S, S < 2 ^ n → σ1.2.1 a S = nI (b2n (canW n X Y p S)) := by
        intro σ2 b f2 k2 k3
        refine ih (S + 1) m _ (by omega) (by omega) (f0.trans ((f2.mono (by decide) (fun x hx => by rw [List.mem_singleton] at hx; rw [hx]; exact List.mem_cons_self)).trans (FrC.f2 _ _ (List.mem_cons_of_mem _ (List.mem_singleton.2 rfl))))) (fun S' hS' => ?_) (fun x y r e => ?_)
        · rw [sA_self]
          unfold upd
          by_cases z : S' = S
          · rw [if_pos z, z, k3]
          · rw [if_neg z, (f2.2 a (fun z => ha27 (List.mem_singleton.1 z))).1]
            exact g1 S' (by omega)
        · rw [sA_ne _ _ (fun z => ha27 z.symm)]
          exact k2 x y r e
      have hs := h.fr f0 (by decide) h16
      have hL' := hL.fr f0 (by decide) h16
      rw [L_Patrols_measure_13, if_neg (nI_ge (by omega) (by omega)), hla, if_neg (nI_ge (by omega) (by omega))]
      unfold B_Patrols_measure_62 B_Patrols_measure_63
      simp only [hla, v1, v0, nI_1]
      by_cases q0 : S = 0
      · rw [if_pos (by rw [q0]; rfl), gix_n (by omega) (by omega), wrn (by omega)]
        refine st σ true (FrC.refl _ _ _) (fun x y r e S' j a1 b1 c1 => ?_) ?_
        · have : S' = 0 := by omega
          rw [this, Nat.zero_testBit] at c1
          cases c1
        · rw [q0]
          cases p with
          | none => rfl
          | some t => exact decide_eq_true (p := (0 = 0 ∨ brd n (dSS X Y) (dLS X Y t.1 t.2.1) 0 ≤ t.2.2)) (Or.inl rfl)
      rw [if_neg (fun z => q0 ((eq_lit 0 (by omega) (by omega)).1 z))]
      cases o with
      | none =>
        cases p with
        | some t => exact hL.elim
        | none =>
          rw [if_pos (show oW none = -1 from rfl), gix_n (by omega) (by omega), wrn (by omega)]
          exact st σ false (FrC.refl _ _ _) (fun x y r e => by cases e) (decide_eq_false q0)
      | some w =>
        cases p with
        | none => exact hL.elim
        | some t =>
          obtain ⟨x, y, r⟩ := t
          have hL2 : Ldg w x y r σ := hL'
          have h6 : rws σ 9 ≤ 6 := hs.1.hlim (t := 9) (by omega)
          have hw6 := hL2.1
          obtain ⟨σ2, k1, k2, k3⟩ := roundC hs hL2 (show S < 2 ^ n by omega) q0 (g2 x y r rfl)
          have hs2 := hs.fr k2 (by decide) (by decide)
          have hL3 := hL2.fr k2 (by decide) (by decide)
          have hbr := brd_b hs.dS (hs.dL hL2.2.2.1 hL2.2.2.2.2.1) (S := S) (by omega)
          rw [if_neg (show ¬ oW (some w) = -1 from nI_neg1 (by omega))]
          show ∃ σ1, bnd (f_Patrols_roundOf (nI w) (nI S) σ) _ = _ ∧ _
          rw [k1, bnd_s]
          show ∃ σ1, bnd (f_Table_get 9 (nI w) 5 σ2) _ = _ ∧ _
          rw [tb_gl hs2.1 9 (by omega) w 5 hL3.1 (by decide), bnd_s, hL3.2.2.2.2.2.1]
          have hr := hL2.2.2.2.2.2.2
          by_cases q1 : r < brd n (dSS X Y) (dLS X Y x y) S
          · rw [if_pos ((nI_ltI (by omega) (by omega)).2 q1), gix_n (by omega) (by omega), wrn (by omega)]
            exact st σ2 false k2 (fun x' y' r' e => by
              simp only [Option.some.injEq, Prod.mk.injEq] at e
              obtain ⟨rfl, rfl, -⟩ := e
              exact k3) (decide_eq_false (by omega))
          · rw [if_neg (fun z => q1 ((nI_ltI (by omega) (by omega)).1 z)), gix_n (by omega) (by omega), wrn (by omega)]
            exact st σ2 true k2 (fun x' y' r' e => by
              simp only [Option.some.injEq, Prod.mk.injEq] at e
              obtain ⟨rfl, rfl, -⟩ := e
              exact k3) (decide_eq_true (by omega))
  unfold f_Patrols_measure
  rw [tb_size h.1 13 (by omega), bnd_s, h.2.1, nI_shl (by omega)]
  have p0 : 0 < 2 ^ n := Nat.pow_pos (by omega)
  exact lp (2 ^ n) 0 FU σ0 (by omega) (lt_FU (by omega)) (FrC.refl _ _ _) (fun S' hS' => by omega) (fun x y r e S' j a1 => by omega)
