/-! ===== layer 2: beats; the ways to share, purely, and the class's choice ===== -/
theorem neg1_lt {a : Nat} (h : a < 2147483648) : (-1 : Int32) < nI a := Int32.lt_of_lt_of_le (show (-1 : Int32) < 0 by decide) (Int32.not_lt.1 (nI_pos h))
def scn (V : Nat → Bool) (w : Nat → Nat) : Nat → Option Nat
  | 0 => none
  | W + 1 => if V W = true then (match scn V w W with
    | none => some W
    | some v => if w v < w W then some W else some v) else scn V w W
theorem scn_no {V : Nat → Bool} {w : Nat → Nat} {W : Nat} (h : ¬ V W = true) : scn V w (W + 1) = scn V w W := if_neg h
theorem scn_skip {V : Nat → Bool} {w : Nat → Nat} (a : Nat) : ∀ m, (∀ W, a ≤ W → W < a + m → V W = false) → scn V w (a + m) = scn V w a := by
  intro m
  induction m with
  | zero => intro _; rfl
  | succ m ih =>
    intro h
    rw [← Nat.add_assoc, scn_no (by rw [h (a + m) (by omega) (by omega)]; decide)]
    exact ih (fun W h1 h2 => h W h1 (by omega))
theorem scn_ok {V : Nat → Bool} {w : Nat → Nat} : ∀ m v, scn V w m = some v → v < m ∧ V v = true := by
  intro m
  induction m with
  | zero => intro v h; cases h
  | succ m ih =>
    intro v h
    by_cases q : V m = true
    · have h' : (match scn V w m with
        | none => some m
        | some v => if w v < w m then some m else some v) = some v := by rw [← h]; exact (if_pos q).symm
      cases e : scn V w m with
      | none =>
        rw [e] at h'
        simp only [Option.some.injEq] at h'
        subst h'
        exact ⟨by omega, q⟩
      | some u =>
        rw [e] at h'
        have h2 : (if w u < w m then some m else some u) = some v := h'
        by_cases z : w u < w m
        · rw [if_pos z] at h2
          simp only [Option.some.injEq] at h2
          subst h2
          exact ⟨by omega, q⟩
        · rw [if_neg z] at h2
          simp only [Option.some.injEq] at h2
          subst h2
          have := ih u e
          exact ⟨by omega, this.2⟩
    · rw [scn_no q] at h
      have := ih v h
      exact ⟨by omega, this.2⟩
theorem scn_some {V : Nat → Bool} {w : Nat → Nat} {m : Nat} (h : V m = true) : ∃ v, scn V w (m + 1) = some v := by
  show ∃ v, (if V m = true then (match scn V w m with
    | none => some m
    | some v => if w v < w m then some m else some v) else scn V w m) = some v
  rw [if_pos h]
  cases scn V w m with
  | none => exact ⟨m, rfl⟩
  | some u =>
    show ∃ v, (if w u < w m then some m else some u) = some v
    by_cases z : w u < w m
    · exact ⟨m, if_pos z⟩
    · exact ⟨u, if_neg z⟩
def dgi (n W i : Nat) : Nat := W / 3 ^ (n - 1 - i) % 3
def bs (P : Nat → Bool) : Nat → Nat
  | 0 => 0
  | m + 1 => if P m = true then bs P m ||| 2 ^ m else bs P m
theorem bs_s (P : Nat → Bool) (m : Nat) : bs P (m + 1) = if P m = true then bs P m ||| 2 ^ m else bs P m := rfl
theorem bs_bit (P : Nat → Bool) (j : Nat) : ∀ m, (bs P m).testBit j = (decide (j < m) && P j) := by
  intro m
  induction m with
  | zero =>
    show (0 : Nat).testBit j = _
    rw [Nat.zero_testBit, decide_eq_false (by omega)]
    rfl
  | succ m ih =>
    rw [bs_s]
    by_cases q : P m = true
    · rw [if_pos q, tb_or, ih]
      by_cases z : j = m
      · rw [z, q, decide_eq_true rfl, decide_eq_true (show m < m + 1 by omega), Bool.or_true]
        rfl
      · rw [decide_eq_false z, Bool.or_false]
        by_cases y : j < m
        · rw [decide_eq_true y, decide_eq_true (show j < m + 1 by omega)]
        · rw [decide_eq_false y, decide_eq_false (show ¬ j < m + 1 by omega)]
    · rw [if_neg q, ih]
      by_cases z : j = m
      · rw [z, Bool.eq_false_iff.2 q, Bool.and_false, Bool.and_false]
      · by_cases y : j < m
        · rw [decide_eq_true y, decide_eq_true (show j < m + 1 by omega)]
        · rw [decide_eq_false y, decide_eq_false (show ¬ j < m + 1 by omega)]
theorem bs_lt (P : Nat → Bool) : ∀ m, bs P m < 2 ^ m := by
  intro m
  induction m with
  | zero => exact Nat.lt_of_lt_of_le (show bs P 0 < 1 from Nat.zero_lt_one) (Nat.le_refl _)
  | succ m ih =>
    rw [bs_s]
    have : bs P m < 2 ^ (m + 1) := Nat.lt_of_lt_of_le ih (Nat.pow_le_pow_right (by omega) (by omega))
    by_cases q : P m = true
    · rw [if_pos q]
      exact orlt8 this (by omega)
    · rw [if_neg q]
      exact this
theorem bs_congr {P Q : Nat → Bool} : ∀ m, (∀ i, i < m → P i = Q i) → bs P m = bs Q m := by
  intro m
  induction m with
  | zero => intro _; rfl
  | succ m ih =>
    intro h
    rw [bs_s, bs_s, ih (fun i hi => h i (by omega)), h m (by omega)]
theorem bs_eq {P : Nat → Bool} {m A : Nat} (h : ∀ j, A.testBit j = (decide (j < m) && P j)) : A = bs P m := Nat.eq_of_testBit_eq (fun j => by rw [h j, bs_bit])
def dSt (v n W : Nat) : Nat := bs (fun i => decide (dgi n W i = v)) n
def tm (Z : Nat → Nat) (n W i : Nat) : Nat := if dgi n W i = 2 then 0 else Z i
def wth (Z : Nat → Nat) (n W : Nat) : Nat := sumN (tm Z n W) n
def Vw (c1 c2 : Nat → Bool) (n W : Nat) : Bool := c1 (dSt 0 n W) && c2 (dSt 1 n W)
theorem tm_b {Z : Nat → Nat} {n : Nat} (hZ : ∀ i, i < n → Z i ≤ 1000) (hn : n ≤ 8) (W : Nat) : ∀ k, k ≤ n → sumN (tm Z n W) k ≤ 8000 := by
  intro k hk
  have := sumN_le (f := tm Z n W) (b := 1000) k (fun i hi => by
    show (if dgi n W i = 2 then 0 else Z i) ≤ 1000
    have := hZ i (by omega)
    split
    · omega
    · omega)
  omega
theorem wth_b {Z : Nat → Nat} {n : Nat} (hZ : ∀ i, i < n → Z i ≤ 1000) (hn : n ≤ 8) (W : Nat) : wth Z n W ≤ 8000 := tm_b hZ hn W n (Nat.le_refl _)
theorem dgi_lt (n W i : Nat) : dgi n W i < 3 := Nat.mod_lt _ (by omega)
/-! the class: one way tried -/
theorem tryC {n : Nat} {X Y Z : Nat → Nat} {σ0 : CS} (h : Wys n X Y Z σ0) {c1 c2 : Nat → Bool} (h1 : ∀ S, S < 2 ^ n → σ0.2.1 28 S = nI (b2n (c1 S))) (h2 : ∀ S, S < 2 ^ n → σ0.2.1 29 S = nI (b2n (c2 S))) (W : Nat) (hW : W < 10000) : ∃ σ1, f_Patrols_tryWay (nI W) σ0 = some (if Vw c1 c2 n W = true then nI (wth Z n W) else -1, σ1) ∧ FrC [] [31] σ0 σ1 ∧ ∀ i, i < n → σ1.2.1 31 i = nI (dgi n W i) := by
  have hn := h.2.2.1
  have p8 := pow8 hn
  have hZ : ∀ i, i < n → Z i ≤ 1000 := fun i hi => (h.2.2.2 i hi).2.2.2.2.2
  have e129 : ∀ (A B : Nat) (σ : CS), A < 256 → B < 256 → B_Patrols_tryWay_129 (nI A) (nI B) (nI (wth Z n W)) σ = if σ.2.1 28 A = 0 then some (-1, σ) else if σ.2.1 29 B = 0 then some (-1, σ) else some (nI (wth Z n W), σ) := by
    intro A B σ hA hB
    unfold B_Patrols_tryWay_129 B_Patrols_tryWay_171 B_Patrols_tryWay_172
    rw [if_neg (fun z => absurd ((lit_le 256 (by omega) (by omega)).1 z) (by omega)), gix_n hA (by omega), rdn (by omega), if_neg (fun z => absurd ((lit_le 256 (by omega) (by omega)).1 z) (by omega)), gix_n hB (by omega), rdn (by omega), if_pos rfl, if_neg i10]
  have lp : ∀ (j m A B c : Nat) (σ : CS), j ≤ n → j < m → FrC [] [31] σ0 σ → (∀ i, A.testBit i = (decide (j ≤ i) && (decide (i < n) && decide (dgi n W i = 0)))) → (∀ i, B.testBit i = (decide (j ≤ i) && (decide (i < n) && decide (dgi n W i = 1)))) → c + sumN (tm Z n W) j = wth Z n W → (∀ i, j ≤ i → i < n → σ.2.1 31 i = nI (dgi n W i)) → ∃ σ1, L_Patrols_tryWay_29 B_Patrols_tryWay_129 m (nI (W / 3 ^ (n - j))) (nI A) (nI B) (nI c) (nI j - 1) σ = some (if Vw c1 c2 n W = true then nI (wth Z n W) else -1, σ1) ∧ FrC [] [31] σ0 σ1 ∧ ∀ i, i < n → σ1.2.1 31 i = nI (dgi n W i) := by
    intro j
    induction j with
    | zero =>
      intro m A B c σ hj hm f0 hA hB hc h31
      obtain ⟨m, rfl⟩ : ∃ n, m = n + 1 := ⟨m - 1, by omega⟩
      refine ⟨σ, ?_, f0, fun i hi => h31 i (Nat.zero_le _) hi⟩
      have hc' : c = wth Z n W := hc
      have eA : A = dSt 0 n W := bs_eq (fun i => by rw [hA i, decide_eq_true (Nat.zero_le i), Bool.true_and])
      have eB : B = dSt 1 n W := bs_eq (fun i => by rw [hB i, decide_eq_true (Nat.zero_le i), Bool.true_and])
      have lA : A < 2 ^ n := by rw [eA]; exact bs_lt _ n
      have lB : B < 2 ^ n := by rw [eB]; exact bs_lt _ n
      rw [L_Patrols_tryWay_29, if_pos (show nI 0 - 1 < (0 : Int32) by decide), hc', e129 A B σ (by omega) (by omega), (f0.2 28 (by decide)).1, (f0.2 29 (by decide)).1, h1 A lA, h2 B lB]
      unfold Vw
      rw [← eA, ← eB]
      cases c1 A
      · rfl
      · cases c2 B <;> rfl
    | succ j ih =>
      intro m A B c σ hj hm f0 hA hB hc h31
      obtain ⟨m, rfl⟩ : ∃ n, m = n + 1 := ⟨m - 1, by omega⟩
      have hs := h.fr f0 (by decide) (by decide)
      have hd3 := dgi_lt n W j
      have hq : W / 3 ^ (n - (j + 1)) ≤ W := Nat.div_le_self _ _
      have ed : W / 3 ^ (n - (j + 1)) % 3 = dgi n W j := by unfold dgi; rw [show n - 1 - j = n - (j + 1) by omega]
      have eq : W / 3 ^ (n - (j + 1)) / 3 = W / 3 ^ (n - j) := by rw [Nat.div_div_eq_div_mul, ← Nat.pow_succ, show (n - (j + 1)).succ = n - j by omega]
      have ed' : nI (W / 3 ^ (n - (j + 1))) - nI (W / 3 ^ (n - (j + 1))) / 3 * 3 = nI (dgi n W j) := by
        rw [show (3 : Int32) = nI 3 from rfl, nI_div (by omega) (by omega), nI_mul, nI_sub (Nat.div_mul_le_self _ 3), ← ed]
        congr 1
        omega
      have eq' : nI (W / 3 ^ (n - (j + 1))) / 3 = nI (W / 3 ^ (n - j)) := by rw [show (3 : Int32) = nI 3 from rfl, nI_div (by omega) (by omega), eq]
      have f1 : FrC [] [31] σ (sA σ 31 (upd (σ.2.1 31) j (nI (dgi n W j)))) := FrC.f2 _ _ (by decide)
      have hs1 := hs.fr f1 (by decide) (by decide)
      have e31 : (sA σ 31 (upd (σ.2.1 31) j (nI (dgi n W j)))).2.1 31 j = nI (dgi n W j) := by
        rw [sA_self]
        unfold upd
        rw [if_pos rfl]
      have hz := hs.2.2.2 j (by omega)
      have st : ∀ A' B' t : Nat, A' = (if dgi n W j = 0 then A ||| 2 ^ j else A) → B' = (if dgi n W j = 1 then B ||| 2 ^ j else B) → t = tm Z n W j → ∃ σ1, L_Patrols_tryWay_29 B_Patrols_tryWay_129 m (nI (W / 3 ^ (n - j))) (nI A') (nI B') (nI (c + t)) (nI j - 1) (sA σ 31 (upd (σ.2.1 31) j (nI (dgi n W j)))) = some (if Vw c1 c2 n W = true then nI (wth Z n W) else -1, σ1) ∧ FrC [] [31] σ0 σ1 ∧ ∀ i, i < n → σ1.2.1 31 i = nI (dgi n W i) := by
        intro A' B' t eA eB et
        have aux : ∀ (v S S' : Nat), (∀ i, S.testBit i = (decide (j + 1 ≤ i) && (decide (i < n) && decide (dgi n W i = v)))) → S' = (if dgi n W j = v then S ||| 2 ^ j else S) → ∀ i, S'.testBit i = (decide (j ≤ i) && (decide (i < n) && decide (dgi n W i = v))) := by
          intro v S S' hS eS i
          rw [eS]
          by_cases z : i = j
          · rw [z, decide_eq_true (Nat.le_refl j), decide_eq_true (show j < n by omega), Bool.true_and, Bool.true_and]
            by_cases y : dgi n W j = v
            · rw [if_pos y, tb_or, decide_eq_true rfl, Bool.or_true, decide_eq_true y]
            · rw [if_neg y, hS j, decide_eq_false (show ¬ j + 1 ≤ j by omega), Bool.false_and, decide_eq_false y]
          · have e1 : decide (j + 1 ≤ i) = decide (j ≤ i) := by
              by_cases y : j ≤ i
              · rw [decide_eq_true y, decide_eq_true (show j + 1 ≤ i by omega)]
              · rw [decide_eq_false y, decide_eq_false (show ¬ j + 1 ≤ i by omega)]
            by_cases y : dgi n W j = v
            · rw [if_pos y, tb_or, decide_eq_false z, Bool.or_false, hS i, e1]
            · rw [if_neg y, hS i, e1]
        refine ih m A' B' (c + t) _ (by omega) (by omega) (f0.trans f1) (aux 0 A A' hA eA) (aux 1 B B' hB eB) ?_ (fun i a b => ?_)
        · rw [sumN_s] at hc
          rw [et]
          omega
        · rw [sA_self]
          unfold upd
          by_cases z : i = j
          · rw [if_pos z, z]
          · rw [if_neg z]
            exact h31 i (by omega) b
      have hj1 : nI (j + 1) - 1 = nI j := nI_p1 j
      have em : nI j + (-1) = nI j - 1 := (Int32.sub_eq_add_neg _ _).symm
      have o0 : ∀ a : Nat, nI a ||| 0 = nI a := fun a => by rw [show (0 : Int32) = nI 0 from rfl, nI_or, Nat.or_zero]
      rw [L_Patrols_tryWay_29, hj1, if_neg (nI_pos (by omega)), gix_n (by omega) (by omega), gix_n (by omega) (by omega), ed', eq', wrn (by omega), rdn (by omega), e31]
      unfold B_Patrols_tryWay_67 B_Patrols_tryWay_90 B_Patrols_tryWay_120
      have cs : dgi n W j = 0 ∨ dgi n W j = 1 ∨ dgi n W j = 2 := by omega
      rcases cs with z | z | z
      · rw [if_pos (by rw [z]; rfl), gix_n (by omega) (by omega), rdn (by omega), e31, if_neg (by rw [z]; decide), gix_n (by omega) (by omega), if_neg (by rw [z]; decide), tb_gl hs1.1 13 (by omega) j 2 (by rw [hs1.2.1]; omega) (by decide), bnd_s, (hs1.2.2.2 j (by omega)).2.2.2.2.1, nI_shl (by omega), nI_or, o0, nI_add, em]
        exact st _ _ _ (if_pos z).symm (if_neg (by omega)).symm (show Z j = tm Z n W j from (if_neg (by omega)).symm)
      · rw [if_neg (by rw [z]; decide), gix_n (by omega) (by omega), rdn (by omega), e31, if_pos (by rw [z]; rfl), gix_n (by omega) (by omega), if_neg (by rw [z]; decide), tb_gl hs1.1 13 (by omega) j 2 (by rw [hs1.2.1]; omega) (by decide), bnd_s, (hs1.2.2.2 j (by omega)).2.2.2.2.1, nI_shl (by omega), nI_or, o0, nI_add, em]
        exact st _ _ _ (if_neg (by omega)).symm (if_pos z).symm (show Z j = tm Z n W j from (if_neg (by omega)).symm)
      · rw [if_neg (by rw [z]; decide), gix_n (by omega) (by omega), rdn (by omega), e31, if_neg (by rw [z]; decide), gix_n (by omega) (by omega), if_pos (by rw [z]; rfl), o0, o0, em]
        have := st A B 0 (if_neg (by omega)).symm (if_neg (by omega)).symm (show 0 = tm Z n W j from (if_pos z).symm)
        show ∃ σ1, L_Patrols_tryWay_29 B_Patrols_tryWay_129 m (nI (W / 3 ^ (n - j))) (nI A) (nI B) (nI c + nI 0) (nI j - 1) _ = _ ∧ _
        rw [nI_add]
        exact this
  unfold f_Patrols_tryWay
  rw [tb_size h.1 13 (by omega), bnd_s, h.2.1, if_neg (fun z => absurd ((lit_lt 8 (by omega) (by omega)).1 z) (by omega))]
  have e0 : W / 3 ^ (n - n) = W := by rw [Nat.sub_self]; exact Nat.div_one W
  have := lp n FU 0 0 0 σ0 (Nat.le_refl _) (lt_FU (by omega)) (FrC.refl _ _ _) (fun i => by
    rw [Nat.zero_testBit]
    by_cases z : i < n
    · rw [decide_eq_false (show ¬ n ≤ i by omega)]; rfl
    · rw [decide_eq_false z, Bool.false_and, Bool.and_false]) (fun i => by
    rw [Nat.zero_testBit]
    by_cases z : i < n
    · rw [decide_eq_false (show ¬ n ≤ i by omega)]; rfl
    · rw [decide_eq_false z, Bool.false_and, Bool.and_false]) (Nat.zero_add _) (fun i a b => by omega)
  rw [e0] at this
  exact this
/-! the class: the choice -/
def whD (o1 o2 : Option Nat) (d : Nat) : Int32 := if d = 0 then oW o1 else if d = 1 then oW o2 else -1
/-- the best so far -/
def BstC (Z : Nat → Nat) (o1 o2 : Option Nat) (n : Nat) (s : Option Nat) (b : Int32) (f : Nat → Int32) : Prop := b = encO (s.map (wth Z n)) ∧ ∀ v, s = some v → ∀ i, i < n → f i = whD o1 o2 (dgi n v i)
theorem copyC {n : Nat} {X Y Z : Nat → Nat} {σ0 : CS} (h : Wys n X Y Z σ0) {o1 o2 : Option Nat} {W : Nat} (h31 : ∀ i, i < n → σ0.2.1 31 i = nI (dgi n W i)) (K : Int32 → CS → Option (Int32 × CS)) (x3 : Int32) (x4 : Int32) : ∃ σ1, L_Patrols_choose_67 K (oW o1) (oW o2) x3 x4 FU 0 σ0 = K (x4 + 1) σ1 ∧ FrC [] [30] σ0 σ1 ∧ ∀ i, i < n → σ1.2.1 30 i = whD o1 o2 (dgi n W i) := by
  have hn := h.2.2.1
  have lp : ∀ (d j m : Nat) (σ : CS), j + d = n → d < m → FrC [] [30] σ0 σ → (∀ i, i < j → σ.2.1 30 i = whD o1 o2 (dgi n W i)) → ∃ σ1, L_Patrols_choose_67 K (oW o1) (oW o2) x3 x4 m (nI j) σ = K (x4 + 1) σ1 ∧ FrC [] [30] σ0 σ1 ∧ ∀ i, i < n → σ1.2.1 30 i = whD o1 o2 (dgi n W i) := by
    intro d
    induction d with
    | zero =>
      intro j m σ h1 h2 f0 g1
      obtain ⟨m, rfl⟩ : ∃ n, m = n + 1 := ⟨m - 1, by omega⟩
      have : j = n := by omega
      subst this
      have hs := h.fr f0 (by decide) (by decide)
      exact ⟨σ, by rw [L_Patrols_choose_67, tb_size hs.1 13 (by omega), bnd_s, hs.2.1, if_pos (nI_le (Nat.le_refl _) (by omega))], f0, g1⟩
    | succ d ih =>
      intro j m σ h1 h2 f0 g1
      obtain ⟨m, rfl⟩ : ∃ n, m = n + 1 := ⟨m - 1, by omega⟩
      have hs := h.fr f0 (by decide) (by decide)
      have st : ∀ v : Int32, v = whD o1 o2 (dgi n W j) → ∃ σ1, L_Patrols_choose_67 K (oW o1) (oW o2) x3 x4 m (nI (j + 1)) (sA σ 30 (upd (σ.2.1 30) j v)) = K (x4 + 1) σ1 ∧ FrC [] [30] σ0 σ1 ∧ ∀ i, i < n → σ1.2.1 30 i = whD o1 o2 (dgi n W i) := by
        intro v hv
        refine ih (j + 1) m _ (by omega) (by omega) (f0.trans (FrC.f2 _ _ (by decide))) (fun i hi => ?_)
        rw [sA_self]
        unfold upd
        by_cases z : i = j
        · rw [if_pos z, z, hv]
        · rw [if_neg z]
          exact g1 i (by omega)
      have e31 : σ.2.1 31 j = nI (dgi n W j) := by
        rw [(f0.2 31 (by decide)).1]
        exact h31 j (by omega)
      have hd3 := dgi_lt n W j
      rw [L_Patrols_choose_67, tb_size hs.1 13 (by omega), bnd_s, hs.2.1, if_neg (nI_ge (by omega) (by omega)), if_neg (fun z => absurd ((lit_le 8 (by omega) (by omega)).1 z) (by omega)), if_neg (fun z => absurd ((lit_le 8 (by omega) (by omega)).1 z) (by omega)), gix_n (by omega) (by omega), gix_n (by omega) (by omega), rdn (by omega), e31]
      unfold B_Patrols_choose_135
      rw [gix_n (by omega) (by omega), gix_n (by omega) (by omega), gix_n (by omega) (by omega), wrn (by omega), wrn (by omega), wrn (by omega), nI_1]
      have cs : dgi n W j = 0 ∨ dgi n W j = 1 ∨ dgi n W j = 2 := by omega
      rcases cs with z | z | z
      · rw [if_pos (by rw [z]; rfl)]
        exact st _ (by rw [z]; rfl)
      · rw [if_neg (by rw [z]; decide), if_pos (by rw [z]; rfl)]
        exact st _ (by rw [z]; rfl)
      · rw [if_neg (by rw [z]; decide), if_neg (by rw [z]; decide)]
        exact st _ (by rw [z]; rfl)
  exact lp n 0 FU σ0 (by omega) (lt_FU (by omega)) (FrC.refl _ _ _) (fun i hi => by omega)
theorem pow3 {n : Nat} (h : n ≤ 8) : 3 ^ n ≤ 6561 := Nat.le_trans (Nat.pow_le_pow_right (by omega) h) (by decide)
theorem pickC {n : Nat} {X Y Z : Nat → Nat} {σ0 : CS} (h : Wys n X Y Z σ0) {c1 c2 : Nat → Bool} (h1 : ∀ S, S < 2 ^ n → σ0.2.1 28 S = nI (b2n (c1 S))) (h2 : ∀ S, S < 2 ^ n → σ0.2.1 29 S = nI (b2n (c2 S))) (o1 o2 : Option Nat) : ∃ σ1, f_Patrols_choose (oW o1) (oW o2) σ0 = some (0, σ1) ∧ FrC [67] [30, 31] σ0 σ1 ∧ BstC Z o1 o2 n (scn (Vw c1 c2 n) (wth Z n) (3 ^ n)) (σ1.1 67) (σ1.2.1 30) := by
  have hn := h.2.2.1
  have p3 := pow3 hn
  have hZ : ∀ i, i < n → Z i ≤ 1000 := fun i hi => (h.2.2.2 i hi).2.2.2.2.2
  have lp : ∀ (d W m : Nat) (σ : CS), W + d = 3 ^ n → d < m → FrC [67] [30, 31] σ0 σ → BstC Z o1 o2 n (scn (Vw c1 c2 n) (wth Z n) W) (σ.1 67) (σ.2.1 30) → ∃ σ1, L_Patrols_choose_35 (oW o1) (oW o2) (nI (3 ^ n)) m (nI W) σ = some (0, σ1) ∧ FrC [67] [30, 31] σ0 σ1 ∧ BstC Z o1 o2 n (scn (Vw c1 c2 n) (wth Z n) (3 ^ n)) (σ1.1 67) (σ1.2.1 30) := by
    intro d
    induction d with
    | zero =>
      intro W m σ e1 e2 f0 g1
      obtain ⟨m, rfl⟩ : ∃ n, m = n + 1 := ⟨m - 1, by omega⟩
      have : W = 3 ^ n := by omega
      subst this
      exact ⟨σ, by rw [L_Patrols_choose_35, if_pos (nI_le (Nat.le_refl _) (by omega))], f0, g1⟩
    | succ d ih =>
      intro W m σ e1 e2 f0 g1
      obtain ⟨m, rfl⟩ : ∃ n, m = n + 1 := ⟨m - 1, by omega⟩
      have hs := h.fr f0 (by decide) (by decide)
      obtain ⟨σ2, k1, k2, k3⟩ := tryC hs (c1 := c1) (c2 := c2) (fun S hS => by rw [(f0.2 28 (by decide)).1]; exact h1 S hS) (fun S hS => by rw [(f0.2 29 (by decide)).1]; exact h2 S hS) W (by omega)
      have e67 : σ2.1 67 = encO ((scn (Vw c1 c2 n) (wth Z n) W).map (wth Z n)) := (k2.1 67 (by decide)).trans g1.1
      have e30 : σ2.2.1 30 = σ.2.1 30 := (k2.2 30 (by decide)).1
      have f2 : FrC [67] [30, 31] σ0 σ2 := f0.trans (k2.mono (by decide) (by decide))
      have hs2 := hs.fr k2 (by decide) (by decide)
      have hwW := wth_b hZ hn W
      rw [L_Patrols_choose_35, if_neg (nI_ge (by omega) (by omega)), k1, bnd_s, e67, nI_1]
      have skip : scn (Vw c1 c2 n) (wth Z n) (W + 1) = scn (Vw c1 c2 n) (wth Z n) W → ∃ σ1, L_Patrols_choose_35 (oW o1) (oW o2) (nI (3 ^ n)) m (nI (W + 1)) σ2 = some (0, σ1) ∧ FrC [67] [30, 31] σ0 σ1 ∧ BstC Z o1 o2 n (scn (Vw c1 c2 n) (wth Z n) (3 ^ n)) (σ1.1 67) (σ1.2.1 30) := by
        intro e
        exact ih (W + 1) m σ2 (by omega) (by omega) f2 (by rw [e, e30]; exact ⟨e67, g1.2⟩)
      have take : scn (Vw c1 c2 n) (wth Z n) (W + 1) = some W → ∃ σ1, L_Patrols_choose_67 (L_Patrols_choose_35 (oW o1) (oW o2) (nI (3 ^ n)) m) (oW o1) (oW o2) (nI (3 ^ n)) (nI W) FU 0 (sF σ2 67 (nI (wth Z n W))) = some (0, σ1) ∧ FrC [67] [30, 31] σ0 σ1 ∧ BstC Z o1 o2 n (scn (Vw c1 c2 n) (wth Z n) (3 ^ n)) (σ1.1 67) (σ1.2.1 30) := by
        intro e
        have fa : FrC [67] [] σ2 (sF σ2 67 (nI (wth Z n W))) := FrC.f1 _ _ (by decide)
        obtain ⟨σ3, l1, l2, l3⟩ := copyC (hs2.fr fa (by decide) (by decide)) (o1 := o1) (o2 := o2) (W := W) k3 (L_Patrols_choose_35 (oW o1) (oW o2) (nI (3 ^ n)) m) (nI (3 ^ n)) (nI W)
        rw [l1, nI_1]
        refine ih (W + 1) m σ3 (by omega) (by omega) (f2.trans ((fa.mono (by decide) (by decide)).trans (l2.mono (by decide) (by decide)))) ?_
        rw [e]
        refine ⟨(l2.1 67 (by decide)).trans (sF_self σ2 67 _), fun v hv => ?_⟩
        simp only [Option.some.injEq] at hv
        subst hv
        exact l3
      by_cases q : Vw c1 c2 n W = true
      · rw [if_pos q]
        have es : scn (Vw c1 c2 n) (wth Z n) (W + 1) = (match scn (Vw c1 c2 n) (wth Z n) W with
          | none => some W
          | some v => if wth Z n v < wth Z n W then some W else some v) := if_pos q
        cases e : scn (Vw c1 c2 n) (wth Z n) W with
        | none =>
          rw [e] at es
          rw [if_neg (show ¬ nI (wth Z n W) ≤ encO (Option.map (wth Z n) none) from Int32.not_le.2 (neg1_lt (by omega)))]
          exact take es
        | some v =>
          rw [e] at es
          have hv := wth_b hZ hn v
          have es' : scn (Vw c1 c2 n) (wth Z n) (W + 1) = if wth Z n v < wth Z n W then some W else some v := es
          by_cases z : wth Z n v < wth Z n W
          · rw [if_neg (show ¬ nI (wth Z n W) ≤ encO (Option.map (wth Z n) (some v)) from fun y => absurd ((nI_leI (by omega) (by omega)).1 y) (by omega))]
            exact take (by rw [es', if_pos z])
          · rw [if_pos (show nI (wth Z n W) ≤ encO (Option.map (wth Z n) (some v)) from (nI_leI (by omega) (by omega)).2 (by omega))]
            exact skip (by rw [es', if_neg z, e])
      · rw [if_neg q]
        have le1 : (-1 : Int32) ≤ encO (Option.map (wth Z n) (scn (Vw c1 c2 n) (wth Z n) W)) := by
          cases scn (Vw c1 c2 n) (wth Z n) W with
          | none => exact Int32.le_refl _
          | some v =>
            have hv := wth_b hZ hn v
            exact Int32.le_of_lt (neg1_lt (show wth Z n v < 2147483648 by omega))
        rw [if_pos le1]
        exact skip (scn_no q)
  have l5 : ∀ (d j m : Nat), j + d = n → d < m → L_Patrols_choose_5 B_Patrols_choose_27 (oW o1) (oW o2) m (nI (3 ^ j)) (nI j) σ0 = B_Patrols_choose_27 (oW o1) (oW o2) (nI (3 ^ n)) σ0 := by
    intro d
    induction d with
    | zero =>
      intro j m e1 e2
      obtain ⟨m, rfl⟩ : ∃ n, m = n + 1 := ⟨m - 1, by omega⟩
      have : j = n := by omega
      subst this
      rw [L_Patrols_choose_5, tb_size h.1 13 (by omega), bnd_s, h.2.1, if_pos (nI_le (Nat.le_refl _) (by omega))]
    | succ d ih =>
      intro j m e1 e2
      obtain ⟨m, rfl⟩ : ∃ n, m = n + 1 := ⟨m - 1, by omega⟩
      rw [L_Patrols_choose_5, tb_size h.1 13 (by omega), bnd_s, h.2.1, if_neg (nI_ge (by omega) (by omega)), show (3 : Int32) = nI 3 from rfl, nI_mul, nI_1, ← Nat.pow_succ]
      exact ih (j + 1) m (by omega) (by omega)
  have e5 := l5 n 0 FU (by omega) (lt_FU (by omega))
  unfold f_Patrols_choose
  have e5' : L_Patrols_choose_5 B_Patrols_choose_27 (oW o1) (oW o2) FU 1 0 σ0 = B_Patrols_choose_27 (oW o1) (oW o2) (nI (3 ^ n)) σ0 := e5
  rw [e5']
  exact lp (3 ^ n) 0 FU (sF σ0 67 (-1)) (by omega) (lt_FU (by omega)) (FrC.f1 _ _ (by decide)) ⟨sF_self σ0 67 _, fun v hv => by cases hv⟩
