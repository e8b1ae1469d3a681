/-! ===== layer 2: values of code ===== -/
/-- what a sign does to a pile: whether each value is a truth -/
def stp (x : Nat) (st : List Bool) : Option (List Bool) :=
  if x < 10010 then some (false :: st)
  else if x = 10010 then (match st with
    | true :: r => some (true :: r)
    | _ => none)
  else (match st with
    | b :: a :: r => if x ≤ 10012 then (if a = true ∧ b = true then some (true :: r) else none) else if x ≤ 10015 then some (true :: r) else some (false :: r)
    | _ => none)
def rnS (f : Nat → Nat) : Nat → List Bool → Option (List Bool)
  | 0, st => some st
  | n + 1, st => match rnS f n st with
    | some s => stp (f n) s
    | none => none
/-- a code of n signs that puts one value on any pile, no more than M above it at any time -/
def Sgm (f : Nat → Nat) (n M : Nat) (b : Bool) : Prop := ∀ st, rnS f n st = some (b :: st) ∧ ∀ i s, i ≤ n → rnS f i st = some s → s.length ≤ st.length + M
theorem rnS_pre {f : Nat → Nat} {st s : List Bool} {n : Nat} (h : rnS f n st = some s) {i : Nat} (hi : i ≤ n) : ∃ s', rnS f i st = some s' := by
  induction n generalizing s with
  | zero => have : i = 0 := by omega
            subst this; exact ⟨_, rfl⟩
  | succ n ih =>
    by_cases q : i = n + 1
    · subst q; exact ⟨s, h⟩
    · have h2 : (match rnS f n st with
        | some s => stp (f n) s
        | none => none) = some s := h
      cases e : rnS f n st with
      | none => rw [e] at h2; cases h2
      | some w => exact ih e (by omega)
def mpg (g : Nat) : Nat := ([10, 8, 9, 11, 12, 13, 2, 3, 4, 5, 6, 7] : List Nat).getD g 0
def encN (x : Nat) (o v : Int32) : Prop := (x ≤ 9999 ∧ o = 0 ∧ v = nI x) ∨ (10000 ≤ x ∧ x ≤ 10005 ∧ o = 1 ∧ v = nI (x - 10000)) ∨ (10010 ≤ x ∧ x ≤ 10021 ∧ o = nI (mpg (x - 10010)))
/-- two values joined by the g-th sign -/
def jn (g : Nat) (a b : Int32) : Int32 := if g = 1 then a &&& b else if g = 2 then a ||| b else if g = 3 then (if b ≤ a then 0 else 1) else if g = 4 then (if a ≤ b then 0 else 1) else if g = 5 then (if a = b then 1 else 0) else if g = 6 then a + b else if g = 7 then a - b else if g = 8 then a * b else if g = 9 then (if b = 0 then 0 else a / b) else if g = 10 then (if b ≤ a then b else a) else (if a ≤ b then b else a)
theorem some_ite {P : Prop} [Decidable P] (a b : Int32) (σ : CS) : (if P then some (a, σ) else some (b, σ)) = some ((if P then a else b), σ) := by
  by_cases h : P
  · rw [if_pos h, if_pos h]
  · rw [if_neg h, if_neg h]
theorem div_ite (a b : Int32) (σ : CS) : (if b = 0 then some ((0 : Int32), σ) else grd (¬ b = 0) (some (a / b, σ))) = some ((if b = 0 then 0 else a / b), σ) := by
  by_cases h : b = 0
  · rw [if_pos h, if_pos h]
  · rw [if_neg h, if_neg h, grd_s h]
theorem joinC {g : Nat} (h1 : 1 ≤ g) (h2 : g ≤ 11) (a b : Int32) (σ : CS) : f_Laws_join (nI (10010 + g)) a b σ = some (jn g a b, σ) := by
  unfold f_Laws_join jn
  simp only [some_ite, div_ite]
  obtain rfl | rfl | rfl | rfl | rfl | rfl | rfl | rfl | rfl | rfl | rfl : g = 1 ∨ g = 2 ∨ g = 3 ∨ g = 4 ∨ g = 5 ∨ g = 6 ∨ g = 7 ∨ g = 8 ∨ g = 9 ∨ g = 10 ∨ g = 11 := by omega
  all_goals rfl
theorem workM {g : Nat} (h1 : 1 ≤ g) (h2 : g ≤ 11) (a b : Int32) (τ : CS) : f_M_worked (nI (mpg g)) a b τ = some (jn g a b, τ) := by
  unfold f_M_worked jn
  simp only [some_ite, div_ite]
  obtain rfl | rfl | rfl | rfl | rfl | rfl | rfl | rfl | rfl | rfl | rfl : g = 1 ∨ g = 2 ∨ g = 3 ∨ g = 4 ∨ g = 5 ∨ g = 6 ∨ g = 7 ∨ g = 8 ∨ g = 9 ∨ g = 10 ∨ g = 11 := by omega
  · rw [show nI (mpg 1) = (8 : Int32) from rfl, if_neg (show ¬ (8 : Int32) = 2 by decide), if_neg (show ¬ (8 : Int32) = 3 by decide), if_neg (show ¬ (8 : Int32) = 4 by decide), if_neg (show ¬ (8 : Int32) = 5 by decide), if_neg (show ¬ (8 : Int32) = 6 by decide), if_neg (show ¬ (8 : Int32) = 7 by decide), if_pos rfl, if_pos (show 1 = 1 from rfl)]
  · rw [show nI (mpg 2) = (9 : Int32) from rfl, if_neg (show ¬ (9 : Int32) = 2 by decide), if_neg (show ¬ (9 : Int32) = 3 by decide), if_neg (show ¬ (9 : Int32) = 4 by decide), if_neg (show ¬ (9 : Int32) = 5 by decide), if_neg (show ¬ (9 : Int32) = 6 by decide), if_neg (show ¬ (9 : Int32) = 7 by decide), if_neg (show ¬ (9 : Int32) = 8 by decide), if_pos rfl, if_neg (show ¬ 2 = 1 by decide), if_pos (show 2 = 2 from rfl)]
  · rw [show nI (mpg 3) = (11 : Int32) from rfl, if_neg (show ¬ (11 : Int32) = 2 by decide), if_neg (show ¬ (11 : Int32) = 3 by decide), if_neg (show ¬ (11 : Int32) = 4 by decide), if_neg (show ¬ (11 : Int32) = 5 by decide), if_neg (show ¬ (11 : Int32) = 6 by decide), if_neg (show ¬ (11 : Int32) = 7 by decide), if_neg (show ¬ (11 : Int32) = 8 by decide), if_neg (show ¬ (11 : Int32) = 9 by decide), if_neg (show ¬ (11 : Int32) = 10 by decide), if_pos rfl, if_neg (show ¬ 3 = 1 by decide), if_neg (show ¬ 3 = 2 by decide), if_pos (show 3 = 3 from rfl)]
  · rw [show nI (mpg 4) = (12 : Int32) from rfl, if_neg (show ¬ (12 : Int32) = 2 by decide), if_neg (show ¬ (12 : Int32) = 3 by decide), if_neg (show ¬ (12 : Int32) = 4 by decide), if_neg (show ¬ (12 : Int32) = 5 by decide), if_neg (show ¬ (12 : Int32) = 6 by decide), if_neg (show ¬ (12 : Int32) = 7 by decide), if_neg (show ¬ (12 : Int32) = 8 by decide), if_neg (show ¬ (12 : Int32) = 9 by decide), if_neg (show ¬ (12 : Int32) = 10 by decide), if_neg (show ¬ (12 : Int32) = 11 by decide), if_pos rfl, if_neg (show ¬ 4 = 1 by decide), if_neg (show ¬ 4 = 2 by decide), if_neg (show ¬ 4 = 3 by decide), if_pos (show 4 = 4 from rfl)]
  · rw [show nI (mpg 5) = (13 : Int32) from rfl, if_neg (show ¬ (13 : Int32) = 2 by decide), if_neg (show ¬ (13 : Int32) = 3 by decide), if_neg (show ¬ (13 : Int32) = 4 by decide), if_neg (show ¬ (13 : Int32) = 5 by decide), if_neg (show ¬ (13 : Int32) = 6 by decide), if_neg (show ¬ (13 : Int32) = 7 by decide), if_neg (show ¬ (13 : Int32) = 8 by decide), if_neg (show ¬ (13 : Int32) = 9 by decide), if_neg (show ¬ (13 : Int32) = 10 by decide), if_neg (show ¬ (13 : Int32) = 11 by decide), if_neg (show ¬ (13 : Int32) = 12 by decide), if_neg (show ¬ 5 = 1 by decide), if_neg (show ¬ 5 = 2 by decide), if_neg (show ¬ 5 = 3 by decide), if_neg (show ¬ 5 = 4 by decide), if_pos (show 5 = 5 from rfl)]
  · rw [show nI (mpg 6) = (2 : Int32) from rfl, if_pos rfl, if_neg (show ¬ 6 = 1 by decide), if_neg (show ¬ 6 = 2 by decide), if_neg (show ¬ 6 = 3 by decide), if_neg (show ¬ 6 = 4 by decide), if_neg (show ¬ 6 = 5 by decide), if_pos (show 6 = 6 from rfl)]
  · rw [show nI (mpg 7) = (3 : Int32) from rfl, if_neg (show ¬ (3 : Int32) = 2 by decide), if_pos rfl, if_neg (show ¬ 7 = 1 by decide), if_neg (show ¬ 7 = 2 by decide), if_neg (show ¬ 7 = 3 by decide), if_neg (show ¬ 7 = 4 by decide), if_neg (show ¬ 7 = 5 by decide), if_neg (show ¬ 7 = 6 by decide), if_pos (show 7 = 7 from rfl)]
  · rw [show nI (mpg 8) = (4 : Int32) from rfl, if_neg (show ¬ (4 : Int32) = 2 by decide), if_neg (show ¬ (4 : Int32) = 3 by decide), if_pos rfl, if_neg (show ¬ 8 = 1 by decide), if_neg (show ¬ 8 = 2 by decide), if_neg (show ¬ 8 = 3 by decide), if_neg (show ¬ 8 = 4 by decide), if_neg (show ¬ 8 = 5 by decide), if_neg (show ¬ 8 = 6 by decide), if_neg (show ¬ 8 = 7 by decide), if_pos (show 8 = 8 from rfl)]
  · rw [show nI (mpg 9) = (5 : Int32) from rfl, if_neg (show ¬ (5 : Int32) = 2 by decide), if_neg (show ¬ (5 : Int32) = 3 by decide), if_neg (show ¬ (5 : Int32) = 4 by decide), if_pos rfl, if_neg (show ¬ 9 = 1 by decide), if_neg (show ¬ 9 = 2 by decide), if_neg (show ¬ 9 = 3 by decide), if_neg (show ¬ 9 = 4 by decide), if_neg (show ¬ 9 = 5 by decide), if_neg (show ¬ 9 = 6 by decide), if_neg (show ¬ 9 = 7 by decide), if_neg (show ¬ 9 = 8 by decide), if_pos (show 9 = 9 from rfl)]
  · rw [show nI (mpg 10) = (6 : Int32) from rfl, if_neg (show ¬ (6 : Int32) = 2 by decide), if_neg (show ¬ (6 : Int32) = 3 by decide), if_neg (show ¬ (6 : Int32) = 4 by decide), if_neg (show ¬ (6 : Int32) = 5 by decide), if_pos rfl, if_neg (show ¬ 10 = 1 by decide), if_neg (show ¬ 10 = 2 by decide), if_neg (show ¬ 10 = 3 by decide), if_neg (show ¬ 10 = 4 by decide), if_neg (show ¬ 10 = 5 by decide), if_neg (show ¬ 10 = 6 by decide), if_neg (show ¬ 10 = 7 by decide), if_neg (show ¬ 10 = 8 by decide), if_neg (show ¬ 10 = 9 by decide), if_pos (show 10 = 10 from rfl)]
  · rw [show nI (mpg 11) = (7 : Int32) from rfl, if_neg (show ¬ (7 : Int32) = 2 by decide), if_neg (show ¬ (7 : Int32) = 3 by decide), if_neg (show ¬ (7 : Int32) = 4 by decide), if_neg (show ¬ (7 : Int32) = 5 by decide), if_neg (show ¬ (7 : Int32) = 6 by decide), if_pos rfl, if_neg (show ¬ 11 = 1 by decide), if_neg (show ¬ 11 = 2 by decide), if_neg (show ¬ 11 = 3 by decide), if_neg (show ¬ 11 = 4 by decide), if_neg (show ¬ 11 = 5 by decide), if_neg (show ¬ 11 = 6 by decide), if_neg (show ¬ 11 = 7 by decide), if_neg (show ¬ 11 = 8 by decide), if_neg (show ¬ 11 = 9 by decide), if_neg (show ¬ 11 = 10 by decide)]
def t01 (x : Int32) : Prop := x = 0 ∨ x = 1
/-- truths on the pile are 0 or 1 -/
def Ty : List Bool → (Nat → Int32) → Prop
  | [], _ => True
  | b :: r, H => (b = true → t01 (H r.length)) ∧ Ty r H
theorem Ty.ext : ∀ (s : List Bool) {H H' : Nat → Int32}, Ty s H → (∀ j, j < s.length → H' j = H j) → Ty s H' := by
  intro s
  induction s with
  | nil => intro _ _ _ _; trivial
  | cons b r ih =>
    intro H H' h e
    have e' : ∀ j, j < r.length + 1 → H' j = H j := e
    exact ⟨fun z => by rw [e' r.length (by omega)]; exact h.1 z, ih h.2 (fun j hj => e' j (by omega))⟩
theorem jn_t {g : Nat} {a b : Int32} (h : (g ≤ 2 ∧ 1 ≤ g ∧ t01 a ∧ t01 b) ∨ (3 ≤ g ∧ g ≤ 5)) : t01 (jn g a b) := by
  unfold jn
  rcases h with ⟨h1, h2, h3, h4⟩ | ⟨h1, h2⟩
  · obtain rfl | rfl : g = 1 ∨ g = 2 := by omega
    · rcases h3 with rfl | rfl <;> rcases h4 with rfl | rfl <;> first | exact Or.inl rfl | exact Or.inr rfl
    · rcases h3 with rfl | rfl <;> rcases h4 with rfl | rfl <;> first | exact Or.inl rfl | exact Or.inr rfl
  · obtain rfl | rfl | rfl : g = 3 ∨ g = 4 ∨ g = 5 := by omega
    · show t01 (if b ≤ a then 0 else 1)
      split
      · exact Or.inl rfl
      · exact Or.inr rfl
    · show t01 (if a ≤ b then 0 else 1)
      split
      · exact Or.inl rfl
      · exact Or.inr rfl
    · show t01 (if a = b then 1 else 0)
      split
      · exact Or.inr rfl
      · exact Or.inl rfl
/-- the facts: a table of one row whose cells are array 21 -/
theorem ft_get (σ : CS) {c : Nat} (hc : c < 6) : f_FTable_get 0 (nI c) σ = some (σ.2.1 21 c, σ) := by
  have e : (0 : Int32) * 6 + nI c = nI c := by rw [show (0 : Int32) * 6 = 0 by decide, Int32.zero_add]
  unfold f_FTable_get
  rw [if_neg (by decide), if_neg (by decide), if_neg (nI_pos (by omega)), if_pos ((lt_lit 6 (by omega) (by omega)).2 hc), e, if_neg (fun z => absurd ((lit_le 24 (by omega) (by omega)).mp z) (by omega)), gix_n (by omega) (by omega), rdn (by omega)]
theorem ft_put (σ : CS) {c : Nat} (hc : c < 6) (v : Int32) : f_FTable_put 0 (nI c) v σ = some (0, sA σ 21 (upd (σ.2.1 21) c v)) := by
  have e : (0 : Int32) * 6 + nI c = nI c := by rw [show (0 : Int32) * 6 = 0 by decide, Int32.zero_add]
  unfold f_FTable_put
  rw [if_neg (by decide), if_neg (by decide), if_neg (nI_pos (by omega)), if_pos ((lt_lit 6 (by omega) (by omega)).2 hc), e, if_neg (fun z => absurd ((lit_le 24 (by omega) (by omega)).mp z) (by omega)), gix_n (by omega) (by omega), wrn (by omega)]
theorem ft_gl (σ : CS) (c : Nat) (hc : c < 6) : f_FTable_get 0 (OfNat.ofNat c) σ = some (σ.2.1 21 c, σ) := ft_get σ hc
theorem ft_pl (σ : CS) (c : Nat) (hc : c < 6) (v : Int32) : f_FTable_put 0 (OfNat.ofNat c) v σ = some (0, sA σ 21 (upd (σ.2.1 21) c v)) := ft_put σ hc v
theorem val_loop {σ0 τ0 : CS} (hW : WC σ0) {r a n B M d : Nat} {st : Int32} {fv : Nat → Int32} {f : Nat → Nat} {b : Bool} (hr : r < rws σ0 4) (h5 : cel σ0 4 r 5 = nI (a + n)) (ha : a + n ≤ rws σ0 5) (hB : B + n < 4500)
    (hc : ∀ i, i < n → cel σ0 5 (a + i) 0 = nI (f i) ∧ encN (f i) (τ0.2.1 35 (B + i)) (τ0.2.1 36 (B + i))) (hE : τ0.2.1 35 (B + n) = 14) (hS : Sgm f n M b) (hM : M ≤ 60)
    (hf1 : ∀ g, g < 6 → σ0.2.1 21 g = fv g) (hf2 : ∀ g, g < 6 → ∀ τ', FrM [] [55] τ0 τ' → f_M_valueOf (nI g) (nI d) st τ' = some (fv g, τ')) :
    ∀ (e i m m' : Nat) (σ τ : CS) (s : List Bool), i + e = n → e < m → e < m' → FrC [] [20] σ0 σ → FrM [] [55] τ0 τ → rnS f i [] = some s → (∀ j, j < s.length → σ.2.1 20 j = τ.2.1 55 j) → Ty s (σ.2.1 20) →
    ∃ v σ' τ', L_Laws_valueOf_13 B_Laws_valueOf_169 (nI r) m (nI s.length) (nI (a + i)) σ = some (v, σ') ∧ L_M_value_17 B_M_value_160 (nI d) st m' (nI s.length) (nI (B + i)) τ = some (v, τ') ∧ FrC [] [20] σ0 σ' ∧ FrM [] [55] τ0 τ' ∧ (b = true → t01 v) := by
  have h4000 : rws σ0 5 ≤ 4000 := hW.hr4 (by omega)
  have h120 : rws σ0 4 ≤ 120 := hW.hlim (t := 4) (by omega)
  intro e
  induction e with
  | zero =>
    intro i m m' σ τ s h1 h2 h2' fC fM hs he ht
    obtain ⟨m, rfl⟩ : ∃ q, m = q + 1 := ⟨m - 1, by omega⟩
    obtain ⟨m', rfl⟩ : ∃ q, m' = q + 1 := ⟨m' - 1, by omega⟩
    have hi : i = n := by omega
    subst hi
    have hs1 : s = [b] := by
      have := (hS []).1
      rw [hs] at this
      exact Option.some.inj this
    subst hs1
    have hWs : WC σ := hW.of (fun j _ => fC.1 j (by simp)) (fun t ht => (fC.2 t (by simp; omega)).2)
    have g0 : ∀ (X : Type) (k : Nat) (o : Option X), 0 < k → k < 1000 → gix 0 k o = o := fun X k o h h' => gix_n (j := 0) h (by omega)
    refine ⟨σ.2.1 20 0, σ, τ, ?_, ?_, fC, fM, fun z => ?_⟩
    · show bnd (f_Table_get 4 (nI r) 5 σ) _ = _
      rw [tb_gl hWs 4 (by omega) r 5 (by rw [fC.fr (by simp)]; exact hr) (by decide), bnd_s, fC.fc (by decide), h5, if_pos (nI_le (Nat.le_refl _) (by omega))]
      unfold B_Laws_valueOf_169
      rw [if_neg (show ¬ (64 : Int32) ≤ 0 by decide), g0 _ 64 _ (by omega) (by omega), show rd σ 20 0 = σ.2.1 20 0 from rdn (j := 0) (by omega) σ 20]
    · rw [L_M_value_17, gix_n (by omega) (by omega), rdn (by omega), fM.2 35 (by decide), hE, if_pos rfl]
      unfold B_M_value_160
      rw [g0 _ 450 _ (by omega) (by omega), show rd τ 55 0 = τ.2.1 55 0 from rdn (j := 0) (by omega) τ 55, he 0 (by show 0 < 1; omega)]
    · exact ht.1 z
  | succ e ih =>
    intro i m m' σ τ s h1 h2 h2' fC fM hs he ht
    obtain ⟨m, rfl⟩ : ∃ q, m = q + 1 := ⟨m - 1, by omega⟩
    obtain ⟨m', rfl⟩ : ∃ q, m' = q + 1 := ⟨m' - 1, by omega⟩
    have hWs : WC σ := hW.of (fun j _ => fC.1 j (by simp)) (fun t ht => (fC.2 t (by simp; omega)).2)
    have er4 : rws σ 4 = rws σ0 4 := fC.fr (by simp)
    have er5 : rws σ 5 = rws σ0 5 := fC.fr (by simp)
    have ec4 : ∀ x y, cel σ 4 x y = cel σ0 4 x y := fun x y => fC.fc (by decide) x y
    have ec5 : ∀ x y, cel σ 5 x y = cel σ0 5 x y := fun x y => fC.fc (by decide) x y
    obtain ⟨c1, c2⟩ := hc i (by omega)
    -- the next pile
    obtain ⟨s', hs'⟩ := rnS_pre (hS []).1 (show i + 1 ≤ n by omega)
    have hstp : stp (f i) s = some s' := by
      have h3 : (match rnS f i [] with
        | some s => stp (f i) s
        | none => none) = some s' := hs'
      rw [hs] at h3
      exact h3
    have hlen := (hS []).2 i s (by omega) hs
    have hlen' := (hS []).2 (i + 1) s' (by omega) hs'
    have hl : s.length ≤ 60 := by have : s.length ≤ 0 + M := hlen; omega
    have eC : L_Laws_valueOf_13 B_Laws_valueOf_169 (nI r) (m + 1) (nI s.length) (nI (a + i)) σ = if (10010 : Int32) ≤ nI (f i) then B_Laws_valueOf_92 (L_Laws_valueOf_13 B_Laws_valueOf_169 (nI r) m) (nI r) (nI s.length) (nI (a + i)) (nI (f i)) σ else if (10000 : Int32) ≤ nI (f i) then bnd (f_FTable_get 0 (nI (f i) - 10000) σ) (fun r82 σ82 => B_Laws_valueOf_85 (L_Laws_valueOf_13 B_Laws_valueOf_169 (nI r) m) (nI r) (nI s.length) (nI (a + i)) (nI s.length) r82 σ82) else B_Laws_valueOf_85 (L_Laws_valueOf_13 B_Laws_valueOf_169 (nI r) m) (nI r) (nI s.length) (nI (a + i)) (nI s.length) (nI (f i)) σ := by
      show bnd (f_Table_get 4 (nI r) 5 σ) _ = _
      rw [tb_gl hWs 4 (by omega) r 5 (by omega) (by decide), bnd_s, ec4, h5, if_neg (nI_ge (by omega) (by omega)), tb_gl hWs 5 (by omega) (a + i) 0 (by omega) (by decide), bnd_s, ec5, c1, if_neg (show ¬ (64 : Int32) ≤ nI s.length from fun z => absurd ((lit_le 64 (by omega) (by omega)).mp z) (by omega))]
    have eM : L_M_value_17 B_M_value_160 (nI d) st (m' + 1) (nI s.length) (nI (B + i)) τ = (if τ0.2.1 35 (B + i) = 14 then B_M_value_160 τ else (if τ0.2.1 35 (B + i) = 0 then B_M_value_49 (L_M_value_17 B_M_value_160 (nI d) st m') (nI d) st (nI s.length) (nI (B + i)) (τ0.2.1 35 (B + i)) τ else if τ0.2.1 35 (B + i) = 1 then B_M_value_49 (L_M_value_17 B_M_value_160 (nI d) st m') (nI d) st (nI s.length) (nI (B + i)) (τ0.2.1 35 (B + i)) τ else if τ0.2.1 35 (B + i) = 10 then gix (nI s.length - 1) 450 (gix (nI s.length - 1) 450 ((L_M_value_17 B_M_value_160 (nI d) st m') (nI s.length) (nI (B + (i + 1))) (wr τ 55 (nI s.length - 1) (1 - (rd τ 55 (nI s.length - 1)))))) else gix ((nI s.length + (-1)) - 1) 450 (gix (nI s.length + (-1)) 450 (bnd (f_M_worked (τ0.2.1 35 (B + i)) (rd τ 55 ((nI s.length + (-1)) - 1)) (rd τ 55 (nI s.length + (-1))) τ) (fun r150 σ150 => gix ((nI s.length + (-1)) - 1) 450 ((L_M_value_17 B_M_value_160 (nI d) st m') (nI s.length + (-1)) (nI (B + (i + 1))) (wr σ150 55 ((nI s.length + (-1)) - 1) r150))))))) := by
      rw [L_M_value_17, gix_n (by omega) (by omega), gix_n (by omega) (by omega), rdn (by omega) τ 35, fM.2 35 (by decide), nI_1]
      rfl
    rw [eC, eM]
    -- a value is put on the piles
    have push : ∀ v : Int32, f i < 10010 → ∃ v' σ' τ', L_Laws_valueOf_13 B_Laws_valueOf_169 (nI r) m (nI (s.length + 1)) (nI (a + (i + 1))) (sA σ 20 (upd (σ.2.1 20) s.length v)) = some (v', σ') ∧ L_M_value_17 B_M_value_160 (nI d) st m' (nI (s.length + 1)) (nI (B + (i + 1))) (sA τ 55 (upd (τ.2.1 55) s.length v)) = some (v', τ') ∧ FrC [] [20] σ0 σ' ∧ FrM [] [55] τ0 τ' ∧ (b = true → t01 v') := by
      intro v hx
      have es : s' = false :: s := by
        unfold stp at hstp
        rw [if_pos hx] at hstp
        exact (Option.some.inj hstp).symm
      have := ih (i + 1) m m' (sA σ 20 (upd (σ.2.1 20) s.length v)) (sA τ 55 (upd (τ.2.1 55) s.length v)) s' (by omega) (by omega) (by omega) (fC.trans (FrC.f2 _ _ (by decide))) (fM.trans (FrM.f2 _ _ (by decide))) hs' (fun j hj => by
        simp only [va_up, reduceIte, upd]
        by_cases q : j = s.length
        · rw [if_pos q, if_pos q]
        · rw [if_neg q, if_neg q]
          apply he
          rw [es] at hj
          have : j < s.length + 1 := hj
          omega) (by
        rw [es]
        refine ⟨fun z => absurd z (by decide), ht.ext s (fun j hj => ?_)⟩
        simp only [va_up, reduceIte, upd]
        rw [if_neg (by omega)])
      rw [es] at this
      exact this
    rcases c2 with ⟨x1, x2, x3⟩ | ⟨x1, x2, x3, x4⟩ | ⟨x1, x2, x3⟩
    · -- a number
      rw [if_neg (fun z => absurd ((lit_le 10010 (by omega) (by omega)).mp z) (by omega)), if_neg (fun z => absurd ((lit_le 10000 (by omega) (by omega)).mp z) (by omega)), x2, if_neg (by decide), if_pos rfl]
      unfold B_Laws_valueOf_85 B_M_value_49 B_M_value_84
      rw [if_pos rfl, gix_n (by omega) (by omega), gix_n (by omega) (by omega), gix_n (by omega) (by omega), rdn (by omega), fM.2 36 (by decide), x3, wrn (by omega), wrn (by omega), nI_1, nI_1, nI_1]
      exact push (nI (f i)) (by omega)
    · -- a fact
      have ed : nI (f i) - 10000 = nI (f i - 10000) := nI_sl 10000 x1
      rw [if_neg (fun z => absurd ((lit_le 10010 (by omega) (by omega)).mp z) (by omega)), if_pos ((lit_le 10000 (by omega) (by omega)).mpr x1), ed, ft_get σ (by omega), bnd_s, (fC.2 21 (by decide)).1, hf1 (f i - 10000) (by omega), x3, if_neg (by decide), if_neg (by decide), if_pos rfl]
      unfold B_Laws_valueOf_85 B_M_value_49 B_M_value_84
      rw [if_neg (by decide), gix_n (by omega) (by omega), gix_n (by omega) (by omega), rdn (by omega), fM.2 36 (by decide), x4, hf2 (f i - 10000) (by omega) τ fM, bnd_s, gix_n (by omega) (by omega), wrn (by omega), wrn (by omega), nI_1, nI_1, nI_1]
      exact push (fv (f i - 10000)) (by omega)
    · rw [if_pos ((lit_le 10010 (by omega) (by omega)).mpr x1)]
      unfold B_Laws_valueOf_92
      by_cases q : f i = 10010
      · -- not
        obtain ⟨r0, hr0⟩ : ∃ r0, s = true :: r0 := by
          unfold stp at hstp
          rw [if_neg (by omega), if_pos q] at hstp
          split at hstp
          · rename_i r0; exact ⟨r0, rfl⟩
          · cases hstp
        have es : s' = s := by
          unfold stp at hstp
          rw [if_neg (by omega), if_pos q, hr0] at hstp
          rw [hr0]
          exact (Option.some.inj hstp).symm
        have hsl : s.length = r0.length + 1 := by rw [hr0]; rfl
        have e1 : nI s.length - 1 = nI r0.length := by rw [hsl, nI_p1]
        rw [if_pos (show nI (f i) = 10010 by rw [q]; rfl), if_neg (fun z => absurd ((lt_lit 1 (by omega) (by omega)).mp z) (by omega)), e1, gix_n (by omega) (by omega), gix_n (by omega) (by omega), x3, q, if_neg (by decide), if_neg (by decide), if_neg (by decide), if_pos (by decide), gix_n (by omega) (by omega), gix_n (by omega) (by omega), rdn (by omega), rdn (by omega), wrn (by omega), wrn (by omega), he r0.length (by omega), nI_1]
        have hty := ht
        rw [hr0] at hty
        have ht1 := hty.1 rfl
        rw [he r0.length (by omega)] at ht1
        have h9 := ih (i + 1) m m' (sA σ 20 (upd (σ.2.1 20) r0.length (1 - τ.2.1 55 r0.length))) (sA τ 55 (upd (τ.2.1 55) r0.length (1 - τ.2.1 55 r0.length))) s' (by omega) (by omega) (by omega) (fC.trans (FrC.f2 _ _ (by decide))) (fM.trans (FrM.f2 _ _ (by decide))) hs' (fun j hj => by
          simp only [va_up, reduceIte, upd]
          by_cases z : j = r0.length
          · rw [if_pos z, if_pos z]
          · rw [if_neg z, if_neg z]
            exact he j (by rw [es] at hj; exact hj)) (by
          rw [es, hr0]
          refine ⟨fun _ => ?_, hty.2.ext r0 (fun j hj => ?_)⟩
          · simp only [va_up, reduceIte, upd]
            rcases ht1 with z | z
            · rw [z]; exact Or.inr rfl
            · rw [z]; exact Or.inl rfl
          · simp only [va_up, reduceIte, upd]
            rw [if_neg (by omega)])
        rw [es] at h9
        exact h9
      · -- two values
        obtain ⟨y1, y2, r0, hr0⟩ : ∃ y1 y2 r0, s = y1 :: y2 :: r0 := by
          unfold stp at hstp
          rw [if_neg (by omega), if_neg q] at hstp
          split at hstp
          · rename_i y1 y2 r0; exact ⟨y1, y2, r0, rfl⟩
          · cases hstp
        have hsl : s.length = r0.length + 2 := by rw [hr0]; rfl
        obtain ⟨g, hg1, hg2, hg⟩ : ∃ g, 1 ≤ g ∧ g ≤ 11 ∧ f i = 10010 + g := ⟨f i - 10010, by omega, by omega, by omega⟩
        have hm : mpg (f i - 10010) = mpg g := by rw [show f i - 10010 = g by omega]
        have m3 : ¬ nI (mpg g) = 14 ∧ ¬ nI (mpg g) = 0 ∧ ¬ nI (mpg g) = 1 ∧ ¬ nI (mpg g) = 10 := by
          obtain rfl | rfl | rfl | rfl | rfl | rfl | rfl | rfl | rfl | rfl | rfl : g = 1 ∨ g = 2 ∨ g = 3 ∨ g = 4 ∨ g = 5 ∨ g = 6 ∨ g = 7 ∨ g = 8 ∨ g = 9 ∨ g = 10 ∨ g = 11 := by omega
          all_goals decide
        have e1 : nI s.length - 1 = nI (r0.length + 1) := by rw [hsl]; exact nI_p1 _
        have e2 : nI s.length - 2 = nI r0.length := by rw [hsl]; exact nI_sl (a := r0.length + 2) 2 (by omega)
        have e3 : nI s.length + (-1) = nI (r0.length + 1) := by rw [← e1]; grind
        have e4 : nI (r0.length + 1) - 1 = nI r0.length := nI_p1 _
        rw [if_neg (show ¬ nI (f i) = 10010 from fun z => q ((eq_lit 10010 (by omega) (by omega)).mp z))]
        unfold B_Laws_valueOf_126
        rw [if_neg (fun z => absurd ((lt_lit 2 (by omega) (by omega)).mp z) (by omega)), e1, e2, e3, e4, gix_n (by omega) (by omega), gix_n (by omega) (by omega), rdn (by omega), rdn (by omega), hg, joinC hg1 hg2, bnd_s, gix_n (by omega) (by omega), x3, hm, if_neg m3.1, if_neg m3.2.1, if_neg m3.2.2.1, if_neg m3.2.2.2, gix_n (by omega) (by omega), gix_n (by omega) (by omega), rdn (by omega), rdn (by omega), workM hg1 hg2, bnd_s, gix_n (by omega) (by omega), wrn (by omega), wrn (by omega), he r0.length (by omega), he (r0.length + 1) (by omega), nI_1]
        obtain ⟨v, hv⟩ : ∃ v, v = jn g (τ.2.1 55 r0.length) (τ.2.1 55 (r0.length + 1)) := ⟨_, rfl⟩
        rw [← hv]
        have hty := ht
        rw [hr0] at hty
        obtain ⟨b', hb'⟩ : ∃ b', s' = b' :: r0 := by
          unfold stp at hstp
          rw [if_neg (by omega), if_neg q, hr0] at hstp
          simp only at hstp
          split at hstp
          · split at hstp
            · exact ⟨_, (Option.some.inj hstp).symm⟩
            · cases hstp
          · split at hstp
            · exact ⟨_, (Option.some.inj hstp).symm⟩
            · exact ⟨_, (Option.some.inj hstp).symm⟩
        have hvt : b' = true → t01 v := by
          intro hbt
          rw [hv]
          apply jn_t
          unfold stp at hstp
          rw [if_neg (by omega), if_neg q, hr0, hb'] at hstp
          simp only at hstp
          split at hstp
          · rename_i z1
            split at hstp
            · rename_i z2
              left
              have w1 := hty.1 z2.2
              have w2 := hty.2.1 z2.1
              have w1' : t01 (σ.2.1 20 (r0.length + 1)) := w1
              rw [he (r0.length + 1) (by omega)] at w1'
              rw [he r0.length (by omega)] at w2
              exact ⟨by omega, hg1, w2, w1'⟩
            · cases hstp
          · split at hstp
            · right; omega
            · have := (List.cons.inj (Option.some.inj hstp)).1
              rw [hbt] at this
              cases this
        have hl2 : s'.length = r0.length + 1 := by rw [hb']; rfl
        have h9 := ih (i + 1) m m' (sA σ 20 (upd (σ.2.1 20) r0.length v)) (sA τ 55 (upd (τ.2.1 55) r0.length v)) s' (by omega) (by omega) (by omega) (fC.trans (FrC.f2 _ _ (by decide))) (fM.trans (FrM.f2 _ _ (by decide))) hs' (fun j hj => by
          simp only [va_up, reduceIte, upd]
          by_cases z : j = r0.length
          · rw [if_pos z, if_pos z]
          · rw [if_neg z, if_neg z]
            exact he j (by omega)) (by
          rw [hb']
          refine ⟨fun z => ?_, hty.2.2.ext r0 (fun j hj => ?_)⟩
          · simp only [va_up, reduceIte, upd]
            exact hvt z
          · simp only [va_up, reduceIte, upd]
            rw [if_neg (by omega)])
        rw [hl2] at h9
        exact h9
