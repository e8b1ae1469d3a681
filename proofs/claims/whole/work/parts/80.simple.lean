/-! ===== layer 2: simple rings ===== -/
def RowC (σ : CS) (a0 n : Nat) (R : Nat → Nat) : Prop := ∀ k, k < n → σ.2.1 a0 k = nI (R k) ∧ R k < rws σ 1
def folw (σ : CS) (R : Nat → Nat) (k : Nat) : Prop := (∀ j, j < k → ¬ sam σ (R j) (R k)) ∧ (2 ≤ k → ¬ fol σ (R (k - 2)) (R (k - 1)) (R k)) ∧ ∀ j, j + 2 < k → ¬ tch σ (R j) (R (j + 1)) (R (k - 1)) (R k)
def clos (σ : CS) (R : Nat → Nat) (n : Nat) : Prop := ¬ fol σ (R (n - 2)) (R (n - 1)) (R 0) ∧ ¬ fol σ (R (n - 1)) (R 0) (R 1) ∧ ∀ j, 1 ≤ j → j + 2 < n → ¬ tch σ (R j) (R (j + 1)) (R (n - 1)) (R 0)
theorem nI_s {a b : Nat} (h : b ≤ a) {x : Int32} (hx : x = nI b) : nI a - x = nI (a - b) := by rw [hx, nI_sub h]
theorem nI_sl {a : Nat} (b : Nat) (h : b ≤ a) : nI a - (OfNat.ofNat b : Int32) = nI (a - b) := nI_sub h
theorem folw_14 {σ : CS} (hW : WC σ) (hM : Mok σ) {a0 k L : Nat} {R : Nat → Nat} (hL : lenA a0 = L) (hL2 : L ≤ 10) (hR : RowC σ a0 (k + 1) R) (hk : k < L) (K : Int32 → CS → Option (Int32 × CS)) : ∀ (d j m : Nat), j + d = k → d < m →
    (L_Ground_follows_14 a0 K (nI k) m (nI j) σ = K (nI k) σ ∧ ∀ i, j ≤ i → i < k → ¬ sam σ (R i) (R k)) ∨ (L_Ground_follows_14 a0 K (nI k) m (nI j) σ = some (0, σ) ∧ ∃ i, i < k ∧ sam σ (R i) (R k)) := by
  intro d
  induction d with
  | zero =>
    intro j m h1 h2
    obtain ⟨m, rfl⟩ : ∃ q, m = q + 1 := ⟨m - 1, by omega⟩
    left
    refine ⟨?_, fun i h3 h4 => absurd h3 (by omega)⟩
    show (if nI k ≤ nI j then _ else _) = _
    rw [if_pos (nI_le (by omega) (by omega))]
  | succ d ih =>
    intro j m h1 h2
    obtain ⟨m, rfl⟩ : ∃ q, m = q + 1 := ⟨m - 1, by omega⟩
    have e : L_Ground_follows_14 a0 K (nI k) (m + 1) (nI j) σ = bnd (f_Ground_isSamePlace (nI (R j)) (nI (R k)) σ) (fun r26 σ26 => if r26 = 0 then (L_Ground_follows_14 a0 K (nI k) m) (nI (j + 1)) σ26 else some (0, σ26)) := by
      show (if nI k ≤ nI j then _ else _) = _
      rw [if_neg (nI_ge (by omega) (by omega)), hL, gix_n (by omega) (by omega), gix_n hk (by omega), rdn (by omega), rdn (by omega), (hR j (by omega)).1, (hR k (by omega)).1, nI_1]
    rw [e]
    rcases sameC hW hM (hR j (by omega)).2 (hR k (by omega)).2 with ⟨p, e1⟩ | ⟨p, e1⟩
    · right
      rw [e1, bnd_s, if_neg i10]
      exact ⟨rfl, j, by omega, p⟩
    · rw [e1, bnd_s, if_pos rfl]
      rcases ih (j + 1) m (by omega) (by omega) with ⟨g1, g2⟩ | g
      · left
        refine ⟨g1, fun i h3 h4 => ?_⟩
        by_cases q : i = j
        · rw [q]; exact p
        · exact g2 i (by omega) h4
      · exact Or.inr g
theorem folw_69 {σ : CS} (hW : WC σ) (hM : Mok σ) {a0 k L : Nat} {R : Nat → Nat} (hL : lenA a0 = L) (hL2 : L ≤ 10) (hR : RowC σ a0 (k + 1) R) (hk : k < L) : ∀ (d j m : Nat), j + d = k → d < m →
    Bo (L_Ground_follows_69 a0 (nI k) m (nI j) σ) σ (∀ i, j ≤ i → i + 2 < k → ¬ tch σ (R i) (R (i + 1)) (R (k - 1)) (R k)) := by
  intro d
  induction d with
  | zero =>
    intro j m h1 h2
    obtain ⟨m, rfl⟩ : ∃ q, m = q + 1 := ⟨m - 1, by omega⟩
    refine Bo.t (fun i h3 h4 => absurd h3 (by omega)) ?_
    show (if nI k ≤ nI j + 2 then _ else _) = _
    rw [show nI j + 2 = nI (j + 2) from nI_add j 2, if_pos (nI_le (by omega) (by omega))]
  | succ d ih =>
    intro j m h1 h2
    obtain ⟨m, rfl⟩ : ∃ q, m = q + 1 := ⟨m - 1, by omega⟩
    by_cases q : k ≤ j + 2
    · refine Bo.t (fun i h3 h4 => absurd h3 (by omega)) ?_
      show (if nI k ≤ nI j + 2 then _ else _) = _
      rw [show nI j + 2 = nI (j + 2) from nI_add j 2, if_pos (nI_le q (by omega))]
    · have e : L_Ground_follows_69 a0 (nI k) (m + 1) (nI j) σ = bnd (f_Ground_touch (nI (R j)) (nI (R (j + 1))) (nI (R (k - 1))) (nI (R k)) σ) (fun r93 σ93 => if r93 = 0 then (L_Ground_follows_69 a0 (nI k) m) (nI (j + 1)) σ93 else some (0, σ93)) := by
        show (if nI k ≤ nI j + 2 then _ else _) = _
        rw [show nI j + 2 = nI (j + 2) from nI_add j 2, if_neg (nI_ge (by omega) (by omega)), hL, nI_sl (a := k) 1 (by omega), nI_1, gix_n (by omega) (by omega), gix_n (by omega) (by omega), gix_n (by omega) (by omega), gix_n (by omega) (by omega), rdn (by omega), rdn (by omega), rdn (by omega), rdn (by omega), (hR j (by omega)).1, (hR (j + 1) (by omega)).1, (hR (k - 1) (by omega)).1, (hR k (by omega)).1]
      rw [e]
      rcases touchC hW hM (hR j (by omega)).2 (hR (j + 1) (by omega)).2 (hR (k - 1) (by omega)).2 (hR k (by omega)).2 with ⟨p, e1⟩ | ⟨p, e1⟩
      · rw [e1, bnd_s, if_neg i10]
        exact Bo.f (fun z => z j (Nat.le_refl _) (by omega) p) rfl
      · rw [e1, bnd_s, if_pos rfl]
        refine (ih (j + 1) m (by omega) (by omega)).iff ?_
        constructor
        · intro z i h3 h4
          by_cases r : i = j
          · rw [r]; exact p
          · exact z i (by omega) h4
        · intro z i h3 h4
          exact z i (by omega) h4
theorem followsC {σ : CS} (hW : WC σ) (hM : Mok σ) {a0 k L : Nat} {R : Nat → Nat} (hL : lenA a0 = L) (hL2 : L ≤ 10) (hR : RowC σ a0 (k + 1) R) (hk : k < L) : Bo (f_Ground_follows a0 (nI k) σ) σ (folw σ R k) := by
  unfold f_Ground_follows
  rw [hL, if_neg (nI_pos (by omega)), if_pos (nI_lt hk (by omega))]
  have e0 : L_Ground_follows_14 a0 (B_Ground_follows_40 a0) (nI k) FU 0 σ = L_Ground_follows_14 a0 (B_Ground_follows_40 a0) (nI k) FU (nI 0) σ := rfl
  rw [e0]
  rcases folw_14 hW hM hL hL2 hR hk (B_Ground_follows_40 a0) k 0 FU (by omega) (lt_FU (by omega)) with ⟨g1, g2⟩ | ⟨g1, i, g2, g3⟩
  · rw [g1]
    unfold B_Ground_follows_40
    have h69 := folw_69 hW hM hL hL2 hR hk k 0 FU (by omega) (lt_FU (by omega))
    have e1 : L_Ground_follows_69 a0 (nI k) FU 0 σ = L_Ground_follows_69 a0 (nI k) FU (nI 0) σ := rfl
    by_cases q : k < 2
    · rw [if_pos ((lt_lit 2 (by omega) (by omega)).mpr q), e1]
      refine h69.iff ⟨fun z => ⟨fun j hj => g2 j (by omega) hj, fun y => absurd y (by omega), fun j hj => z j (by omega) hj⟩, fun z i _ h => z.2.2 i h⟩
    · rw [if_neg (fun z => q ((lt_lit 2 (by omega) (by omega)).mp z)), hL, nI_sl (a := k) 2 (by omega), nI_sl (a := k) 1 (by omega), gix_n (by omega) (by omega), gix_n (by omega) (by omega), gix_n (by omega) (by omega), rdn (by omega), rdn (by omega), rdn (by omega), (hR (k - 2) (by omega)).1, (hR (k - 1) (by omega)).1, (hR k (by omega)).1]
      rcases foldC hW hM (hR (k - 2) (by omega)).2 (hR (k - 1) (by omega)).2 (hR k (by omega)).2 with ⟨p, e2⟩ | ⟨p, e2⟩
      · rw [e2, bnd_s, if_neg i10]
        exact Bo.f (fun z => z.2.1 (by omega) p) rfl
      · rw [e2, bnd_s, if_pos rfl, e1]
        refine h69.iff ⟨fun z => ⟨fun j hj => g2 j (by omega) hj, fun _ => p, fun j hj => z j (by omega) hj⟩, fun z i _ h => z.2.2 i h⟩
  · rw [g1]
    exact Bo.f (fun z => z.1 i g2 g3) rfl
theorem clos_54 {σ : CS} (hW : WC σ) (hM : Mok σ) {a0 n L : Nat} {R : Nat → Nat} (hL : lenA a0 = L) (hL2 : L ≤ 10) (hR : RowC σ a0 n R) (h3 : 3 ≤ n) (hn : n ≤ L) : ∀ (d j m : Nat), j + d = n → d < m →
    Bo (L_Ground_closes_54 a0 (nI n) (nI (R (n - 1))) m (nI j) σ) σ (∀ i, j ≤ i → i + 2 < n → ¬ tch σ (R i) (R (i + 1)) (R (n - 1)) (R 0)) := by
  intro d
  induction d with
  | zero =>
    intro j m h1 h2
    obtain ⟨m, rfl⟩ : ∃ q, m = q + 1 := ⟨m - 1, by omega⟩
    refine Bo.t (fun i h3 h4 => absurd h3 (by omega)) ?_
    show (if nI n ≤ nI j + 2 then _ else _) = _
    rw [show nI j + 2 = nI (j + 2) from nI_add j 2, if_pos (nI_le (by omega) (by omega))]
  | succ d ih =>
    intro j m h1 h2
    obtain ⟨m, rfl⟩ : ∃ q, m = q + 1 := ⟨m - 1, by omega⟩
    by_cases q : n ≤ j + 2
    · refine Bo.t (fun i h3 h4 => absurd h3 (by omega)) ?_
      show (if nI n ≤ nI j + 2 then _ else _) = _
      rw [show nI j + 2 = nI (j + 2) from nI_add j 2, if_pos (nI_le q (by omega))]
    · have e : L_Ground_closes_54 a0 (nI n) (nI (R (n - 1))) (m + 1) (nI j) σ = bnd (f_Ground_touch (nI (R j)) (nI (R (j + 1))) (nI (R (n - 1))) (nI (R 0)) σ) (fun r77 σ77 => if r77 = 0 then (L_Ground_closes_54 a0 (nI n) (nI (R (n - 1))) m) (nI (j + 1)) σ77 else some (0, σ77)) := by
        show (if nI n ≤ nI j + 2 then _ else _) = _
        rw [show nI j + 2 = nI (j + 2) from nI_add j 2, if_neg (nI_ge (by omega) (by omega)), hL, nI_1, gix_n (by omega) (by omega), gix_n (by omega) (by omega), show (0 : Int32) = nI 0 from rfl, gix_n (by omega) (by omega), rdn (by omega), rdn (by omega), rdn (by omega), (hR j (by omega)).1, (hR (j + 1) (by omega)).1, (hR 0 (by omega)).1]
      rw [e]
      rcases touchC hW hM (hR j (by omega)).2 (hR (j + 1) (by omega)).2 (hR (n - 1) (by omega)).2 (hR 0 (by omega)).2 with ⟨p, e1⟩ | ⟨p, e1⟩
      · rw [e1, bnd_s, if_neg i10]
        exact Bo.f (fun z => z j (Nat.le_refl _) (by omega) p) rfl
      · rw [e1, bnd_s, if_pos rfl]
        refine (ih (j + 1) m (by omega) (by omega)).iff ?_
        constructor
        · intro z i h3 h4
          by_cases r : i = j
          · rw [r]; exact p
          · exact z i (by omega) h4
        · intro z i h3 h4
          exact z i (by omega) h4
theorem closesC {σ : CS} (hW : WC σ) (hM : Mok σ) {a0 n L : Nat} {R : Nat → Nat} (hL : lenA a0 = L) (hL2 : L ≤ 10) (hR : RowC σ a0 n R) (h3 : 3 ≤ n) (hn : n ≤ L) : Bo (f_Ground_closes a0 (nI n) σ) σ (clos σ R n) := by
  unfold f_Ground_closes
  have g0 : ∀ (X : Type) (o : Option X), gix 0 L o = o := fun X o => gix_n (j := 0) (by omega) (by omega)
  have g1 : ∀ (X : Type) (o : Option X), gix 1 L o = o := fun X o => gix_n (j := 1) (by omega) (by omega)
  have r0 : rd σ a0 0 = nI (R 0) := (rdn (j := 0) (by omega) σ a0).trans (hR 0 (by omega)).1
  have r1 : rd σ a0 1 = nI (R 1) := (rdn (j := 1) (by omega) σ a0).trans (hR 1 (by omega)).1
  rw [if_neg (fun z => absurd ((lt_lit 3 (by omega) (by omega)).mp z) (by omega)), hL, if_pos (nI_le hn (by omega)), nI_sl (a := n) 2 (by omega), nI_sl (a := n) 1 (by omega), gix_n (by omega) (by omega), gix_n (by omega) (by omega), g0, rdn (by omega), rdn (by omega), r0, (hR (n - 2) (by omega)).1, (hR (n - 1) (by omega)).1]
  rcases foldC hW hM (hR (n - 2) (by omega)).2 (hR (n - 1) (by omega)).2 (hR 0 (by omega)).2 with ⟨p, e2⟩ | ⟨p, e2⟩
  · rw [e2, bnd_s, if_neg i10]
    exact Bo.f (fun z => z.1 p) rfl
  · rw [e2, bnd_s, if_pos rfl, g0, g1, r0, r1]
    rcases foldC hW hM (hR (n - 1) (by omega)).2 (hR 0 (by omega)).2 (hR 1 (by omega)).2 with ⟨p', e3⟩ | ⟨p', e3⟩
    · rw [e3, bnd_s, if_neg i10]
      exact Bo.f (fun z => z.2.1 p') rfl
    · rw [e3, bnd_s, if_pos rfl]
      have h54 := clos_54 hW hM hL hL2 hR h3 hn (n - 1) 1 FU (by omega) (lt_FU (by omega))
      refine Bo.iff (show Bo (L_Ground_closes_54 a0 (nI n) (nI (R (n - 1))) FU (nI 1) σ) σ _ from h54) ⟨fun z => ⟨p, p', z⟩, fun z => z.2.2⟩
theorem simpleC_loop {σ : CS} (hW : WC σ) (hM : Mok σ) {n : Nat} {R : Nat → Nat} (hR : RowC σ 16 n R) (h3 : 3 ≤ n) (hn : n ≤ 10) : ∀ (d k m : Nat), k + d = n → d < m →
    Bo (L_Ground_isSimple_2 B_Ground_isSimple_27 (nI n) m (nI k) σ) σ ((∀ i, k ≤ i → i < n → folw σ R i) ∧ clos σ R n) := by
  intro d
  induction d with
  | zero =>
    intro k m h1 h2
    obtain ⟨m, rfl⟩ : ∃ q, m = q + 1 := ⟨m - 1, by omega⟩
    show Bo (if nI n ≤ nI k then _ else _) σ _
    rw [if_pos (nI_le (by omega) (by omega))]
    unfold B_Ground_isSimple_27
    rcases closesC hW hM (a0 := 16) (L := 10) rfl (by omega) hR h3 hn with ⟨p, e⟩ | ⟨p, e⟩
    · rw [e, bnd_s, grd_s (Or.inr rfl)]
      exact Bo.t ⟨fun i h4 h5 => absurd h4 (by omega), p⟩ rfl
    · rw [e, bnd_s, grd_s (Or.inl rfl)]
      exact Bo.f (fun z => p z.2) rfl
  | succ d ih =>
    intro k m h1 h2
    obtain ⟨m, rfl⟩ : ∃ q, m = q + 1 := ⟨m - 1, by omega⟩
    show Bo (if nI n ≤ nI k then _ else _) σ _
    rw [if_neg (nI_ge (by omega) (by omega))]
    rcases followsC hW hM (a0 := 16) (k := k) (L := 10) rfl (by omega) (fun i hi => hR i (by omega)) (by omega) with ⟨p, e⟩ | ⟨p, e⟩
    · rw [e, bnd_s, if_neg i10, nI_1]
      refine (ih (k + 1) m (by omega) (by omega)).iff ⟨fun z => ⟨fun i h4 h5 => ?_, z.2⟩, fun z => ⟨fun i h4 h5 => z.1 i (by omega) h5, z.2⟩⟩
      by_cases q : i = k
      · rw [q]; exact p
      · exact z.1 i (by omega) h5
    · rw [e, bnd_s, if_pos rfl]
      exact Bo.f (fun z => p (z.1 k (Nat.le_refl _) (by omega))) rfl
/-! the reference's test -/
def simM (n : Nat) (X Y : Nat → Int) : Prop := (∀ i j, i < j → j < n → ¬ (X i = X j ∧ Y i = Y j)) ∧ ∀ i, i < n → ¬ onS (X i) (Y i) (X (i + 1)) (Y (i + 1)) (X (i + 2)) (Y (i + 2)) ∧ ¬ onS (X (i + 1)) (Y (i + 1)) (X (i + 2)) (Y (i + 2)) (X i) (Y i) ∧ ∀ j, i + 2 ≤ j → j < n → j + 1 ≠ n + i → ¬ met X Y i j
theorem simM_14 {τ : CS} {x y : Nat → Int32} {X Y : Nat → Int} (h : Pol τ x y X Y) {n i : Nat} (h9 : τ.1 9 = nI n) (hn : n ≤ 10) (hi : i < n) (K : Int32 → CS → Option (Int32 × CS)) : ∀ (d j m : Nat), j + d = n → d < m →
    (L_M_isSimple_14 K (nI i) m (nI j) τ = K (nI (i + 1)) τ ∧ ∀ q, j ≤ q → q < n → ¬ (X i = X q ∧ Y i = Y q)) ∨ (L_M_isSimple_14 K (nI i) m (nI j) τ = some (0, τ) ∧ ∃ q, j ≤ q ∧ q < n ∧ X i = X q ∧ Y i = Y q) := by
  obtain ⟨a1, a2, a3, a4⟩ := h i (by omega)
  intro d
  induction d with
  | zero =>
    intro j m h1 h2
    obtain ⟨m, rfl⟩ : ∃ q, m = q + 1 := ⟨m - 1, by omega⟩
    left
    refine ⟨?_, fun q h3 h4 => absurd h3 (by omega)⟩
    show (if τ.1 9 ≤ nI j then _ else _) = _
    rw [h9, if_pos (nI_le (by omega) (by omega)), nI_1]
  | succ d ih =>
    intro j m h1 h2
    obtain ⟨m, rfl⟩ : ∃ q, m = q + 1 := ⟨m - 1, by omega⟩
    obtain ⟨b1, b2, b3, b4⟩ := h j (by omega)
    have hh := ih (j + 1) m (by omega) (by omega)
    have e : L_M_isSimple_14 K (nI i) (m + 1) (nI j) τ = if x i = x j then (if y i = y j then some (0, τ) else L_M_isSimple_14 K (nI i) m (nI (j + 1)) τ) else L_M_isSimple_14 K (nI i) m (nI (j + 1)) τ := by
      show (if τ.1 9 ≤ nI j then _ else _) = _
      rw [h9, if_neg (nI_ge (by omega) (by omega))]
      simp only [a1, a2, b1, b2, bnd_s, nI_1]
    rw [e]
    by_cases q : X i = X j ∧ Y i = Y j
    · right
      rw [if_pos ((a3.eq b3).mpr q.1), if_pos ((a4.eq b4).mpr q.2)]
      exact ⟨rfl, j, Nat.le_refl _, by omega, q.1, q.2⟩
    · have e2 : (if x i = x j then (if y i = y j then some (0, τ) else L_M_isSimple_14 K (nI i) m (nI (j + 1)) τ) else L_M_isSimple_14 K (nI i) m (nI (j + 1)) τ) = L_M_isSimple_14 K (nI i) m (nI (j + 1)) τ := by
        by_cases r : x i = x j
        · rw [if_pos r, if_neg (fun z => q ⟨(a3.eq b3).mp r, (a4.eq b4).mp z⟩)]
        · rw [if_neg r]
      rw [e2]
      rcases hh with ⟨g1, g2⟩ | ⟨g1, w, g2, g3⟩
      · left
        refine ⟨g1, fun w h3 h4 => ?_⟩
        by_cases r : w = j
        · rw [r]; exact q
        · exact g2 w (by omega) h4
      · exact Or.inr ⟨g1, w, by omega, g3⟩
theorem simM_120 {τ : CS} {x y : Nat → Int32} {X Y : Nat → Int} (h : Pol τ x y X Y) {n i : Nat} (h9 : τ.1 9 = nI n) (hn : n ≤ 10) (hi : i < n) (K : Int32 → CS → Option (Int32 × CS)) : ∀ (d j m : Nat), j + d = n + 2 → d < m → i + 2 ≤ j →
    (L_M_isSimple_120 K (nI i) m (nI j) τ = K (nI (i + 1)) τ ∧ ∀ q, j ≤ q → q < n → q + 1 ≠ n + i → ¬ met X Y i q) ∨ (L_M_isSimple_120 K (nI i) m (nI j) τ = some (0, τ) ∧ ∃ q, j ≤ q ∧ q < n ∧ q + 1 ≠ n + i ∧ met X Y i q) := by
  intro d
  induction d with
  | zero =>
    intro j m h1 h2 hij
    obtain ⟨m, rfl⟩ : ∃ q, m = q + 1 := ⟨m - 1, by omega⟩
    left
    refine ⟨?_, fun q h3 h4 => absurd h3 (by omega)⟩
    show (if τ.1 9 ≤ nI j then _ else _) = _
    rw [h9, if_pos (nI_le (by omega) (by omega)), nI_1]
  | succ d ih =>
    intro j m h1 h2 hij
    obtain ⟨m, rfl⟩ : ∃ q, m = q + 1 := ⟨m - 1, by omega⟩
    by_cases qn : n ≤ j
    · left
      refine ⟨?_, fun q h3 h4 => absurd h3 (by omega)⟩
      show (if τ.1 9 ≤ nI j then _ else _) = _
      rw [h9, if_pos (nI_le (by omega) (by omega)), nI_1]
    have hh := ih (j + 1) m (by omega) (by omega) (by omega)
    have hcond : nI j + 1 - nI n = nI i ↔ j + 1 = n + i := by
      rw [nI_1]
      constructor
      · intro z
        have e : nI (j + 1) = nI (i + n) := by rw [← nI_add i n, ← z]; grind
        have := (nI_eq (by omega) (by omega)).mp e
        omega
      · intro z
        rw [z, ← nI_add n i]; grind
    have e : L_M_isSimple_120 K (nI i) (m + 1) (nI j) τ = if nI j + 1 - nI n = nI i then L_M_isSimple_120 K (nI i) m (nI (j + 1)) τ else bnd (f_M_isMet (nI i) (nI j) τ) (fun r143 σ143 => if r143 = 0 then (L_M_isSimple_120 K (nI i) m) (nI (j + 1)) σ143 else some (0, σ143)) := by
      show (if τ.1 9 ≤ nI j then _ else _) = _
      rw [h9, if_neg (nI_ge (by omega) (by omega)), nI_1]
    rw [e]
    by_cases q : j + 1 = n + i
    · rw [if_pos (hcond.mpr q)]
      rcases hh with ⟨g1, g2⟩ | ⟨g1, w, g2, g3⟩
      · left
        refine ⟨g1, fun w h3 h4 h5 => g2 w (by omega) h4 h5⟩
      · exact Or.inr ⟨g1, w, by omega, g3⟩
    · rw [if_neg (fun z => q (hcond.mp z))]
      rcases metM h (show i + 1 < 40 by omega) (show j + 1 < 40 by omega) with ⟨p, e1⟩ | ⟨p, e1⟩
      · right
        rw [e1, bnd_s, if_neg i10]
        exact ⟨rfl, j, Nat.le_refl _, by omega, q, p⟩
      · rw [e1, bnd_s, if_pos rfl]
        rcases hh with ⟨g1, g2⟩ | ⟨g1, w, g2, g3⟩
        · left
          refine ⟨g1, fun w h3 h4 h5 => ?_⟩
          by_cases r : w = j
          · rw [r]; exact p
          · exact g2 w (by omega) h4 h5
        · exact Or.inr ⟨g1, w, by omega, g3⟩
theorem simM_64 {τ : CS} {x y : Nat → Int32} {X Y : Nat → Int} (h : Pol τ x y X Y) {n : Nat} (h9 : τ.1 9 = nI n) (hn : n ≤ 10) : ∀ (d i m : Nat), i + d = n → d < m →
    Bo (L_M_isSimple_64 m (nI i) τ) τ (∀ q, i ≤ q → q < n → ¬ onS (X q) (Y q) (X (q + 1)) (Y (q + 1)) (X (q + 2)) (Y (q + 2)) ∧ ¬ onS (X (q + 1)) (Y (q + 1)) (X (q + 2)) (Y (q + 2)) (X q) (Y q) ∧ ∀ j, q + 2 ≤ j → j < n → j + 1 ≠ n + q → ¬ met X Y q j) := by
  intro d
  induction d with
  | zero =>
    intro i m h1 h2
    obtain ⟨m, rfl⟩ : ∃ q, m = q + 1 := ⟨m - 1, by omega⟩
    refine Bo.t (fun q h3 h4 => absurd h3 (by omega)) ?_
    show (if τ.1 9 ≤ nI i then _ else _) = _
    rw [h9, if_pos (nI_le (by omega) (by omega))]
  | succ d ih =>
    intro i m h1 h2
    obtain ⟨m, rfl⟩ : ∃ q, m = q + 1 := ⟨m - 1, by omega⟩
    obtain ⟨a1, a2, a3, a4⟩ := h i (by omega)
    obtain ⟨c1, c2, c3, c4⟩ := h (i + 2) (by omega)
    show Bo (if τ.1 9 ≤ nI i then _ else _) τ _
    rw [h9, if_neg (nI_ge (by omega) (by omega))]
    rw [show nI i + 2 = nI (i + 2) from nI_add i 2, c1, bnd_s, c2, bnd_s]
    rcases onM h (show i + 1 < 40 by omega) c3 c4 with ⟨p1, e1⟩ | ⟨p1, e1⟩
    · rw [e1, bnd_s, if_neg i10]
      exact Bo.f (fun z => (z i (Nat.le_refl _) (by omega)).1 p1) rfl
    rw [e1, bnd_s, if_pos rfl, a1, bnd_s, a2, bnd_s, nI_1]
    rcases onM h (show i + 1 + 1 < 40 by omega) a3 a4 with ⟨p2, e2⟩ | ⟨p2, e2⟩
    · rw [e2, bnd_s, if_neg i10]
      exact Bo.f (fun z => (z i (Nat.le_refl _) (by omega)).2.1 p2) rfl
    rw [e2, bnd_s, if_pos rfl]
    rcases simM_120 h h9 hn (show i < n by omega) (L_M_isSimple_64 m) (n - i) (i + 2) FU (by omega) (lt_FU (by omega)) (Nat.le_refl _) with ⟨g1, g2⟩ | ⟨g1, w, g2, g3, g4, g5⟩
    · rw [g1]
      refine (ih (i + 1) m (by omega) (by omega)).iff ⟨fun z q h3 h4 => ?_, fun z q h3 h4 => z q (by omega) h4⟩
      by_cases r : q = i
      · rw [r]; exact ⟨p1, p2, g2⟩
      · exact z q (by omega) h4
    · rw [g1]
      exact Bo.f (fun z => (z i (Nat.le_refl _) (by omega)).2.2 w g2 g3 g4 g5) rfl
theorem simM_2 {τ : CS} {x y : Nat → Int32} {X Y : Nat → Int} (h : Pol τ x y X Y) {n : Nat} (h9 : τ.1 9 = nI n) (hn : n ≤ 10) : ∀ (d i m : Nat), i + d = n → d < m →
    Bo (L_M_isSimple_2 m (nI i) τ) τ ((∀ q j, i ≤ q → q < j → j < n → ¬ (X q = X j ∧ Y q = Y j)) ∧ (∀ q, q < n → ¬ onS (X q) (Y q) (X (q + 1)) (Y (q + 1)) (X (q + 2)) (Y (q + 2)) ∧ ¬ onS (X (q + 1)) (Y (q + 1)) (X (q + 2)) (Y (q + 2)) (X q) (Y q) ∧ ∀ j, q + 2 ≤ j → j < n → j + 1 ≠ n + q → ¬ met X Y q j)) := by
  intro d
  induction d with
  | zero =>
    intro i m h1 h2
    obtain ⟨m, rfl⟩ : ∃ q, m = q + 1 := ⟨m - 1, by omega⟩
    show Bo (if τ.1 9 ≤ nI i then _ else _) τ _
    rw [h9, if_pos (nI_le (by omega) (by omega))]
    refine Bo.iff (show Bo (L_M_isSimple_64 FU (nI 0) τ) τ _ from simM_64 h h9 hn n 0 FU (by omega) (lt_FU (by omega))) ⟨fun z => ⟨fun q j h3 h4 h5 => absurd h3 (by omega), fun q hq => z q (by omega) hq⟩, fun z q _ hq => z.2 q hq⟩
  | succ d ih =>
    intro i m h1 h2
    obtain ⟨m, rfl⟩ : ∃ q, m = q + 1 := ⟨m - 1, by omega⟩
    show Bo (if τ.1 9 ≤ nI i then _ else _) τ _
    rw [h9, if_neg (nI_ge (by omega) (by omega)), nI_1]
    rcases simM_14 h h9 hn (show i < n by omega) (L_M_isSimple_2 m) d (i + 1) FU (by omega) (lt_FU (by omega)) with ⟨g1, g2⟩ | ⟨g1, w, g2, g3, g4⟩
    · rw [g1]
      refine (ih (i + 1) m (by omega) (by omega)).iff ⟨fun z => ⟨fun q j h3 h4 h5 => ?_, z.2⟩, fun z => ⟨fun q j h3 h4 h5 => z.1 q j (by omega) h4 h5, z.2⟩⟩
      by_cases r : q = i
      · rw [r]; exact g2 j (by omega) h5
      · exact z.1 q j (by omega) h4 h5
    · rw [g1]
      exact Bo.f (fun z => z.1 i w (Nat.le_refl _) (by omega) g3 g4) rfl
theorem simpleM {τ : CS} {x y : Nat → Int32} {X Y : Nat → Int} (h : Pol τ x y X Y) {n : Nat} (h9 : τ.1 9 = nI n) (hn : n ≤ 10) : Bo (f_M_isSimple τ) τ (simM n X Y) :=
  Bo.iff (show Bo (L_M_isSimple_2 FU (nI 0) τ) τ _ from simM_2 h h9 hn n 0 FU (by omega) (lt_FU (by omega))) ⟨fun z => ⟨fun i j h1 h2 => z.1 i j (by omega) h1 h2, z.2⟩, fun z => ⟨fun q j _ h4 h5 => z.1 q j h4 h5, z.2⟩⟩
/-! one is the other -/
theorem sim_iff (σ : CS) (R : Nat → Nat) (n : Nat) (h3 : 3 ≤ n) : ((∀ k, k < n → folw σ R k) ∧ clos σ R n) ↔ simM n (Xr σ n R) (Yr σ n R) := by
  have m0 : ∀ i, i < n → i % n = i := fun i hi => Nat.mod_eq_of_lt hi
  have mn : n % n = 0 := Nat.mod_self n
  have mn1 : (n + 1) % n = 1 := by rw [Nat.add_mod_left]; exact Nat.mod_eq_of_lt (by omega)
  -- with all places apart
  have key : (∀ i j, i < j → j < n → ¬ sam σ (R i) (R j)) → (∀ i, i < n → (fol σ (R (i % n)) (R ((i + 1) % n)) (R ((i + 2) % n)) ↔ (onS (Xr σ n R i) (Yr σ n R i) (Xr σ n R (i + 1)) (Yr σ n R (i + 1)) (Xr σ n R (i + 2)) (Yr σ n R (i + 2)) ∨ onS (Xr σ n R (i + 1)) (Yr σ n R (i + 1)) (Xr σ n R (i + 2)) (Yr σ n R (i + 2)) (Xr σ n R i) (Yr σ n R i)))) ∧ (∀ i j, i < n → j < n → (tch σ (R (i % n)) (R ((i + 1) % n)) (R (j % n)) (R ((j + 1) % n)) ↔ met (Xr σ n R) (Yr σ n R) i j)) := by
    intro D
    have adj : ∀ i, ¬ sam σ (R (i % n)) (R ((i + 1) % n)) := by
      intro i
      have hi : i % n < n := Nat.mod_lt _ (by omega)
      by_cases q : i % n + 1 = n
      · have e : (i + 1) % n = 0 := by rw [Nat.add_mod, show 1 % n = 1 from Nat.mod_eq_of_lt (by omega), q, mn]
        rw [e]
        intro z
        exact D 0 (i % n) (by omega) hi ⟨z.1.symm, z.2.symm⟩
      · have e : (i + 1) % n = i % n + 1 := by rw [Nat.add_mod, show 1 % n = 1 from Nat.mod_eq_of_lt (by omega)]; exact Nat.mod_eq_of_lt (by omega)
        rw [e]
        exact D (i % n) (i % n + 1) (by omega) (by omega)
    refine ⟨fun i hi => ?_, fun i j hi hj => ?_⟩
    · exact fold_iff (adj i) (fun z => adj (i + 1) ⟨z.1.symm, z.2.symm⟩)
    · exact touch_iff (adj i) (adj j)
  constructor
  · rintro ⟨F, C⟩
    have D : ∀ i j, i < j → j < n → ¬ sam σ (R i) (R j) := fun i j h1 h2 => (F j h2).1 i h1
    obtain ⟨kf, kt⟩ := key D
    refine ⟨fun i j h1 h2 => ?_, fun i hi => ?_⟩
    · show ¬ (mx σ (R (i % n)) = mx σ (R (j % n)) ∧ my σ (R (i % n)) = my σ (R (j % n)))
      rw [m0 i (by omega), m0 j h2]
      exact D i j h1 h2
    · have nf : ¬ fol σ (R (i % n)) (R ((i + 1) % n)) (R ((i + 2) % n)) := by
        by_cases q1 : i + 2 < n
        · rw [m0 i hi, m0 (i + 1) (by omega), m0 (i + 2) q1]
          exact (F (i + 2) q1).2.1 (by omega)
        · by_cases q2 : i + 2 = n
          · rw [m0 i hi, m0 (i + 1) (by omega), q2, mn]
            have := C.1
            rw [show n - 2 = i by omega, show n - 1 = i + 1 by omega] at this
            exact this
          · have q3 : i + 1 = n := by omega
            rw [m0 i hi, show i + 2 = n + 1 by omega, mn1, q3, mn]
            have := C.2.1
            rw [show n - 1 = i by omega] at this
            exact this
      refine ⟨fun z => nf ((kf i hi).mpr (Or.inl z)), fun z => nf ((kf i hi).mpr (Or.inr z)), fun j h4 h5 h6 z => ?_⟩
      have nt := (kt i j hi h5).mpr z
      rw [m0 i hi, m0 (i + 1) (by omega), m0 j h5] at nt
      by_cases q : j + 1 < n
      · rw [m0 (j + 1) q] at nt
        have := (F (j + 1) q).2.2 i (by omega)
        rw [show j + 1 - 1 = j by omega] at this
        exact this nt
      · have q2 : j + 1 = n := by omega
        rw [q2, mn] at nt
        have := C.2.2 i (by omega) (by omega)
        rw [show n - 1 = j by omega] at this
        exact this nt
  · rintro ⟨D0, S⟩
    have D : ∀ i j, i < j → j < n → ¬ sam σ (R i) (R j) := by
      intro i j h1 h2
      have := D0 i j h1 h2
      unfold Xr Yr at this
      rw [m0 i (by omega), m0 j h2] at this
      exact this
    obtain ⟨kf, kt⟩ := key D
    have nf : ∀ i, i < n → ¬ fol σ (R (i % n)) (R ((i + 1) % n)) (R ((i + 2) % n)) := by
      intro i hi z
      rcases (kf i hi).mp z with w | w
      · exact (S i hi).1 w
      · exact (S i hi).2.1 w
    refine ⟨fun k hk => ⟨fun j hj => D j k hj hk, fun h2 => ?_, fun j hj => ?_⟩, ?_, ?_, fun j h1 h2 => ?_⟩
    · have := nf (k - 2) (by omega)
      rw [m0 (k - 2) (by omega), show k - 2 + 1 = k - 1 by omega, m0 (k - 1) (by omega), show k - 2 + 2 = k by omega, m0 k hk] at this
      exact this
    · intro z
      have := (S j (by omega)).2.2 (k - 1) (by omega) (by omega) (by omega)
      apply this
      apply (kt j (k - 1) (by omega) (by omega)).mp
      rw [m0 j (by omega), m0 (j + 1) (by omega), m0 (k - 1) (by omega), show k - 1 + 1 = k by omega, m0 k hk]
      exact z
    · have := nf (n - 2) (by omega)
      rw [m0 (n - 2) (by omega), show n - 2 + 1 = n - 1 by omega, m0 (n - 1) (by omega), show n - 2 + 2 = n by omega, mn] at this
      exact this
    · have := nf (n - 1) (by omega)
      rw [m0 (n - 1) (by omega), show n - 1 + 1 = n by omega, mn, show n - 1 + 2 = n + 1 by omega, mn1] at this
      exact this
    · intro z
      have := (S j (by omega)).2.2 (n - 1) (by omega) (by omega) (by omega)
      apply this
      apply (kt j (n - 1) (by omega) (by omega)).mp
      rw [m0 j (by omega), m0 (j + 1) (by omega), m0 (n - 1) (by omega), show n - 1 + 1 = n by omega, mn]
      exact z
