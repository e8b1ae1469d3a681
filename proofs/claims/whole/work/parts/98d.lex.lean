/-! ===== layer 2: texts are read; bytes, blanks, words ===== -/
def bt (B : Nat → Nat) (n k : Nat) : Nat := if k < n then B k else 0
def skF (B : Nat → Nat) (n : Nat) : Nat → Nat → Nat
  | 0, a => a
  | m + 1, a => if a < n ∧ B a = 32 then skF B n m (a + 1) else a
def sk (B : Nat → Nat) (n a : Nat) : Nat := skF B n (n - a) a
theorem sk_stop {B : Nat → Nat} {n a : Nat} (h : ¬ (a < n ∧ B a = 32)) : sk B n a = a := by
  unfold sk
  cases e : n - a with
  | zero => rfl
  | succ m =>
    show (if a < n ∧ B a = 32 then _ else a) = a
    rw [if_neg h]
theorem sk_step {B : Nat → Nat} {n a : Nat} (h : a < n) (h2 : B a = 32) : sk B n a = sk B n (a + 1) := by
  unfold sk
  rw [show n - a = (n - (a + 1)) + 1 by omega]
  show (if a < n ∧ B a = 32 then _ else a) = _
  rw [if_pos ⟨h, h2⟩]
theorem sk_b {B : Nat → Nat} {n : Nat} : ∀ d a, a + d = n → a ≤ sk B n a ∧ sk B n a ≤ n ∧ sk B n (sk B n a) = sk B n a := by
  intro d
  induction d with
  | zero =>
    intro a h
    have e : sk B n a = a := sk_stop (by omega)
    rw [e, e]
    exact ⟨Nat.le_refl _, by omega, rfl⟩
  | succ d ih =>
    intro a h
    by_cases q : B a = 32
    · rw [sk_step (by omega) q]
      obtain ⟨h1, h2, h3⟩ := ih (a + 1) (by omega)
      exact ⟨by omega, h2, h3⟩
    · have e : sk B n a = a := sk_stop (fun z => q z.2)
      rw [e, e]
      exact ⟨Nat.le_refl _, by omega, rfl⟩
theorem sk_ge {B : Nat → Nat} {n a : Nat} (h : a ≤ n) : a ≤ sk B n a := (sk_b (n - a) a (by omega)).1
theorem sk_le {B : Nat → Nat} {n a : Nat} (h : a ≤ n) : sk B n a ≤ n := (sk_b (n - a) a (by omega)).2.1
theorem sk_sk {B : Nat → Nat} {n a : Nat} (h : a ≤ n) : sk B n (sk B n a) = sk B n a := (sk_b (n - a) a (by omega)).2.2
/-- a word stands at a place, no letter behind it -/
def isWb (B : Nat → Nat) (n : Nat) : List Nat → Nat → Bool
  | [], a => !(decide (97 ≤ bt B n a) && decide (bt B n a ≤ 122))
  | x :: w, a => decide (bt B n a = x) && isWb B n w (a + 1)
theorem isWb_iff {B : Nat → Nat} {n : Nat} : ∀ (w : List Nat) (a : Nat), isWb B n w a = true ↔ (∀ i, i < w.length → bt B n (a + i) = w.getD i 0) ∧ ¬ (97 ≤ bt B n (a + w.length) ∧ bt B n (a + w.length) ≤ 122) := by
  intro w
  induction w with
  | nil =>
    intro a
    simp [isWb]
    omega
  | cons x w ih =>
    intro a
    show (decide (bt B n a = x) && isWb B n w (a + 1)) = true ↔ _
    rw [Bool.and_eq_true, decide_eq_true_iff, ih (a + 1), List.length_cons, show a + (w.length + 1) = a + 1 + w.length by omega]
    constructor
    · rintro ⟨h1, h2, h3⟩
      refine ⟨fun i hi => ?_, h3⟩
      cases i with
      | zero => exact h1
      | succ i =>
        have := h2 i (by omega)
        rw [show a + (i + 1) = a + 1 + i by omega, this]
        rfl
    · rintro ⟨h2, h3⟩
      refine ⟨h2 0 (by omega), fun i hi => ?_, h3⟩
      have := h2 (i + 1) (by omega)
      rw [show a + 1 + i = a + (i + 1) by omega, this]
      rfl
def fwd (B : Nat → Nat) (n a : Nat) : List (List Nat) → Nat → Option (Nat × Nat)
  | [], _ => none
  | w :: r, i => if isWb B n w a = true then some (i, w.length) else fwd B n a r (i + 1)
/-- the bytes of a string; the words of a list -/
def ws (s : Nat) : List Nat := (bytS.getD s []).map (fun b => b.toNatClampNeg)
def lw (s : Nat) : List Nat := ([[], [], [], [12, 13, 14, 15, 16, 17, 18, 19], [20, 21, 22, 23, 24, 25], [34], [35], [26, 27, 28, 29, 30, 31], [32, 33], [36], [37], [39, 38]] : List (List Nat)).getD s []
def okS (s : Nat) : List (List Nat) → Nat → Bool
  | [], _ => false
  | w :: r, f => decide (0 < w.length) && (List.range w.length).all (fun j => decide ((ws s).getD (f + j) 0 = w.getD j 0) && decide (97 ≤ w.getD j 0) && decide (w.getD j 0 ≤ 122)) && (if r.isEmpty then decide (f + w.length = (ws s).length) else decide (f + w.length < (ws s).length) && decide ((ws s).getD (f + w.length) 0 = 32) && okS s r (f + w.length + 1))
theorem okS_all : ∀ s, s < 12 → 3 ≤ s → okS s ((lw s).map ws) 0 = true := by decide +kernel
theorem ws_all : ∀ s, s < 40 → lenS.getD s 0 = (ws s).length ∧ (ws s).length ≤ 43 ∧ ∀ k, k < (ws s).length → (bytS.getD s []).getD k 0 = nI ((ws s).getD k 0) ∧ (ws s).getD k 0 ≤ 255 ∧ 1 ≤ (ws s).getD k 0 := by decide +kernel
theorem slen_ws {s : Nat} (hs : s < 40) : slen s = nI (ws s).length := by
  unfold slen
  rw [(ws_all s hs).1]
theorem sch_ws {s k : Nat} (hs : s < 40) (hk : k < (ws s).length) : sch s (nI k) = nI ((ws s).getD k 0) := by
  have := (ws_all s hs).2.1
  unfold sch
  rw [nI_clamp (by omega)]
  exact ((ws_all s hs).2.2 k hk).1
theorem gix_ws {X : Type} {s k : Nat} (hs : s < 40) (hk : k < (ws s).length) (o : Option X) : gix (nI k) (lenS.getD s 0) o = o := by
  have := (ws_all s hs).2.1
  rw [(ws_all s hs).1]
  exact gix_n hk (by omega)
/-! the class's side -/
def CL (B : Nat → Nat) (n : Nat) (σ : CS) : Prop := WC σ ∧ rws σ 0 = n ∧ n ≤ 400 ∧ (∀ k, k < n → cel σ 0 k 0 = nI (B k) ∧ B k ≤ 255) ∧ σ.1 55 = nI n
abbrev Att (σ : CS) (a : Nat) : CS := sF σ 56 (nI a)
theorem va_id (f : Nat → Int32) (k : Nat) (v : Int32) (h : f k = v) : va_up f k v = f := by
  funext j
  show (if j = k then v else f j) = f j
  by_cases q : j = k
  · rw [if_pos q, q, h]
  · rw [if_neg q]
theorem va_va (f : Nat → Int32) (k : Nat) (v w : Int32) : va_up (va_up f k v) k w = va_up f k w := by
  funext j
  show (if j = k then w else if j = k then v else f j) = (if j = k then w else f j)
  by_cases q : j = k
  · rw [if_pos q, if_pos q]
  · rw [if_neg q, if_neg q, if_neg q]
theorem sF_id (σ : CS) (k : Nat) (v : Int32) (h : σ.1 k = v) : sF σ k v = σ := by
  show (va_up σ.1 k v, σ.2) = σ
  rw [va_id _ _ _ h]
theorem sF_sF (σ : CS) (k : Nat) (v w : Int32) : sF (sF σ k v) k w = sF σ k w := by
  show (va_up (va_up σ.1 k v) k w, σ.2) = (va_up σ.1 k w, σ.2)
  rw [va_va]
theorem Att_id {σ : CS} {a : Nat} (h : σ.1 56 = nI a) : Att σ a = σ := sF_id σ 56 _ h
theorem Att_Att (σ : CS) (a b : Nat) : Att (Att σ a) b = Att σ b := sF_sF σ 56 _ _
theorem CL.at {B : Nat → Nat} {n : Nat} {σ : CS} (h : CL B n σ) (a : Nat) : CL B n (Att σ a) := ⟨sF_W h.1 (by omega) _, h.2.1, h.2.2.1, h.2.2.2.1, h.2.2.2.2⟩
theorem CL.get {B : Nat → Nat} {n : Nat} {σ : CS} (h : CL B n σ) {k : Nat} (hk : k < n) : f_Table_get 0 (nI k) 0 σ = some (nI (B k), σ) := by
  obtain ⟨h1, h2, h3, h4, h5⟩ := h
  rw [tb_gl h1 0 (by omega) k 0 (by omega) (by decide), (h4 k hk).1]
theorem CL.get_out {B : Nat → Nat} {n : Nat} {σ : CS} (h : CL B n σ) {k : Nat} (hk : n ≤ k) (hk2 : k < 2147483648) : f_Table_get 0 (nI k) 0 σ = some (-1, σ) :=
  tb_get_out h.1 0 (by omega) (Or.inr (by rw [h.2.1]; exact nI_le hk hk2))
/-- a byte is such, or the end -/
theorem CL.sign {B : Nat → Nat} {n : Nat} {σ : CS} (h : CL B n σ) {k x : Nat} (hk : k < 1000) (hx : 1 ≤ x) (hx2 : x ≤ 255) : ∃ v, f_Table_get 0 (nI k) 0 σ = some (v, σ) ∧ (v = nI x ↔ bt B n k = x) := by
  unfold bt
  by_cases q : k < n
  · have := (h.2.2.2.1 k q).2
    refine ⟨_, h.get q, ?_⟩
    rw [if_pos q]
    exact nI_eq (by omega) (by omega)
  · refine ⟨_, h.get_out (by omega) (by omega), ?_⟩
    rw [if_neg q]
    exact ⟨fun z => absurd z.symm (nI_neg1 (by omega)), fun z => by omega⟩
theorem skipC_loop {B : Nat → Nat} {n : Nat} : ∀ (d a m : Nat) (σ : CS), CL B n σ → a + d = n → d < m → σ.1 56 = nI a → L_Reader_skipBlanks_5 m (nI a) σ = some (0, Att σ (sk B n a)) := by
  intro d
  induction d with
  | zero =>
    intro a m σ h h1 h2 h3
    obtain ⟨m, rfl⟩ : ∃ n, m = n + 1 := ⟨m - 1, by omega⟩
    have := h.2.2.1
    rw [L_Reader_skipBlanks_5, h.2.2.2.2, if_pos (nI_le (by omega) (by omega)), sk_stop (by omega), Att_id h3]
  | succ d ih =>
    intro a m σ h h1 h2 h3
    obtain ⟨m, rfl⟩ : ∃ n, m = n + 1 := ⟨m - 1, by omega⟩
    have := h.2.2.1
    have hB := (h.2.2.2.1 a (by omega)).2
    rw [L_Reader_skipBlanks_5, h.2.2.2.2, if_neg (nI_ge (by omega) (by omega)), h.get (by omega), bnd_s]
    by_cases q : B a = 32
    · rw [if_pos (by rw [q]; rfl), nI_1, ih (a + 1) m (Att σ (a + 1)) (h.at _) (by omega) (by omega) (va_up_self σ.1 56 _), sk_step (by omega) q, Att_Att]
    · rw [if_neg (fun z => q ((eq_lit 32 (by omega) (by omega)).1 z)), sk_stop (fun z => q z.2), Att_id h3]
theorem skipC {B : Nat → Nat} {n a : Nat} {σ : CS} (h : CL B n σ) (ha : a ≤ n) (h3 : σ.1 56 = nI a) : f_Reader_skipBlanks σ = some (0, Att σ (sk B n a)) := by
  have := h.2.2.1
  unfold f_Reader_skipBlanks
  rw [h3]
  exact skipC_loop (n - a) a FU σ h (by omega) (lt_FU (by omega)) h3
theorem goPastC (σ : CS) (a : Nat) : f_Reader_goPast (Att σ a) = some (1, Att σ (a + 1)) := by
  unfold f_Reader_goPast
  rw [show (Att σ a).1 56 = nI a from va_up_self σ.1 56 _, nI_1, sF_sF]
theorem takeSignC {B : Nat → Nat} {n a x : Nat} {σ : CS} (h : CL B n σ) (ha : a ≤ n) (h3 : σ.1 56 = nI a) (hx : 1 ≤ x) (hx2 : x ≤ 255) : f_Reader_takeSign (nI x) σ = if bt B n (sk B n a) = x then some (1, Att σ (sk B n a + 1)) else some (0, Att σ (sk B n a)) := by
  have := h.2.2.1
  have hs := sk_le (B := B) ha
  have e56 : (Att σ (sk B n a)).1 56 = nI (sk B n a) := va_up_self σ.1 56 _
  unfold f_Reader_takeSign
  rw [skipC h ha h3, bnd_s, e56]
  obtain ⟨v, g1, g2⟩ := (h.at (sk B n a)).sign (k := sk B n a) (by omega) hx hx2
  rw [g1, bnd_s]
  by_cases q : bt B n (sk B n a) = x
  · rw [if_pos (g2.2 q), if_pos q, goPastC, bnd_s, if_neg i10]
  · rw [if_neg (fun z => q (g2.1 z)), if_neg q]
abbrev Fai (σ : CS) (k p : Nat) : CS := sF (sF σ 58 (nI k)) 59 (nI p)
theorem failC (σ : CS) (k p : Nat) : f_Reader_fail (nI k) (nI p) σ = some (0, Fai σ k p) := rfl
theorem needSignC {B : Nat → Nat} {n a x : Nat} {σ : CS} (h : CL B n σ) (ha : a ≤ n) (h3 : σ.1 56 = nI a) (hx : 1 ≤ x) (hx2 : x ≤ 255) : f_Reader_needSign (nI x) σ = if bt B n (sk B n a) = x then some (1, Att σ (sk B n a + 1)) else some (0, Fai (Att σ (sk B n a)) 1 (sk B n a)) := by
  have := h.2.2.1
  have hs := sk_le (B := B) ha
  have e56 : (Att σ (sk B n a)).1 56 = nI (sk B n a) := va_up_self σ.1 56 _
  unfold f_Reader_needSign
  rw [skipC h ha h3, bnd_s, e56]
  obtain ⟨v, g1, g2⟩ := (h.at (sk B n a)).sign (k := sk B n a) (by omega) hx hx2
  rw [g1, bnd_s]
  by_cases q : bt B n (sk B n a) = x
  · rw [if_pos (g2.2 q), if_pos q, goPastC, bnd_s, grd_s (Or.inr rfl)]
  · rw [if_neg (fun z => q (g2.1 z)), if_neg q, e56]
    show bnd (f_Reader_fail (nI 1) (nI (sk B n a)) (Att σ (sk B n a))) _ = _
    rw [failC, bnd_s, grd_s (Or.inl rfl)]
/-- how far the letters go -/
def ltr (B : Nat → Nat) (n k : Nat) : Prop := 97 ≤ bt B n k ∧ bt B n k ≤ 122
theorem letterC {B : Nat → Nat} {n : Nat} {σ : CS} (h : CL B n σ) {k : Nat} (hk : k < n) : ∃ v, bnd (f_Table_get 0 (nI k) 0 σ) (fun r28 σ28 => f_Reader_isLetter r28 σ28) = some (v, σ) ∧ ((v = 0 ∧ ¬ ltr B n k) ∨ (v = 1 ∧ ltr B n k)) := by
  have hB := (h.2.2.2.1 k hk).2
  unfold ltr bt f_Reader_isLetter
  rw [h.get hk, bnd_s, fc_within, bnd_s, if_pos hk]
  by_cases q : nI (B k) < 97 ∨ 122 < nI (B k)
  · rw [if_pos q, grd_s (Or.inl rfl)]
    refine ⟨0, rfl, Or.inl ⟨rfl, fun z => ?_⟩⟩
    rcases q with q | q
    · have := (lt_lit 97 (by omega) (by omega)).1 q; omega
    · have := (lit_lt 122 (by omega) (by omega)).1 q; omega
  · rw [if_neg q, grd_s (Or.inr rfl)]
    refine ⟨1, rfl, Or.inr ⟨rfl, ?_, ?_⟩⟩
    · exact Nat.not_lt.1 (fun z => q (Or.inl ((lt_lit 97 (by omega) (by omega)).2 z)))
    · exact Nat.not_lt.1 (fun z => q (Or.inr ((lit_lt 122 (by omega) (by omega)).2 z)))
theorem run_loop {B : Nat → Nat} {n : Nat} {σ : CS} (h : CL B n σ) (s : Nat) (K : Int32 → Int32 → CS → Option (Int32 × CS)) (a : Nat) : ∀ (d k m : Nat), a ≤ k → k + d = n → d < m → (∀ i, a ≤ i → i < k → ltr B n i) → ∃ e, L_Reader_takeWord_14 s K m (nI k) (nI k) σ = L_Reader_takeWord_55 s K (nI e) FU 0 0 0 σ ∧ a ≤ e ∧ e ≤ n ∧ (∀ i, a ≤ i → i < e → ltr B n i) ∧ ¬ ltr B n e := by
  have := h.2.2.1
  intro d
  induction d with
  | zero =>
    intro k m h0 h1 h2 h3
    obtain ⟨m, rfl⟩ : ∃ n, m = n + 1 := ⟨m - 1, by omega⟩
    refine ⟨k, by rw [L_Reader_takeWord_14, h.2.2.2.2, if_pos (nI_le (by omega) (by omega))], h0, by omega, h3, fun z => ?_⟩
    unfold ltr bt at z
    rw [if_neg (by omega)] at z
    omega
  | succ d ih =>
    intro k m h0 h1 h2 h3
    obtain ⟨m, rfl⟩ : ∃ n, m = n + 1 := ⟨m - 1, by omega⟩
    obtain ⟨v, g1, g2⟩ := letterC h (k := k) (by omega)
    rw [L_Reader_takeWord_14, h.2.2.2.2, if_neg (nI_ge (by omega) (by omega)), ← bnd_bnd, g1, bnd_s]
    rcases g2 with ⟨rfl, g2⟩ | ⟨rfl, g2⟩
    · rw [if_pos rfl]
      exact ⟨k, rfl, h0, by omega, h3, g2⟩
    · rw [if_neg i10, nI_1]
      exact ih (k + 1) m (by omega) (by omega) (by omega) (fun i hi hi2 => by
        by_cases q : i = k
        · rw [q]; exact g2
        · exact h3 i hi (by omega))
theorem word_loop {B : Nat → Nat} {n : Nat} {σ : CS} (h : CL B n σ) {s a f : Nat} {w : List Nat} (hs : s < 40) (ha : a ≤ n) (h3 : σ.1 56 = nI a) (hf : f + w.length ≤ (ws s).length) (hw : ∀ j, j < w.length → (ws s).getD (f + j) 0 = w.getD j 0) : ∀ (d j m : Nat), j + d = w.length → d < m → ∃ v, L_Reader_isWord_26 s (nI f) (nI (f + w.length)) m (nI (f + j)) σ = some (v, σ) ∧ ((v = 1 ∧ ∀ i, j ≤ i → i < w.length → bt B n (a + i) = w.getD i 0) ∨ (v = 0 ∧ ¬ ∀ i, j ≤ i → i < w.length → bt B n (a + i) = w.getD i 0)) := by
  have := h.2.2.1
  have hl := (ws_all s hs).2.1
  intro d
  induction d with
  | zero =>
    intro j m h1 h2
    obtain ⟨m, rfl⟩ : ∃ n, m = n + 1 := ⟨m - 1, by omega⟩
    exact ⟨1, by rw [L_Reader_isWord_26, if_pos (nI_le (by omega) (by omega))], Or.inl ⟨rfl, fun i h4 h5 => by omega⟩⟩
  | succ d ih =>
    intro j m h1 h2
    obtain ⟨m, rfl⟩ : ∃ n, m = n + 1 := ⟨m - 1, by omega⟩
    have hx := (ws_all s hs).2.2 (f + j) (by omega)
    rw [hw j (by omega)] at hx
    have e1 : nI a + nI (f + j) - nI f = nI (a + j) := by rw [nI_add, nI_sub (by omega)]; congr 1; omega
    rw [L_Reader_isWord_26, if_neg (nI_ge (by omega) (by omega)), gix_ws hs (by omega), h3, e1, sch_ws hs (by omega), hw j (by omega)]
    obtain ⟨v, g1, g2⟩ := h.sign (k := a + j) (by omega) hx.2.2 hx.2.1
    rw [g1, bnd_s]
    by_cases q : bt B n (a + j) = w.getD j 0
    · rw [if_pos (g2.2 q).symm, nI_1]
      obtain ⟨u, k1, k2⟩ := ih (j + 1) m (by omega) (by omega)
      refine ⟨u, k1, ?_⟩
      rcases k2 with ⟨k2, k3⟩ | ⟨k2, k3⟩
      · refine Or.inl ⟨k2, fun i h4 h5 => ?_⟩
        by_cases z : i = j
        · rw [z]; exact q
        · exact k3 i (by omega) h5
      · exact Or.inr ⟨k2, fun z => k3 (fun i h4 h5 => z i (by omega) h5)⟩
    · rw [if_neg (fun z => q (g2.1 z.symm))]
      exact ⟨0, rfl, Or.inr ⟨rfl, fun z => q (z j (Nat.le_refl _) (by omega))⟩⟩
theorem isWordC {B : Nat → Nat} {n : Nat} {σ : CS} (h : CL B n σ) {s a e f : Nat} {w : List Nat} (hs : s < 40) (ha : a ≤ n) (h3 : σ.1 56 = nI a) (hf : f + w.length ≤ (ws s).length) (hw : ∀ j, j < w.length → (ws s).getD (f + j) 0 = w.getD j 0) (hl : ∀ j, j < w.length → 97 ≤ w.getD j 0 ∧ w.getD j 0 ≤ 122) (he1 : a ≤ e) (he2 : e ≤ n) (he3 : ∀ i, a ≤ i → i < e → ltr B n i) (he4 : ¬ ltr B n e) : ∃ v, f_Reader_isWord s (nI f) (nI (f + w.length)) (nI e) σ = some (v, σ) ∧ ((v = 1 ∧ isWb B n w a = true ∧ e = a + w.length) ∨ (v = 0 ∧ ¬ isWb B n w a = true)) := by
  have := h.2.2.1
  have hl' := (ws_all s hs).2.1
  have e1 : nI (f + w.length) - nI f = nI w.length := by rw [nI_sub (by omega)]; congr 1; omega
  have e2 : nI e - nI a = nI (e - a) := nI_sub he1
  unfold f_Reader_isWord
  rw [h3, e1, e2, slen_ws hs]
  have he : isWb B n w a = true → e = a + w.length := fun z => by
    obtain ⟨z1, z2⟩ := (isWb_iff w a).1 z
    by_cases q : e < a + w.length
    · exact absurd (show ltr B n e by
        have := z1 (e - a) (by omega)
        rw [show a + (e - a) = e by omega] at this
        have := hl (e - a) (by omega)
        unfold ltr
        omega) he4
    · by_cases q2 : a + w.length < e
      · exact absurd (he3 (a + w.length) (by omega) q2) z2
      · omega
  by_cases q : w.length = e - a
  · rw [if_pos (by rw [q]), if_pos (nI_le hf (by omega))]
    obtain ⟨v, k1, k2⟩ := word_loop h hs ha h3 hf hw w.length 0 FU (by omega) (lt_FU (by omega))
    refine ⟨v, k1, ?_⟩
    rcases k2 with ⟨k2, k3⟩ | ⟨k2, k3⟩
    · refine Or.inl ⟨k2, (isWb_iff w a).2 ⟨fun i hi => k3 i (Nat.zero_le _) hi, ?_⟩, by omega⟩
      rw [show a + w.length = e by omega]
      exact he4
    · exact Or.inr ⟨k2, fun z => k3 (fun i _ hi => ((isWb_iff w a).1 z).1 i hi)⟩
  · rw [if_neg (fun z => q (nI_eqI (by omega) (by omega) z))]
    exact ⟨0, rfl, Or.inr ⟨rfl, fun z => q (by have := he z; omega)⟩⟩
theorem words_loop {B : Nat → Nat} {n : Nat} {σ : CS} (h : CL B n σ) {s a e : Nat} (hs : s < 40) (ha : a ≤ n) (h3 : σ.1 56 = nI a) (he1 : a ≤ e) (he2 : e ≤ n) (he3 : ∀ i, a ≤ i → i < e → ltr B n i) (he4 : ¬ ltr B n e) : ∀ (W : List (List Nat)) (i f m : Nat), okS s W f = true → f ≤ (ws s).length → (ws s).length - f + 1 < m → (∃ j l, fwd B n a W i = some (j, l) ∧ e = a + l ∧ L_Reader_takeWord_55 s (B_Reader_takeWord_99 s) (nI e) m (nI f) (nI i) (nI f) σ = some (nI j, Att σ (a + l))) ∨ (fwd B n a W i = none ∧ L_Reader_takeWord_55 s (B_Reader_takeWord_99 s) (nI e) m (nI f) (nI i) (nI f) σ = some (-1, σ)) := by
  have hl' := (ws_all s hs).2.1
  intro W
  induction W with
  | nil => intro i f m h0; exact absurd h0 (by simp [okS])
  | cons w r ih =>
    intro i f m h0 h1 h2
    unfold okS at h0
    rw [Bool.and_eq_true, Bool.and_eq_true, decide_eq_true_iff] at h0
    obtain ⟨⟨p1, p2⟩, p3⟩ := h0
    have p2' : ∀ j, j < w.length → (ws s).getD (f + j) 0 = w.getD j 0 ∧ 97 ≤ w.getD j 0 ∧ w.getD j 0 ≤ 122 := fun j hj => by
      have := List.all_eq_true.mp p2 j (List.mem_range.mpr hj)
      rw [Bool.and_eq_true, Bool.and_eq_true, decide_eq_true_iff, decide_eq_true_iff, decide_eq_true_iff] at this
      exact ⟨this.1.1, this.1.2, this.2⟩
    have pl : f + w.length ≤ (ws s).length := by
      by_cases q : r.isEmpty = true
      · rw [if_pos q, decide_eq_true_iff] at p3; omega
      · rw [if_neg q, Bool.and_eq_true, Bool.and_eq_true, decide_eq_true_iff] at p3; omega
    -- through the letters of this word
    have thr : ∀ (d j m : Nat), j + d = w.length → (ws s).length - (f + j) + 1 < m → ∃ m', L_Reader_takeWord_55 s (B_Reader_takeWord_99 s) (nI e) m (nI f) (nI i) (nI (f + j)) σ = B_Reader_takeWord_87 s (L_Reader_takeWord_55 s (B_Reader_takeWord_99 s) (nI e) m') (B_Reader_takeWord_99 s) (nI e) (nI f) (nI i) (nI (f + w.length)) σ ∧ (ws s).length - (f + w.length) < m' := by
      intro d
      induction d with
      | zero =>
        intro j m g1 g2
        obtain ⟨m, rfl⟩ : ∃ n, m = n + 1 := ⟨m - 1, by omega⟩
        have ej : j = w.length := by omega
        subst ej
        refine ⟨m, ?_, by omega⟩
        rw [L_Reader_takeWord_55, slen_ws hs, if_neg (fun z => absurd ((nI_ltI (by omega) (by omega)).1 z) (by omega))]
        by_cases q : (ws s).length ≤ f + w.length
        · rw [if_pos (nI_le q (by omega))]
        · rw [if_neg (nI_ge (by omega) (by omega)), gix_ws hs (by omega), sch_ws hs (by omega)]
          have : (ws s).getD (f + w.length) 0 = 32 := by
            by_cases q3 : r.isEmpty = true
            · rw [if_pos q3, decide_eq_true_iff] at p3; omega
            · rw [if_neg q3, Bool.and_eq_true, Bool.and_eq_true, decide_eq_true_iff, decide_eq_true_iff] at p3; exact p3.1.2
          rw [if_pos (by rw [this]; rfl)]
      | succ d ihd =>
        intro j m g1 g2
        obtain ⟨m, rfl⟩ : ∃ n, m = n + 1 := ⟨m - 1, by omega⟩
        have hj := p2' j (by omega)
        rw [L_Reader_takeWord_55, slen_ws hs, if_neg (fun z => absurd ((nI_ltI (by omega) (by omega)).1 z) (by omega)), if_neg (nI_ge (by omega) (by omega)), gix_ws hs (by omega), sch_ws hs (by omega), hj.1, if_neg (fun z => absurd ((eq_lit 32 (by omega) (by omega)).1 z) (by omega)), nI_1]
        exact ihd (j + 1) m (by omega) (by omega)
    obtain ⟨m', t1, t2⟩ := thr w.length 0 m (by omega) (by omega)
    have t1' : L_Reader_takeWord_55 s (B_Reader_takeWord_99 s) (nI e) m (nI f) (nI i) (nI f) σ = B_Reader_takeWord_87 s (L_Reader_takeWord_55 s (B_Reader_takeWord_99 s) (nI e) m') (B_Reader_takeWord_99 s) (nI e) (nI f) (nI i) (nI (f + w.length)) σ := t1
    obtain ⟨v, u1, u2⟩ := isWordC h hs ha h3 pl (fun j hj => (p2' j hj).1) (fun j hj => (p2' j hj).2) he1 he2 he3 he4
    rw [t1']
    unfold B_Reader_takeWord_87
    rw [u1, bnd_s]
    rcases u2 with ⟨rfl, u2, u3⟩ | ⟨rfl, u2⟩
    · left
      refine ⟨i, w.length, ?_, u3, ?_⟩
      · show (if isWb B n w a = true then _ else _) = _
        rw [if_pos u2]
      · rw [if_neg i10]
        unfold B_Reader_takeWord_99
        rw [u3]
    · rw [if_pos rfl, nI_1, nI_1]
      have ef : fwd B n a (w :: r) i = fwd B n a r (i + 1) := by
        show (if isWb B n w a = true then _ else _) = _
        rw [if_neg u2]
      rw [ef]
      by_cases q : r.isEmpty = true
      · right
        rw [if_pos q, decide_eq_true_iff] at p3
        have : r = [] := List.isEmpty_iff.1 q
        subst this
        refine ⟨rfl, ?_⟩
        obtain ⟨m', rfl⟩ : ∃ n, m' = n + 1 := ⟨m' - 1, by omega⟩
        rw [L_Reader_takeWord_55, slen_ws hs, if_pos ((nI_ltI (by omega) (by omega)).2 (by omega))]
      · rw [if_neg q, Bool.and_eq_true, Bool.and_eq_true, decide_eq_true_iff] at p3
        exact ih (i + 1) (f + w.length + 1) m' p3.2 (by omega) (by omega)
