/-! ===== layer 2: rolls; the rows on both sides, what is listed ===== -/
theorem cnt_s (P : Nat → Bool) (n : Nat) : cnt P (n + 1) = cnt P n + (if P n = true then 1 else 0) := rfl
theorem cnt_inv {P : Nat → Bool} : ∀ m i, i < cnt P m → ∃ e, e < m ∧ P e = true ∧ cnt P e = i := by
  intro m
  induction m with
  | zero => intro i h; exact absurd h (Nat.not_lt_zero _)
  | succ m ih =>
    intro i h
    rw [cnt_s] at h
    by_cases q : i < cnt P m
    · obtain ⟨e, h1, h2, h3⟩ := ih i q
      exact ⟨e, by omega, h2, h3⟩
    · by_cases z : P m = true
      · rw [if_pos z] at h
        exact ⟨m, by omega, z, by omega⟩
      · rw [if_neg z] at h
        omega
theorem cnt_lt {P : Nat → Bool} {a b : Nat} (h : a < b) (ha : P a = true) : cnt P a < cnt P b := by
  have h1 : cnt P (a + 1) ≤ cnt P b := cnt_mono P h
  rw [cnt_s, if_pos ha] at h1
  omega
theorem cnt_inj {P : Nat → Bool} {a b : Nat} (ha : P a = true) (hb : P b = true) (h : cnt P a = cnt P b) : a = b := by
  by_cases q : a < b
  · have := cnt_lt q ha; omega
  · by_cases q2 : b < a
    · have := cnt_lt q2 hb; omega
    · omega
def anyR (P : Nat → Bool) : Nat → Bool
  | 0 => false
  | m + 1 => anyR P m || P m
theorem anyR_iff {P : Nat → Bool} : ∀ n, anyR P n = true ↔ ∃ i, i < n ∧ P i = true := by
  intro n
  induction n with
  | zero =>
    constructor
    · intro h
      cases h
    · rintro ⟨i, h, -⟩
      omega
  | succ n ih =>
    show (anyR P n || P n) = true ↔ _
    rw [Bool.or_eq_true, ih]
    constructor
    · rintro (⟨i, h1, h2⟩ | h)
      · exact ⟨i, by omega, h2⟩
      · exact ⟨n, by omega, h⟩
    · rintro ⟨i, h1, h2⟩
      by_cases z : i = n
      · right; rw [← z]; exact h2
      · left; exact ⟨i, by omega, h2⟩
/-! the rows -/
def hd (σ : CS) (e : Nat) : Nat := (cel σ 12 e 0).toNatClampNeg
def pr (σ : CS) (e : Nat) : Nat := (cel σ 12 e 1).toNatClampNeg
def sm (σ : CS) (e : Nat) : Nat := (cel σ 12 e 2).toNatClampNeg
def ofH (σ : CS) (h e : Nat) : Bool := decide (hd σ e = h)
def RolT (σ τ : CS) : Prop := (∀ e, e < rws σ 12 → (cel σ 12 e 0 = nI (hd σ e) ∧ hd σ e < 4) ∧ (cel σ 12 e 1 = nI (pr σ e) ∧ pr σ e < rws σ 11) ∧ (cel σ 12 e 2 = nI (sm σ e) ∧ sm σ e ≤ 100000) ∧ τ.2.1 80 (8 * hd σ e + cnt (ofH σ (hd σ e)) e) = nI (pr σ e) ∧ τ.2.1 81 (8 * hd σ e + cnt (ofH σ (hd σ e)) e) = nI (sm σ e)) ∧
  (∀ h, h < 4 → τ.2.1 79 h = nI (cnt (ofH σ h) (rws σ 12)) ∧ cnt (ofH σ h) (rws σ 12) ≤ 8) ∧ ∀ e e', e < rws σ 12 → e' < rws σ 12 → hd σ e = hd σ e' → pr σ e = pr σ e' → e = e'
theorem RolT.frM {σ τ τ' : CS} {I A : List Nat} (h : RolT σ τ) (f : FrM I A τ τ') (h1 : 79 ∉ A ∧ 80 ∉ A ∧ 81 ∉ A) : RolT σ τ' := by
  unfold RolT at h ⊢
  rw [f.2 79 h1.1, f.2 80 h1.2.1, f.2 81 h1.2.2]
  exact h
theorem RolT.fr {σ τ σ' τ' : CS} (h : RolT σ τ) (e0 : rws σ 11 ≤ rws σ' 11) (e1 : σ'.1 38 = σ.1 38) (e2 : σ'.2.1 12 = σ.2.1 12) (e3 : τ'.2.1 79 = τ.2.1 79) (e4 : τ'.2.1 80 = τ.2.1 80) (e5 : τ'.2.1 81 = τ.2.1 81) : RolT σ' τ' := by
  have r : rws σ' 12 = rws σ 12 := by unfold rws; rw [show 3 * 12 + 2 = 38 from rfl, e1]
  have c : ∀ i c, cel σ' 12 i c = cel σ 12 i c := fun i c => by unfold cel; rw [e2]
  have eh : hd σ' = hd σ := by funext e; unfold hd; rw [c]
  have ep : pr σ' = pr σ := by funext e; unfold pr; rw [c]
  have es : sm σ' = sm σ := by funext e; unfold sm; rw [c]
  have eo : ofH σ' = ofH σ := by funext h e; unfold ofH; rw [eh]
  obtain ⟨h1, h2, h3⟩ := h
  refine ⟨fun e he => ?_, fun x hx => ?_, fun e e' he he' => ?_⟩
  · rw [r] at he
    rw [c, c, c, eh, ep, es, eo, e4, e5]
    obtain ⟨a, b, d⟩ := h1 e he
    exact ⟨a, ⟨b.1, by omega⟩, d⟩
  · rw [r, eo, e3]
    exact h2 x hx
  · rw [r] at he he'
    rw [eh, ep]
    exact h3 e e' he he'
theorem placeM {σ τ : CS} (hT : RolT σ τ) {h p : Nat} (hh : h < 4) (hp : p < 1000) : (∃ e, e < rws σ 12 ∧ hd σ e = h ∧ pr σ e = p ∧ f_M_placeIn (nI h) (nI p) τ = some (nI (cnt (ofH σ h) e), τ)) ∨ ((∀ e, e < rws σ 12 → ¬ (hd σ e = h ∧ pr σ e = p)) ∧ f_M_placeIn (nI h) (nI p) τ = some (-1, τ)) := by
  obtain ⟨h1, h2, h3⟩ := hT
  obtain ⟨h79, h8⟩ := h2 h hh
  have lp : ∀ (d i m : Nat), i + d = cnt (ofH σ h) (rws σ 12) → d < m → (∀ e, e < rws σ 12 → hd σ e = h → cnt (ofH σ h) e < i → ¬ pr σ e = p) → (∃ e, e < rws σ 12 ∧ hd σ e = h ∧ pr σ e = p ∧ L_M_placeIn_2 (nI h) (nI p) m (nI i) τ = some (nI (cnt (ofH σ h) e), τ)) ∨ ((∀ e, e < rws σ 12 → ¬ (hd σ e = h ∧ pr σ e = p)) ∧ L_M_placeIn_2 (nI h) (nI p) m (nI i) τ = some (-1, τ)) := by
    intro d
    induction d with
    | zero =>
      intro i m g1 g2 g3
      obtain ⟨m, rfl⟩ : ∃ n, m = n + 1 := ⟨m - 1, by omega⟩
      right
      refine ⟨fun e he z => g3 e he z.1 ?_ z.2, by rw [L_M_placeIn_2, gix_n hh (by omega), rdn (by omega), h79, if_pos (nI_le (by omega) (by omega))]⟩
      have := cnt_lt (P := ofH σ h) he (decide_eq_true z.1)
      omega
    | succ d ih =>
      intro i m g1 g2 g3
      obtain ⟨m, rfl⟩ : ∃ n, m = n + 1 := ⟨m - 1, by omega⟩
      obtain ⟨e, e1, e2, e3⟩ := cnt_inv (P := ofH σ h) (rws σ 12) i (by omega)
      have e2' : hd σ e = h := of_decide_eq_true e2
      obtain ⟨-, ⟨-, b2⟩, -, b3, -⟩ := h1 e e1
      rw [e2', e3] at b3
      have ei : (8 : Int32) * nI h + nI i = nI (8 * h + i) := by rw [show (8 : Int32) = nI 8 from rfl, nI_mul, nI_add]
      rw [L_M_placeIn_2, gix_n hh (by omega), rdn (by omega), h79, if_neg (nI_ge (by omega) (by omega)), ei, gix_n (by omega) (by omega), rdn (by omega), b3, nI_1]
      by_cases q : pr σ e = p
      · left
        rw [if_pos (by rw [q])]
        exact ⟨e, e1, e2', q, by rw [e3]⟩
      · have hpr : pr σ e < 2147483648 := by
          obtain ⟨-, ⟨c1, -⟩, -⟩ := h1 e e1
          unfold pr
          have := Int32.toNatClampNeg_lt (cel σ 12 e 1)
          omega
        rw [if_neg (fun z => q (nI_eqI hpr (by omega) z))]
        refine ih (i + 1) m (by omega) (by omega) (fun e' he' hh' hc' => ?_)
        by_cases z : cnt (ofH σ h) e' = i
        · have : e' = e := cnt_inj (P := ofH σ h) (decide_eq_true hh') e2 (by omega)
          rw [this]; exact q
        · exact g3 e' he' hh' (by omega)
  have := lp (cnt (ofH σ h) (rws σ 12)) 0 FU (by omega) (lt_FU (by omega)) (fun e _ _ hc => by omega)
  exact this
/-! what is listed -/
def Lp (σ : CS) (p : Nat) : Bool := anyR (fun e => decide (pr σ e = p)) (rws σ 12)
theorem Lp_iff {σ : CS} {p : Nat} : Lp σ p = true ↔ ∃ e, e < rws σ 12 ∧ pr σ e = p := by
  unfold Lp
  rw [anyR_iff]
  constructor
  · rintro ⟨e, h1, h2⟩; exact ⟨e, h1, of_decide_eq_true h2⟩
  · rintro ⟨e, h1, h2⟩; exact ⟨e, h1, decide_eq_true h2⟩
def nL (σ : CS) : Nat := cnt (Lp σ) 40
def el (σ : CS) (i : Nat) : Nat := fst (fun p => Lp σ p && decide (cnt (Lp σ) p = i)) 40
theorem el_ok {σ : CS} {i : Nat} (h : i < nL σ) : el σ i < 40 ∧ Lp σ (el σ i) = true ∧ cnt (Lp σ) (el σ i) = i := by
  obtain ⟨p, h1, h2, h3⟩ := cnt_inv (P := Lp σ) 40 i h
  rcases fst_ok (fun p => Lp σ p && decide (cnt (Lp σ) p = i)) 40 with ⟨a, b, -⟩ | ⟨-, b⟩
  · rw [Bool.and_eq_true, decide_eq_true_iff] at b
    exact ⟨a, b⟩
  · have := b p h1
    rw [h2, decide_eq_true h3] at this
    cases this
theorem el_cnt {σ : CS} {p : Nat} (h : Lp σ p = true) (hp : p < 40) : cnt (Lp σ) p < nL σ ∧ el σ (cnt (Lp σ) p) = p := by
  have h1 : cnt (Lp σ) p < nL σ := cnt_lt hp h
  obtain ⟨-, h2, h3⟩ := el_ok h1
  exact ⟨h1, cnt_inj h2 h h3⟩
theorem listedC {σ : CS} (hW : WC σ) (hT : ∀ e, e < rws σ 12 → cel σ 12 e 1 = nI (pr σ e) ∧ pr σ e < 40) {p : Nat} (hp : p < 40) (K : Int32 → Int32 → CS → Option (Int32 × CS)) : ∀ (d e m : Nat), e + d = rws σ 12 → d < m → L_Rolls_list_22 K (nI p) m (nI (if anyR (fun e => decide (pr σ e = p)) e = true then 1 else 0)) (nI e) σ = K (nI p) (nI (if Lp σ p = true then 1 else 0)) σ := by
  have h32 : rws σ 12 ≤ 32 := hW.hlim (t := 12) (by omega)
  intro d
  induction d with
  | zero =>
    intro e m h1 h2
    obtain ⟨m, rfl⟩ : ∃ n, m = n + 1 := ⟨m - 1, by omega⟩
    have : e = rws σ 12 := by omega
    subst this
    rw [L_Rolls_list_22, tb_size hW 12 (by omega), bnd_s, if_pos (nI_le (Nat.le_refl _) (by omega))]
    rfl
  | succ d ih =>
    intro e m h1 h2
    obtain ⟨m, rfl⟩ : ∃ n, m = n + 1 := ⟨m - 1, by omega⟩
    obtain ⟨c1, c2⟩ := hT e (by omega)
    have ih' := ih (e + 1) m (by omega) (by omega)
    unfold L_Rolls_list_22 B_Rolls_list_52
    rw [tb_size hW 12 (by omega), bnd_s, if_neg (nI_ge (by omega) (by omega)), tb_gl hW 12 (by omega) e 1 (by omega) (by decide), bnd_s, c1, nI_1]
    have ea : anyR (fun e => decide (pr σ e = p)) (e + 1) = (anyR (fun e => decide (pr σ e = p)) e || decide (pr σ e = p)) := rfl
    rw [ea] at ih'
    by_cases q : pr σ e = p
    · rw [if_pos (by rw [q])]
      rw [decide_eq_true q, Bool.or_true, if_pos rfl] at ih'
      show L_Rolls_list_22 K (nI p) m (nI _ ||| nI 1) (nI (e + 1)) σ = _
      rw [nI_or]
      have : (if anyR (fun e => decide (pr σ e = p)) e = true then 1 else 0) ||| 1 = 1 := by split <;> rfl
      rw [this]
      exact ih'
    · rw [if_neg (fun z => q (nI_eqI (by omega) (by omega) z))]
      rw [decide_eq_false q, Bool.or_false] at ih'
      show L_Rolls_list_22 K (nI p) m (nI _ ||| nI 0) (nI (e + 1)) σ = _
      rw [nI_or, Nat.or_zero]
      exact ih'
theorem listC {σ0 : CS} (hW : WC σ0) (hT : ∀ e, e < rws σ0 12 → cel σ0 12 e 1 = nI (pr σ0 e) ∧ pr σ0 e < 40) : ∃ σ', f_Rolls_list σ0 = some (0, σ') ∧ FrC [64, 65] [23] σ0 σ' ∧ σ'.1 64 = nI (min (nL σ0) 8) ∧ σ'.1 65 = nI (if 8 < nL σ0 then 1 else 0) ∧ ∀ i, i < nL σ0 → i < 8 → σ'.2.1 23 i = nI (el σ0 i) := by
  have lp : ∀ (d p m : Nat) (σ : CS), p + d = 40 → d < m → FrC [64, 65] [23] σ0 σ → σ.1 64 = nI (min (cnt (Lp σ0) p) 8) → σ.1 65 = nI (if 8 < cnt (Lp σ0) p then 1 else 0) → (∀ q, q < p → Lp σ0 q = true → cnt (Lp σ0) q < 8 → σ.2.1 23 (cnt (Lp σ0) q) = nI q) → ∃ σ', L_Rolls_list_12 m (nI p) σ = some (0, σ') ∧ FrC [64, 65] [23] σ0 σ' ∧ σ'.1 64 = nI (min (nL σ0) 8) ∧ σ'.1 65 = nI (if 8 < nL σ0 then 1 else 0) ∧ ∀ q, q < 40 → Lp σ0 q = true → cnt (Lp σ0) q < 8 → σ'.2.1 23 (cnt (Lp σ0) q) = nI q := by
    intro d
    induction d with
    | zero =>
      intro p m σ h1 h2 h3 h4 h5 h6
      obtain ⟨m, rfl⟩ : ∃ n, m = n + 1 := ⟨m - 1, by omega⟩
      have : p = 40 := by omega
      subst this
      exact ⟨σ, by rw [L_Rolls_list_12, if_pos (by decide)], h3, h4, h5, h6⟩
    | succ d ih =>
      intro p m σ h1 h2 h3 h4 h5 h6
      obtain ⟨m, rfl⟩ : ∃ n, m = n + 1 := ⟨m - 1, by omega⟩
      have Ws : WC σ := hW.fr h3 (by decide) (by decide)
      have r12 : rws σ 12 = rws σ0 12 := h3.fr (t := 12) (by decide)
      have ep : pr σ = pr σ0 := by funext e; unfold pr; rw [h3.fc (by decide)]
      have eL : Lp σ = Lp σ0 := by funext q; unfold Lp; rw [ep, r12]
      have l1 := listedC Ws (fun e he => by rw [h3.fc (by decide), ep]; exact hT e (by omega)) (show p < 40 by omega) (B_Rolls_list_60 (L_Rolls_list_12 m)) (rws σ 12) 0 FU (by omega) (lt_FU (by have : rws σ 12 ≤ 32 := Ws.hlim (t := 12) (by omega); omega))
      have l1' : L_Rolls_list_22 (B_Rolls_list_60 (L_Rolls_list_12 m)) (nI p) FU 0 0 σ = B_Rolls_list_60 (L_Rolls_list_12 m) (nI p) (nI (if Lp σ p = true then 1 else 0)) σ := l1
      have hcp := cnt_le (Lp σ0) p
      have cs := cnt_s (Lp σ0) p
      rw [L_Rolls_list_12, if_neg (fun z => absurd ((lit_le 40 (by omega) (by omega)).1 z) (by omega)), l1', eL]
      unfold B_Rolls_list_60 B_Rolls_list_99
      rw [nI_1]
      by_cases q : Lp σ0 p = true
      · rw [if_pos q] at cs ⊢
        rw [if_neg (show ¬ nI 1 = (0 : Int32) by decide), if_neg (show ¬ nI 1 = (0 : Int32) by decide), h4]
        by_cases q8 : cnt (Lp σ0) p < 8
        · rw [if_neg (fun z => absurd ((lit_le 8 (by omega) (by omega)).1 z) (by omega)), gix_n (by omega) (by omega), wrn (by omega), nI_1, Nat.min_eq_left (by omega)]
          refine ih (p + 1) m _ (by omega) (by omega) (h3.trans ((FrC.f2 _ _ (by decide)).trans (FrC.f1 _ _ (by decide)))) ?_ ?_ (fun q' hq' hl hc => ?_)
          · rw [cs, Nat.min_eq_left (by omega)]
            exact sF_self _ 64 _
          · rw [cs, if_neg (by omega)]
            rw [if_neg (by omega)] at h5
            exact h5
          · simp only [va_up, reduceIte, upd]
            by_cases z : q' = p
            · rw [if_pos (by rw [z]), z]
            · rw [if_neg (fun y => z (cnt_inj hl q y))]
              exact h6 q' (by omega) hl hc
        · rw [if_pos ((lit_le 8 (by omega) (by omega)).2 (by omega))]
          refine ih (p + 1) m _ (by omega) (by omega) (h3.trans (FrC.f1 _ _ (by decide))) ?_ ?_ (fun q' hq' hl hc => ?_)
          · rw [cs, Nat.min_eq_right (by omega)]
            rw [Nat.min_eq_right (by omega)] at h4
            exact h4
          · rw [cs, if_pos (by omega)]
            exact sF_self _ 65 _
          · by_cases z : q' = p
            · rw [z] at hc; omega
            · exact h6 q' (by omega) hl hc
      · rw [if_neg q] at cs ⊢
        rw [if_pos (show nI 0 = (0 : Int32) from rfl), if_pos (show nI 0 = (0 : Int32) from rfl)]
        refine ih (p + 1) m σ (by omega) (by omega) h3 (by rw [cs]; exact h4) (by rw [cs]; exact h5) (fun q' hq' hl hc => ?_)
        by_cases z : q' = p
        · rw [z] at hl; exact absurd hl q
        · exact h6 q' (by omega) hl hc
  have F0 : FrC [64, 65] [23] σ0 (sF (sF σ0 64 0) 65 0) := (FrC.f1 _ _ (by decide)).trans (FrC.f1 _ _ (by decide))
  obtain ⟨σ', g1, g2, g3, g4, g5⟩ := lp 40 0 FU (sF (sF σ0 64 0) 65 0) rfl (lt_FU (by omega)) F0 (sF_self σ0 64 0) (sF_self _ 65 0) (fun q hq => by omega)
  refine ⟨σ', g1, g2, g3, g4, fun i hi h8 => ?_⟩
  obtain ⟨a, b, c⟩ := el_ok hi
  have := g5 (el σ0 i) a b (by omega)
  rw [c] at this
  exact this
theorem listedM {σ τ : CS} (hT : RolT σ τ) {p : Nat} (hp : p < 1000) : f_M_isListed (nI p) τ = some (nI (if Lp σ p = true then 1 else 0), τ) := by
  have lp : ∀ (d h m : Nat), h + d = 4 → d < m → (∀ e, e < rws σ 12 → hd σ e < h → ¬ pr σ e = p) → L_M_isListed_2 (nI p) m (nI h) τ = some (nI (if Lp σ p = true then 1 else 0), τ) := by
    intro d
    induction d with
    | zero =>
      intro h m h1 h2 h3
      obtain ⟨m, rfl⟩ : ∃ n, m = n + 1 := ⟨m - 1, by omega⟩
      have : h = 4 := by omega
      subst this
      rw [L_M_isListed_2, if_pos (by decide), if_neg (fun z => by
        obtain ⟨e, e1, e2⟩ := Lp_iff.1 z
        exact h3 e e1 (hT.1 e e1).1.2 e2)]
      rfl
    | succ d ih =>
      intro h m h1 h2 h3
      obtain ⟨m, rfl⟩ : ∃ n, m = n + 1 := ⟨m - 1, by omega⟩
      rw [L_M_isListed_2, if_neg (fun z => absurd ((lit_le 4 (by omega) (by omega)).1 z) (by omega))]
      rcases placeM hT (show h < 4 by omega) hp with ⟨e, e1, e2, e3, e4⟩ | ⟨e1, e4⟩
      · have hc : cnt (ofH σ h) e ≤ 8 := Nat.le_trans (cnt_mono _ (by omega)) (hT.2.1 h (by omega)).2
        rw [e4, bnd_s, if_neg (fun z => absurd ((lt_lit 0 (by omega) (by omega)).1 z) (by omega)), if_pos (Lp_iff.2 ⟨e, e1, e3⟩)]
        rfl
      · rw [e4, bnd_s, if_pos (by decide), nI_1]
        refine ih (h + 1) m (by omega) (by omega) (fun e he hh => ?_)
        by_cases z : hd σ e = h
        · exact fun y => e1 e he ⟨z, y⟩
        · exact h3 e he (by omega)
  exact lp 4 0 FU rfl (lt_FU (by omega)) (fun e _ hh => by omega)
theorem listM {σ τ0 : CS} (hT : RolT σ τ0) (hN : τ0.1 60 = nI (rws σ 11)) (h40 : rws σ 11 ≤ 40) (K : CS → Option (Int32 × CS)) : (8 < nL σ ∧ ∃ τ', L_M_lists_7 K FU 0 (sF τ0 86 0) = some (0, τ') ∧ FrM [86] [82] τ0 τ') ∨ (nL σ ≤ 8 ∧ ∃ τ', L_M_lists_7 K FU 0 (sF τ0 86 0) = L_M_lists_65 K FU 0 τ' ∧ FrM [86] [82] τ0 τ' ∧ τ'.1 86 = nI (nL σ) ∧ ∀ i, i < nL σ → τ'.2.1 82 i = nI (el σ i)) := by
  have out : ∀ p, rws σ 11 ≤ p → Lp σ p = false := fun p hp => Bool.eq_false_iff.2 (fun z => by
    obtain ⟨e, e1, e2⟩ := Lp_iff.1 z
    have := (hT.1 e e1).2.1.2
    omega)
  have c40 : ∀ d, rws σ 11 + d ≤ 40 → cnt (Lp σ) (rws σ 11 + d) = cnt (Lp σ) (rws σ 11) := by
    intro d
    induction d with
    | zero => intro _; rfl
    | succ d ih =>
      intro hd
      rw [show rws σ 11 + (d + 1) = (rws σ 11 + d) + 1 by omega, cnt_s, ih (by omega), out _ (by omega)]
      rfl
  have enL : nL σ = cnt (Lp σ) (rws σ 11) := by
    have := c40 (40 - rws σ 11) (by omega)
    rw [show rws σ 11 + (40 - rws σ 11) = 40 by omega] at this
    exact this
  have lp : ∀ (d p m : Nat) (τ : CS), p + d = rws σ 11 → d < m → FrM [86] [82] τ0 τ → τ.1 86 = nI (cnt (Lp σ) p) → cnt (Lp σ) p ≤ 8 → (∀ q, q < p → Lp σ q = true → τ.2.1 82 (cnt (Lp σ) q) = nI q) → (8 < nL σ ∧ ∃ τ', L_M_lists_7 K m (nI p) τ = some (0, τ') ∧ FrM [86] [82] τ0 τ') ∨ (nL σ ≤ 8 ∧ ∃ τ', L_M_lists_7 K m (nI p) τ = L_M_lists_65 K FU 0 τ' ∧ FrM [86] [82] τ0 τ' ∧ τ'.1 86 = nI (nL σ) ∧ ∀ q, q < rws σ 11 → Lp σ q = true → τ'.2.1 82 (cnt (Lp σ) q) = nI q) := by
    intro d
    induction d with
    | zero =>
      intro p m τ h1 h2 h3 h4 h5 h6
      obtain ⟨m, rfl⟩ : ∃ n, m = n + 1 := ⟨m - 1, by omega⟩
      have : p = rws σ 11 := by omega
      subst this
      right
      refine ⟨by omega, τ, by rw [L_M_lists_7, h3.1 60 (by decide), hN, if_pos (nI_le (Nat.le_refl _) (by omega))], h3, by rw [enL]; exact h4, h6⟩
    | succ d ih =>
      intro p m τ h1 h2 h3 h4 h5 h6
      obtain ⟨m, rfl⟩ : ∃ n, m = n + 1 := ⟨m - 1, by omega⟩
      have hT1 : RolT σ τ := hT.frM h3 (by decide)
      have cs := cnt_s (Lp σ) p
      rw [L_M_lists_7, h3.1 60 (by decide), hN, if_neg (nI_ge (by omega) (by omega)), listedM hT1 (by omega), bnd_s]
      by_cases q : Lp σ p = true
      · rw [if_pos q] at cs ⊢
        rw [if_neg (show ¬ nI 1 = (0 : Int32) by decide), h4]
        by_cases q8 : cnt (Lp σ) p = 8
        · left
          rw [if_pos (by rw [q8]; rfl)]
          refine ⟨?_, τ, rfl, h3⟩
          have := cnt_mono (Lp σ) (show p + 1 ≤ 40 by omega)
          unfold nL
          omega
        · rw [if_neg (show ¬ nI (cnt (Lp σ) p) = 8 from fun z => q8 (nI_eqI (b := 8) (by omega) (by omega) z)), gix_n (by omega) (by omega), wrn (by omega), nI_1, nI_1]
          refine ih (p + 1) m _ (by omega) (by omega) (h3.trans ((FrM.f2 _ _ (by decide)).trans (FrM.f1 _ _ (by decide)))) ?_ (by omega) (fun q' hq' hl => ?_)
          · rw [cs]
            exact sF_self _ 86 _
          · simp only [va_up, reduceIte, upd]
            by_cases z : q' = p
            · rw [if_pos (by rw [z]), z]
            · rw [if_neg (fun y => z (cnt_inj hl q y))]
              exact h6 q' (by omega) hl
      · rw [if_neg q] at cs ⊢
        rw [if_pos (show nI 0 = (0 : Int32) from rfl), nI_1]
        refine ih (p + 1) m τ (by omega) (by omega) h3 (by rw [cs]; exact h4) (by omega) (fun q' hq' hl => ?_)
        by_cases z : q' = p
        · rw [z] at hl; exact absurd hl q
        · exact h6 q' (by omega) hl
  have r := lp (rws σ 11) 0 FU (sF τ0 86 0) (by omega) (lt_FU (by omega)) (FrM.f1 _ _ (by decide)) (sF_self τ0 86 0) (Nat.zero_le _) (fun q hq => by omega)
  rcases r with ⟨a, b⟩ | ⟨a, τ', b1, b2, b3, b4⟩
  · exact Or.inl ⟨a, b⟩
  · refine Or.inr ⟨a, τ', b1, b2, b3, fun i hi => ?_⟩
    obtain ⟨x, y, z⟩ := el_ok hi
    obtain ⟨e, e1, e2⟩ := Lp_iff.1 y
    have := b4 (el σ i) (by have := (hT.1 e e1).2.1.2; omega) y
    rw [z] at this
    exact this
