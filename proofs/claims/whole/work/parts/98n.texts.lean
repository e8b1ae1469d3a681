/-! ===== layer 2: a new text ===== -/
theorem Cln.sm {σ σ' τ τ' : CS} {t k r i C : Nat} (h : Cln σ τ t k r i C) (e4 : ∀ i c, cel σ' 4 i c = cel σ 4 i c) (e5 : ∀ i c, cel σ' 5 i c = cel σ 5 i c) (r5 : rws σ' 5 = rws σ 5) (m : ∀ a, 30 ≤ a → a ≤ 36 → τ'.2.1 a = τ.2.1 a) : Cln σ' τ' t k r i C := by
  unfold Cln CodB Kok at h ⊢
  simp only [e4, e5, r5, m 30 (by omega) (by omega), m 31 (by omega) (by omega), m 32 (by omega) (by omega), m 33 (by omega) (by omega), m 34 (by omega) (by omega), m 35 (by omega) (by omega), m 36 (by omega) (by omega)]
  exact h
theorem kdO_v (w : Nat) (hw : w < 5) : (w < 3 ∧ kdO w = 6) ∨ (w = 3 ∧ kdO w = 7) ∨ (w = 4 ∧ kdO w = 5) := by
  unfold kdO
  by_cases h : w < 3
  · left; exact ⟨h, if_pos h⟩
  · by_cases h3 : w = 3
    · right; left; exact ⟨h3, by rw [if_neg h, if_pos h3]⟩
    · right; right; exact ⟨by omega, by rw [if_neg h, if_neg h3]⟩
theorem lst_ne {τ : CS} {t k w : Nat} (h : ¬ τ.2.1 30 (12 * t + k) = kdO w) : lst τ t w (k + 1) = lst τ t w k := if_neg h
theorem lst_eq {τ : CS} {t k w : Nat} (h : τ.2.1 30 (12 * t + k) = kdO w) : lst τ t w (k + 1) = vlO τ w (12 * t + k) := if_pos h
theorem keep_step {σ τ : CS} {t k r C : Nat} (hW : WC σ) (ht : t < rws σ 3) (hr : r < rws σ 4) (hcl : Cln σ τ t k r (12 * t + k) C) (h1 : cel σ 3 t 1 = nI (undN τ t k)) (hl : ∀ w, w < 5 → cel σ 3 t (2 + w) = lst τ t w k) : ∃ σ', f_Laws_keepRule (nI t) (nI r) σ = some (0, σ') ∧ WC σ' ∧ FrC [] [3] σ σ' ∧ (∀ i e, i ≠ t → e < 7 → cel σ' 3 i e = cel σ 3 i e) ∧ cel σ' 3 t 0 = cel σ 3 t 0 ∧ cel σ' 3 t 1 = nI (undN τ t (k + 1)) ∧ ∀ w, w < 5 → cel σ' 3 t (2 + w) = lst τ t w (k + 1) := by
  have h10 : rws σ 3 ≤ 10 := hW.hlim (t := 3) (by omega)
  obtain ⟨⟨-, -, c2⟩, -, -, -, -, ⟨⟨j, hj, ej⟩, k4, k5, k6, k7, -⟩, c457, c6⟩ := hcl
  have und_ne : ¬ τ.2.1 30 (12 * t + k) = 4 → undN τ t (k + 1) = undN τ t k := fun z => if_neg z
  have und_eq : τ.2.1 30 (12 * t + k) = 4 → undN τ t (k + 1) = undN τ t k ||| 2 ^ (τ.2.1 31 (12 * t + k)).toNatClampNeg := fun z => if_pos z
  unfold f_Laws_keepRule
  rw [tb_gl hW 4 (by omega) r 6 hr (by decide), bnd_s, tb_gl hW 4 (by omega) r 2 hr (by decide), bnd_s, c2]
  -- one cell of row t anew
  have one : ∀ (e : Nat) (v : Int32), e < 7 → (∀ i e', i ≠ t → e' < 7 → cel (pt σ 3 t e v) 3 i e' = cel σ 3 i e') ∧ (∀ e', e' < 7 → e' ≠ e → cel (pt σ 3 t e v) 3 t e' = cel σ 3 t e') ∧ cel (pt σ 3 t e v) 3 t e = v := fun e v he => by
    refine ⟨fun i e' hi he' => ?_, fun e' he' hne => ?_, pt_same _ _ _ _ _⟩
    · rw [pt_cel _ _ _ _ _ _ _ (show e < wid 3 from he) (show e' < wid 3 from he'), if_neg (fun z => hi z.1)]
    · rw [pt_cel _ _ _ _ _ _ _ (show e < wid 3 from he) (show e' < wid 3 from he'), if_neg (fun z => hne z.2)]
  by_cases q4 : τ.2.1 30 (12 * t + k) = 4
  · obtain ⟨a, ha, ea⟩ := k4 q4
    have ec := c457 (Or.inl q4)
    obtain ⟨o1, o2, o3⟩ := one 1 (nI (undN τ t k ||| 2 ^ a)) (by omega)
    rw [if_pos q4, tb_gl hW 3 (by omega) t 1 ht (by decide), bnd_s, h1, ec, ea, nI_shl (by omega), nI_or, tb_pl hW 3 (by omega) t 1 ht (by decide), bnd_s]
    refine ⟨_, rfl, pt_W hW _ _ _ _, FrC.f3 _ _ _ _ (by decide), o1, o2 0 (by omega) (by omega), ?_, fun w hw => ?_⟩
    · rw [o3, und_eq q4, ea, nI_clamp (by omega)]
    · rw [o2 (2 + w) (by omega) (by omega), hl w hw, lst_ne]
      rw [q4]
      rcases kdO_v w hw with ⟨-, y⟩ | ⟨-, y⟩ | ⟨-, y⟩ <;> rw [y] <;> decide
  rw [if_neg q4]
  by_cases q5 : τ.2.1 30 (12 * t + k) = 5
  · have ec := c457 (Or.inr (Or.inl q5))
    obtain ⟨o1, o2, o3⟩ := one 6 (cel σ 4 r 6) (by omega)
    rw [if_pos q5, tb_pl hW 3 (by omega) t 6 ht (by decide), bnd_s]
    refine ⟨_, rfl, pt_W hW _ _ _ _, FrC.f3 _ _ _ _ (by decide), o1, o2 0 (by omega) (by omega), ?_, fun w hw => ?_⟩
    · rw [o2 1 (by omega) (by omega), h1, und_ne q4]
    · rcases kdO_v w hw with ⟨x, y⟩ | ⟨x, y⟩ | ⟨x, y⟩
      · rw [o2 (2 + w) (by omega) (by omega), hl w hw, lst_ne (by rw [q5, y]; decide)]
      · rw [o2 (2 + w) (by omega) (by omega), hl w hw, lst_ne (by rw [q5, y]; decide)]
      · subst x
        rw [show 2 + 4 = 6 from rfl, o3, lst_eq (by rw [q5, y]), ec]
        rfl
  rw [if_neg q5]
  by_cases q6 : τ.2.1 30 (12 * t + k) = 6
  · obtain ⟨e6, e7, e8⟩ := c6 q6
    obtain ⟨m, hm⟩ : ∃ m, FU = m + 4 := ⟨999996, rfl⟩
    have W1 : WC (pt σ 3 t 2 (cel σ 4 r 6)) := pt_W hW _ _ _ _
    have W2 : WC (pt (pt σ 3 t 2 (cel σ 4 r 6)) 3 t 3 (cel σ 4 r 7)) := pt_W W1 _ _ _ _
    have o47 : ∀ e, cel (pt σ 3 t 2 (cel σ 4 r 6)) 4 r e = cel σ 4 r e := fun e => pt_other _ _ _ _ _ _ _ _ (by omega)
    have o48 : ∀ e, cel (pt (pt σ 3 t 2 (cel σ 4 r 6)) 3 t 3 (cel σ 4 r 7)) 4 r e = cel σ 4 r e := fun e => (pt_other _ _ _ _ _ _ _ _ (by omega)).trans (o47 e)
    have lp : L_Laws_keepRule_80 (nI t) (nI r) FU 0 σ = some (0, pt (pt (pt σ 3 t 2 (cel σ 4 r 6)) 3 t 3 (cel σ 4 r 7)) 3 t 4 (cel σ 4 r 8)) := by
      rw [hm, L_Laws_keepRule_80, if_neg (by decide), show (6 : Int32) + 0 = 6 from rfl, show (2 : Int32) + 0 = 2 from rfl, show (0 : Int32) + 1 = 1 from rfl, tb_gl hW 4 (by omega) r 6 hr (by decide), bnd_s, tb_pl hW 3 (by omega) t 2 ht (by decide), bnd_s, L_Laws_keepRule_80, if_neg (by decide), show (6 : Int32) + 1 = 7 from rfl, show (2 : Int32) + 1 = 3 from rfl, show (1 : Int32) + 1 = 2 from rfl, tb_gl W1 4 (by omega) r 7 hr (by decide), bnd_s, o47, tb_pl W1 3 (by omega) t 3 ht (by decide), bnd_s, L_Laws_keepRule_80, if_neg (by decide), show (6 : Int32) + 2 = 8 from rfl, show (2 : Int32) + 2 = 4 from rfl, tb_gl W2 4 (by omega) r 8 hr (by decide), bnd_s, o48, tb_pl W2 3 (by omega) t 4 ht (by decide), bnd_s, L_Laws_keepRule_80, if_pos (by decide)]
    have pc : ∀ i e, e < 7 → cel (pt (pt (pt σ 3 t 2 (cel σ 4 r 6)) 3 t 3 (cel σ 4 r 7)) 3 t 4 (cel σ 4 r 8)) 3 i e = if i = t ∧ e = 4 then cel σ 4 r 8 else if i = t ∧ e = 3 then cel σ 4 r 7 else if i = t ∧ e = 2 then cel σ 4 r 6 else cel σ 3 i e := fun i e he => by
      rw [pt_cel _ _ _ _ _ _ _ (by decide) (show e < wid 3 from he), pt_cel _ _ _ _ _ _ _ (by decide) (show e < wid 3 from he), pt_cel _ _ _ _ _ _ _ (by decide) (show e < wid 3 from he)]
    rw [if_pos q6, lp]
    refine ⟨_, rfl, pt_W W2 _ _ _ _, (FrC.f3 _ _ _ _ (by decide)).trans ((FrC.f3 _ _ _ _ (by decide)).trans (FrC.f3 _ _ _ _ (by decide))), fun i e hi he => ?_, ?_, ?_, fun w hw => ?_⟩
    · rw [pc i e he, if_neg (fun z => hi z.1), if_neg (fun z => hi z.1), if_neg (fun z => hi z.1)]
    · rw [pc t 0 (by omega), if_neg (by omega), if_neg (by omega), if_neg (by omega)]
    · rw [pc t 1 (by omega), if_neg (by omega), if_neg (by omega), if_neg (by omega), h1, und_ne q4]
    · rw [pc t (2 + w) (by omega)]
      rcases kdO_v w hw with ⟨x, y⟩ | ⟨x, y⟩ | ⟨x, y⟩
      · rw [lst_eq (by rw [q6, y])]
        unfold vlO
        have : w = 0 ∨ w = 1 ∨ w = 2 := by omega
        rcases this with rfl | rfl | rfl
        · rw [if_neg (by omega), if_neg (by omega), if_pos ⟨rfl, rfl⟩, if_neg (by omega), if_neg (by omega), e6]
        · rw [if_neg (by omega), if_pos ⟨rfl, rfl⟩, if_pos rfl, e7]
        · rw [if_pos ⟨rfl, rfl⟩, if_neg (by omega), if_pos rfl, e8]
      · rw [if_neg (by omega), if_neg (by omega), if_neg (by omega), hl w hw, lst_ne (by rw [q6, y]; decide)]
      · rw [if_neg (by omega), if_neg (by omega), if_neg (by omega), hl w hw, lst_ne (by rw [q6, y]; decide)]
  rw [if_neg q6]
  by_cases q7 : τ.2.1 30 (12 * t + k) = 7
  · have ec := c457 (Or.inr (Or.inr q7))
    obtain ⟨o1, o2, o3⟩ := one 5 (cel σ 4 r 6) (by omega)
    rw [if_pos q7, tb_pl hW 3 (by omega) t 5 ht (by decide), bnd_s]
    refine ⟨_, rfl, pt_W hW _ _ _ _, FrC.f3 _ _ _ _ (by decide), o1, o2 0 (by omega) (by omega), ?_, fun w hw => ?_⟩
    · rw [o2 1 (by omega) (by omega), h1, und_ne q4]
    · rcases kdO_v w hw with ⟨x, y⟩ | ⟨x, y⟩ | ⟨x, y⟩
      · rw [o2 (2 + w) (by omega) (by omega), hl w hw, lst_ne (by rw [q7, y]; decide)]
      · subst x
        rw [show 2 + 3 = 5 from rfl, o3, lst_eq (by rw [q7, y]), ec]
        rfl
      · rw [o2 (2 + w) (by omega) (by omega), hl w hw, lst_ne (by rw [q7, y]; decide)]
  rw [if_neg q7]
  refine ⟨σ, rfl, hW, FrC.refl _ _ _, fun _ _ _ _ => rfl, rfl, by rw [h1, und_ne q4], fun w hw => ?_⟩
  rw [hl w hw, lst_ne]
  rcases kdO_v w hw with ⟨-, y⟩ | ⟨-, y⟩ | ⟨-, y⟩
  · rw [y]; exact q6
  · rw [y]; exact q7
  · rw [y]; exact q5
theorem keep_loop {τ : CS} {t R0 N C : Nat} : ∀ (d k m : Nat) (σ : CS), k + d = N → d < m → WC σ → t < rws σ 3 → rws σ 4 = R0 + N → R0 + N < 1000 → (∀ j, j < N → Cln σ τ t j (R0 + j) (12 * t + j) C) → cel σ 3 t 1 = nI (undN τ t k) → (∀ w, w < 5 → cel σ 3 t (2 + w) = lst τ t w k) → ∃ σ', L_Laws_addText_164 (nI t) m (nI (R0 + k)) σ = some (nI t, σ') ∧ WC σ' ∧ FrC [] [3] σ σ' ∧ (∀ i e, i ≠ t → e < 7 → cel σ' 3 i e = cel σ 3 i e) ∧ cel σ' 3 t 0 = cel σ 3 t 0 ∧ cel σ' 3 t 1 = nI (undN τ t N) ∧ ∀ w, w < 5 → cel σ' 3 t (2 + w) = lst τ t w N := by
  intro d
  induction d with
  | zero =>
    intro k m σ h1 h2 hW ht h4 hb hC hu hl
    obtain ⟨m, rfl⟩ : ∃ n, m = n + 1 := ⟨m - 1, by omega⟩
    have : k = N := by omega
    subst this
    exact ⟨σ, by rw [L_Laws_addText_164, tb_size hW 4 (by omega), bnd_s, h4, if_pos (nI_le (Nat.le_refl _) (by omega))], hW, FrC.refl _ _ _, fun _ _ _ _ => rfl, rfl, hu, hl⟩
  | succ d ih =>
    intro k m σ h1 h2 hW ht h4 hb hC hu hl
    obtain ⟨m, rfl⟩ : ∃ n, m = n + 1 := ⟨m - 1, by omega⟩
    obtain ⟨σ1, a1, a2, a3, a4, a5, a6, a7⟩ := keep_step hW ht (r := R0 + k) (by omega) (hC k (by omega)) hu hl
    rw [L_Laws_addText_164, tb_size hW 4 (by omega), bnd_s, h4, if_neg (nI_ge (by omega) (by omega)), a1, bnd_s, nI_1]
    obtain ⟨σ', b1, b2, b3, b4, b5, b6, b7⟩ := ih (k + 1) m σ1 (by omega) (by omega) a2 (by rw [a3.fr (t := 3) (by decide)]; exact ht) (by rw [a3.fr (t := 4) (by decide)]; exact h4) hb (fun j hj => (hC j hj).sm (fun i c => a3.fc (by decide) i c) (fun i c => a3.fc (by decide) i c) (a3.fr (t := 5) (by decide)) (fun _ _ _ => rfl)) a6 a7
    exact ⟨σ', b1, b2, a3.trans b3, fun i e hi he => (b4 i e hi he).trans (a4 i e hi he), b5.trans a5, b6, b7⟩
/-! the tie for texts, text by text -/
def TxR (σ τ : CS) (t : Nat) : Prop := τ.2.1 28 t = cel σ 3 t 0 ∧ τ.2.1 29 t = nI (cM τ t) ∧ cM τ t ≤ 12 ∧ cel σ 3 t 1 = nI (undN τ t (cM τ t)) ∧ (∀ w, w < 5 → cel σ 3 t (2 + w) = lst τ t w (cM τ t)) ∧ ∀ k, k < cM τ t → Kok τ t (12 * t + k)
theorem undN_congr {τ τ' : CS} {t : Nat} : ∀ m, (∀ a k, 30 ≤ a → a ≤ 34 → k < m → τ'.2.1 a (12 * t + k) = τ.2.1 a (12 * t + k)) → undN τ' t m = undN τ t m := by
  intro m
  induction m with
  | zero => intro _; rfl
  | succ m ih =>
    intro h
    unfold undN
    rw [h 30 m (by omega) (by omega) (by omega), h 31 m (by omega) (by omega) (by omega), ih (fun a k h1 h2 h3 => h a k h1 h2 (by omega))]
theorem lst_congr {τ τ' : CS} {t w : Nat} : ∀ m, (∀ a k, 30 ≤ a → a ≤ 34 → k < m → τ'.2.1 a (12 * t + k) = τ.2.1 a (12 * t + k)) → lst τ' t w m = lst τ t w m := by
  intro m
  induction m with
  | zero => intro _; rfl
  | succ m ih =>
    intro h
    unfold lst vlO
    rw [h 30 m (by omega) (by omega) (by omega), h 31 m (by omega) (by omega) (by omega), h 33 m (by omega) (by omega) (by omega), h 34 m (by omega) (by omega) (by omega), ih (fun a k h1 h2 h3 => h a k h1 h2 (by omega))]
theorem TxR.keep {σ τ σ' τ' : CS} {t : Nat} (h : TxR σ τ t) (hC : ∀ e, e < 7 → cel σ' 3 t e = cel σ 3 t e) (h28 : τ'.2.1 28 t = τ.2.1 28 t) (h29 : τ'.2.1 29 t = τ.2.1 29 t) (hM : ∀ a k, 30 ≤ a → a ≤ 34 → k < 12 → τ'.2.1 a (12 * t + k) = τ.2.1 a (12 * t + k)) : TxR σ' τ' t := by
  obtain ⟨a1, a2, a3, a4, a5, a6⟩ := h
  have ec : cM τ' t = cM τ t := by unfold cM; rw [h29]
  have hM' : ∀ a k, 30 ≤ a → a ≤ 34 → k < cM τ t → τ'.2.1 a (12 * t + k) = τ.2.1 a (12 * t + k) := fun a k h1 h2 h3 => hM a k h1 h2 (by omega)
  unfold TxR
  rw [ec, h28, h29, hC 0 (by omega), hC 1 (by omega), undN_congr _ hM']
  refine ⟨a1, a2, a3, a4, fun w hw => ?_, fun k hk => ?_⟩
  · rw [hC (2 + w) (by omega), lst_congr _ hM']
    exact a5 w hw
  · have := a6 k hk
    unfold Kok at this ⊢
    rw [hM' 30 k (by omega) (by omega) hk, hM' 31 k (by omega) (by omega) hk, hM' 33 k (by omega) (by omega) hk, hM' 34 k (by omega) (by omega) hk]
    exact this
theorem Cls.keep {σ τ σ' τ' : CS} {t k : Nat} (h : Cls σ τ t k) (hcB : cB τ' t = cB τ t) (hk : k < 12) (hC : ∀ e, e < 9 → cel σ' 4 (cB τ t + k) e = cel σ 4 (cB τ t + k) e) (hM : ∀ a k, 30 ≤ a → a ≤ 34 → k < 12 → τ'.2.1 a (12 * t + k) = τ.2.1 a (12 * t + k)) (h5 : ∀ i, i < rws σ 5 → cel σ' 5 i 0 = cel σ 5 i 0) (h5' : rws σ 5 ≤ rws σ' 5) (hM2 : ∀ i, i < 450 * (t + 1) → τ'.2.1 35 i = τ.2.1 35 i ∧ τ'.2.1 36 i = τ.2.1 36 i) : Cls σ' τ' t k := by
  have cod : ∀ b, Cod σ τ t (cB τ t + k) (12 * t + k) b → Cod σ' τ' t (cB τ t + k) (12 * t + k) b := by
    rintro b ⟨a, n, c0, M, f, x1, x2, x3, x4, x5, x6, x7, x8, x9, x10⟩
    refine ⟨a, n, c0, M, f, x1, by rw [hC 4 (by omega)]; exact x2, by rw [hC 5 (by omega)]; exact x3, by omega, by rw [hM 32 k (by omega) (by omega) hk]; exact x5, x6, fun j hj => ?_, ?_, x9, x10⟩
    · rw [h5 _ (by omega), (hM2 _ (by omega)).1, (hM2 _ (by omega)).2]
      exact x7 j hj
    · rw [(hM2 _ (by omega)).1]
      exact x8
  obtain ⟨a1, a2, a3, a4, a5, a6, a7⟩ := h
  unfold Cls
  rw [hcB, hM 30 k (by omega) (by omega) hk, hM 31 k (by omega) (by omega) hk, hM 32 k (by omega) (by omega) hk, hC 0 (by omega), hC 1 (by omega), hC 2 (by omega), hC 3 (by omega), hC 4 (by omega), hC 5 (by omega)]
  refine ⟨a1, a2, a3, a4, a5, fun z => cod _ (a6 z), fun z => ?_⟩
  rcases a7 z with y | y
  · exact Or.inl y
  · exact Or.inr (cod _ y)
theorem CodB.cod {σ τ : CS} {t r i C : Nat} {b : Bool} (h : CodB σ τ t r i b C) (hC : C ≤ 450) : Cod σ τ t r i b := by
  obtain ⟨a, n, c0, M, f, x1, x2, x3, x4, x5, x6, x7, x8, x9, x10⟩ := h
  exact ⟨a, n, c0, M, f, x1, x2, x3, x4, x5, by omega, x7, x8, x9, x10⟩
theorem Cln.cls {σ τ : CS} {t k r C : Nat} (h : Cln σ τ t k r (12 * t + k) C) (hr : r = cB τ t + k) (hC : C ≤ 450) : Cls σ τ t k := by
  subst hr
  obtain ⟨⟨a1, a2, a3⟩, a4, a5, a6, a7, -⟩ := h
  refine ⟨a1, a2, a3, a4, a5, fun z => (a6 z).cod hC, fun z => ?_⟩
  rcases a7 z with y | y
  · exact Or.inl y
  · exact Or.inr (y.cod hC)
