/-! ===== layer 2: the courts' days ===== -/
theorem force_cong {σ σ' : CS} (hW : WC σ) (hW' : WC σ') (e : rws σ' 3 = rws σ 3) (hc : ∀ t c, t < rws σ 3 → c < 7 → cel σ' 3 t c = cel σ 3 t c) {d d' : Int32} (hd : ∀ t, t < rws σ 3 → (cel σ 3 t 0 ≤ d ↔ cel σ 3 t 0 ≤ d')) : ∀ (t m : Nat) (x2 x3 v : Int32), t ≤ rws σ 3 → t < m → L_Laws_forceOn_15 d m x2 x3 (nI t - 1) σ = some (v, σ) → L_Laws_forceOn_15 d' m x2 x3 (nI t - 1) σ' = some (v, σ') := by
  have h10 : rws σ 3 ≤ 10 := hW.hlim (t := 3) (by omega)
  intro t
  induction t with
  | zero =>
    intro m x2 x3 v ht hm h
    obtain ⟨m, rfl⟩ : ∃ n, m = n + 1 := ⟨m - 1, by omega⟩
    rw [L_Laws_forceOn_15, if_pos (by decide)] at h ⊢
    simp only [Option.some.injEq, Prod.mk.injEq, and_true] at h
    rw [h]
  | succ t ih =>
    intro m x2 x3 v ht hm h
    obtain ⟨m, rfl⟩ : ∃ n, m = n + 1 := ⟨m - 1, by omega⟩
    have n0 : ¬ nI t < 0 := nI_pos (by omega)
    have nm : nI t + (-1) = nI t - 1 := (Int32.sub_eq_add_neg _ _).symm
    rw [L_Laws_forceOn_15, nI_p1, if_neg n0] at h ⊢
    rw [tb_gl hW 3 (by omega) t 0 (by omega) (by decide), bnd_s, tb_gl hW 3 (by omega) t 1 (by omega) (by decide), bnd_s, nm] at h
    rw [tb_gl hW' 3 (by omega) t 0 (by omega) (by decide), bnd_s, tb_gl hW' 3 (by omega) t 1 (by omega) (by decide), bnd_s, nm, hc t 0 (by omega) (by omega), hc t 1 (by omega) (by omega)]
    have hdt := hd t (by omega)
    by_cases q : cel σ 3 t 0 ≤ d
    · rw [if_neg (fun z => absurd (not_le_lt.2 z) (fun y => y q))] at h
      rw [if_neg (fun z => absurd (not_le_lt.2 z) (fun y => y (hdt.1 q)))]
      by_cases r : ((x3 >>> (nI t &&& 31)) &&& 1) = 0
      · rw [if_pos r] at h ⊢
        exact ih m _ _ v (by omega) (by omega) h
      · rw [if_neg r] at h ⊢
        exact ih m _ _ v (by omega) (by omega) h
    · rw [if_pos (not_le_lt.1 q)] at h
      rw [if_pos (not_le_lt.1 (fun z => q (hdt.2 z)))]
      exact ih m _ _ v (by omega) (by omega) h
theorem rule_cong_loop {σ σ' : CS} (hW : WC σ) (hW' : WC σ') (e : rws σ' 3 = rws σ 3) (hc : ∀ t c, t < rws σ 3 → c < 7 → cel σ' 3 t c = cel σ 3 t c) {w : Nat} (hw : w < 5) (F : Int32) : ∀ (t m : Nat) (v : Int32), t ≤ rws σ 3 → t < m → L_Laws_ruleOn_31 B_Laws_ruleOn_75 (nI w) F m (nI t - 1) σ = some (v, σ) → L_Laws_ruleOn_31 B_Laws_ruleOn_75 (nI w) F m (nI t - 1) σ' = some (v, σ') := by
  have h10 : rws σ 3 ≤ 10 := hW.hlim (t := 3) (by omega)
  intro t
  induction t with
  | zero =>
    intro m v ht hm h
    obtain ⟨m, rfl⟩ : ∃ n, m = n + 1 := ⟨m - 1, by omega⟩
    rw [L_Laws_ruleOn_31, if_pos (by decide)] at h ⊢
    unfold B_Laws_ruleOn_75 at h ⊢
    rw [gix_n (by omega) (by omega)] at h ⊢
    simp only [Option.some.injEq, Prod.mk.injEq, and_true] at h
    rw [h]
  | succ t ih =>
    intro m v ht hm h
    obtain ⟨m, rfl⟩ : ∃ n, m = n + 1 := ⟨m - 1, by omega⟩
    have n0 : ¬ nI t < 0 := nI_pos (by omega)
    have nm : nI t + (-1) = nI t - 1 := (Int32.sub_eq_add_neg _ _).symm
    have ew : (2 : Int32) + nI w = nI (2 + w) := nI_add 2 w
    rw [L_Laws_ruleOn_31, nI_p1, if_neg n0] at h ⊢
    rw [tb_get hW 3 (by omega) t (2 + w) (by omega) (show 2 + w < 7 by omega) ew, bnd_s, nm] at h
    rw [tb_get hW' 3 (by omega) t (2 + w) (by omega) (show 2 + w < 7 by omega) ew, bnd_s, nm, hc t (2 + w) (by omega) (by omega)]
    by_cases r : ((F >>> (nI t &&& 31)) &&& 1) = 1
    · rw [if_pos r] at h ⊢
      by_cases s : cel σ 3 t (2 + w) = -1
      · rw [if_pos s] at h ⊢
        exact ih m v (by omega) (by omega) h
      · rw [if_neg s] at h ⊢
        simp only [Option.some.injEq, Prod.mk.injEq, and_true] at h
        rw [h]
    · rw [if_neg r] at h ⊢
      exact ih m v (by omega) (by omega) h
theorem rule_cong {σ σ' τ : CS} (hW : WC σ) (hW' : WC σ') (hT : ITxt σ τ) (e : rws σ' 3 = rws σ 3) (hc : ∀ t c, t < rws σ 3 → c < 7 → cel σ' 3 t c = cel σ 3 t c) {d d' : Int32} (hd : ∀ t, t < rws σ 3 → (cel σ 3 t 0 ≤ d ↔ cel σ 3 t 0 ≤ d')) {w : Nat} (hw : w < 5) {v : Int32} (h : f_Laws_ruleOn d (nI w) σ = some (v, σ)) : f_Laws_ruleOn d' (nI w) σ' = some (v, σ') := by
  have h10 : rws σ 3 ≤ 10 := hW.hlim (t := 3) (by omega)
  obtain ⟨F, τ', hF, -⟩ := force_ag hW hT d
  have n0 : ¬ nI w < 0 := nI_pos (by omega)
  have n5 : nI w < 5 := (lt_lit 5 (by omega) (by omega)).2 hw
  have hF' : f_Laws_forceOn d' σ' = some (nI F, σ') := by
    unfold f_Laws_forceOn at hF ⊢
    rw [tb_size hW 3 (by omega), bnd_s] at hF
    rw [tb_size hW' 3 (by omega), bnd_s, e]
    exact force_cong hW hW' e hc hd (rws σ 3) FU 0 0 (nI F) (Nat.le_refl _) (lt_FU (by omega)) hF
  unfold f_Laws_ruleOn at h ⊢
  rw [if_neg n0, if_pos n5, hF, bnd_s, tb_size hW 3 (by omega), bnd_s] at h
  rw [if_neg n0, if_pos n5, hF', bnd_s, tb_size hW' 3 (by omega), bnd_s, e]
  exact rule_cong_loop hW hW' e hc hw (nI F) (rws σ 3) FU v (Nat.le_refl _) (lt_FU (by omega)) h
theorem next_loop {σ : CS} (hW : WC σ) (day : Int32) : ∀ (d t m : Nat) (x : Int32), t + d = rws σ 3 → d < m → (∀ s, s < t → day < cel σ 3 s 0 → x ≤ cel σ 3 s 0) → ∃ x', L_Laws_nextChange_5 day m x (nI t) σ = some (x', σ) ∧ ∀ s, s < rws σ 3 → day < cel σ 3 s 0 → x' ≤ cel σ 3 s 0 := by
  have h10 : rws σ 3 ≤ 10 := hW.hlim (t := 3) (by omega)
  intro d
  induction d with
  | zero =>
    intro t m x h1 h2 hx
    obtain ⟨m, rfl⟩ : ∃ n, m = n + 1 := ⟨m - 1, by omega⟩
    have : t = rws σ 3 := by omega
    subst this
    exact ⟨x, by rw [L_Laws_nextChange_5, tb_size hW 3 (by omega), bnd_s, if_pos (nI_le (Nat.le_refl _) (by omega))], hx⟩
  | succ d ih =>
    intro t m x h1 h2 hx
    obtain ⟨m, rfl⟩ : ∃ n, m = n + 1 := ⟨m - 1, by omega⟩
    unfold L_Laws_nextChange_5 B_Laws_nextChange_44
    rw [tb_size hW 3 (by omega), bnd_s, if_neg (nI_ge (by omega) (by omega)), tb_gl hW 3 (by omega) t 0 (by omega) (by decide), bnd_s, nI_1]
    by_cases q : cel σ 3 t 0 ≤ day
    · rw [if_pos q]
      exact ih (t + 1) m x (by omega) (by omega) (fun s hs z => by
        by_cases y : s = t
        · subst y; exact absurd q (not_le_lt.2 z)
        · exact hx s (by omega) z)
    rw [if_neg q]
    by_cases r : x ≤ cel σ 3 t 0
    · rw [if_pos r]
      exact ih (t + 1) m x (by omega) (by omega) (fun s hs z => by
        by_cases y : s = t
        · subst y; exact r
        · exact hx s (by omega) z)
    · rw [if_neg r]
      exact ih (t + 1) m _ (by omega) (by omega) (fun s hs z => by
        by_cases y : s = t
        · subst y; exact Int32.le_refl _
        · exact Int32.le_trans (Int32.le_of_lt (not_le_lt.1 r)) (hx s (by omega) z))
def CR (σ : CS) : Prop := ∃ s, s ≤ rws σ 3 ∧ σ.1 61 = nI s ∧ (s = rws σ 3 → ∀ (d : Int32) (w : Nat) (v : Int32), σ.1 62 ≤ d → d < σ.1 60 → w < 3 → f_Laws_ruleOn d (nI w) σ = some (v, σ) → σ.2.1 22 w = v)
def Cch (σ : CS) : Prop := ∀ (w : Nat) (v : Int32), w < 3 → f_Laws_ruleOn (σ.1 62) (nI w) σ = some (v, σ) → σ.2.1 22 w = v
/-- the cache stays where its parts do -/
theorem CR.fr {σ σ' τ' : CS} (h : CR σ) (hW : WC σ) (hW' : WC σ') (hT' : ITxt σ' τ') (e : rws σ' 3 = rws σ 3) (hc : ∀ t c, t < rws σ 3 → c < 7 → cel σ' 3 t c = cel σ 3 t c) (e60 : σ'.1 60 = σ.1 60) (e61 : σ'.1 61 = σ.1 61) (e62 : σ.1 62 ≤ σ'.1 62) (e22 : σ'.2.1 22 = σ.2.1 22) : CR σ' := by
  obtain ⟨s, h1, h2, h3⟩ := h
  refine ⟨s, by omega, e61.trans h2, fun hs d w v hd1 hd2 hw hv => ?_⟩
  rw [e22]
  refine h3 (by omega) d w v (Int32.le_trans e62 hd1) (e60 ▸ hd2) hw ?_
  exact rule_cong hW' hW hT' e.symm (fun t c ht hc' => (hc t c (by omega) hc').symm) (fun _ _ => Iff.rfl) (by omega) hv
theorem read_loop {σ0 τ0 : CS} (hW : WC σ0) (hT : ITxt σ0 τ0) (K : CS → Option (Int32 × CS)) : ∀ (d w m : Nat) (σ : CS), w + d = 3 → d < m → FrC [] [22] σ0 σ → (∀ u v, u < w → f_Laws_ruleOn (σ0.1 62) (nI u) σ0 = some (v, σ0) → σ.2.1 22 u = v) → ∃ σ', L_Courts_readRules_2 K m (nI w) σ = K σ' ∧ FrC [] [22] σ0 σ' ∧ ∀ u v, u < 3 → f_Laws_ruleOn (σ0.1 62) (nI u) σ0 = some (v, σ0) → σ'.2.1 22 u = v := by
  intro d
  induction d with
  | zero =>
    intro w m σ h1 h2 f hu
    obtain ⟨m, rfl⟩ : ∃ n, m = n + 1 := ⟨m - 1, by omega⟩
    have : w = 3 := by omega
    subst this
    exact ⟨σ, by rw [L_Courts_readRules_2, if_pos (by decide)], f, hu⟩
  | succ d ih =>
    intro w m σ h1 h2 f hu
    obtain ⟨m, rfl⟩ : ∃ n, m = n + 1 := ⟨m - 1, by omega⟩
    have W1 : WC σ := hW.fr f (by decide) (by decide)
    obtain ⟨v, -, r1, -, -, -⟩ := rule_ag hW hT (σ0.1 62) (w := w) (by omega)
    have r2 : f_Laws_ruleOn (σ0.1 62) (nI w) σ = some (v, σ) := rule_cong hW W1 hT (f.fr (t := 3) (by decide)) (fun t c _ _ => f.fc (by decide) t c) (fun _ _ => Iff.rfl) (by omega) r1
    rw [L_Courts_readRules_2, if_neg (fun z => absurd ((lit_le 3 (by omega) (by omega)).1 z) (by omega)), f.1 62 (by decide), r2, bnd_s, gix_n (by omega) (by omega), wrn (by omega), nI_1]
    refine ih (w + 1) m _ (by omega) (by omega) (f.trans (FrC.f2 _ _ (by decide))) (fun u v' hu' hv' => ?_)
    simp only [va_up, reduceIte, upd]
    by_cases z : u = w
    · subst z
      rw [if_pos rfl]
      rw [r1] at hv'
      simp only [Option.some.injEq, Prod.mk.injEq, and_true] at hv'
      exact hv'
    · rw [if_neg z]
      exact hu u v' (by omega) hv'
theorem read_ag {σ τ : CS} (hW : WC σ) (hT : ITxt σ τ) : ∃ σ', f_Courts_readRules σ = some (0, σ') ∧ WC σ' ∧ FrC [60, 61] [22] σ σ' ∧ CR σ' ∧ Cch σ' := by
  obtain ⟨σ1, g1, g2, g3⟩ := read_loop hW hT B_Courts_readRules_35 3 0 FU σ rfl (lt_FU (by omega)) (FrC.refl _ _ _) (fun u v hu _ => absurd hu (by omega))
  have W1 : WC σ1 := hW.fr g2 (by decide) (by decide)
  obtain ⟨x, n1, n2⟩ := next_loop W1 (σ1.1 62) (rws σ1 3) 0 FU 100001 (by omega) (lt_FU (by have : rws σ1 3 ≤ 10 := W1.hlim (t := 3) (by omega); omega)) (fun s hs _ => absurd hs (by omega))
  have e0 : f_Courts_readRules σ = B_Courts_readRules_35 σ1 := g1
  have n1' : f_Laws_nextChange (σ1.1 62) σ1 = some (x, σ1) := n1
  have W2 : WC (sF σ1 60 x) := sF_W W1 (by omega) _
  have e1 : f_Courts_readRules σ = some (0, sF (sF σ1 60 x) 61 (nI (rws σ1 3))) := by
    rw [e0]
    unfold B_Courts_readRules_35
    rw [n1', bnd_s, tb_size W2 3 (by omega), bnd_s]
    rfl
  have F : FrC [60, 61] [22] σ (sF (sF σ1 60 x) 61 (nI (rws σ1 3))) := (g2.mono (by decide) (by decide)).trans ((FrC.f1 _ _ (by decide)).trans (FrC.f1 _ _ (by decide)))
  have W3 : WC (sF (sF σ1 60 x) 61 (nI (rws σ1 3))) := sF_W W2 (by omega) _
  have T3 : ITxt (sF (sF σ1 60 x) 61 (nI (rws σ1 3))) τ := hT.fr (F.1 11 (by decide)) (F.2 3 (by decide)).1 ⟨rfl, fun _ _ _ => rfl⟩
  have key : ∀ (d : Int32) (w : Nat) (v : Int32), σ.1 62 ≤ d → (∀ t, t < rws σ 3 → (cel σ 3 t 0 ≤ d ↔ cel σ 3 t 0 ≤ σ.1 62)) → w < 3 → f_Laws_ruleOn d (nI w) (sF (sF σ1 60 x) 61 (nI (rws σ1 3))) = some (v, sF (sF σ1 60 x) 61 (nI (rws σ1 3))) → σ1.2.1 22 w = v := by
    intro d w v hd hdt hw hv
    refine g3 w v hw ?_
    refine rule_cong W3 hW T3 (F.fr (t := 3) (by decide)).symm (fun t c _ _ => (F.fc (by decide) t c).symm) (fun t ht => ?_) (by omega) hv
    rw [F.fc (by decide) t 0]
    rw [F.fr (t := 3) (by decide)] at ht
    exact hdt t ht
  have e62 : (sF (sF σ1 60 x) 61 (nI (rws σ1 3))).1 62 = σ.1 62 := F.1 62 (by decide)
  refine ⟨_, e1, W3, F, ⟨rws σ1 3, Nat.le_refl _, rfl, fun _ d w v hd1 hd2 hw hv => ?_⟩, fun w v hw hv => ?_⟩
  · rw [e62] at hd1
    refine key d w v hd1 (fun t ht => ⟨fun z => ?_, fun z => Int32.le_trans z hd1⟩) hw hv
    have hd2' : d < x := hd2
    have o62 : σ1.1 62 = σ.1 62 := g2.1 62 (by decide)
    by_cases y : cel σ 3 t 0 ≤ σ.1 62
    · exact y
    · have y' : σ1.1 62 < cel σ1 3 t 0 := by rw [o62, g2.fc (by decide) t 0]; exact not_le_lt.1 y
      have y2 := n2 t (by rw [g2.fr (t := 3) (by decide)]; exact ht) y'
      rw [g2.fc (by decide) t 0] at y2
      exact absurd (Int32.lt_of_lt_of_le hd2' (Int32.le_trans y2 z)) (Int32.lt_irrefl)
  · rw [e62] at hv
    exact key _ w v (Int32.le_refl _) (fun _ _ => Iff.rfl) hw hv
theorem L80_skip (K : Int32 → CS → Option (Int32 × CS)) (x1 x : Int32) {m : Nat} (hm : 0 < m) (σ : CS) : L_Courts_beginDay_84 K x1 0 m x σ = K (x1 + 1) σ := by
  obtain ⟨m, rfl⟩ : ∃ n, m = n + 1 := ⟨m - 1, by omega⟩
  rw [L_Courts_beginDay_84, if_pos rfl]
theorem CB.cch {σ τ σ' τ' : CS} (h : CB σ τ) (h' : CB σ' τ') (f : FdC σ σ') (c : Cch σ) : Cch σ' := fun w v hw hv => by
  have e62 : σ'.1 62 = σ.1 62 := f.1 62 (by decide)
  rw [e62] at hv
  rw [(f.2 22 (by decide)).1]
  exact c w v hw (rule_cong h'.1 h.1 h'.2.2.2.1 (f.fr (t := 3) (by decide)).symm (fun t c _ _ => (f.fc (by decide) t c).symm) (fun _ _ => Iff.rfl) (by omega) hv)
theorem courts_ag (K' : Int32 → CS → Option (Int32 × CS)) (x1 x2 : Int32) : ∀ (d c m m' : Nat) (σ τ : CS), c + d = 3 → d < m → d < m' → CB σ τ → Cch σ → (c < 3 → Q4 σ 0) → ∃ σ' τ', L_Courts_beginDay_44 m (nI c) σ = some (0, σ') ∧ L_M_wait_75 K' x1 x2 m' (nI c) τ = K' (x2 + 1) τ' ∧ CB σ' τ' ∧ FdC σ σ' ∧ FrM [9, 39, 56, 57, 58, 59] [8, 37, 41, 55, 64, 65, 66, 68, 69, 70] τ τ' := by
  intro d
  induction d with
  | zero =>
    intro c m m' σ τ h1 h2 h3 h hC hQ
    obtain ⟨m, rfl⟩ : ∃ n, m = n + 1 := ⟨m - 1, by omega⟩
    obtain ⟨m', rfl⟩ : ∃ n, m' = n + 1 := ⟨m' - 1, by omega⟩
    have : c = 3 := by omega
    subst this
    exact ⟨σ, τ, by rw [L_Courts_beginDay_44, if_pos (by decide)], by rw [L_M_wait_75, if_pos (by decide)], h, FrC.refl _ _ _, FrM.refl _ _ _⟩
  | succ d ih =>
    intro c m m' σ τ h1 h2 h3 h hC hQ
    obtain ⟨m, rfl⟩ : ∃ n, m = n + 1 := ⟨m - 1, by omega⟩
    obtain ⟨m', rfl⟩ : ∃ n, m' = n + 1 := ⟨m' - 1, by omega⟩
    have hc : c < 3 := by omega
    obtain ⟨v, τr, r1, r2, r3, r4⟩ := rule_ag h.1 h.2.2.2.1 (σ.1 62) (w := c) (by omega)
    have t1 : τ.1 1 = σ.1 62 := h.2.2.2.2.2.2.2.2.2.1
    have e22 : σ.2.1 22 c = v := hC c v hc r1
    unfold okV at r4
    rw [if_pos hc] at r4
    obtain ⟨a, ha1, ha2, rfl⟩ := r4
    have R3 : FdM τ τr := r3.mono (by decide) (by decide)
    have Br : CB σ τr := h.fr (FrC.refl _ _ _) R3 h.1 (h.2.2.2.2.2.1.frM r3 (by decide) (by decide)) (h.2.2.2.2.2.2.2.2.1.frM (r3.1 60 (by decide)) (fun a z1 z2 => r3.2 a (by simp only [List.mem_cons, List.not_mem_nil, or_false]; omega))) (by rw [r3.1 39 (by decide)]; exact h.2.2.2.2.2.2.2.2.2.2.2)
    have tr1 : τr.1 1 = σ.1 62 := (r3.1 1 (by decide)).trans t1
    have n0 : ¬ nI a = 0 := fun z => absurd ((eq_lit 0 (by omega) (by omega)).1 z) (by omega)
    have n3 : ¬ (3 : Int32) ≤ nI c := fun z => absurd ((lit_le 3 (by omega) (by omega)).1 z) (by omega)
    have nle : ¬ nI a ≤ 0 := fun z => absurd ((le_lit 0 (by omega) (by omega)).1 z) (by omega)
    have gc : ∀ {X : Type} (o : Option X), gix (nI c) 3 o = o := fun o => gix_n hc (by omega)
    have rc : rd σ 22 (nI c) = nI a := by rw [rdn (by omega)]; exact e22
    rw [L_Courts_beginDay_44, L_M_wait_75, if_neg n3, if_neg n3, gc, rc, if_neg nle, gc, grd_s n0, t1, r2, bnd_s, grd_s n0]
    by_cases q : (σ.1 62) - (σ.1 62) / (nI a) * (nI a) = 0
    · rw [if_pos q, if_pos q]
      obtain ⟨σ1, τ1, g1, g2, g3, g4, g5, g6⟩ := court_loop hc (L_Courts_beginDay_44 m) (rws σ 11) 0 FU FU σ τr Br (by omega) (lt_FU (by have : rws σ 11 ≤ 40 := h.1.hlim (t := 11) (by omega); omega)) (lt_FU (by have : rws σ 11 ≤ 40 := h.1.hlim (t := 11) (by omega); omega)) (hQ hc) (fun _ => hQ hc)
      have g1' : L_Courts_beginDay_84 (L_Courts_beginDay_44 m) (nI c) 1 FU 0 σ = L_Courts_beginDay_44 m (nI (c + 1)) σ1 := g1
      have g2' : f_M_sits (nI c) τr = some (0, τ1) := g2
      rw [g1', g2', bnd_s, nI_1]
      obtain ⟨σ2, τ2, k1, k2, k3, k4, k5⟩ := ih (c + 1) m m' σ1 τ1 (by omega) (by omega) (by omega) g3 (h.cch g3 g4 hC) (fun z => g6 (by omega))
      exact ⟨σ2, τ2, k1, k2, k3, g4.trans k4, (R3.trans g5).trans k5⟩
    · rw [if_neg q, if_neg q, L80_skip _ _ _ (lt_FU (by omega)), nI_1]
      obtain ⟨σ2, τ2, k1, k2, k3, k4, k5⟩ := ih (c + 1) m m' σ τr (by omega) (by omega) (by omega) Br hC (fun z => hQ hc)
      exact ⟨σ2, τ2, k1, k2, k3, k4, R3.trans k5⟩
theorem nI_eqI {a b : Nat} (ha : a < 2147483648) (hb : b < 2147483648) (h : nI a = nI b) : a = b := (nI_eq ha hb).1 h
theorem ICas.day {σ τ : CS} (h : ICas σ τ) {t : Nat} (ht : t + 1 ≤ 100000) (e : σ.1 62 = nI t) (v : Int32) : ICas (sF σ 62 (nI (t + 1))) (sF τ 1 v) := by
  refine ⟨h.1, fun k hk => ?_, h.2.2.1, h.2.2.2⟩
  obtain ⟨z1, z2, z3, z4, z5, z6, ⟨z7, s, u, w1, w2, w3, w4⟩, z8⟩ := h.2.1 k hk
  have : u = t := nI_eqI (by omega) (by omega) (w2.symm.trans e)
  exact ⟨z1, z2, z3, z4, z5, z6, ⟨z7, s, t + 1, w1, va_up_self σ.1 62 _, by omega, ht⟩, z8⟩
theorem CB.day {σ τ : CS} (h : CB σ τ) {t : Nat} (ht : t + 1 ≤ 100000) (e : σ.1 62 = nI t) : CB (sF σ 62 (nI (t + 1))) (sF τ 1 (nI (t + 1))) ∧ Q4 (sF σ 62 (nI (t + 1))) 0 := by
  obtain ⟨b1, b2, b3, b4, b5, b6, b7, b8, b9, b10, b11, b12⟩ := h
  refine ⟨⟨sF_W b1 (by omega) _, b2.fr rfl rfl rfl rfl rfl rfl, b3.fr (Nat.le_refl _) rfl rfl rfl rfl rfl rfl rfl rfl rfl, b4.fr rfl rfl ⟨rfl, fun _ _ _ => rfl⟩, b5.fr rfl rfl rfl rfl rfl ⟨rfl, fun _ _ _ => rfl⟩ rfl rfl, b6.fr rfl rfl rfl rfl rfl rfl rfl, b7.fr (Nat.le_refl _) rfl (fun _ _ _ _ => rfl) rfl rfl rfl rfl rfl rfl rfl, b8.fr (Nat.le_refl _) rfl rfl rfl rfl rfl rfl rfl rfl rfl rfl, b9.day ht e _, ?_, ?_, b12⟩, fun i _ hi z => ?_⟩
  · exact (va_up_self τ.1 1 _).trans (va_up_self σ.1 62 _).symm
  · exact ⟨t + 1, ht, va_up_self σ.1 62 _⟩
  · obtain ⟨-, -, -, -, -, -, ⟨-, s, u, w1, w2, w3, w4⟩, -⟩ := b9.2.1 i hi
    have : u = t := nI_eqI (by omega) (by omega) (w2.symm.trans e)
    show cel σ 11 i 2 < va_up σ.1 62 (nI (t + 1)) 62
    rw [va_up_self, w1]
    exact (nI_ltI (by omega) (by omega)).2 (by omega)
abbrev FwC := FrC [53, 54, 60, 61, 62, 63] [6, 11, 20, 21, 22]
abbrev FwM := FrM [1, 9, 39, 56, 57, 58, 59] [8, 37, 41, 55, 64, 65, 66, 68, 69, 70]
theorem day_ag {σ τ : CS} (h : CB σ τ) (hR : CR σ) {t : Nat} (ht : t + 1 ≤ 100000) (e : σ.1 62 = nI t) (K' : Int32 → CS → Option (Int32 × CS)) (x1 x2 : Int32) : ∃ σ' τ', f_Courts_beginDay σ = some (0, σ') ∧ L_M_wait_75 K' x1 x2 FU 0 (sF τ 1 (τ.1 1 + 1)) = K' (x2 + 1) τ' ∧ CB σ' τ' ∧ CR σ' ∧ σ'.1 62 = nI (t + 1) ∧ FwC σ σ' ∧ FwM τ τ' := by
  have t1 : τ.1 1 = nI t := h.2.2.2.2.2.2.2.2.2.1.trans e
  have n1 : nI t + 1 = nI (t + 1) := nI_1 t
  obtain ⟨B1, Q1⟩ := h.day ht e
  have f1 : FwC σ (sF σ 62 (nI (t + 1))) := FrC.f1 _ _ (by decide)
  have m1 : FwM τ (sF τ 1 (nI (t + 1))) := FrM.f1 _ _ (by decide)
  have e1 : (sF σ 62 (nI (t + 1))).1 62 = nI (t + 1) := va_up_self σ.1 62 _
  -- what is left, once the cache is good
  have go : ∀ σ2, CB σ2 (sF τ 1 (nI (t + 1))) → Cch σ2 → CR σ2 → Q4 σ2 0 → FwC σ σ2 → σ2.1 62 = nI (t + 1) → ∃ σ' τ', L_Courts_beginDay_44 FU 0 σ2 = some (0, σ') ∧ L_M_wait_75 K' x1 x2 FU 0 (sF τ 1 (nI (t + 1))) = K' (x2 + 1) τ' ∧ CB σ' τ' ∧ CR σ' ∧ σ'.1 62 = nI (t + 1) ∧ FwC σ σ' ∧ FwM τ τ' := by
    intro σ2 B2 C2 R2 Q2 f2 e2
    obtain ⟨σ3, τ3, k1, k2, k3, k4, k5⟩ := courts_ag K' x1 x2 3 0 FU FU σ2 _ rfl (lt_FU (by omega)) (lt_FU (by omega)) B2 C2 (fun _ => Q2)
    refine ⟨σ3, τ3, k1, k2, k3, ?_, (k4.1 62 (by decide)).trans e2, f2.trans (k4.mono (by decide) (by decide)), m1.trans (k5.mono (by decide) (by decide))⟩
    exact R2.fr B2.1 k3.1 k3.2.2.2.1 (k4.fr (t := 3) (by decide)) (fun t c _ _ => k4.fc (by decide) t c) (k4.1 60 (by decide)) (k4.1 61 (by decide)) (by rw [k4.1 62 (by decide)]; exact Int32.le_refl _) (k4.2 22 (by decide)).1
  have rd : ∃ σ' τ', B_Courts_beginDay_38 (sF σ 62 (nI (t + 1))) = some (0, σ') ∧ L_M_wait_75 K' x1 x2 FU 0 (sF τ 1 (nI (t + 1))) = K' (x2 + 1) τ' ∧ CB σ' τ' ∧ CR σ' ∧ σ'.1 62 = nI (t + 1) ∧ FwC σ σ' ∧ FwM τ τ' := by
    obtain ⟨σ2, g1, g2, g3, g4, g5⟩ := read_ag B1.1 B1.2.2.2.1
    have c39 : (sF τ 1 (nI (t + 1))).1 39 = σ2.1 63 := by rw [g3.1 63 (by decide)]; exact B1.2.2.2.2.2.2.2.2.2.2.2
    have B2 : CB σ2 (sF τ 1 (nI (t + 1))) := B1.frG (I' := []) (A' := []) g3 (FrM.refl _ _ _) (by decide) (by decide) (by decide) (by decide) g2 (B1.2.2.2.2.2.1.fr (g3.1 20 (by decide)) (g3.2 6 (by decide)).1 rfl rfl rfl rfl rfl) (B1.2.2.2.2.2.2.2.2.1.frC g3 (by decide) (by decide)) c39
    unfold B_Courts_beginDay_38
    rw [g1, bnd_s]
    exact go σ2 B2 g5 g4 (fun i h1 h2 z => by
      rw [g3.fr (t := 11) (by decide)] at h2
      rw [g3.fc (by decide)] at z
      rw [g3.fc (by decide), g3.1 62 (by decide)]
      exact Q1 i h1 h2 z) (f1.trans (g3.mono (by decide) (by decide))) ((g3.1 62 (by decide)).trans e1)
  unfold f_Courts_beginDay
  rw [e, t1, n1]
  by_cases q : σ.1 60 ≤ nI (t + 1)
  · rw [if_pos q]
    exact rd
  rw [if_neg q, tb_size B1.1 3 (by omega), bnd_s]
  by_cases r : nI (rws (sF σ 62 (nI (t + 1))) 3) = (sF σ 62 (nI (t + 1))).1 61
  rotate_left
  · rw [if_neg r]
    exact rd
  rw [if_pos r]
  obtain ⟨s, hs1, hs2, hs3⟩ := hR
  have r' : nI (rws σ 3) = σ.1 61 := r
  have h10 : rws σ 3 ≤ 10 := h.1.hlim (t := 3) (by omega)
  have hs : s = rws σ 3 := nI_eqI (by omega) (by omega) (hs2.symm.trans r'.symm)
  have le1 : σ.1 62 ≤ nI (t + 1) := by rw [e]; exact (nI_leI (by omega) (by omega)).2 (by omega)
  refine go _ B1 (fun w v hw hv => ?_) ?_ Q1 f1 e1
  · rw [e1] at hv
    exact hs3 hs (nI (t + 1)) w v le1 (not_le_lt.1 q) hw (rule_cong B1.1 h.1 B1.2.2.2.1 rfl (fun _ _ _ _ => rfl) (fun _ _ => Iff.rfl) (by omega) hv)
  · exact CR.fr ⟨s, hs1, hs2, hs3⟩ h.1 B1.1 B1.2.2.2.1 rfl (fun _ _ _ _ => rfl) rfl rfl (by rw [e1]; exact le1) rfl
theorem days_ag {n : Nat} (hn : n ≤ 4000) : ∀ (d k m m' : Nat) (σ τ : CS) (t : Nat), k + d = n → d < m → d < m' → CB σ τ → CR σ → σ.1 62 = nI t → t + d ≤ 100000 → ∃ v σ' τ', L_FC_wait_35 (nI n) m (nI k) σ = some ((0, v), σ') ∧ L_M_wait_58 (nI n) m' (nI k) τ = some (v, τ') ∧ CB σ' τ' ∧ CR σ' ∧ FwC σ σ' ∧ FwM τ τ' := by
  intro d
  induction d with
  | zero =>
    intro k m m' σ τ t h1 h2 h3 h hR e ht
    obtain ⟨m, rfl⟩ : ∃ n, m = n + 1 := ⟨m - 1, by omega⟩
    obtain ⟨m', rfl⟩ : ∃ n, m' = n + 1 := ⟨m' - 1, by omega⟩
    have t1 : τ.1 1 = σ.1 62 := h.2.2.2.2.2.2.2.2.2.1
    exact ⟨_, σ, τ, by rw [L_FC_wait_35, if_pos (nI_le (by omega) (by omega))], by rw [L_M_wait_58, if_pos (nI_le (by omega) (by omega)), t1], h, hR, FrC.refl _ _ _, FrM.refl _ _ _⟩
  | succ d ih =>
    intro k m m' σ τ t h1 h2 h3 h hR e ht
    obtain ⟨m, rfl⟩ : ∃ n, m = n + 1 := ⟨m - 1, by omega⟩
    obtain ⟨m', rfl⟩ : ∃ n, m' = n + 1 := ⟨m' - 1, by omega⟩
    obtain ⟨σ1, τ1, g1, g2, g3, g4, g5, g6, g7⟩ := day_ag h hR (t := t) (by omega) e (L_M_wait_58 (nI n) m') (nI n) (nI k)
    obtain ⟨v, σ2, τ2, r1, r2, r3, r4, r5, r6⟩ := ih (k + 1) m m' σ1 τ1 (t + 1) (by omega) (by omega) (by omega) g3 g4 g5 (by omega)
    refine ⟨v, σ2, τ2, ?_, ?_, r3, r4, g6.trans r5, g7.trans r6⟩
    · rw [L_FC_wait_35, if_neg (nI_ge (by omega) (by omega)), g1, bnd_s, nI_1, r1]
    · rw [L_M_wait_58, if_neg (nI_ge (by omega) (by omega)), g2, nI_1, r2]
abbrev JWai (σ τ σ1 τ1 : CS) : Prop := CB σ1 τ1 ∧ CR σ1 ∧ FwC σ σ1 ∧ FrM [0, 1, 9, 39, 56, 57, 58, 59] [8, 37, 41, 55, 64, 65, 66, 68, 69, 70] τ τ1
theorem CB.thr {σ τ : CS} (h : CB σ τ) (c : Int32) : CB σ (sF τ 0 c) :=
  h.frG (I := []) (A := []) (FrC.refl _ _ _) (FrM.f1 (I := [0]) (A := []) τ c (by decide)) (by decide) (by decide) (by decide) (by decide) h.1 (h.2.2.2.2.2.1.thr c) (h.2.2.2.2.2.2.2.2.1.thr τ c) h.2.2.2.2.2.2.2.2.2.2.2
theorem pm_wait {σ τ : CS} (h : CB σ τ) (hR : CR σ) (a0 : Int32) : AgX (f_FC_wait a0 σ) (f_M_wait a0 τ) (fun c0 => c0 = 0 ∨ c0 = 1 ∨ c0 = 2) (fun c0 => (if c0 = 0 then (0 : Int32) else if c0 = 1 then 1 else 2)) (JWai σ τ) := by
  obtain ⟨t, ht, et⟩ := h.2.2.2.2.2.2.2.2.2.2.1
  have t1 : (sF τ 0 0).1 1 = nI t := h.2.2.2.2.2.2.2.2.2.1.trans et
  have t1' : va_up τ.1 0 0 1 = nI t := t1
  unfold f_FC_wait f_M_wait B_M_wait_22 B_M_wait_47 B_FC_wait_30
  simp only [fc_within, fm_in, bnd_s]
  by_cases q1 : a0 < 0 ∨ 4000 < a0
  · simp only [if_pos q1, if_true, fm_bad1, bnd_s, if_neg i10]
    exact AgX.mk 1 0 σ 0 _ rfl (Or.inr (Or.inl rfl)) rfl rfl (fun z => absurd z (by decide)) ⟨(h.thr 0).thr 1, hR, FrC.refl _ _ _, (FrM.f1 _ _ (by decide)).trans (FrM.f1 _ _ (by decide))⟩
  simp only [if_neg q1, if_neg i10, fm_bad0, bnd_s, if_true, t1, t1', et]
  obtain ⟨n, hn, rfl⟩ := Rg.of q1 (n := 4000) rfl (by omega) (by decide)
  simp only [nI_add]
  by_cases q2 : t + n ≤ 100000
  · rw [if_pos ((le_lit 100000 (by omega) (by omega)).2 q2), if_neg (fun z => absurd ((lit_lt 100000 (by omega) (by omega)).1 z) (by omega))]
    obtain ⟨v, σ', τ', g1, g2, g3, g4, g5, g6⟩ := days_ag hn n 0 FU FU σ (sF τ 0 0) t (by omega) (lt_FU (by omega)) (lt_FU (by omega)) (h.thr 0) hR et q2
    have z0 : τ'.1 0 = 0 := (g6.1 0 (by decide)).trans (va_up_self τ.1 0 0)
    exact AgX.mk 0 v σ' v τ' g1 (Or.inl rfl) g2 z0 (fun _ => rfl) ⟨g3, g4, g5, (FrM.f1 _ _ (by decide)).trans (g6.mono (by decide) (by decide))⟩
  · rw [if_neg (fun z => q2 ((le_lit 100000 (by omega) (by omega)).1 z)), if_pos ((lit_lt 100000 (by omega) (by omega)).2 (by omega)), fm_bad1, bnd_s, if_neg i10]
    exact AgX.mk 2 0 σ 0 _ rfl (Or.inr (Or.inr rfl)) rfl rfl (fun z => absurd z (by decide)) ⟨(h.thr 0).thr 2, hR, FrC.refl _ _ _, (FrM.f1 _ _ (by decide)).trans (FrM.f1 _ _ (by decide))⟩
