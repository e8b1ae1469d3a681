/-! ===== layer 2: what is asked for ===== -/
def Rk (σ0 τ0 : CS) (k : Nat) (σ τ : CS) : Prop :=
  WC σ ∧ IPeo σ τ ∧ FrC [63] [6, 11] σ0 σ ∧ FrM [39] [41, 68, 69, 70] τ0 τ ∧ τ.1 39 = σ.1 63 ∧
  (∀ i, i ≠ k → τ.2.1 68 i = τ0.2.1 68 i) ∧ (∀ i, i ≠ k → τ.2.1 70 i = τ0.2.1 70 i) ∧ (∀ i q, i ≠ k → q < 3 → τ.2.1 69 (3 * i + q) = τ0.2.1 69 (3 * i + q)) ∧
  (∀ q, q < 3 → τ.2.1 69 (3 * k + q) = cel σ 11 k (4 + q)) ∧ τ.2.1 70 k = cel σ 11 k 7 ∧
  (∀ c, c < 13 → ¬ (4 ≤ c ∧ c ≤ 7) → cel σ 11 k c = cel σ0 11 k c) ∧ ∀ i c, i ≠ k → c < 13 → cel σ 11 i c = cel σ0 11 i c
theorem IWar.frX {σ τ σ' τ' : CS} {I A I' A' : List Nat} (h : IWar σ τ) (f : FrC I A σ σ') (g : FrM I' A' τ τ') (h0 : 20 ∉ I) (h1 : 29 ∉ I) (h2 : 9 ∉ A) (h3 : 44 ∉ I') (h4 : ∀ a, a ∈ A' → ¬ (a = 45 ∨ a = 46 ∨ a = 47 ∨ (88 ≤ a ∧ a ≤ 91))) : IWar σ' τ' :=
  h.fr (Nat.le_of_eq (f.fr (t := 6) h0).symm) (f.1 29 h1) (f.2 9 h2).1 (g.1 44 h3) (g.2 45 (fun z => h4 _ z (by omega))) (g.2 46 (fun z => h4 _ z (by omega))) (g.2 47 (fun z => h4 _ z (by omega))) (g.2 88 (fun z => h4 _ z (by omega))) (g.2 89 (fun z => h4 _ z (by omega))) (g.2 90 (fun z => h4 _ z (by omega))) (g.2 91 (fun z => h4 _ z (by omega)))
theorem Rk.step {σ0 τ0 σ τ : CS} {k : Nat} (hR : Rk σ0 τ0 k σ τ) (hA : IWar σ0 τ0) {v : Int32} {q a wi L : Nat} (hv : v = -1 ∨ Ix v (rws σ0 6)) (hk : k < rws σ0 11) (hq : q < 3) (ha : a ≤ 10000) (hwi : wi < rws σ0 9) (c9 : cel σ0 11 k 9 = nI wi) (t62 : τ0.2.1 62 k = nI wi) (hL : τ.2.1 68 k = nI L) (haL : a ≤ L) : ∃ x σ' τ', x ≤ a ∧ f_Courts_charge (nI k) (nI q) v (nI a) σ = some (nI x, σ') ∧ f_M_pays (nI k) v (nI q) (nI a) τ = some (0, τ') ∧ Rk σ0 τ0 k σ' τ' ∧ τ'.2.1 68 k = nI (L - x) := by
  obtain ⟨r1, r2, r3, r4, r5, r6, r7, r8, r9, r10, r11, r12⟩ := hR
  have e6 : rws σ 6 = rws σ0 6 := r3.fr (by decide)
  have e9 : rws σ 9 = rws σ0 9 := r3.fr (by decide)
  have e11 : rws σ 11 = rws σ0 11 := r3.fr (by decide)
  obtain ⟨x, cu, σ', τ', g1, g2, g3, g4, g5, g6, g7, g8, g9, g10, g11, g12⟩ := chargeO_ag r1 r2 (hA.frX r3 r4 (by decide) (by decide) (by decide) (by decide) (by decide)) (v := v) (k := k) (q := q) (a := a) (wi := wi) (L := L) (by rw [e6]; exact hv) (by omega) hq ha (by omega) ((r11 9 (by omega) (by omega)).trans c9) ((congrFun (r4.2 62 (by decide)) k).trans t62) hL haL r5
  refine ⟨x, σ', τ', g1, g2, g3, ⟨g4, g5, r3.trans g6, r4.trans g7, g8, fun i hi => ?_, fun i hi => ?_, fun i p hi hp => ?_, fun p hp => ?_, ?_, fun c hc h4 => ?_, fun i c hi hc => ?_⟩, ?_⟩
  · rw [g9]; unfold upd; rw [if_neg hi]; exact r6 i hi
  · rw [g11]; unfold upd; rw [if_neg hi]; exact r7 i hi
  · rw [g10]; unfold upd; rw [if_neg (by omega)]; exact r8 i p hi hp
  · rw [g10, g12 k (4 + p) (by omega)]
    unfold upd
    by_cases z : p = q
    · subst z
      rw [if_pos rfl, if_neg (by omega), if_pos ⟨rfl, rfl⟩, r9 p hp]
    · rw [if_neg (by omega), if_neg (by omega), if_neg (by omega)]
      exact r9 p hp
  · rw [g11, g12 k 7 (by omega), if_pos ⟨rfl, rfl⟩]
    unfold upd
    rw [if_pos rfl, r10]
  · rw [g12 k c hc, if_neg (by omega), if_neg (by omega)]; exact r11 c hc h4
  · rw [g12 i c hc, if_neg (fun z => hi z.1), if_neg (fun z => hi z.1)]; exact r12 i c hi hc
  · rw [g9]; unfold upd; rw [if_pos rfl]
/-- what the visit of the third court leaves in row k -/
def Ask (k M : Nat) (s : Int32) (σ τ σ' τ' : CS) : Prop :=
  WC σ' ∧ IPeo σ' τ' ∧ FrC [63] [6, 11] σ σ' ∧ FrM [39] [41, 65, 66, 68, 69, 70] τ τ' ∧ τ'.1 39 = σ'.1 63 ∧
  (cel σ' 11 k 0 = s ∧ τ'.2.1 65 k = s) ∧ (cel σ' 11 k 3 = nI M ∧ τ'.2.1 68 k = nI M) ∧ ((cel σ' 11 k 2 = σ.1 62 ∧ τ'.2.1 66 k = σ.1 62) ∨ (cel σ' 11 k 2 = cel σ 11 k 2 ∧ τ'.2.1 66 k = τ.2.1 66 k)) ∧ (∀ q, q < 3 → τ'.2.1 69 (3 * k + q) = cel σ' 11 k (4 + q)) ∧ τ'.2.1 70 k = cel σ' 11 k 7 ∧ (∀ c, c < 13 → 7 < c ∨ c = 1 → cel σ' 11 k c = cel σ 11 k c) ∧ (∀ i c, i ≠ k → c < 13 → cel σ' 11 i c = cel σ 11 i c) ∧ (∀ a i, 61 ≤ a → a ≤ 70 → a ≠ 69 → i ≠ k → τ'.2.1 a i = τ.2.1 a i) ∧ ∀ i q, i ≠ k → q < 3 → τ'.2.1 69 (3 * i + q) = τ.2.1 69 (3 * i + q)
theorem asks_end {σ0 τ0 σ τ : CS} {k M : Nat} (s : Int32) (hR : Rk σ0 τ0 k σ τ) (hk : k < rws σ0 11) (hM : τ.2.1 68 k = nI M) (k0 : τ0.2.1 65 k = cel σ0 11 k 0) (t1 : τ0.1 1 = σ0.1 62) : ∃ σ' τ', f_Courts_settle (nI k) s (pt σ 11 k 3 (nI M)) = some (0, σ') ∧ f_M_becomes (nI k) s τ = some (0, τ') ∧ Ask k M s σ0 τ0 σ' τ' := by
  obtain ⟨r1, r2, r3, r4, r5, r6, r7, r8, r9, r10, r11, r12⟩ := hR
  have e11 : rws σ 11 = rws σ0 11 := r3.fr (by decide)
  have h40 : rws σ 11 ≤ 40 := r1.hlim (t := 11) (by omega)
  have hk' : k < rws σ 11 := by omega
  have kk : τ.2.1 65 k = cel (pt σ 11 k 3 (nI M)) 11 k 0 := by
    rw [pt_cel _ _ _ _ _ _ _ (by decide) (by decide), if_neg (by omega), r11 0 (by omega) (by omega), r4.2 65 (by decide), k0]
  have c62 : σ.1 62 = σ0.1 62 := r3.1 62 (by decide)
  have p3 : ∀ c, c < 13 → c ≠ 3 → cel (pt σ 11 k 3 (nI M)) 11 k c = cel σ 11 k c := fun c hc h => by
    rw [pt_cel _ _ _ _ _ _ _ (by decide) (show c < 13 from hc), if_neg (fun z => h z.2)]
  have p3o : ∀ i c, i ≠ k → c < 13 → cel (pt σ 11 k 3 (nI M)) 11 i c = cel σ 11 i c := fun i c hi hc => by
    rw [pt_cel _ _ _ _ _ _ _ (by decide) (show c < 13 from hc), if_neg (fun z => hi z.1)]
  have p33 : cel (pt σ 11 k 3 (nI M)) 11 k 3 = nI M := pt_same _ _ _ _ _
  have fP : IPeo (pt σ 11 k 3 (nI M)) τ := r2.fr rfl (pt_arr _ _ _ _ _ _ (by omega)) rfl rfl rfl rfl rfl
  have f3 : FrC [63] [6, 11] σ0 (pt σ 11 k 3 (nI M)) := r3.trans (FrC.f3 _ _ _ _ (by decide))
  have m4 : FrM [39] [41, 65, 66, 68, 69, 70] τ0 τ := r4.mono (by decide) (by decide)
  have oth : ∀ a i, 61 ≤ a → a ≤ 70 → a ≠ 69 → i ≠ k → τ.2.1 a i = τ0.2.1 a i := fun a i h1 h2 h3 h4 => by
    by_cases z8 : a = 68
    · rw [z8]; exact r6 i h4
    by_cases z7 : a = 70
    · rw [z7]; exact r7 i h4
    rw [r4.2 a (by simp only [List.mem_cons, List.not_mem_nil, or_false]; omega)]
  rw [settle_c (pt_W r1 _ _ _ _) hk', becomes_m (by omega), kk]
  by_cases q : cel (pt σ 11 k 3 (nI M)) 11 k 0 = s
  · rw [if_pos q, if_pos q]
    refine ⟨_, _, rfl, rfl, pt_W r1 _ _ _ _, fP, f3, m4, r5, ⟨q, kk.trans q⟩, ⟨p33, hM⟩, Or.inr ⟨?_, ?_⟩, fun p hp => ?_, ?_, fun c hc h => ?_, fun i c hi hc => ?_, oth, r8⟩
    · rw [p3 2 (by omega) (by omega)]; exact r11 2 (by omega) (by omega)
    · rw [r4.2 66 (by decide)]
    · rw [p3 (4 + p) (by omega) (by omega)]; exact r9 p hp
    · rw [p3 7 (by omega) (by omega)]; exact r10
    · rw [p3 c hc (by omega)]; exact r11 c hc (by omega)
    · rw [p3o i c hi hc]; exact r12 i c hi hc
  · rw [if_neg q, if_neg q]
    have pc : ∀ c, c < 13 → c ≠ 0 → c ≠ 2 → cel (pt (pt (pt σ 11 k 3 (nI M)) 11 k 0 s) 11 k 2 ((pt σ 11 k 3 (nI M)).1 62)) 11 k c = cel (pt σ 11 k 3 (nI M)) 11 k c := fun c hc h1 h2 => by
      rw [pt_cel _ _ _ _ _ _ _ (by decide) (show c < 13 from hc), if_neg (fun z => h2 z.2), pt_cel _ _ _ _ _ _ _ (by decide) (show c < 13 from hc), if_neg (fun z => h1 z.2)]
    have po : ∀ i c, i ≠ k → c < 13 → cel (pt (pt (pt σ 11 k 3 (nI M)) 11 k 0 s) 11 k 2 ((pt σ 11 k 3 (nI M)).1 62)) 11 i c = cel σ 11 i c := fun i c hi hc => by
      rw [pt_cel _ _ _ _ _ _ _ (by decide) (show c < 13 from hc), if_neg (fun z => hi z.1), pt_cel _ _ _ _ _ _ _ (by decide) (show c < 13 from hc), if_neg (fun z => hi z.1), p3o i c hi hc]
    refine ⟨_, _, rfl, rfl, pt_W (pt_W (pt_W r1 _ _ _ _) _ _ _ _) _ _ _ _, ?_, f3.trans ((FrC.f3 _ _ _ _ (by decide)).trans (FrC.f3 _ _ _ _ (by decide))), m4.trans ((FrM.f2 _ _ (by decide)).trans (FrM.f2 _ _ (by decide))), r5, ⟨?_, ?_⟩, ⟨?_, ?_⟩, Or.inl ⟨?_, ?_⟩, fun p hp => ?_, ?_, fun c hc h => ?_, fun i c hi hc => ?_, fun a i h1 h2 h3 h4 => ?_, r8⟩
    · refine fP.fr rfl ?_ rfl rfl rfl rfl rfl
      rw [pt_arr _ _ _ _ _ _ (by omega), pt_arr _ _ _ _ _ _ (by omega)]
    · rw [pt_cel _ _ _ _ _ _ _ (by decide) (by decide), if_neg (by omega), pt_same]
    · simp [va_up, upd]
    · rw [pc 3 (by omega) (by omega) (by omega)]; exact p33
    · exact hM
    · rw [pt_same]; exact c62
    · have : τ.1 1 = σ0.1 62 := (r4.1 1 (by decide)).trans t1
      simp [va_up, upd, this]
    · rw [pc (4 + p) (by omega) (by omega) (by omega), p3 (4 + p) (by omega) (by omega)]; exact r9 p hp
    · rw [pc 7 (by omega) (by omega) (by omega), p3 7 (by omega) (by omega)]; exact r10
    · rw [pc c hc (by omega) (by omega), p3 c hc (by omega)]; exact r11 c hc (by omega)
    · rw [po i c hi hc]; exact r12 i c hi hc
    · simp only [va_up]
      by_cases z6 : a = 66
      · rw [if_pos z6, z6]
        unfold upd
        rw [if_neg h4]
        exact oth 66 i (by omega) (by omega) (by omega) h4
      · rw [if_neg z6]
        by_cases z5 : a = 65
        · rw [if_pos z5, z5]
          unfold upd
          rw [if_neg h4]
          exact oth 65 i (by omega) (by omega) (by omega) h4
        · rw [if_neg z5]
          exact oth a i h1 h2 h3 h4
theorem asks_tail {σ τ : CS} (hW : WC σ) (hP : IPeo σ τ) (hA : IWar σ τ) {k L wi : Nat} (hk : k < rws σ 11) (hL : L ≤ 10000) (kL : τ.2.1 68 k = nI L) (hwi : wi < rws σ 9) (c9 : cel σ 11 k 9 = nI wi) (t62 : τ.2.1 62 k = nI wi)
    (ka : τ.2.1 63 (2 * k) = cel σ 11 k 10) (ia : Ix (cel σ 11 k 10) (rws σ 6)) (kb : τ.2.1 63 (2 * k + 1) = cel σ 11 k 11) (ib : Ix (cel σ 11 k 11) (rws σ 6)) (k1 : τ.2.1 64 k = cel σ 11 k 1) (i1 : Ix (cel σ 11 k 1) (rws σ 6)) (k0 : τ.2.1 65 k = cel σ 11 k 0) (kq : ∀ q, q < 3 → τ.2.1 69 (3 * k + q) = cel σ 11 k (4 + q)) (k7 : τ.2.1 70 k = cel σ 11 k 7) (hc : τ.1 39 = σ.1 63) (t1 : τ.1 1 = σ.1 62) :
    ∃ M s σ' τ', M ≤ L ∧ (s = 3 ∨ s = 4) ∧ B_Courts_askFor_49 (nI k) (nI L) σ = some (0, σ') ∧ B_M_asks_30 (nI k) τ = some (0, τ') ∧ Ask k M s σ τ σ' τ' := by
  have h40 : rws σ 11 ≤ 40 := hW.hlim (t := 11) (by omega)
  have R0 : Rk σ τ k σ τ := ⟨hW, hP, FrC.refl _ _ _, FrM.refl _ _ _, hc, fun _ _ => rfl, fun _ _ => rfl, fun _ _ _ _ => rfl, kq, k7, fun _ _ _ => rfl, fun _ _ _ _ => rfl⟩
  obtain ⟨x0, σ1, τ1, b0, c0, m0, R1, L1e⟩ := R0.step hA (q := 0) (a := L) (Or.inr i1) hk (by omega) hL hwi c9 t62 kL (Nat.le_refl _)
  have e61 : rws σ1 6 = rws σ 6 := R1.2.2.1.fr (t := 6) (by decide)
  have e11 : rws σ1 11 = rws σ 11 := R1.2.2.1.fr (t := 11) (by decide)
  obtain ⟨pa, hpa, epa⟩ := ia
  obtain ⟨v1, hv1, pc1, pm1⟩ := payer_ag R1.1 R1.2.1 (p := pa) (by omega)
  rw [e61] at hv1
  obtain ⟨x1, σ2, τ2, b1, c1, m1, R2, L2e⟩ := R1.step hA (q := 1) (a := (L - x0) - (L - x0) / 2) hv1 hk (by omega) (by omega) hwi c9 t62 L1e (by omega)
  have e62 : rws σ2 6 = rws σ 6 := R2.2.2.1.fr (t := 6) (by decide)
  have e12 : rws σ2 11 = rws σ 11 := R2.2.2.1.fr (t := 11) (by decide)
  obtain ⟨pb, hpb, epb⟩ := ib
  obtain ⟨v2, hv2, pc2, pm2⟩ := payer_ag R2.1 R2.2.1 (p := pb) (by omega)
  rw [e62] at hv2
  obtain ⟨x2, σ3, τ3, b2, c2, m2, R3, L3e⟩ := R2.step hA (q := 2) (a := (L - x0) / 2) hv2 hk (by omega) (by omega) hwi c9 t62 L2e (by omega)
  have e13 : rws σ3 11 = rws σ 11 := R3.2.2.1.fr (t := 11) (by decide)
  have n1 : nI L - nI x0 = nI (L - x0) := nI_sub b0
  have n2 : nI (L - x0) / 2 = nI ((L - x0) / 2) := nI_div (b := 2) (by omega) (by omega)
  have n3 : nI (L - x0) - nI ((L - x0) / 2) = nI ((L - x0) - (L - x0) / 2) := nI_sub (by omega)
  have n4 : nI (L - x0) - nI x1 = nI (L - x0 - x1) := nI_sub (by omega)
  have n5 : nI (L - x0 - x1) - nI x2 = nI (L - x0 - x1 - x2) := nI_sub (by omega)
  have a1 : cel σ1 11 k 10 = nI pa := (R1.2.2.2.2.2.2.2.2.2.2.1 10 (by omega) (by omega)).trans epa
  have a2 : cel σ2 11 k 11 = nI pb := (R2.2.2.2.2.2.2.2.2.2.2.1 11 (by omega) (by omega)).trans epb
  have c0' : f_Courts_charge (nI k) 0 (cel σ 11 k 1) (nI L) σ = some (nI x0, σ1) := c0
  have c1' : f_Courts_charge (nI k) 1 v1 (nI ((L - x0) - (L - x0) / 2)) σ1 = some (nI x1, σ2) := c1
  have c2' : f_Courts_charge (nI k) 2 v2 (nI ((L - x0) / 2)) σ2 = some (nI x2, σ3) := c2
  have m0' : f_M_pays (nI k) (cel σ 11 k 1) 0 (nI L) τ = some (0, τ1) := m0
  have m1' : f_M_pays (nI k) v1 1 (nI ((L - x0) - (L - x0) / 2)) τ1 = some (0, τ2) := m1
  have m2' : f_M_pays (nI k) v2 2 (nI ((L - x0) / 2)) τ2 = some (0, τ3) := m2
  have s2 : (2 : Int32) * nI k = nI (2 * k) := nI_mul 2 k
  have s3 : nI (2 * k) + (1 : Int32) = nI (2 * k + 1) := nI_1 _
  have g1 : τ1.2.1 63 (2 * k) = nI pa := by rw [R1.2.2.2.1.2 63 (by decide), ka, epa]
  have g2 : τ2.2.1 63 (2 * k + 1) = nI pb := by rw [R2.2.2.2.1.2 63 (by decide), kb, epb]
  have gk : ∀ {X : Type} (a : Option X), gix (nI k) 40 a = a := fun a => gix_n (by omega) (by omega)
  have g8 : ∀ {X : Type} (a : Option X), gix (nI (2 * k)) 80 a = a := fun a => gix_n (by omega) (by omega)
  have g8' : ∀ {X : Type} (a : Option X), gix (nI (2 * k + 1)) 80 a = a := fun a => gix_n (by omega) (by omega)
  obtain ⟨s, hs, es, σ', τ', q1, q2, q3⟩ : ∃ s : Int32, (s = 3 ∨ s = 4) ∧ (s = if nI (L - x0 - x1 - x2) = 0 then 3 else 4) ∧ ∃ σ' τ', f_Courts_settle (nI k) s (pt σ3 11 k 3 (nI (L - x0 - x1 - x2))) = some (0, σ') ∧ f_M_becomes (nI k) s τ3 = some (0, τ') ∧ Ask k (L - x0 - x1 - x2) s σ τ σ' τ' := by
    by_cases z : nI (L - x0 - x1 - x2) = 0
    · exact ⟨3, Or.inl rfl, by rw [if_pos z], asks_end 3 R3 hk L3e k0 t1⟩
    · exact ⟨4, Or.inr rfl, by rw [if_neg z], asks_end 4 R3 hk L3e k0 t1⟩
  refine ⟨L - x0 - x1 - x2, s, σ', τ', by omega, hs, ?_, ?_, q3⟩
  · unfold B_Courts_askFor_49 B_Courts_askFor_151
    rw [tb_gl hW 11 (by omega) k 1 hk (by decide), bnd_s, c0', bnd_s, tb_gl R1.1 11 (by omega) k 10 (by omega) (by decide), bnd_s, a1, pc1, bnd_s]
    simp only [n1, n2, n3]
    rw [c1', bnd_s, tb_gl R2.1 11 (by omega) k 11 (by omega) (by decide), bnd_s, a2, pc2, bnd_s, c2', bnd_s]
    simp only [n4, n5]
    rw [tb_pl R3.1 11 (by omega) k 3 (by omega) (by decide), bnd_s]
    by_cases z : nI (L - x0 - x1 - x2) = 0
    · rw [if_pos z] at es ⊢
      rw [← es, q1, bnd_s]
    · rw [if_neg z] at es ⊢
      rw [← es, q1, bnd_s]
  · unfold B_M_asks_30 B_M_asks_117
    rw [gk, gk, rdn (show k < 2147483648 by omega), rdn (show k < 2147483648 by omega), k1, kL, m0', bnd_s, gk, s2, g8, rdn (show 2 * k < 2147483648 by omega), g1, pm1, bnd_s, rdn (show k < 2147483648 by omega), L1e, n2, n3, m1', bnd_s, s3, g8', rdn (show 2 * k + 1 < 2147483648 by omega), g2, pm2, bnd_s, m2', bnd_s, gk, rdn (show k < 2147483648 by omega), L3e]
    by_cases z : nI (L - x0 - x1 - x2) = 0
    · rw [if_pos z] at es ⊢
      rw [← es, q2, bnd_s]
    · rw [if_neg z] at es ⊢
      rw [← es, q2, bnd_s]
