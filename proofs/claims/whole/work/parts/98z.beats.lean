/-! ===== layer 2: beats, beat ===== -/
def lgB (σ : CS) (i : Nat) : Bool := decide (i < rws σ 9 ∧ ¬ cel σ 9 i 5 = -1)
def nxL (P : Nat → Bool) (a : Nat) : Option Nat := if fst (fun j => decide (a ≤ j) && P j) 6 < 6 then some (fst (fun j => decide (a ≤ j) && P j) 6) else none
theorem nxL_end {P : Nat → Bool} {a : Nat} (h : ∀ j, a ≤ j → j < 6 → P j = false) : nxL P a = none := by
  unfold nxL
  rcases fst_ok (fun j => decide (a ≤ j) && P j) 6 with ⟨h1, h2, -⟩ | ⟨h1, -⟩
  · exfalso
    rw [Bool.and_eq_true, decide_eq_true_iff] at h2
    rw [h _ h2.1 h1] at h2
    exact absurd h2.2 (by decide)
  · rw [h1, if_neg (by omega)]
theorem nxL_yes {P : Nat → Bool} {a : Nat} (ha : a < 6) (h : P a = true) : nxL P a = some a := by
  unfold nxL
  have e : fst (fun j => decide (a ≤ j) && P j) 6 = a := fst_eq ha (by rw [decide_eq_true (Nat.le_refl a), h]; rfl) (fun j hj => by rw [decide_eq_false (by omega)]; rfl)
  rw [e, if_pos ha]
theorem nxL_no {P : Nat → Bool} {a : Nat} (h : P a = false) : nxL P a = nxL P (a + 1) := by
  have e : (fun j => decide (a ≤ j) && P j) = fun j => decide (a + 1 ≤ j) && P j := by
    funext j
    by_cases z : j = a
    · rw [z, h, Bool.and_false, Bool.and_false]
    · by_cases y : a ≤ j
      · rw [decide_eq_true y, decide_eq_true (show a + 1 ≤ j by omega)]
      · rw [decide_eq_false y, decide_eq_false (show ¬ a + 1 ≤ j by omega)]
  unfold nxL
  rw [e]
theorem nxL_ok {P : Nat → Bool} {a w : Nat} (h : nxL P a = some w) : w < 6 ∧ P w = true := by
  unfold nxL at h
  rcases fst_ok (fun j => decide (a ≤ j) && P j) 6 with ⟨h1, h2, -⟩ | ⟨h1, -⟩
  · rw [if_pos h1] at h
    simp only [Option.some.injEq] at h
    rw [h] at h1 h2
    rw [Bool.and_eq_true] at h2
    exact ⟨h1, h2.2⟩
  · rw [h1, if_neg (by omega)] at h
    cases h
def fL (σ : CS) : Option Nat := nxL (lgB σ) 0
def scL (σ : CS) : Option Nat := match fL σ with
  | none => none
  | some a => nxL (lgB σ) (a + 1)
def wl (σ : CS) (w : Nat) : Nat × Nat × Nat := ((cel σ 9 w 3).toNatClampNeg, (cel σ 9 w 4).toNatClampNeg, (cel σ 9 w 5).toNatClampNeg)
def sX (σ : CS) (i : Nat) : Nat := (cel σ 13 i 0).toNatClampNeg
def sY (σ : CS) (i : Nat) : Nat := (cel σ 13 i 1).toNatClampNeg
def sZ (σ : CS) (i : Nat) : Nat := (cel σ 13 i 2).toNatClampNeg
def cF (σ : CS) : Nat → Bool := canW (rws σ 13) (sX σ) (sY σ) ((fL σ).map (wl σ))
def cS (σ : CS) : Nat → Bool := canW (rws σ 13) (sX σ) (sY σ) ((scL σ).map (wl σ))
def bWy (σ : CS) : Option Nat := scn (Vw (cF σ) (cS σ) (rws σ 13)) (wth (sZ σ) (rws σ 13)) (3 ^ rws σ 13)
def Good (σ : CS) : Prop := ∃ v, bWy σ = some v ∧ σ.1 67 = nI (wth (sZ σ) (rws σ 13) v) ∧ ∀ i, i < rws σ 13 → σ.2.1 30 i = whD (fL σ) (scL σ) (dgi (rws σ 13) v i)
def IBea (σ : CS) : Prop := (σ.1 68 = 0 ∧ Good σ) ∨ σ.1 68 = 1
/-- the same data -/
def Dat (σ σ' : CS) : Prop := rws σ' 13 = rws σ 13 ∧ (∀ i c, cel σ' 13 i c = cel σ 13 i c) ∧ (∀ i, lgB σ' i = lgB σ i) ∧ ∀ i, lgB σ i = true → wl σ' i = wl σ i
theorem efL {σ σ' : CS} (h : Dat σ σ') : fL σ' = fL σ := by
  unfold fL
  rw [show lgB σ' = lgB σ from funext h.2.2.1]
theorem esL {σ σ' : CS} (h : Dat σ σ') : scL σ' = scL σ := by
  unfold scL
  rw [efL h, show lgB σ' = lgB σ from funext h.2.2.1]
theorem fL_ok {σ : CS} {w : Nat} (h : fL σ = some w) : lgB σ w = true := (nxL_ok h).2
theorem scL_ok {σ : CS} {w : Nat} (h : scL σ = some w) : lgB σ w = true := by
  unfold scL at h
  cases e : fL σ with
  | none => rw [e] at h; cases h
  | some a => rw [e] at h; exact (nxL_ok h).2
theorem map_c {o : Option Nat} {f g : Nat → Nat × Nat × Nat} (h : ∀ w, o = some w → f w = g w) : o.map f = o.map g := by
  cases o with
  | none => rfl
  | some w => exact congrArg some (h w rfl)
theorem eX {σ σ' : CS} (h : Dat σ σ') : sX σ' = sX σ ∧ sY σ' = sY σ ∧ sZ σ' = sZ σ := ⟨funext fun i => by unfold sX; rw [h.2.1], funext fun i => by unfold sY; rw [h.2.1], funext fun i => by unfold sZ; rw [h.2.1]⟩
theorem ecF {σ σ' : CS} (h : Dat σ σ') : cF σ' = cF σ := by
  unfold cF
  rw [h.1, (eX h).1, (eX h).2.1, efL h, map_c (fun w hw => h.2.2.2 w (fL_ok hw))]
theorem ecS {σ σ' : CS} (h : Dat σ σ') : cS σ' = cS σ := by
  unfold cS
  rw [h.1, (eX h).1, (eX h).2.1, esL h, map_c (fun w hw => h.2.2.2 w (scL_ok hw))]
theorem ebW {σ σ' : CS} (h : Dat σ σ') : bWy σ' = bWy σ := by
  unfold bWy
  rw [ecF h, ecS h, h.1, (eX h).2.2]
theorem Good.dat {σ σ' : CS} (g : Good σ) (h : Dat σ σ') (e1 : σ'.1 67 = σ.1 67) (e2 : σ'.2.1 30 = σ.2.1 30) : Good σ' := by
  unfold Good
  rw [ebW h, h.1, (eX h).2.2, efL h, esL h, e1, e2]
  exact g
theorem Dat.of {σ σ' : CS} {I A : List Nat} (f : FrC I A σ σ') (h1 : 29 ∉ I ∧ 41 ∉ I) (h2 : 9 ∉ A ∧ 13 ∉ A) : Dat σ σ' := by
  refine ⟨f.fr h1.2, fun i c => f.fc h2.2 i c, fun i => ?_, fun i _ => ?_⟩
  · unfold lgB
    rw [f.fr (t := 9) h1.1, f.fc h2.1]
  · unfold wl
    rw [f.fc h2.1, f.fc h2.1, f.fc h2.1]
theorem IBea.fr {σ σ' : CS} {I A : List Nat} (h : IBea σ) (f : FrC I A σ σ') (h1 : 29 ∉ I ∧ 41 ∉ I ∧ 67 ∉ I ∧ 68 ∉ I) (h2 : 9 ∉ A ∧ 13 ∉ A ∧ 30 ∉ A) : IBea σ' := by
  rcases h with ⟨a, b⟩ | a
  · exact Or.inl ⟨(f.1 68 h1.2.2.2).trans a, b.dat (Dat.of f ⟨h1.1, h1.2.1⟩ ⟨h2.1, h2.2.1⟩) (f.1 67 h1.2.2.1) (f.2 30 h2.2.2).1⟩
  · exact Or.inr ((f.1 68 h1.2.2.2).trans a)
theorem clamp_Rg {x : Int32} {n : Nat} (h : Rg x n) (hn : n < 2147483648) : x = nI x.toNatClampNeg ∧ x.toNatClampNeg ≤ n := by
  obtain ⟨a, h1, rfl⟩ := h
  rw [nI_clamp (by omega)]
  exact ⟨rfl, h1⟩
theorem toWys {σ τ : CS} (hW : WC σ) (hS : ISpo σ τ) : Wys (rws σ 13) (sX σ) (sY σ) (sZ σ) σ := by
  refine ⟨hW, rfl, hW.hlim (t := 13) (by omega), fun i hi => ?_⟩
  obtain ⟨-, -, -, a, b, c⟩ := hS.2 i hi
  have a' := clamp_Rg a (by omega)
  have b' := clamp_Rg b (by omega)
  have c' := clamp_Rg c (by omega)
  exact ⟨a'.1, a'.2, b'.1, b'.2, c'.1, c'.2⟩
theorem toMys {σ τ : CS} (hW : WC σ) (hS : ISpo σ τ) : Mys (rws σ 13) (sX σ) (sY σ) (sZ σ) τ := by
  refine ⟨hS.1, hW.hlim (t := 13) (by omega), fun i hi => ?_⟩
  obtain ⟨e1, e2, e3, a, b, c⟩ := hS.2 i hi
  have a' := clamp_Rg a (by omega)
  have b' := clamp_Rg b (by omega)
  have c' := clamp_Rg c (by omega)
  exact ⟨e1.trans a'.1, a'.2, e2.trans b'.1, b'.2, e3.trans c'.1, c'.2⟩
theorem toLdg {σ τ : CS} (hW : WC σ) (hI : IWar σ τ) {w : Nat} (h : lgB σ w = true) : Ldg w (wl σ w).1 (wl σ w).2.1 (wl σ w).2.2 σ ∧ Mdg w (wl σ w).1 (wl σ w).2.1 (wl σ w).2.2 τ := by
  have h6 : rws σ 9 ≤ 6 := hW.hlim (t := 9) (by omega)
  unfold lgB at h
  rw [decide_eq_true_iff] at h
  obtain ⟨-, -, -, -, -, -, l⟩ := hI.2.1 w h.1
  rcases l with ⟨-, l⟩ | ⟨-, l1, l2, l3, l4, l5, l6⟩
  · exact absurd l h.2
  · have a' := clamp_Rg l5 (by omega)
    have b' := clamp_Rg l6 (by omega)
    have c' := clamp_Rg l1 (by omega)
    exact ⟨⟨h.1, a'.1, a'.2, b'.1, b'.2, c'.1, c'.2⟩, ⟨by omega, l2.trans a'.1, a'.2, l3.trans b'.1, b'.2, l4.trans c'.1, c'.2⟩⟩
theorem toLdO {σ τ : CS} (hW : WC σ) (hI : IWar σ τ) {o : Option Nat} (h : ∀ w, o = some w → lgB σ w = true) : LdO o (o.map (wl σ)) σ := by
  cases o with
  | none => trivial
  | some w => exact (toLdg hW hI (h w rfl)).1
theorem nextC {σ : CS} (hW : WC σ) : ∀ (d a m : Nat), a + d = rws σ 9 → d < m → L_Patrols_nextWithLodge_2 m (nI a) σ = some (oW (nxL (lgB σ) a), σ) := by
  have h6 : rws σ 9 ≤ 6 := hW.hlim (t := 9) (by omega)
  intro d
  induction d with
  | zero =>
    intro a m h1 h2
    obtain ⟨m, rfl⟩ : ∃ n, m = n + 1 := ⟨m - 1, by omega⟩
    rw [L_Patrols_nextWithLodge_2, tb_size hW 9 (by omega), bnd_s, if_pos (nI_le (by omega) (by omega)), nxL_end (fun j hj _ => by unfold lgB; exact decide_eq_false (fun z => by omega))]
    rfl
  | succ d ih =>
    intro a m h1 h2
    obtain ⟨m, rfl⟩ : ∃ n, m = n + 1 := ⟨m - 1, by omega⟩
    rw [L_Patrols_nextWithLodge_2, tb_size hW 9 (by omega), bnd_s, if_neg (nI_ge (by omega) (by omega)), tb_gl hW 9 (by omega) a 5 (by omega) (by decide), bnd_s, nI_1]
    by_cases q : cel σ 9 a 5 = -1
    · rw [if_pos q, nxL_no (by unfold lgB; exact decide_eq_false (fun z => z.2 q))]
      exact ih (a + 1) m (by omega) (by omega)
    · rw [if_neg q, nxL_yes (by omega) (by unfold lgB; exact decide_eq_true ⟨by omega, q⟩)]
      rfl
theorem dSt_2 {v : Nat} (hv : v < 2) : ∀ k, dSt v k (3 ^ k - 1) = 0 := by
  intro k
  induction k with
  | zero => rfl
  | succ k ih =>
    have p0 : 0 < 3 ^ k := Nat.pow_pos (by omega)
    rw [show 3 ^ (k + 1) - 1 = 3 * (3 ^ k - 1) + 2 by rw [Nat.pow_succ]; omega, dSt_c (by omega), if_neg (by omega), ih]
theorem canW_0 (n : Nat) (X Y : Nat → Nat) (p : Option (Nat × Nat × Nat)) : canW n X Y p 0 = true := by
  cases p with
  | none => rfl
  | some t => exact decide_eq_true (p := (0 = 0 ∨ brd n (dSS X Y) (dLS X Y t.1 t.2.1) 0 ≤ t.2.2)) (Or.inl rfl)
theorem bWy_some (σ : CS) : ∃ v, bWy σ = some v := by
  have p0 : 0 < 3 ^ rws σ 13 := Nat.pow_pos (by omega)
  obtain ⟨v, h⟩ := scn_some (V := Vw (cF σ) (cS σ) (rws σ 13)) (w := wth (sZ σ) (rws σ 13)) (m := 3 ^ rws σ 13 - 1) (by
    unfold Vw cF cS
    rw [dSt_2 (by omega), dSt_2 (by omega), canW_0, canW_0]
    rfl)
  refine ⟨v, ?_⟩
  unfold bWy
  rw [← h]
  congr 1
  omega
theorem planC {σ τ : CS} (hW : WC σ) (hI : IWar σ τ) (hS : ISpo σ τ) (hB : IBea σ) : ∃ σ', f_Patrols_plan σ = some (0, σ') ∧ WC σ' ∧ FrC [67, 68] [27, 28, 29, 30, 31] σ σ' ∧ σ'.1 68 = 0 ∧ Good σ' := by
  unfold f_Patrols_plan
  rcases hB with ⟨h0, hG⟩ | h0
  · rw [if_pos h0]
    exact ⟨σ, rfl, hW, FrC.refl _ _ _, h0, hG⟩
  rw [if_neg (by rw [h0]; decide)]
  have F0 : FrC [68] [] σ (sF σ 68 0) := FrC.f1 _ _ (by decide)
  have z68 : (sF σ 68 0).1 68 = 0 := sF_self σ 68 0
  have D0 := Dat.of F0 (by decide) (by decide)
  have W0 : WC (sF σ 68 0) := hW.fr F0 (by decide) (by decide)
  have Y0 := (toWys hW hS).fr F0 (by decide) (by decide)
  have L1 := (toLdO hW hI (fun w hw => fL_ok hw)).fr F0 (by decide) (by decide)
  have L2 := (toLdO hW hI (fun w hw => scL_ok hw)).fr F0 (by decide) (by decide)
  have e1 : fL (sF σ 68 0) = fL σ := efL D0
  have h6 : rws (sF σ 68 0) 9 ≤ 6 := W0.hlim (t := 9) (by omega)
  have g1 : f_Patrols_nextWithLodge 0 (sF σ 68 0) = some (oW (fL (sF σ 68 0)), sF σ 68 0) := nextC W0 _ 0 FU (Nat.zero_add _) (lt_FU (by omega))
  have key : ∃ σ', B_Patrols_plan_35 (oW (fL σ)) (oW (scL σ)) (sF σ 68 0) = some (0, σ') ∧ WC σ' ∧ FrC [67, 68] [27, 28, 29, 30, 31] σ σ' ∧ σ'.1 68 = 0 ∧ Good σ' := by
    obtain ⟨σ1, k1, k2, k3⟩ := measC Y0 L1 28 (Or.inl rfl)
    have Y1 := Y0.fr k2 (by decide) (by decide)
    obtain ⟨σ2, l1, l2, l3⟩ := measC Y1 (L2.fr k2 (by decide) (by decide)) 29 (Or.inr rfl)
    have Y2 := Y1.fr l2 (by decide) (by decide)
    obtain ⟨σ3, m1, m2, m3⟩ := pickC Y2 (c1 := cF σ) (c2 := cS σ) (fun S hs => by rw [(l2.2 28 (by decide)).1]; exact k3 S hs) l3 (fL σ) (scL σ)
    have F3 : FrC [67, 68] [27, 28, 29, 30, 31] σ σ3 := (F0.mono (by decide) (by decide)).trans ((k2.mono (by decide) (by decide)).trans ((l2.mono (by decide) (by decide)).trans (m2.mono (by decide) (by decide))))
    have D3 := Dat.of F3 (by decide) (by decide)
    unfold B_Patrols_plan_35
    rw [k1, bnd_s, l1, bnd_s, m1, bnd_s]
    refine ⟨σ3, rfl, hW.fr F3 (by decide) (by decide), F3, ?_, ?_⟩
    · rw [m2.1 68 (by decide), l2.1 68 (by decide), k2.1 68 (by decide), z68]
    · obtain ⟨v, hv⟩ := bWy_some σ
      have hv' : scn (Vw (cF σ) (cS σ) (rws σ 13)) (wth (sZ σ) (rws σ 13)) (3 ^ rws σ 13) = some v := hv
      rw [hv'] at m3
      refine ⟨v, by rw [ebW D3]; exact hv, ?_, ?_⟩
      · rw [D3.1, (eX D3).2.2]
        exact m3.1
      · rw [D3.1, efL D3, esL D3]
        exact m3.2 v rfl
  rw [g1, bnd_s, e1]
  cases e : fL σ with
  | none =>
    have es : scL σ = none := by unfold scL; rw [e]
    rw [e, es] at key
    rw [if_pos (show oW none = -1 from rfl)]
    exact key
  | some a =>
    have hla := fL_ok e
    unfold lgB at hla
    rw [decide_eq_true_iff] at hla
    have r9 : rws (sF σ 68 0) 9 = rws σ 9 := F0.fr (t := 9) (by decide)
    have g2 : f_Patrols_nextWithLodge (nI (a + 1)) (sF σ 68 0) = some (oW (nxL (lgB (sF σ 68 0)) (a + 1)), sF σ 68 0) := nextC W0 (rws σ 9 - (a + 1)) (a + 1) FU (by omega) (lt_FU (by omega))
    have es : nxL (lgB (sF σ 68 0)) (a + 1) = scL σ := by
      unfold scL
      rw [e, show lgB (sF σ 68 0) = lgB σ from funext D0.2.2.1]
    rw [es] at g2
    rw [e] at key
    rw [if_neg (show ¬ oW (some a) = -1 from nI_neg1 (by omega)), show oW (some a) + 1 = nI (a + 1) from nI_1 a, g2, bnd_s]
    exact key
/-! the reference -/
theorem findM {σ : CS} (h6 : rws σ 9 ≤ 6) (K : Int32 → CS → Option (Int32 × CS)) {t : Nat} (ht : t < 2) {τ : CS} (h44 : τ.1 44 = nI (rws σ 9)) (h88 : ∀ i, i < rws σ 9 → (τ.2.1 88 i = 0 ↔ lgB σ i = false)) : ∀ (d i m : Nat), i + d = rws σ 9 → d < m → (nxL (lgB σ) i = none ∧ L_M_beaten_4 K m (nI t) (nI i) τ = K (nI t) τ) ∨ (∃ w m', nxL (lgB σ) i = some w ∧ w < rws σ 9 ∧ rws σ 9 - (w + 1) < m' ∧ L_M_beaten_4 K m (nI t) (nI i) τ = bnd (f_M_rounds (nI t) (sA τ 98 (upd (τ.2.1 98) t (nI w)))) (fun _ σ38 => L_M_beaten_4 K m' (nI (t + 1)) (nI (w + 1)) σ38)) := by
  intro d
  induction d with
  | zero =>
    intro i m h1 h2
    obtain ⟨m, rfl⟩ : ∃ n, m = n + 1 := ⟨m - 1, by omega⟩
    exact Or.inl ⟨nxL_end (fun j hj _ => by unfold lgB; exact decide_eq_false (fun z => by omega)), by rw [L_M_beaten_4, h44, if_pos (nI_le (by omega) (by omega))]⟩
  | succ d ih =>
    intro i m h1 h2
    obtain ⟨m, rfl⟩ : ∃ n, m = n + 1 := ⟨m - 1, by omega⟩
    rw [L_M_beaten_4, h44, if_neg (nI_ge (by omega) (by omega)), if_neg (fun z => absurd ((lit_le 2 (by omega) (by omega)).1 z) (by omega)), gix_n (by omega) (by omega), rdn (by omega)]
    by_cases q : lgB σ i = false
    · rw [if_pos ((h88 i (by omega)).2 q), nI_1, nxL_no q]
      exact ih (i + 1) m (by omega) (by omega)
    · right
      rw [if_neg (fun z => q ((h88 i (by omega)).1 z)), gix_n ht (by omega), wrn (by omega)]
      refine ⟨i, m, nxL_yes (by omega) (Bool.of_not_eq_false q), by omega, by omega, ?_⟩
      simp only [nI_1]
theorem h88_of {σ τ : CS} (hI : IWar σ τ) : ∀ i, i < rws σ 9 → (τ.2.1 88 i = 0 ↔ lgB σ i = false) := by
  intro i hi
  obtain ⟨-, -, -, -, -, -, l⟩ := hI.2.1 i hi
  unfold lgB
  rcases l with ⟨l1, l2⟩ | ⟨l1, l2, -⟩
  · exact ⟨fun _ => decide_eq_false (fun z => z.2 l2), fun _ => l1⟩
  · refine ⟨fun z => absurd (l1.symm.trans z) i10, fun z => ?_⟩
    rw [decide_eq_false_iff_not] at z
    refine absurd ⟨hi, fun y => ?_⟩ z
    obtain ⟨b, b1, b2⟩ := l2
    rw [y] at b2
    exact nI_neg1 (by omega) b2.symm
theorem beatenM {σ τ : CS} (hW : WC σ) (hI : IWar σ τ) (hS : ISpo σ τ) : ∃ τ', FrM [101] [96, 97, 98, 99, 100] τ τ' ∧ ((fL σ = none ∧ f_M_beaten τ = some (0, τ')) ∨ (¬ fL σ = none ∧ f_M_beaten τ = some (1, τ') ∧ BstC (sZ σ) (fL σ) (scL σ) (rws σ 13) (bWy σ) (τ'.1 101) (τ'.2.1 100))) := by
  have h6 : rws σ 9 ≤ 6 := hW.hlim (t := 9) (by omega)
  have hM := toMys hW hS
  have hn := hM.2.1
  have fin : ∀ (two : Nat) (τ2 : CS), FrM [] [96, 97, 98] τ τ2 → GR (rws σ 13) (cF σ) (cS σ) (fL σ) (scL σ) two τ2 → ∃ τ', FrM [101] [96, 97, 98, 99, 100] τ τ' ∧ g_MG 16 0 0 0 0 0 (nI two) (sF τ2 101 (-1)) = some (0, τ') ∧ BstC (sZ σ) (fL σ) (scL σ) (rws σ 13) (bWy σ) (τ'.1 101) (τ'.2.1 100) := by
    intro two τ2 f2 g2
    have fa : FrM [101] [] τ2 (sF τ2 101 (-1)) := FrM.f1 _ _ (by decide)
    obtain ⟨τ', r1, r2, -, r4⟩ := givesM (n := rws σ 13) (X := sX σ) (Y := sY σ) (Z := sZ σ) (c1 := cF σ) (c2 := cS σ) (o1 := fL σ) (o2 := scL σ) (two := two) (rws σ 13) 0 0 16 (sF τ2 101 (-1)) (Nat.zero_add _) (by omega) (Nat.lt_of_lt_of_le Nat.zero_lt_one (Nat.le_refl _)) ((hM.fr f2 (by decide) (by decide)).fr fa (by decide) (by decide)) (g2.fr fa (by decide)) (fun i hi => by omega) (fun _ => rfl) (by
      rw [Nat.zero_mul]
      exact ⟨sF_self τ2 101 _, fun v hv => by cases hv⟩)
    refine ⟨τ', (f2.mono (by decide) (by decide)).trans ((fa.mono (by decide) (by decide)).trans (r2.mono (by decide) (by decide))), r1, ?_⟩
    rw [Nat.zero_add, Nat.one_mul] at r4
    exact r4
  unfold f_M_beaten
  rcases findM h6 B_M_beaten_50 (show 0 < 2 by omega) hI.1 (h88_of hI) (rws σ 9) 0 FU (Nat.zero_add _) (lt_FU (by omega)) with ⟨a1, a2⟩ | ⟨w, m', a1, a2, a3, a4⟩
  · have a2' : L_M_beaten_4 B_M_beaten_50 FU 0 0 τ = B_M_beaten_50 (nI 0) τ := a2
    refine ⟨sF τ 101 (-1), FrM.f1 _ _ (by decide), Or.inl ⟨a1, ?_⟩⟩
    rw [a2']
    rfl
  have a4' : L_M_beaten_4 B_M_beaten_50 FU 0 0 τ = _ := a4
  have e1 : fL σ = some w := a1
  have hl := fL_ok e1
  have fa : FrM [] [98] τ (sA τ 98 (upd (τ.2.1 98) 0 (nI w))) := FrM.f2 _ _ (by decide)
  obtain ⟨-, Md⟩ := toLdg hW hI hl
  obtain ⟨τ1, b1, b2, b3, b4⟩ := roundsM (hM.fr fa (by decide) (by decide)) (Md.fr fa (by decide)) (show 0 < 2 by omega) (by rw [sA_self]; unfold upd; rw [if_pos rfl])
  have F1 : FrM [] [96, 97, 98] τ τ1 := (fa.mono (by decide) (by decide)).trans (b2.mono (by decide) (by decide))
  have e98 : τ1.2.1 98 0 = oW (fL σ) := by
    rw [b2.2 98 (by decide), sA_self, e1]
    unfold upd
    rw [if_pos rfl]
    rfl
  have e97 : ∀ S, S < 2 ^ rws σ 13 → τ1.2.1 97 S = nI (b2n (cF σ S)) := fun S hs => by
    have := b3 S hs
    rw [Nat.mul_zero, Nat.zero_add] at this
    rw [this]
    unfold cF
    rw [e1]
    rfl
  have hI1 : τ1.1 44 = nI (rws σ 9) := (F1.1 44 (by decide)).trans hI.1
  have h881 : ∀ i, i < rws σ 9 → (τ1.2.1 88 i = 0 ↔ lgB σ i = false) := by
    rw [F1.2 88 (by decide)]
    exact h88_of hI
  rw [a4', b1, bnd_s]
  have ne : ¬ fL σ = none := by rw [e1]; exact fun z => by cases z
  rcases findM h6 B_M_beaten_50 (show 1 < 2 by omega) hI1 h881 (rws σ 9 - (w + 1)) (w + 1) m' (by omega) a3 with ⟨c1, c2⟩ | ⟨w2, m2, c1, c2, c3, c4⟩
  · have es : scL σ = none := by unfold scL; rw [e1]; exact c1
    obtain ⟨τ', r1, r2, r3⟩ := fin 0 τ1 F1 ⟨e97, e98, Or.inr ⟨rfl, fun S => by unfold cS; rw [es]; rfl⟩⟩
    refine ⟨τ', r1, Or.inr ⟨ne, ?_, r3⟩⟩
    have c2' : L_M_beaten_4 B_M_beaten_50 m' (nI (0 + 1)) (nI (w + 1)) τ1 = B_M_beaten_50 (nI 1) τ1 := c2
    have r2' : g_MG 16 0 0 0 0 0 0 (sF τ1 101 (-1)) = some (0, τ') := r2
    rw [c2']
    unfold B_M_beaten_50 B_M_beaten_74 B_M_beaten_77
    rw [if_neg (show ¬ nI 1 ≤ (0 : Int32) by decide), if_neg (show ¬ nI 1 = (2 : Int32) by decide), r2', bnd_s, if_neg (show ¬ nI 1 ≤ (0 : Int32) by decide)]
  · have es : scL σ = some w2 := by unfold scL; rw [e1]; exact c1
    have hl2 := scL_ok es
    have c4' : L_M_beaten_4 B_M_beaten_50 m' (nI (0 + 1)) (nI (w + 1)) τ1 = _ := c4
    have fb : FrM [] [98] τ1 (sA τ1 98 (upd (τ1.2.1 98) 1 (nI w2))) := FrM.f2 _ _ (by decide)
    obtain ⟨-, Md2⟩ := toLdg hW hI hl2
    obtain ⟨τ2, d1, d2, d3, d4⟩ := roundsM ((hM.fr F1 (by decide) (by decide)).fr fb (by decide) (by decide)) ((Md2.fr F1 (by decide)).fr fb (by decide)) (show 1 < 2 by omega) (by rw [sA_self]; unfold upd; rw [if_pos rfl])
    have F2 : FrM [] [96, 97, 98] τ τ2 := F1.trans ((fb.mono (by decide) (by decide)).trans (d2.mono (by decide) (by decide)))
    have p8 := pow8 hn
    obtain ⟨τ', r1, r2, r3⟩ := fin 1 τ2 F2 ⟨fun S hs => by
        rw [d4 S (Or.inl (by omega)), sA_ne _ _ (by decide)]
        exact e97 S hs, by
        rw [d2.2 98 (by decide), sA_self]
        unfold upd
        rw [if_neg (by omega)]
        exact e98, Or.inl ⟨rfl, fun S hs => by
          have := d3 S hs
          rw [Nat.mul_one] at this
          rw [this]
          unfold cS
          rw [es]
          rfl, by
          rw [d2.2 98 (by decide), sA_self, es]
          unfold upd
          rw [if_pos rfl]
          rfl⟩⟩
    refine ⟨τ', r1, Or.inr ⟨ne, ?_, r3⟩⟩
    obtain ⟨m2, rfl⟩ : ∃ n, m2 = n + 1 := ⟨m2 - 1, by omega⟩
    have e2 : L_M_beaten_4 B_M_beaten_50 (m2 + 1) (nI (1 + 1)) (nI (w2 + 1)) τ2 = B_M_beaten_50 (nI 2) τ2 := by
      rw [L_M_beaten_4, if_pos (show (2 : Int32) ≤ nI (1 + 1) by decide)]
      split <;> rfl
    have r2' : g_MG 16 0 0 0 0 0 1 (sF τ2 101 (-1)) = some (0, τ') := r2
    rw [c4', d1, bnd_s, e2]
    unfold B_M_beaten_50 B_M_beaten_74 B_M_beaten_77
    rw [if_neg (show ¬ nI 2 ≤ (0 : Int32) by decide), if_pos (show nI 2 = (2 : Int32) from rfl), r2', bnd_s, if_neg (show ¬ nI 2 ≤ (0 : Int32) by decide)]
theorem none_0 {σ : CS} (h : fL σ = none) {v : Nat} (hv : bWy σ = some v) : wth (sZ σ) (rws σ 13) v = 0 ∧ ∀ i, i < rws σ 13 → whD (fL σ) (scL σ) (dgi (rws σ 13) v i) = -1 := by
  have es : scL σ = none := by unfold scL; rw [h]
  have hV := (scn_ok _ v hv).2
  unfold Vw cF cS at hV
  rw [h, es, Bool.and_eq_true] at hV
  have z0 : dSt 0 (rws σ 13) v = 0 := of_decide_eq_true hV.1
  have z1 : dSt 1 (rws σ 13) v = 0 := of_decide_eq_true hV.2
  have d2 : ∀ i, i < rws σ 13 → dgi (rws σ 13) v i = 2 := by
    intro i hi
    have b0 : (dSt 0 (rws σ 13) v).testBit i = (decide (i < rws σ 13) && decide (dgi (rws σ 13) v i = 0)) := bs_bit _ i _
    have b1 : (dSt 1 (rws σ 13) v).testBit i = (decide (i < rws σ 13) && decide (dgi (rws σ 13) v i = 1)) := bs_bit _ i _
    rw [z0, Nat.zero_testBit, decide_eq_true hi, Bool.true_and] at b0
    rw [z1, Nat.zero_testBit, decide_eq_true hi, Bool.true_and] at b1
    have c0 := of_decide_eq_false b0.symm
    have c1 := of_decide_eq_false b1.symm
    have := dgi_lt (rws σ 13) v i
    omega
  refine ⟨sumN_zero _ (fun i hi => ?_), fun i hi => ?_⟩
  · unfold tm
    rw [if_pos (d2 i hi)]
  · rw [d2 i hi]
    rfl
abbrev JBea (σ τ σ1 τ1 : CS) : Prop := WC σ1 ∧ IBea σ1 ∧ FrC [67, 68] [27, 28, 29, 30, 31] σ σ1 ∧ FrM [0, 101] [96, 97, 98, 99, 100] τ τ1
theorem pm_beats {σ τ : CS} (hW : WC σ) (hI : IWar σ τ) (hS : ISpo σ τ) (hB : IBea σ) : ∃ v σ1 τ1, f_FC_beats σ = some (v, σ1) ∧ f_M_beats τ = some (v, τ1) ∧ τ1.1 0 = 0 ∧ JBea σ τ σ1 τ1 := by
  obtain ⟨σ1, g1, g2, g3, g4, g5⟩ := planC hW hI hS hB
  obtain ⟨τ1, k1, k2⟩ := beatenM hW (IWar.thr τ 0 hI) (ISpo.thr τ 0 hS)
  have D := Dat.of g3 (by decide) (by decide)
  obtain ⟨v, v1, v2, v3⟩ := id g5
  rw [ebW D] at v1
  rw [D.1, (eX D).2.2] at v2
  have F : FrM [0, 101] [96, 97, 98, 99, 100] τ τ1 := (FrM.f1 _ _ (by decide)).trans (k1.mono (by decide) (by decide))
  have z0 : τ1.1 0 = 0 := (k1.1 0 (by decide)).trans (sF_self τ 0 0)
  unfold f_FC_beats f_M_beats
  rw [g1, bnd_s, v2]
  refine ⟨_, σ1, τ1, rfl, ?_, z0, g2, Or.inl ⟨g4, g5⟩, g3, F⟩
  rcases k2 with ⟨a, b⟩ | ⟨a, b, c⟩
  · rw [b, bnd_s, if_pos rfl, (none_0 a v1).1]
    rfl
  · rw [b, bnd_s, if_neg i10, c.1, v1]
    rfl
theorem pm_beat {σ τ : CS} (hW : WC σ) (hI : IWar σ τ) (hS : ISpo σ τ) (hB : IBea σ) (a0 : Int32) : AgX (f_FC_beat a0 σ) (f_M_beat a0 τ) (fun c0 => c0 = 0 ∨ c0 = 3) (fun c0 => (if c0 = 0 then (0 : Int32) else 1)) (JBea σ τ) := by
  have h8 : rws σ 13 ≤ 8 := hW.hlim (t := 13) (by omega)
  have e92 : (sF τ 0 0).1 92 = nI (rws σ 13) := hS.1
  unfold f_FC_beat f_M_beat B_M_beat_25
  rw [hS.1]
  by_cases q0 : ∃ j, j < rws σ 13 ∧ a0 = nI j
  · obtain ⟨j, hj, rfl⟩ := q0
    obtain ⟨σ1, g1, g2, g3, g4, g5⟩ := planC hW hI hS hB
    obtain ⟨τ1, k1, k2⟩ := beatenM hW (IWar.thr τ 0 hI) (ISpo.thr τ 0 hS)
    have D := Dat.of g3 (by decide) (by decide)
    obtain ⟨v, v1, v2, v3⟩ := id g5
    rw [ebW D] at v1
    rw [D.1, efL D, esL D] at v3
    have F : FrM [0, 101] [96, 97, 98, 99, 100] τ τ1 := (FrM.f1 _ _ (by decide)).trans (k1.mono (by decide) (by decide))
    have z0 : τ1.1 0 = 0 := (k1.1 0 (by decide)).trans (sF_self τ 0 0)
    unfold f_Patrols_wardenOf
    simp only [tb_has1 hW 13 (by omega) hj, fm_idx1 hj (show rws σ 13 < 2147483648 by omega), bnd_s, if_neg i10, fm_bad0, if_true, g1]
    rw [if_neg (nI_pos (by omega)), if_neg (fun z => absurd ((lit_le 8 (by omega) (by omega)).1 z) (by omega)), gix_n (by omega) (by omega), rdn (by omega), v3 j hj, bnd_s]
    rcases k2 with ⟨a, b⟩ | ⟨a, b, c⟩
    · rw [b, bnd_s, if_pos rfl]
      exact AgX.mk 0 _ σ1 _ τ1 rfl (Or.inl rfl) rfl z0 (fun _ => (none_0 a v1).2 j hj) ⟨g2, Or.inl ⟨g4, g5⟩, g3, F⟩
    · rw [b, bnd_s, if_neg i10, gix_n (by omega) (by omega), rdn (by omega), c.2 v v1 j hj]
      exact AgX.mk 0 _ σ1 _ τ1 rfl (Or.inl rfl) rfl z0 (fun _ => rfl) ⟨g2, Or.inl ⟨g4, g5⟩, g3, F⟩
  · simp only [tb_has0 hW 13 (by omega) q0, fm_idx0 (show rws σ 13 < 2147483648 by omega) q0, bnd_s, if_true, fm_bad1, if_neg i10]
    exact AgX.mk 3 0 σ 0 _ rfl (Or.inr rfl) rfl rfl (fun z => absurd z (by decide)) ⟨hW, hB, FrC.refl _ _ _, (FrM.f1 _ _ (by decide)).trans (FrM.f1 _ _ (by decide))⟩
/-- a warden more changes no beat -/
theorem IBea.warden {σ : CS} (hW : WC σ) (hB : IBea σ) (a0 a1 a2 : Int32) {r : Int32 × Int32} {σ1 : CS} (h : f_FC_warden a0 a1 a2 σ = some (r, σ1)) : IBea σ1 := by
  have h40 : rws σ 9 ≤ 6 := hW.hlim (t := 9) (by omega)
  have same : ∀ {r' : Int32 × Int32}, some (r', σ) = some (r, σ1) → IBea σ1 := by
    intro r' e
    simp only [Option.some.injEq, Prod.mk.injEq] at e
    rw [← e.2]
    exact hB
  unfold f_FC_warden B_FC_warden_38 B_FC_warden_39 at h
  by_cases q0 : ∃ j, j < rws σ 6 ∧ a0 = nI j
  · obtain ⟨j, hj, rfl⟩ := q0
    simp only [tb_has1 hW 6 (by omega) hj, bnd_s, if_neg i10, if_true, fc_within] at h
    by_cases q1 : a1 < 1 ∨ 9 < a1
    · simp only [if_pos q1, if_true, bnd_s, if_neg i10] at h
      exact same h
    simp only [if_neg q1, if_neg i10] at h
    by_cases q2 : a2 < 0 ∨ 50 < a2
    · simp only [if_pos q2, if_true, bnd_s, if_neg i10] at h
      exact same h
    simp only [if_neg q2, if_neg i10, bnd_s, if_true, f_Courts_addWarden] at h
    by_cases q3 : rws σ 9 < 6
    · obtain ⟨σ2, e1, A1⟩ := tb_add hW 9 (by omega) q3
      obtain ⟨e2, A2⟩ := tb_putA A1 (by omega) 0 (by decide) (nI j) (ci := 0) rfl
      obtain ⟨e3, A3⟩ := tb_putA A2 (by omega) 1 (by decide) a1 (ci := 1) rfl
      obtain ⟨e4, A4⟩ := tb_putA A3 (by omega) 2 (by decide) a2 (ci := 2) rfl
      simp only [e1, bnd_s, e2, e3, e4, Option.some.injEq, Prod.mk.injEq] at h
      rw [← h.2]
      have f := A4.fr
      obtain ⟨-, b2, -, -, b5, b6⟩ := A4
      have hD : Dat σ (pt (pt (pt σ2 9 (rws σ 9) 0 (nI j)) 9 (rws σ 9) 1 a1) 9 (rws σ 9) 2 a2) := by
        refine ⟨f.fr (t := 13) (by decide), fun i c => f.fc (t := 13) (by decide) i c, fun i => ?_, fun i hi => ?_⟩
        · unfold lgB
          rw [b2]
          by_cases z : i = rws σ 9
          · rw [z, b5 5 (by decide), decide_eq_false (show ¬ (rws σ 9 < rws σ 9 ∧ ¬ cel σ 9 (rws σ 9) 5 = -1) from fun y => by omega)]
            exact decide_eq_false (fun y => y.2 rfl)
          · by_cases y : i < rws σ 9
            · rw [b6 i 5 y (by decide)]
              by_cases x : cel σ 9 i 5 = -1
              · rw [decide_eq_false (fun w => w.2 x), decide_eq_false (fun w => w.2 x)]
              · rw [decide_eq_true (show i < rws σ 9 + 1 ∧ ¬ cel σ 9 i 5 = -1 from ⟨by omega, x⟩), decide_eq_true ⟨y, x⟩]
            · rw [decide_eq_false (fun w => by omega), decide_eq_false (fun w => by omega)]
        · unfold lgB at hi
          rw [decide_eq_true_iff] at hi
          unfold wl
          rw [b6 i 3 hi.1 (by decide), b6 i 4 hi.1 (by decide), b6 i 5 hi.1 (by decide)]
      rcases hB with ⟨a, b⟩ | a
      · exact Or.inl ⟨(f.1 68 (by decide)).trans a, b.dat hD (f.1 67 (by decide)) (f.2 30 (by decide)).1⟩
      · exact Or.inr ((f.1 68 (by decide)).trans a)
    · simp only [tb_add_full hW 9 (by omega) q3, bnd_s, tb_put_neg 9 (show (-1 : Int32) < 0 by decide)] at h
      exact same h
  · simp only [tb_has0 hW 6 (by omega) q0, bnd_s, if_true] at h
    exact same h
