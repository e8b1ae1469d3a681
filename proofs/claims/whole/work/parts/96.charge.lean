/-! ===== layer 2: a charge ===== -/
theorem IPeo.pu {σ τ : CS} (hP : IPeo σ τ) (h : Nat) {v : Nat} (hv : v ≤ 1000000) : IPeo (pt σ 6 h 1 (nI v)) (sA τ 41 (upd (τ.2.1 41) h (nI v))) := by
  refine ⟨hP.1, fun i hi => ?_⟩
  obtain ⟨z0, z1, z2, z3, z4, z5, z6, z7⟩ := hP.2 i hi
  have pc : ∀ c, c < 4 → c ≠ 1 → cel (pt σ 6 h 1 (nI v)) 6 i c = cel σ 6 i c := fun c hc h1 => by
    rw [pt_cel _ _ _ _ _ _ _ (by decide) (show c < 4 from hc), if_neg (fun z => h1 z.2)]
  rw [pc 0 (by omega) (by omega), pc 2 (by omega) (by omega), pc 3 (by omega) (by omega), pt_cel _ _ _ _ _ _ _ (by decide) (by decide)]
  simp only [va_up, reduceIte, Nat.reduceEqDiff, pt_rws]
  refine ⟨z0, ?_, z2, z3, z4, ?_, z6, z7⟩
  · unfold upd
    by_cases q : i = h
    · rw [if_pos q, if_pos ⟨q, trivial⟩]
    · rw [if_neg q, if_neg (fun z => q z.1)]
      exact z1
  · by_cases q : i = h
    · rw [if_pos ⟨q, trivial⟩]
      exact ⟨v, hv, rfl⟩
    · rw [if_neg (fun z => q z.1)]
      exact z5
theorem charge_c {σ : CS} (hW : WC σ) {k q h a m wi oi s m2 : Nat} {al : Bool} (hk : k < rws σ 11) (hq : q < 3) (hh : h < rws σ 6) (ha : a ≤ 10000) (hm : m ≤ 1000000) (em : cel σ 6 h 1 = nI m) (hwi : wi < rws σ 9) (ewi : cel σ 11 k 9 = nI wi) (hoi : oi < rws σ 6) (eoi : cel σ 9 wi 0 = nI oi) (hs : s ≤ 50) (es : cel σ 9 wi 2 = nI s) (hal : cel σ 6 oi 2 = -1 ↔ al = true) (hm2 : m2 ≤ 1000000) (em2 : cel (pt σ 6 h 1 (nI (m - min m a))) 6 oi 1 = nI m2) :
    let x := min m a
    let cu := if al then x * s / 100 else 0
    let σ1 := pt σ 6 h 1 (nI (m - x))
    let σ2 := pt σ1 6 oi 1 (nI (min (m2 + cu) 1000000))
    let σ3 := sF σ2 63 (σ.1 63 + (nI x - nI cu))
    f_Courts_charge (nI k) (nI q) (nI h) (nI a) σ = some (nI x, pt (pt σ3 11 k (4 + q) (cel σ 11 k (4 + q) + nI x)) 11 k 7 (cel σ 11 k 7 + nI cu)) := by
  intro x cu σ1 σ2 σ3
  have hx : x ≤ 10000 := Nat.le_trans (Nat.min_le_right _ _) ha
  have hcu : cu ≤ 1000000 := by
    show (if al then x * s / 100 else 0) ≤ 1000000
    have : x * s ≤ 10000 * 50 := Nat.mul_le_mul hx hs
    split <;> omega
  have W1 : WC σ1 := pt_W hW _ _ _ _
  have W3 : WC σ3 := sF_W (pt_W (pt_W hW _ _ _ _) _ _ _ _) (by omega) _
  have c11 : ∀ i c, cel σ3 11 i c = cel σ 11 i c := fun i c => (pt_other σ1 6 oi 1 _ 11 i c (by omega)).trans (pt_other σ 6 h 1 _ 11 i c (by omega))
  have hlv : f_People_lives (nI oi) σ1 = some ((if al then 1 else 0), σ1) := by
    unfold f_People_lives
    rw [tb_has1 W1 6 (by omega) (show oi < rws σ1 6 from hoi), bnd_s, if_neg i10, tb_gl W1 6 (by omega) oi 2 hoi (by decide), bnd_s, show cel σ1 6 oi 2 = cel σ 6 oi 2 by rw [pt_cel _ _ _ _ _ _ _ (by decide) (by decide), if_neg (by omega)]]
    cases al with
    | true => rw [if_pos (hal.2 rfl)]; rfl
    | false => rw [if_neg (fun z => absurd (hal.1 z) (by decide))]; rfl
  have e75 : B_Courts_charge_75 (nI k) (nI q) (nI x) (nI oi) (nI cu) σ1 = some (nI x, pt (pt σ3 11 k (4 + q) (cel σ 11 k (4 + q) + nI x)) 11 k 7 (cel σ 11 k 7 + nI cu)) := by
    unfold B_Courts_charge_75
    rw [give_c W1 hoi hm2 em2 hcu, bnd_s]
    show bnd (f_Table_raise 11 (nI k) (4 + nI q) (nI x) σ3) _ = _
    have r4 : (4 : Int32) + nI q = nI (4 + q) := nI_add 4 q
    rw [tb_raise' W3 11 (by omega) k (4 + q) hk (show 4 + q < 13 by omega) (nI x) r4, bnd_s, c11, tb_raise (pt_W W3 _ _ _ _) 11 (by omega) k 7 hk (by decide), bnd_s, pt_cel _ _ _ _ _ _ _ (show 4 + q < 13 by omega) (by decide), if_neg (by omega), c11]
  unfold f_Courts_charge
  rw [if_neg (nI_neg1 (by have := hW.hlim (t := 6) (by omega); have : rws σ 6 ≤ 40 := this; omega)), pay_c hW hh hm em (by omega), bnd_s, tb_gl W1 11 (by omega) k 9 hk (by decide), bnd_s, pt_other _ _ _ _ _ _ _ _ (by omega), ewi, tb_gl W1 9 (by omega) wi 0 hwi (by decide), bnd_s, pt_other _ _ _ _ _ _ _ _ (by omega), eoi, hlv, bnd_s]
  cases al with
  | false =>
    rw [if_pos (by decide)]
    exact e75
  | true =>
    rw [if_neg (by decide), tb_gl W1 9 (by omega) wi 2 hwi (by decide), bnd_s, pt_other _ _ _ _ _ _ _ _ (by omega), es]
    have : nI x * nI s / 100 = nI cu := by
      rw [nI_mul]
      have : x * s ≤ 10000 * 50 := Nat.mul_le_mul hx hs
      exact nI_div (b := 100) (by omega) (by omega)
    exact (congrArg (fun z => B_Courts_charge_75 (nI k) (nI q) (nI x) (nI oi) z σ1) this).trans e75
theorem charge_m {σ τ : CS} (hW : WC σ) (hP : IPeo σ τ) {k q h a m wi oi s m2 : Nat} {al : Bool} (hk : k < 40) (hq : q < 3) (hh : h < rws σ 6) (ha : a ≤ 10000) (hm : m ≤ 1000000) (em : τ.2.1 41 h = nI m) (hwi : wi < 6) (ewi : τ.2.1 62 k = nI wi) (hoi : oi < rws σ 6) (eoi : τ.2.1 45 wi = nI oi) (hs : s ≤ 50) (es : τ.2.1 47 wi = nI s) (hal : cel σ 6 oi 2 = -1 ↔ al = true) (hm2 : m2 ≤ 1000000) (em2 : upd (τ.2.1 41) h (nI (m - min m a)) oi = nI m2) :
    let x := min m a
    let cu := if al then x * s / 100 else 0
    let p1 := upd (τ.2.1 41) h (nI (m - x))
    f_M_pays (nI k) (nI h) (nI q) (nI a) τ = some (0, sF (sA (sA (sA (sA (sA τ 41 p1) 68 (upd (τ.2.1 68) k (τ.2.1 68 k - nI x))) 69 (upd (τ.2.1 69) (3 * k + q) (τ.2.1 69 (3 * k + q) + nI x))) 70 (upd (τ.2.1 70) k (τ.2.1 70 k + nI cu))) 41 (upd p1 oi (nI (min (m2 + cu) 1000000)))) 39 (τ.1 39 + (nI x - nI cu))) := by
  intro x cu p1
  have h40 : rws σ 6 ≤ 40 := hW.hlim (t := 6) (by omega)
  have hx : x ≤ 10000 := Nat.le_trans (Nat.min_le_right _ _) ha
  have hcu : cu ≤ 1000000 := by
    show (if al then x * s / 100 else 0) ≤ 1000000
    have : x * s ≤ 10000 * 50 := Nat.mul_le_mul hx hs
    split <;> omega
  have r4 : (3 : Int32) * nI k + nI q = nI (3 * k + q) := by rw [show (3 : Int32) = nI 3 from rfl, nI_mul, nI_add]
  have e68 : B_M_pays_68 (nI k) (nI h) (nI q) (nI x) (nI wi) (nI cu) τ = some (0, sF (sA (sA (sA (sA (sA τ 41 p1) 68 (upd (τ.2.1 68) k (τ.2.1 68 k - nI x))) 69 (upd (τ.2.1 69) (3 * k + q) (τ.2.1 69 (3 * k + q) + nI x))) 70 (upd (τ.2.1 70) k (τ.2.1 70 k + nI cu))) 41 (upd p1 oi (nI (min (m2 + cu) 1000000)))) 39 (τ.1 39 + (nI x - nI cu))) := by
    unfold B_M_pays_68
    simp only [r4, gix_n (show h < 40 by omega) (show 40 < 2147483648 by omega), gix_n hk (show 40 < 2147483648 by omega), gix_n (show 3 * k + q < 120 by omega) (show 120 < 2147483648 by omega), gix_n hwi (show 6 < 2147483648 by omega), rdn (show h < 2147483648 by omega), rdn (show k < 2147483648 by omega), rdn (show 3 * k + q < 2147483648 by omega), rdn (show wi < 2147483648 by omega), wrn (show h < 2147483648 by omega), wrn (show k < 2147483648 by omega), wrn (show 3 * k + q < 2147483648 by omega), va_up, reduceIte, Nat.reduceEqDiff, eoi, em, nI_sub (show x ≤ m from Nat.min_le_left _ _)]
    rw [gains_m (h := oi) (m := m2) (a := cu) (by omega) hm2 (by simp only [va_up, reduceIte, Nat.reduceEqDiff]; exact em2) hcu, bnd_s]
    simp only [va_up, reduceIte, Nat.reduceEqDiff]
    rfl
  have e27 : B_M_pays_27 (nI k) (nI h) (nI q) (nI x) τ = B_M_pays_68 (nI k) (nI h) (nI q) (nI x) (nI wi) (nI cu) τ := by
    unfold B_M_pays_27
    rw [gix_n hk (by omega), rdn (show k < 2147483648 by omega), ewi, gix_n hwi (by omega), rdn (show wi < 2147483648 by omega), eoi, dead_m hW hP hoi, bnd_s, gix_n hwi (by omega), rdn (show wi < 2147483648 by omega), es]
    cases al with
    | false =>
      rw [if_neg (fun z => absurd (hal.1 z) (by decide)), if_neg (by decide)]
      rfl
    | true =>
      rw [if_pos (hal.2 rfl), if_pos rfl]
      have : nI x * nI s / 100 = nI cu := by
        rw [nI_mul]
        have : x * s ≤ 10000 * 50 := Nat.mul_le_mul hx hs
        exact nI_div (b := 100) (by omega) (by omega)
      rw [this]
  unfold f_M_pays
  rw [if_pos ((lit_le 0 (by omega) (by omega)).2 (Nat.zero_le _)), gix_n (show h < 40 by omega) (by omega), gix_n (show h < 40 by omega) (by omega), rdn (show h < 2147483648 by omega), em]
  by_cases z : a ≤ m
  · have ex : a = x := (Nat.min_eq_right z).symm
    rw [if_pos ((nI_leI (by omega) (by omega)).2 z), ex, e27, e68]
  · have ex : m = x := (Nat.min_eq_left (by omega)).symm
    rw [if_neg (fun y => z ((nI_leI (by omega) (by omega)).1 y)), show nI m = nI x from congrArg nI ex, e27, e68]
theorem charge_ag {σ τ : CS} (hW : WC σ) (hP : IPeo σ τ) (hA : IWar σ τ) {k q h a wi L : Nat} (hk : k < rws σ 11) (hq : q < 3) (hh : h < rws σ 6) (ha : a ≤ 10000) (hwi : wi < rws σ 9) (c9 : cel σ 11 k 9 = nI wi) (t62 : τ.2.1 62 k = nI wi) (hL : τ.2.1 68 k = nI L) (haL : a ≤ L) (hc : τ.1 39 = σ.1 63) :
    ∃ x cu σ' τ', x ≤ a ∧ f_Courts_charge (nI k) (nI q) (nI h) (nI a) σ = some (nI x, σ') ∧ f_M_pays (nI k) (nI h) (nI q) (nI a) τ = some (0, τ') ∧ WC σ' ∧ IPeo σ' τ' ∧ FrC [63] [6, 11] σ σ' ∧ FrM [39] [41, 68, 69, 70] τ τ' ∧ τ'.1 39 = σ'.1 63 ∧ τ'.2.1 68 = upd (τ.2.1 68) k (nI (L - x)) ∧ τ'.2.1 69 = upd (τ.2.1 69) (3 * k + q) (τ.2.1 69 (3 * k + q) + nI x) ∧ τ'.2.1 70 = upd (τ.2.1 70) k (τ.2.1 70 k + nI cu) ∧ ∀ i c, c < 13 → cel σ' 11 i c = if i = k ∧ c = 7 then cel σ 11 k 7 + nI cu else if i = k ∧ c = 4 + q then cel σ 11 k (4 + q) + nI x else cel σ 11 i c := by
  have h40 : rws σ 11 ≤ 40 := hW.hlim (t := 11) (by omega)
  have h6 : rws σ 9 ≤ 6 := hW.hlim (t := 9) (by omega)
  obtain ⟨-, y1, -, -, -, ⟨m, hm, em⟩, -⟩ := hP.2 h hh
  obtain ⟨w0, -, w2, ⟨oi, hoi, eoi⟩, -, ⟨s, hs, es⟩, -⟩ := hA.2.1 wi hwi
  have hP1 := hP.pu h (v := m - min m a) (by omega)
  obtain ⟨-, u1, -, -, -, ⟨m2, hm2, em2⟩, -⟩ := hP1.2 oi hoi
  obtain ⟨al, hal⟩ : ∃ al : Bool, cel σ 6 oi 2 = -1 ↔ al = true := ⟨decide (cel σ 6 oi 2 = -1), by simp⟩
  have gC := charge_c hW (al := al) hk hq hh ha hm em hwi c9 hoi eoi hs es hal hm2 em2
  have em2' : upd (τ.2.1 41) h (nI (m - min m a)) oi = nI m2 := by
    rw [em2] at u1
    simpa only [va_up, reduceIte] using u1
  have gM := charge_m hW hP (al := al) (show k < 40 by omega) hq hh ha hm (y1.trans em) (show wi < 6 by omega) t62 hoi (w0.trans eoi) hs (w2.trans es) hal hm2 em2'
  dsimp only at gC gM
  generalize ecu : (if al then min m a * s / 100 else 0) = cu at gC gM
  have hx : min m a ≤ a := Nat.min_le_right _ _
  generalize min m a = x at *
  have hP2 := hP1.pu oi (v := min (m2 + cu) 1000000) (by omega)
  refine ⟨x, cu, _, _, hx, gC, gM, sF_W (pt_W (pt_W hW _ _ _ _) _ _ _ _) (by omega) _, ?_, ?_, ?_, ?_, ?_, ?_, ?_, fun i c hc => ?_⟩
  · refine hP2.fr rfl ?_ rfl rfl ?_ rfl rfl
    · rw [pt_arr _ _ _ _ _ _ (by omega), pt_arr _ _ _ _ _ _ (by omega)]
    · simp only [va_up, reduceIte, Nat.reduceEqDiff]
  · exact (FrC.f3 _ _ _ _ (by decide)).trans ((FrC.f3 _ _ _ _ (by decide)).trans ((FrC.f1 _ _ (by decide)).trans ((FrC.f3 _ _ _ _ (by decide)).trans (FrC.f3 _ _ _ _ (by decide)))))
  · exact (FrM.f2 _ _ (by decide)).trans ((FrM.f2 _ _ (by decide)).trans ((FrM.f2 _ _ (by decide)).trans ((FrM.f2 _ _ (by decide)).trans ((FrM.f2 _ _ (by decide)).trans (FrM.f1 _ _ (by decide))))))
  · simp only [pt_1, va_up, reduceIte, Nat.reduceEqDiff, hc]
  · simp only [va_up, reduceIte, Nat.reduceEqDiff, hL]
    rw [nI_sub (by omega)]
  · simp only [va_up, reduceIte, Nat.reduceEqDiff]
  · simp only [va_up, reduceIte, Nat.reduceEqDiff]
  · rw [pt_cel _ _ _ _ _ _ _ (by decide) (show c < 13 from hc), pt_cel _ _ _ _ _ _ _ (show 4 + q < 13 by omega) (show c < 13 from hc)]
    have : cel (sF (pt (pt σ 6 h 1 (nI (m - x))) 6 oi 1 (nI (min (m2 + cu) 1000000))) 63 (σ.1 63 + (nI x - nI cu))) 11 i c = cel σ 11 i c := (pt_other _ 6 oi 1 _ 11 i c (by omega)).trans (pt_other σ 6 h 1 _ 11 i c (by omega))
    rw [this]
