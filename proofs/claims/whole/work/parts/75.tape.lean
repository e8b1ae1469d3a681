/-! ===== layer 2: tape, marks, rings (their plain calls) ===== -/
def ITap (σ τ : CS) : Prop := τ.1 7 = nI (rws σ 0) ∧ ∀ i, i < rws σ 0 → cel σ 0 i 0 = τ.2.1 6 i &&& 255
theorem ITap.fr {σ τ σ' τ' : CS} (h : ITap σ τ) (e1 : σ'.1 2 = σ.1 2) (e2 : σ'.2.1 0 = σ.2.1 0) (e3 : τ'.1 7 = τ.1 7) (e4 : τ'.2.1 6 = τ.2.1 6) : ITap σ' τ' := by
  have r : rws σ' 0 = rws σ 0 := by unfold rws; rw [show 3 * 0 + 2 = 2 from rfl, e1]
  have c : ∀ i c, cel σ' 0 i c = cel σ 0 i c := fun i c => by unfold cel; rw [e2]
  unfold ITap
  simp only [r, c, e3, e4]
  exact h
theorem ITap.thr {σ : CS} (τ : CS) (c : Int32) (h : ITap σ τ) : ITap σ (sF τ 0 c) := h.fr rfl rfl rfl rfl
theorem b255 : ∀ i, i < 32 → 8 ≤ i → (255#32).getLsbD i = false := by decide
theorem byt_bv (x : BitVec 32) (s : Nat) (hs : s ≤ 24) : (x >>> s) &&& 255#32 = (BitVec.signExtend 32 (BitVec.signExtend 8 (BitVec.signExtend 32 (BitVec.signExtend 8 (x.sshiftRight s))))) &&& 255#32 := by
  apply BitVec.eq_of_getLsbD_eq
  intro i hi
  rw [BitVec.getLsbD_and, BitVec.getLsbD_and]
  by_cases h : i < 8
  · have h1 : i < 32 := by omega
    have h2 : ¬ 32 ≤ i := by omega
    have h3 : s + i < 32 := by omega
    simp only [BitVec.getLsbD_signExtend, h, h1, h2, h3, if_true, decide_true, decide_false, Bool.not_false, Bool.true_and, BitVec.getLsbD_sshiftRight, BitVec.getLsbD_ushiftRight]
  · rw [b255 i hi (by omega), Bool.and_false, Bool.and_false]
theorem byt_eq (x y : Int32) (s : Nat) (hs : s = 24 ∨ s = 16 ∨ s = 8 ∨ s = 0) (hy : y = nI s) : ((x.toUInt32 >>> (y.toUInt32 &&& Int32.toUInt32 31)).toInt32) &&& 255 = (vp_nar .byte ((x >>> (y &&& 31)).toInt8.toInt32)) &&& 255 := by
  subst hy
  apply Int32.toBitVec_inj.mp
  simp only [vp_nar, narrow, Int32.toBitVec_and, UInt32.toBitVec_toInt32, UInt32.toBitVec_shiftRight, Int32.toBitVec_shiftRight, Int8.toBitVec_toInt32, Int32.toBitVec_toInt8, Int32.toBitVec_toUInt32]
  rcases hs with rfl | rfl | rfl | rfl
  · rw [show ((nI 24).toUInt32 &&& Int32.toUInt32 31).toBitVec % 32 = 24#32 by decide, show ((nI 24).toBitVec &&& Int32.toBitVec 31).smod 32 = 24#32 by decide]
    exact byt_bv x.toBitVec 24 (by omega)
  · rw [show ((nI 16).toUInt32 &&& Int32.toUInt32 31).toBitVec % 32 = 16#32 by decide, show ((nI 16).toBitVec &&& Int32.toBitVec 31).smod 32 = 16#32 by decide]
    exact byt_bv x.toBitVec 16 (by omega)
  · rw [show ((nI 8).toUInt32 &&& Int32.toUInt32 31).toBitVec % 32 = 8#32 by decide, show ((nI 8).toBitVec &&& Int32.toBitVec 31).smod 32 = 8#32 by decide]
    exact byt_bv x.toBitVec 8 (by omega)
  · rw [show ((nI 0).toUInt32 &&& Int32.toUInt32 31).toBitVec % 32 = 0#32 by decide, show ((nI 0).toBitVec &&& Int32.toBitVec 31).smod 32 = 0#32 by decide]
    exact byt_bv x.toBitVec 0 (by omega)
abbrev JTap := Jg [2] [0] [0, 7] [6] ITap
/-- one byte more on both tapes -/
theorem byte1 {σ τ : CS} (hW : WC σ) (hP : ITap σ τ) (h4 : rws σ 0 < 400) (x y v : Int32) (hv : y = v &&& 255) : ∃ σ', bnd (f_Table_add 0 σ) (fun r15 σ15 => bnd (f_Table_put 0 r15 0 y σ15) (fun _ σ26 => some (x, σ26))) = some (x, σ') ∧ WC σ' ∧ ITap σ' (sF (wr τ 6 (τ.1 7) v) 7 (τ.1 7 + 1)) ∧ FrC [2] [0] σ σ' ∧ rws σ' 0 = rws σ 0 + 1 := by
  obtain ⟨σ1, e1, A1⟩ := tb_add hW 0 (by omega) h4
  obtain ⟨e2, A2⟩ := tb_putA A1 (by omega) 0 (by decide) y (ci := 0) rfl
  refine ⟨_, by rw [e1, bnd_s, e2, bnd_s], A2.1, ?_, A2.fr, A2.2.1⟩
  obtain ⟨-, b2, -, -, b5, b6⟩ := A2
  rw [hP.1, wrn (by omega)]
  refine ⟨?_, fun i hi => ?_⟩
  · rw [b2]
    simp only [va_up, reduceIte, nI_1]
  · rw [b2] at hi
    simp only [va_up, reduceIte, Nat.reduceEqDiff, upd]
    by_cases qi : i = rws σ 0
    · subst qi
      rw [b5 0 (by decide), if_pos rfl]
      exact hv
    · rw [b6 i 0 (by omega) (by decide), if_neg qi]
      exact hP.2 i (by omega)
theorem bnd_bnd {Y S X Z T : Type} (o : Option (Y × S)) (k : Y → S → Option (Z × T)) (l : Z → T → Option X) : bnd (bnd o k) l = bnd o (fun y s => bnd (k y s) l) := by
  cases o with
  | none => rfl
  | some q => rfl
theorem byte_step {σ τ : CS} (hW : WC σ) (hP : ITap σ τ) (h4 : rws σ 0 < 400) (x : Int32) (s : Nat) (hs : s = 24 ∨ s = 16 ∨ s = 8 ∨ s = 0) (n m : Nat) (k23 : Int32 → CS → Option (Int32 × CS)) (x1 x2 x3 x4 x5 x6 : Int32) : ∃ σ' τ', L_FC_addBytes_3 x (n + 1) (nI s) σ = L_FC_addBytes_3 x n (nI s + (-8)) σ' ∧ L_M_feed_77 k23 x1 x2 x3 x4 x5 x6 x (m + 1) (nI s) τ = L_M_feed_77 k23 x1 x2 x3 x4 x5 x6 x m (nI s + (-8)) τ' ∧ WC σ' ∧ ITap σ' τ' ∧ FrC [2] [0] σ σ' ∧ FrM [0, 7] [6] τ τ' ∧ rws σ' 0 = rws σ 0 + 1 ∧ τ'.1 0 = τ.1 0 := by
  obtain ⟨σ', e1, e2, e3, e4, e5⟩ := byte1 hW hP h4 0 _ _ (byt_eq x (nI s) s hs rfl)
  refine ⟨σ', _, ?_, ?_, e2, e3, e4, (FrM.f2 _ _ (by decide)).trans (FrM.f1 _ _ (by decide)), e5, ?_⟩
  · show (if nI s < 0 then _ else _) = _
    rw [if_neg (nI_pos (by omega))]
    have := congrArg (fun o => bnd o (fun _ s1 => L_FC_addBytes_3 x n (nI s + (-8)) s1)) e1
    simp only [bnd_bnd, bnd_s] at this
    exact this
  · show (if nI s < 0 then _ else _) = _
    rw [if_neg (nI_pos (by omega)), hP.1, gix_n h4 (by omega)]
  · simp only [va_up, reduceIte, Nat.reduceEqDiff]
theorem bytes4 {σ τ : CS} (hW : WC σ) (hP : ITap σ τ) (h4 : rws σ 0 + 4 ≤ 400) (x : Int32) (k23 : Int32 → CS → Option (Int32 × CS)) (x1 x2 x3 x4 x5 x6 : Int32) : ∃ σ' τ', f_FC_addBytes x σ = some (0, σ') ∧ L_M_feed_77 k23 x1 x2 x3 x4 x5 x6 x FU 24 τ = k23 (x6 + 1) τ' ∧ WC σ' ∧ ITap σ' τ' ∧ FrC [2] [0] σ σ' ∧ FrM [0, 7] [6] τ τ' ∧ rws σ' 0 = rws σ 0 + 4 ∧ τ'.1 0 = τ.1 0 := by
  obtain ⟨σ1, τ1, a1, a2, a3, a4, a5, a6, a7, a8⟩ := byte_step hW hP (by omega) x 24 (by omega) 999999 999999 k23 x1 x2 x3 x4 x5 x6
  obtain ⟨σ2, τ2, b1, b2, b3, b4, b5, b6, b7, b8⟩ := byte_step a3 a4 (by omega) x 16 (by omega) 999998 999998 k23 x1 x2 x3 x4 x5 x6
  obtain ⟨σ3, τ3, c1, c2, c3, c4, c5, c6, c7, c8⟩ := byte_step b3 b4 (by omega) x 8 (by omega) 999997 999997 k23 x1 x2 x3 x4 x5 x6
  obtain ⟨σ4, τ4, d1, d2, d3, d4, d5, d6, d7, d8⟩ := byte_step c3 c4 (by omega) x 0 (by omega) 999996 999996 k23 x1 x2 x3 x4 x5 x6
  refine ⟨σ4, τ4, ?_, ?_, d3, d4, ((a5.trans b5).trans c5).trans d5, ((a6.trans b6).trans c6).trans d6, by omega, by rw [d8, c8, b8, a8]⟩
  · unfold f_FC_addBytes FU
    refine a1.trans ?_
    rw [show nI 24 + (-8) = nI 16 by decide]
    refine b1.trans ?_
    rw [show nI 16 + (-8) = nI 8 by decide]
    refine c1.trans ?_
    rw [show nI 8 + (-8) = nI 0 by decide]
    refine d1.trans ?_
    show (if nI 0 + (-8) < 0 then _ else _) = _
    rw [if_pos (by decide)]
  · unfold FU
    refine a2.trans ?_
    rw [show nI 24 + (-8) = nI 16 by decide]
    refine b2.trans ?_
    rw [show nI 16 + (-8) = nI 8 by decide]
    refine c2.trans ?_
    rw [show nI 8 + (-8) = nI 0 by decide]
    refine d2.trans ?_
    show (if nI 0 + (-8) < 0 then _ else _) = _
    rw [if_pos (by decide)]
theorem feed_step {τ : CS} (a0 a1 a2 a3 a4 : Int32) (n w : Nat) (hw : w < 5) : L_M_feed_23 a0 a1 a2 a3 a4 (n + 1) (nI w) τ = L_M_feed_77 (L_M_feed_23 a0 a1 a2 a3 a4 n) a0 a1 a2 a3 a4 (nI w) (if w = 0 then a0 else if w = 1 then a1 else if w = 2 then a2 else if w = 3 then a3 else a4) FU 24 τ := by
  show (if (5 : Int32) ≤ nI w then _ else _) = _
  rw [if_neg (fun z => absurd ((lit_le 5 (by omega) (by omega)).mp z) (by omega))]
  obtain rfl | rfl | rfl | rfl | rfl : w = 0 ∨ w = 1 ∨ w = 2 ∨ w = 3 ∨ w = 4 := by omega
  · rw [if_pos (show nI 0 = 0 by decide), if_pos rfl]
  · rw [if_neg (show ¬ nI 1 = 0 by decide), if_pos (show nI 1 = 1 by decide), if_neg (by decide), if_pos rfl]
  · rw [if_neg (show ¬ nI 2 = 0 by decide), if_neg (show ¬ nI 2 = 1 by decide), if_pos (show nI 2 = 2 by decide), if_neg (by decide), if_neg (by decide), if_pos rfl]
  · rw [if_neg (show ¬ nI 3 = 0 by decide), if_neg (show ¬ nI 3 = 1 by decide), if_neg (show ¬ nI 3 = 2 by decide), if_pos (show nI 3 = 3 by decide), if_neg (by decide), if_neg (by decide), if_neg (by decide), if_pos rfl]
  · rw [if_neg (show ¬ nI 4 = 0 by decide), if_neg (show ¬ nI 4 = 1 by decide), if_neg (show ¬ nI 4 = 2 by decide), if_neg (show ¬ nI 4 = 3 by decide), if_neg (by decide), if_neg (by decide), if_neg (by decide), if_neg (by decide)]
theorem pm_feed {σ τ : CS} (hW : WC σ) (hP : ITap σ τ) (a0 a1 a2 a3 a4 : Int32) : ∃ v σ1 τ1, f_FC_feed a0 a1 a2 a3 a4 σ = some (v, σ1) ∧ f_M_feed a0 a1 a2 a3 a4 τ = some (v, τ1) ∧ JTap σ τ σ1 τ1 := by
  have h40 : rws σ 0 ≤ 400 := hW.hlim (t := 0) (by omega)
  unfold f_FC_feed f_M_feed
  simp only [tb_size hW 0 (by omega), bnd_s, hP.1]
  have e20 : nI (rws σ 0) + 20 = nI (rws σ 0 + 20) := nI_add _ 20
  rw [e20]
  by_cases q : rws σ 0 + 20 ≤ 400
  · rw [if_pos ((le_lit 400 (by omega) (by omega)).mpr q), if_pos ((le_lit 400 (by omega) (by omega)).mpr q)]
    have hP0 := ITap.thr τ 0 hP
    obtain ⟨σ1, τ1, x1, y1, w1, p1, f1, g1, r1, -⟩ := bytes4 hW hP0 (by omega) a0 (L_M_feed_23 a0 a1 a2 a3 a4 999999) a0 a1 a2 a3 a4 (nI 0)
    obtain ⟨σ2, τ2, x2, y2, w2, p2, f2, g2, r2, -⟩ := bytes4 w1 p1 (by omega) a1 (L_M_feed_23 a0 a1 a2 a3 a4 999998) a0 a1 a2 a3 a4 (nI 1)
    obtain ⟨σ3, τ3, x3, y3, w3, p3, f3, g3, r3, -⟩ := bytes4 w2 p2 (by omega) a2 (L_M_feed_23 a0 a1 a2 a3 a4 999997) a0 a1 a2 a3 a4 (nI 2)
    obtain ⟨σ4, τ4, x4, y4, w4, p4, f4, g4, r4, -⟩ := bytes4 w3 p3 (by omega) a3 (L_M_feed_23 a0 a1 a2 a3 a4 999996) a0 a1 a2 a3 a4 (nI 3)
    obtain ⟨σ5, τ5, x5, y5, w5, p5, f5, g5, r5, -⟩ := bytes4 w4 p4 (by omega) a4 (L_M_feed_23 a0 a1 a2 a3 a4 999995) a0 a1 a2 a3 a4 (nI 4)
    rw [x1, bnd_s, x2, bnd_s, x3, bnd_s, x4, bnd_s, x5, bnd_s, tb_size w5 0 (by omega), bnd_s]
    refine ⟨_, σ5, τ5, rfl, ?_, w5, p5, (((f1.trans f2).trans f3).trans f4).trans f5, ((((FrM.f1 _ _ (by decide)).trans g1).trans g2).trans g3 |>.trans g4).trans g5⟩
    rw [show FU = 999999 + 1 from rfl, show (0 : Int32) = nI 0 from rfl, feed_step _ _ _ _ _ _ 0 (by omega), if_pos rfl]
    refine y1.trans ?_
    rw [nI_1, feed_step _ _ _ _ _ 999998 1 (by omega)]
    refine y2.trans ?_
    rw [nI_1, feed_step _ _ _ _ _ 999997 2 (by omega)]
    refine y3.trans ?_
    rw [nI_1, feed_step _ _ _ _ _ 999996 3 (by omega)]
    refine y4.trans ?_
    rw [nI_1, feed_step _ _ _ _ _ 999995 4 (by omega)]
    refine y5.trans ?_
    rw [nI_1]
    show (if (5 : Int32) ≤ nI 5 then _ else _) = _
    rw [if_pos (by decide), p5.1]
  · rw [if_neg (fun z => q ((le_lit 400 (by omega) (by omega)).mp z)), if_neg (fun z => q ((le_lit 400 (by omega) (by omega)).mp z))]
    exact ⟨_, σ, _, rfl, rfl, Jg.thr hW ITap.thr hP (by decide) _⟩

/-! marks -/
def cnt (P : Nat → Bool) : Nat → Nat
  | 0 => 0
  | n + 1 => cnt P n + (if P n then 1 else 0)
theorem cnt_le (P : Nat → Bool) : ∀ n, cnt P n ≤ n := by
  intro n
  induction n with
  | zero => exact Nat.le_refl _
  | succ n ih =>
    show cnt P n + (if P n then 1 else 0) ≤ n + 1
    split <;> omega
theorem cnt_congr {P Q : Nat → Bool} : ∀ n, (∀ i, i < n → P i = Q i) → cnt P n = cnt Q n := by
  intro n
  induction n with
  | zero => intro _; rfl
  | succ n ih =>
    intro h
    show cnt P n + (if P n then 1 else 0) = cnt Q n + (if Q n then 1 else 0)
    rw [ih (fun i hi => h i (by omega)), h n (by omega)]
def nmd (σ : CS) (x : Int32) (i : Nat) : Bool := decide (cel σ 1 i 0 = x)
def IMar (σ τ : CS) : Prop := τ.1 2 = nI (rws σ 1) ∧ (∀ i, i < rws σ 1 → τ.2.1 3 i = cel σ 1 i 0 ∧ τ.2.1 4 i = cel σ 1 i 1 ∧ τ.2.1 5 i = cel σ 1 i 2 ∧ Rg (cel σ 1 i 1) 999 ∧ Rg (cel σ 1 i 2) 999) ∧ ∀ x, cnt (nmd σ x) (rws σ 1) ≤ 4
theorem IMar.fr {σ τ σ' τ' : CS} (h : IMar σ τ) (e1 : σ'.1 5 = σ.1 5) (e2 : σ'.2.1 1 = σ.2.1 1) (e3 : τ'.1 2 = τ.1 2) (e4 : τ'.2.1 3 = τ.2.1 3) (e5 : τ'.2.1 4 = τ.2.1 4) (e6 : τ'.2.1 5 = τ.2.1 5) : IMar σ' τ' := by
  have r : rws σ' 1 = rws σ 1 := by unfold rws; rw [show 3 * 1 + 2 = 5 from rfl, e1]
  have c : ∀ i c, cel σ' 1 i c = cel σ 1 i c := fun i c => by unfold cel; rw [e2]
  have n : ∀ x, nmd σ' x = nmd σ x := fun x => by funext i; unfold nmd; rw [c]
  unfold IMar
  simp only [r, c, n, e3, e4, e5, e6]
  exact h
theorem IMar.thr {σ : CS} (τ : CS) (c : Int32) (h : IMar σ τ) : IMar σ (sF τ 0 c) := h.fr rfl rfl rfl rfl rfl rfl
abbrev JMar (σ τ σ1 τ1 : CS) : Prop := Jg [5] [1] [0, 2] [3, 4, 5] IMar σ τ σ1 τ1 ∧ rws σ 1 ≤ rws σ1 1 ∧ ∀ i c, i < rws σ 1 → c < 3 → cel σ1 1 i c = cel σ 1 i c
theorem mark_loopC {σ : CS} (hW : WC σ) (x y z : Int32) (K : Int32 → Int32 → Int32 → Int32 → CS → Option (Int32 × CS)) : ∀ (d j m : Nat), j + d = rws σ 1 → d < m → L_Ground_addMark_6 K x y z m (nI (cnt (nmd σ x) j)) (nI j) σ = K x y z (nI (cnt (nmd σ x) (rws σ 1))) σ := by
  have h40 : rws σ 1 ≤ 40 := hW.hlim (t := 1) (by omega)
  intro d
  induction d with
  | zero =>
    intro j m h1 h2
    obtain ⟨m, rfl⟩ : ∃ q, m = q + 1 := ⟨m - 1, by omega⟩
    have hj : j = rws σ 1 := by omega
    subst hj
    show bnd (f_Table_size 1 σ) _ = _
    rw [tb_size hW 1 (by omega), bnd_s, if_pos (nI_le (Nat.le_refl _) (by omega))]
  | succ d ih =>
    intro j m h1 h2
    obtain ⟨m, rfl⟩ : ∃ q, m = q + 1 := ⟨m - 1, by omega⟩
    have e : cnt (nmd σ x) (j + 1) = cnt (nmd σ x) j + (if nmd σ x j then 1 else 0) := rfl
    have hh := ih (j + 1) m (by omega) (by omega)
    rw [← hh]
    show bnd (f_Table_size 1 σ) _ = _
    rw [tb_size hW 1 (by omega), bnd_s, if_neg (nI_ge (by omega) (by omega)), tb_gl hW 1 (by omega) j 0 (by omega) (by decide), bnd_s, e]
    by_cases q : cel σ 1 j 0 = x
    · rw [if_pos q, show nmd σ x j = true from decide_eq_true q, if_pos rfl, nI_1, nI_1]
    · rw [if_neg q, show nmd σ x j = false from decide_eq_false q, if_neg (by decide), nI_1, Nat.add_zero (cnt (nmd σ x) j)]
theorem mark_loopM {σ τ : CS} (hW : WC σ) (hP : IMar σ τ) (x y z : Int32) (K : Int32 → Int32 → Int32 → Int32 → CS → Option (Int32 × CS)) : ∀ (d j m : Nat), j + d = rws σ 1 → d < m → L_M_mark_66 K x y z m (nI (cnt (nmd σ x) j)) (nI j) τ = K x y z (nI (cnt (nmd σ x) (rws σ 1))) τ := by
  have h40 : rws σ 1 ≤ 40 := hW.hlim (t := 1) (by omega)
  intro d
  induction d with
  | zero =>
    intro j m h1 h2
    obtain ⟨m, rfl⟩ : ∃ q, m = q + 1 := ⟨m - 1, by omega⟩
    have hj : j = rws σ 1 := by omega
    subst hj
    show (if τ.1 2 ≤ _ then _ else _) = _
    rw [hP.1, if_pos (nI_le (Nat.le_refl _) (by omega))]
  | succ d ih =>
    intro j m h1 h2
    obtain ⟨m, rfl⟩ : ∃ q, m = q + 1 := ⟨m - 1, by omega⟩
    have e : cnt (nmd σ x) (j + 1) = cnt (nmd σ x) j + (if nmd σ x j then 1 else 0) := rfl
    have hh := ih (j + 1) m (by omega) (by omega)
    rw [← hh]
    show (if τ.1 2 ≤ _ then _ else _) = _
    rw [hP.1, if_neg (nI_ge (by omega) (by omega)), gix_n (by omega) (by omega), rdn (by omega), (hP.2.1 j (by omega)).1, e]
    by_cases q : cel σ 1 j 0 = x
    · rw [if_pos q, show nmd σ x j = true from decide_eq_true q, if_pos rfl, B_M_mark_93, nI_1, nI_1]
    · rw [if_neg q, show nmd σ x j = false from decide_eq_false q, if_neg (by decide), B_M_mark_93, nI_1, Nat.add_zero (cnt (nmd σ x) j), show nI (cnt (nmd σ x) j) + 0 = nI (cnt (nmd σ x) j) from nI_add _ 0]
theorem pm_mark {σ τ : CS} (hW : WC σ) (hP : IMar σ τ) (a0 a1 a2 : Int32) : AgX (f_FC_mark a0 a1 a2 σ) (f_M_mark a0 a1 a2 τ) (fun c0 => c0 = 0 ∨ c0 = 1 ∨ c0 = 2) (fun c0 => (if c0 = 0 then (0 : Int32) else if c0 = 1 then 1 else 2)) (JMar σ τ) := by
  have h40 : rws σ 1 ≤ 40 := hW.hlim (t := 1) (by omega)
  have thr2 : ∀ c, JMar σ τ σ (sF (sF τ 0 0) 0 c) := fun c => ⟨Jg.thr2 hW IMar.thr hP (by decide) _ _, Nat.le_refl _, fun _ _ _ _ => rfl⟩
  unfold f_FC_mark f_M_mark B_FC_mark_22
  simp only [fc_within, fm_in, fc_isPlace, fm_isPlace, bnd_s]
  by_cases q0 : a0 < 0 ∨ 19 < a0
  · simp only [if_pos q0, if_true, B_FC_mark_23, B_M_mark_29, fm_bad1, bnd_s, if_neg i10]
    exact AgX.mk 1 0 σ 0 _ rfl (Or.inr (Or.inl rfl)) rfl rfl (fun z => absurd z (by decide)) (thr2 _)
  simp only [if_neg q0, if_neg i10]
  by_cases q1 : badP a1 a2
  · simp only [if_pos q1, if_true, B_FC_mark_23, B_M_mark_29, fm_bad1, bnd_s, if_neg i10]
    exact AgX.mk 1 0 σ 0 _ rfl (Or.inr (Or.inl rfl)) rfl rfl (fun z => absurd z (by decide)) (thr2 _)
  simp only [if_neg q1, if_neg i10, B_FC_mark_23, B_M_mark_29, fm_bad0, bnd_s, if_true, tb_full hW 1 (by omega), va_up, reduceIte, Nat.reduceEqDiff, hP.1]
  by_cases q2 : rws σ 1 < lim 1
  · have q2' : rws σ 1 < 40 := q2
    rw [if_neg (fun z => (nI_full (n := 40) (L := 40) rfl h40 (by omega)).mp z q2'), if_pos q2, if_pos rfl]
    have eC := mark_loopC hW a0 a1 a2 B_Ground_addMark_41 (rws σ 1) 0 FU (by omega) (lt_FU (by omega))
    have eM := mark_loopM hW (IMar.thr τ 0 hP) a0 a1 a2 B_M_mark_102 (rws σ 1) 0 FU (by omega) (lt_FU (by omega))
    have eC' : f_Ground_addMark a0 a1 a2 σ = _ := eC
    have eM' : L_M_mark_66 B_M_mark_102 a0 a1 a2 FU 0 0 (sF τ 0 0) = _ := eM
    simp only [B_FC_mark_44, if_neg i10, B_M_mark_51, fm_bad0, bnd_s, if_true, eC', eM']
    have hc := hP.2.2 a0
    unfold B_Ground_addMark_41 B_M_mark_102
    simp only [va_up, reduceIte, Nat.reduceEqDiff, hP.1]
    by_cases q3 : cnt (nmd σ a0) (rws σ 1) < 4
    · rw [if_pos ((lt_lit 4 (by omega) (by omega)).mpr q3), if_neg (fun z => absurd ((eq_lit 4 (by omega) (by omega)).mp z) (by omega))]
      simp only [gix_n q2' (show 40 < 2147483648 by omega), wrn (show rws σ 1 < 2147483648 by omega)]
      obtain ⟨σ1, e1, A1⟩ := tb_add hW 1 (by omega) q2
      obtain ⟨e2, A2⟩ := tb_putA A1 (by omega) 0 (by decide) a0 (ci := 0) rfl
      obtain ⟨e3, A3⟩ := tb_putA A2 (by omega) 1 (by decide) a1 (ci := 1) rfl
      obtain ⟨e4, A4⟩ := tb_putA A3 (by omega) 2 (by decide) a2 (ci := 2) rfl
      simp only [e1, bnd_s, e2, e3, e4]
      refine AgX.mk 0 (nI (rws σ 1)) _ _ _ rfl (Or.inl rfl) rfl rfl (fun _ => by rw [nI_1, nI_p1]) ⟨⟨A4.1, ?_, A4.fr, ?_⟩, by rw [A4.2.1]; omega, A4.2.2.2.2.2⟩
      · obtain ⟨-, b2, -, -, b5, b6⟩ := A4
        refine ⟨?_, fun i hi => ?_, fun x => ?_⟩
        · rw [b2]
          simp only [va_up, reduceIte, nI_1]
        · rw [b2] at hi
          simp only [va_up, reduceIte, Nat.reduceEqDiff]
          by_cases qi : i = rws σ 1
          · subst qi
            rw [b5 0 (by decide), b5 1 (by decide), b5 2 (by decide)]
            simp only [upd, reduceIte, Nat.reduceEqDiff, true_and, true_or, and_true]
            exact ⟨Rg.of (fun y => q1 (Or.inl y)) (n := 999) rfl (by omega) (by decide), Rg.of (fun y => q1 (Or.inr y)) (n := 999) rfl (by omega) (by decide)⟩
          · have hi' : i < rws σ 1 := by omega
            rw [b6 i 0 hi' (by decide), b6 i 1 hi' (by decide), b6 i 2 hi' (by decide)]
            simp only [upd, if_neg qi]
            exact hP.2.1 i hi'
        · rw [b2]
          show cnt _ (rws σ 1) + (if _ then 1 else 0) ≤ 4
          rw [cnt_congr (Q := nmd σ x) (rws σ 1) (fun i hi => by unfold nmd; rw [b6 i 0 hi (by decide)])]
          have hx := hP.2.2 x
          split
          · rename_i hz
            unfold nmd at hz
            rw [b5 0 (by decide)] at hz
            have hz2 : a0 = x := of_decide_eq_true hz
            rw [← hz2]
            omega
          · omega
      · exact (FrM.f1 _ _ (by decide)).trans ((FrM.f2 _ _ (by decide)).trans ((FrM.f2 _ _ (by decide)).trans ((FrM.f2 _ _ (by decide)).trans (FrM.f1 _ _ (by decide)))))
    · rw [if_neg (fun z => q3 ((lt_lit 4 (by omega) (by omega)).mp z)), if_pos ((eq_lit 4 (by omega) (by omega)).mpr (by omega))]
      simp only [bnd_s]
      exact AgX.mk 0 _ σ _ _ rfl (Or.inl rfl) rfl rfl (fun _ => rfl) ⟨Jg.thr hW IMar.thr hP (by decide) _, Nat.le_refl _, fun _ _ _ _ => rfl⟩
  · have q2' : ¬ rws σ 1 < 40 := q2
    rw [if_pos ((nI_full (n := 40) (L := 40) rfl h40 (by omega)).mpr q2'), if_neg q2, if_neg i10]
    simp only [B_FC_mark_44, if_true, B_M_mark_51, fm_bad1, bnd_s, if_neg i10]
    exact AgX.mk 2 0 σ 0 _ rfl (Or.inr (Or.inr rfl)) rfl rfl (fun z => absurd z (by decide)) (thr2 _)
