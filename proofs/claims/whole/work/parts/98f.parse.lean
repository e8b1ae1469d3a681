/-! ===== layer 2: texts are read; the two readers side by side ===== -/
theorem rnS_congr {f g : Nat → Nat} (st : List Bool) : ∀ n, (∀ i, i < n → f i = g i) → rnS f n st = rnS g n st := by
  intro n
  induction n with
  | zero => intro _; rfl
  | succ n ih =>
    intro h
    show (match rnS f n st with | some s => stp (f n) s | none => none) = (match rnS g n st with | some s => stp (g n) s | none => none)
    rw [ih (fun i hi => h i (by omega)), h n (by omega)]
theorem rnS_add (f : Nat → Nat) (n1 : Nat) (st s : List Bool) (h : rnS f n1 st = some s) : ∀ n2, rnS f (n1 + n2) st = rnS (fun j => f (n1 + j)) n2 s := by
  intro n2
  induction n2 with
  | zero => exact h
  | succ n2 ih =>
    show (match rnS f (n1 + n2) st with | some s => stp (f (n1 + n2)) s | none => none) = (match rnS (fun j => f (n1 + j)) n2 s with | some s => stp (f (n1 + n2)) s | none => none)
    rw [ih]
theorem Sgm.congr {f g : Nat → Nat} {n M : Nat} {b : Bool} (h : Sgm f n M b) (e : ∀ i, i < n → f i = g i) : Sgm g n M b := fun st => by
  obtain ⟨h1, h2⟩ := h st
  refine ⟨by rw [← rnS_congr st n e]; exact h1, fun i s hi hs => h2 i s hi ?_⟩
  rw [rnS_congr st i (fun j hj => e j (by omega))]
  exact hs
theorem Sgm.mono {f : Nat → Nat} {n M M' : Nat} {b : Bool} (h : Sgm f n M b) (e : M ≤ M') : Sgm f n M' b := fun st => ⟨(h st).1, fun i s hi hs => Nat.le_trans ((h st).2 i s hi hs) (by omega)⟩
theorem Sgm.one {f : Nat → Nat} (h : f 0 < 10010) : Sgm f 1 1 false := fun st => by
  have e : rnS f 1 st = some (false :: st) := by
    show (if f 0 < 10010 then _ else _) = _
    rw [if_pos h]
  refine ⟨e, fun i s hi hs => ?_⟩
  have : i = 0 ∨ i = 1 := by omega
  rcases this with rfl | rfl
  · have : s = st := by injection hs.symm
    rw [this]; omega
  · rw [e] at hs
    have : s = false :: st := by injection hs.symm
    rw [this, List.length_cons]
    exact Nat.le_refl _
theorem Sgm.un {f : Nat → Nat} {n M : Nat} (h : Sgm f n M true) (e : f n = 10010) (hM : 1 ≤ M) : Sgm f (n + 1) M true := fun st => by
  obtain ⟨h1, h2⟩ := h st
  have e1 : rnS f (n + 1) st = some (true :: st) := by
    show (match rnS f n st with | some s => stp (f n) s | none => none) = _
    rw [h1, e]
    rfl
  refine ⟨e1, fun i s hi hs => ?_⟩
  by_cases q : i = n + 1
  · rw [q, e1] at hs
    have : s = true :: st := by injection hs.symm
    rw [this, List.length_cons]
    omega
  · exact h2 i s (by omega) hs
theorem Sgm.bin {f : Nat → Nat} {n1 n2 M1 M2 x : Nat} {b1 b2 b : Bool} (h1 : Sgm f n1 M1 b1) (h2 : Sgm (fun j => f (n1 + j)) n2 M2 b2) (e : f (n1 + n2) = x) (hop : ∀ st, stp x (b2 :: b1 :: st) = some (b :: st)) : Sgm f (n1 + n2 + 1) (max M1 (M2 + 1)) b := fun st => by
  obtain ⟨p1, p2⟩ := h1 st
  obtain ⟨q1, q2⟩ := h2 (b1 :: st)
  have r1 : rnS f (n1 + n2) st = some (b2 :: b1 :: st) := by rw [rnS_add f n1 st _ p1 n2]; exact q1
  have e1 : rnS f (n1 + n2 + 1) st = some (b :: st) := by
    show (match rnS f (n1 + n2) st with | some s => stp (f (n1 + n2)) s | none => none) = _
    rw [r1, e]
    exact hop st
  refine ⟨e1, fun i s hi hs => ?_⟩
  by_cases z1 : i ≤ n1
  · have := p2 i s z1 hs
    omega
  by_cases z2 : i = n1 + n2 + 1
  · rw [z2, e1] at hs
    have : s = b :: st := by injection hs.symm
    rw [this, List.length_cons]
    omega
  · obtain ⟨j, rfl⟩ : ∃ j, i = n1 + j := ⟨i - n1, by omega⟩
    rw [rnS_add f n1 st _ p1 j] at hs
    have := q2 j s (by omega) hs
    rw [List.length_cons] at this
    omega
theorem sF_self (σ : CS) (k : Nat) (v : Int32) : (sF σ k v).1 k = v := va_up_self σ.1 k v
def gN (σ : CS) (i : Nat) : Nat := (cel σ 5 i 0).toNatClampNeg
/-- both stand at one place, up to blanks -/
def PS (B : Nat → Nat) (n t s o c : Nat) (σ τ : CS) : Prop := CL B n σ ∧ ML B n τ ∧ (∃ a, a ≤ n ∧ σ.1 56 = nI a ∧ sk B n a = s) ∧ (∃ b, b ≤ n ∧ τ.1 23 = nI b ∧ sk B n b = s) ∧ τ.1 24 = 0 ∧ τ.1 26 = nI o ∧ τ.1 27 = nI c ∧ τ.1 21 = nI t ∧ σ.1 58 = 0 ∧ τ.1 25 = -1
/-- the reference has found its fault -/
def Ddm (B : Nat → Nat) (n : Nat) (τ : CS) : Prop := ML B n τ ∧ (∃ k, 1 ≤ k ∧ k ≤ 3 ∧ τ.1 24 = nI k) ∧ ∃ b, b ≤ n ∧ τ.1 23 = nI b
def Kep (t c : Nat) (σ τ σ' τ' : CS) : Prop := FrC [17, 56, 58, 59] [5] σ σ' ∧ FrM [23, 24, 25, 26, 27] [35, 36] τ τ' ∧ WC σ' ∧ rws σ 5 ≤ rws σ' 5 ∧ (∀ i, i < rws σ 5 → cel σ' 5 i 0 = cel σ 5 i 0) ∧ ∀ i, i < 450 * t + c → τ'.2.1 35 i = τ.2.1 35 i ∧ τ'.2.1 36 i = τ.2.1 36 i
def Seg (σ' τ' : CS) (p q m M : Nat) (bb : Bool) : Prop := (∀ j, j < m → cel σ' 5 (p + j) 0 = nI (gN σ' (p + j)) ∧ encN (gN σ' (p + j)) (τ'.2.1 35 (q + j)) (τ'.2.1 36 (q + j))) ∧ Sgm (fun j => gN σ' (p + j)) m M bb
def Okk (B : Nat → Nat) (n t s o c M : Nat) (bb : Bool) (σ τ σ' τ' : CS) : Prop := ∃ s' m, 1 ≤ m ∧ s + m ≤ s' ∧ PS B n t s' o (c + m) σ' τ' ∧ rws σ' 5 = rws σ 5 + m ∧ Seg σ' τ' (rws σ 5) (450 * t + c) m M bb
def Bad (B : Nat → Nat) (n : Nat) (σ' τ' : CS) : Prop := Ddm B n τ' ∧ ∃ k p, 1 ≤ k ∧ k ≤ 3 ∧ p ≤ n ∧ σ'.1 58 = nI k ∧ σ'.1 59 = nI p ∧ τ'.1 24 = nI k ∧ τ'.1 25 = nI p ∧ ∃ a, a ≤ n ∧ σ'.1 56 = nI a
def Spc (B : Nat → Nat) (n t o : Nat) (F G : CS → Option (Int32 × CS)) (M : Nat) (bb : Bool) : Prop := ∀ s c σ τ, PS B n t s o c σ τ → c ≤ s + 12 → rws σ 5 + n ≤ 4000 + s → ∃ r σ' v τ', F σ = some (r, σ') ∧ G τ = some (v, τ') ∧ Kep t c σ τ σ' τ' ∧ ((r = 1 ∧ Okk B n t s o c M bb σ τ σ' τ') ∨ (r = 0 ∧ Bad B n σ' τ'))
def DdS (B : Nat → Nat) (n : Nat) (G : CS → Option (Int32 × CS)) : Prop := ∀ τ, Ddm B n τ → ∃ v τ', G τ = some (v, τ') ∧ FrM [23, 26] [] τ τ' ∧ Ddm B n τ'
theorem CL.frC {B : Nat → Nat} {n : Nat} {σ σ' : CS} {I A : List Nat} (h : CL B n σ) (f : FrC I A σ σ') (hW : WC σ') (h1 : 2 ∉ I ∧ 55 ∉ I) (h2 : 0 ∉ A) : CL B n σ' := by
  obtain ⟨-, a2, a3, a4, a5⟩ := h
  refine ⟨hW, (f.fr (t := 0) h1.1).trans a2, a3, fun k hk => ?_, (f.1 55 h1.2).trans a5⟩
  rw [f.fc h2]
  exact a4 k hk
theorem ML.frM {B : Nat → Nat} {n : Nat} {τ τ' : CS} {I A : List Nat} (h : ML B n τ) (f : FrM I A τ τ') (h1 : 22 ∉ I) (h2 : 6 ∉ A) : ML B n τ' := by
  obtain ⟨a1, a2, a3⟩ := h
  exact ⟨(f.1 22 h1).trans a1, a2, by rw [f.2 6 h2]; exact a3⟩
theorem Kep.refl (t c : Nat) {σ : CS} (hW : WC σ) (τ : CS) : Kep t c σ τ σ τ := ⟨FrC.refl _ _ _, FrM.refl _ _ _, hW, Nat.le_refl _, fun _ _ => rfl, fun _ _ => ⟨rfl, rfl⟩⟩
theorem Kep.trans {t c c' : Nat} {σ τ σ1 τ1 σ2 τ2 : CS} (h : Kep t c σ τ σ1 τ1) (h' : Kep t c' σ1 τ1 σ2 τ2) (hc : c ≤ c') : Kep t c σ τ σ2 τ2 := by
  obtain ⟨a1, a2, a3, a4, a5, a6⟩ := h
  obtain ⟨b1, b2, b3, b4, b5, b6⟩ := h'
  refine ⟨a1.trans b1, a2.trans b2, b3, by omega, fun i hi => (b5 i (by omega)).trans (a5 i hi), fun i hi => ?_⟩
  exact ⟨(b6 i (by omega)).1.trans (a6 i hi).1, (b6 i (by omega)).2.trans (a6 i hi).2⟩
/-- places, faults, what is open: no code -/
theorem Kep.mv (t c : Nat) {σ τ σ' τ' : CS} (hW : WC σ) (f : FrC [56, 58, 59] [] σ σ') (g : FrM [23, 24, 25, 26] [] τ τ') : Kep t c σ τ σ' τ' := by
  refine ⟨f.mono (by decide) (by decide), g.mono (by decide) (by decide), hW.fr f (by decide) (by decide), Nat.le_of_eq (f.fr (t := 5) (by decide)).symm, fun i _ => f.fc (by decide) i 0, fun i _ => ?_⟩
  rw [g.2 35 (by decide), g.2 36 (by decide)]
  exact ⟨rfl, rfl⟩
theorem Kep.dd {t c : Nat} {σ τ σ' τ1 τ' : CS} (h : Kep t c σ τ σ' τ1) (g : FrM [23, 26] [] τ1 τ') : Kep t c σ τ σ' τ' :=
  h.trans (c' := c) (Kep.mv t c h.2.2.1 (FrC.refl _ _ _) (g.mono (by decide) (by decide))) (Nat.le_refl _)
theorem Bad.dd {B : Nat → Nat} {n : Nat} {σ' τ1 τ' : CS} (h : Bad B n σ' τ1) (g : FrM [23, 26] [] τ1 τ') (d : Ddm B n τ') : Bad B n σ' τ' := by
  obtain ⟨-, k, p, h1, h2, h3, h4, h5, h6, h7, h8⟩ := h
  exact ⟨d, k, p, h1, h2, h3, h4, h5, (g.1 24 (by decide)).trans h6, (g.1 25 (by decide)).trans h7, h8⟩
theorem Seg.kep {t c p q m M : Nat} {bb : Bool} {σ τ σ' τ' : CS} (h : Seg σ τ p q m M bb) (k : Kep t c σ τ σ' τ') (hp : p + m ≤ rws σ 5) (hq : q + m ≤ 450 * t + c) : Seg σ' τ' p q m M bb := by
  obtain ⟨-, -, -, -, k5, k6⟩ := k
  have e : ∀ j, j < m → gN σ (p + j) = gN σ' (p + j) := fun j hj => by
    unfold gN
    rw [k5 (p + j) (by omega)]
  refine ⟨fun j hj => ?_, h.2.congr e⟩
  rw [← e j hj, k5 (p + j) (by omega), (k6 (q + j) (by omega)).1, (k6 (q + j) (by omega)).2]
  exact h.1 j hj
theorem PS.le {B : Nat → Nat} {n t s o c : Nat} {σ τ : CS} (h : PS B n t s o c σ τ) : s ≤ n ∧ n ≤ 400 ∧ sk B n s = s := by
  obtain ⟨h1, -, ⟨a, ha, -, e⟩, -⟩ := h
  exact ⟨e ▸ sk_le ha, h1.2.2.1, e ▸ sk_sk ha⟩
theorem PS.skip {B : Nat → Nat} {n t s o c : Nat} {σ τ : CS} (h : PS B n t s o c σ τ) : f_Reader_skipBlanks σ = some (0, Att σ s) := by
  obtain ⟨h1, -, ⟨a, ha, e1, e2⟩, -⟩ := h
  rw [skipC h1 ha e1, e2]
theorem PS.blanks {B : Nat → Nat} {n t s o c : Nat} {σ τ : CS} (h : PS B n t s o c σ τ) : f_M_blanks τ = some (0, Bam τ s) := by
  obtain ⟨-, h1, -, ⟨a, ha, e1, e2⟩, -⟩ := h
  rw [blanksM h1 ha e1, e2]
theorem PS.takeSign {B : Nat → Nat} {n t s o c : Nat} {σ τ : CS} (h : PS B n t s o c σ τ) (x : Nat) (hx : 1 ≤ x) (hx2 : x ≤ 255) : f_Reader_takeSign (nI x) σ = if bt B n s = x then some (1, Att σ (s + 1)) else some (0, Att σ s) := by
  obtain ⟨h1, -, ⟨a, ha, e1, e2⟩, -⟩ := h
  rw [takeSignC h1 ha e1 hx hx2, e2]
theorem PS.needSign {B : Nat → Nat} {n t s o c : Nat} {σ τ : CS} (h : PS B n t s o c σ τ) (x : Nat) (hx : 1 ≤ x) (hx2 : x ≤ 255) : f_Reader_needSign (nI x) σ = if bt B n s = x then some (1, Att σ (s + 1)) else some (0, Fai (Att σ s) 1 s) := by
  obtain ⟨h1, -, ⟨a, ha, e1, e2⟩, -⟩ := h
  rw [needSignC h1 ha e1 hx hx2, e2]
theorem bt_in {B : Nat → Nat} {n s x : Nat} (h : bt B n s = x) (hx : 1 ≤ x) : s < n := by
  unfold bt at h
  by_cases q : s < n
  · exact q
  · rw [if_neg q] at h; omega
/-- both at the place s -/
theorem PS.here {B : Nat → Nat} {n t s o c : Nat} {σ τ : CS} (h : PS B n t s o c σ τ) : PS B n t s o c (Att σ s) (Bam τ s) := by
  obtain ⟨l1, l2, l3⟩ := h.le
  obtain ⟨h1, h2, -, -, h5⟩ := h
  exact ⟨h1.at s, h2.at s, ⟨s, l1, va_up_self σ.1 56 _, l3⟩, ⟨s, l1, Bam_23 _ _, l3⟩, h5⟩
theorem PS.hereC {B : Nat → Nat} {n t s o c : Nat} {σ τ : CS} (h : PS B n t s o c σ τ) : PS B n t s o c (Att σ s) τ := by
  obtain ⟨l1, l2, l3⟩ := h.le
  obtain ⟨h1, h2, -, h4, h5⟩ := h
  exact ⟨h1.at s, h2, ⟨s, l1, va_up_self σ.1 56 _, l3⟩, h4, h5⟩
theorem PS.hereM {B : Nat → Nat} {n t s o c : Nat} {σ τ : CS} (h : PS B n t s o c σ τ) : PS B n t s o c σ (Bam τ s) := by
  obtain ⟨l1, l2, l3⟩ := h.le
  obtain ⟨h1, h2, h3, -, h5⟩ := h
  exact ⟨h1, h2.at s, h3, ⟨s, l1, Bam_23 _ _, l3⟩, h5⟩
/-- both go on to one place -/
theorem PS.on {B : Nat → Nat} {n t s o c : Nat} {σ τ : CS} (h : PS B n t s o c σ τ) {e : Nat} (he : e ≤ n) : PS B n t (sk B n e) o c (Att σ e) (Bam τ e) := by
  obtain ⟨h1, h2, -, -, h5⟩ := h
  exact ⟨h1.at e, h2.at e, ⟨e, he, va_up_self σ.1 56 _, rfl⟩, ⟨e, he, Bam_23 _ _, rfl⟩, h5⟩
theorem signM {B : Nat → Nat} {n b s x : Nat} {τ : CS} (h : ML B n τ) (hb : b ≤ n) (h3 : τ.1 23 = nI b) (sb : sk B n b = s) (h0 : τ.1 24 = 0) (hx : 1 ≤ x) (hx2 : x ≤ 255) : f_M_sign (nI x) τ = if bt B n s = x then some (0, Bam τ (s + 1)) else some (0, FaM (Bam τ s) 1 s) := by
  have hn := h.2.1
  have hs : s ≤ n := sb ▸ sk_le hb
  have hB := bt_le h s
  have wr : f_M_wrong 1 (nI s) (Bam τ s) = some (0, FaM (Bam τ s) 1 s) := wrongM (τ := Bam τ s) h0 1 s
  unfold f_M_sign B_M_sign_48
  rw [h0, if_pos (by decide), blanksM h hb h3, sb, bnd_s, Bam_23, show (Bam τ s).1 22 = nI n from h.1, byteAtM (h.at s) (by omega), bnd_s]
  by_cases q : n ≤ s
  · have : ¬ bt B n s = x := fun z => by have := bt_in z hx; omega
    rw [if_pos (nI_le q (by omega)), if_neg this, wr, bnd_s]
  · rw [if_neg (nI_ge (by omega) (by omega))]
    by_cases q2 : bt B n s = x
    · rw [if_pos (by rw [q2]), if_pos q2, Bam_23, nI_1, sF_sF]
    · rw [if_neg (fun z => q2 (nI_eqI (by omega) (by omega) z)), if_neg q2, Bam_23, wr, bnd_s]
theorem PS.sign {B : Nat → Nat} {n t s o c : Nat} {σ τ : CS} (h : PS B n t s o c σ τ) (x : Nat) (hx : 1 ≤ x) (hx2 : x ≤ 255) : f_M_sign (nI x) τ = if bt B n s = x then some (0, Bam τ (s + 1)) else some (0, FaM (Bam τ s) 1 s) := by
  obtain ⟨-, h1, -, ⟨a, ha, e1, e2⟩, h0, -⟩ := h
  exact signM h1 ha e1 e2 h0 hx hx2
theorem pos3 {k : Nat} {x : Int32} (h1 : 1 ≤ k) (h2 : k ≤ 3) (e : x = nI k) : ¬ x ≤ 0 ∧ ¬ x = 0 := by
  rw [e]
  exact ⟨fun z => absurd ((le_lit 0 (by omega) (by omega)).1 z) (by omega), fun z => absurd ((eq_lit 0 (by omega) (by omega)).1 z) (by omega)⟩
theorem Ddm.n0 {B : Nat → Nat} {n : Nat} {τ : CS} (h : Ddm B n τ) : ¬ τ.1 24 ≤ 0 ∧ ¬ τ.1 24 = 0 := by
  obtain ⟨-, ⟨k, h1, h2, e⟩, -⟩ := h
  exact pos3 h1 h2 e
theorem Ddm.sign {B : Nat → Nat} {n : Nat} {τ : CS} (h : Ddm B n τ) (x : Int32) : f_M_sign x τ = some (0, τ) := by
  unfold f_M_sign
  rw [if_neg h.n0.1]
theorem Ddm.emits {B : Nat → Nat} {n : Nat} {τ : CS} (h : Ddm B n τ) (x y : Int32) : f_M_emits x y τ = some (0, τ) := by
  unfold f_M_emits
  rw [if_neg h.n0.1]
theorem Ddm.eat {B : Nat → Nat} {n : Nat} {τ : CS} (h : Ddm B n τ) (s : Nat) : f_M_eat s τ = some (0, τ) := eatM_dead h.n0.2
theorem Ddm.figures {B : Nat → Nat} {n : Nat} {τ : CS} (h : Ddm B n τ) (x y : Int32) : f_M_figures x y τ = some (0, τ) := by
  unfold f_M_figures
  rw [if_neg h.n0.1]
theorem Ddm.fr {B : Nat → Nat} {n : Nat} {τ τ' : CS} {I A : List Nat} (h : Ddm B n τ) (f : FrM I A τ τ') (h1 : 22 ∉ I ∧ 23 ∉ I ∧ 24 ∉ I) (h2 : 6 ∉ A) : Ddm B n τ' := by
  obtain ⟨a1, ⟨k, k1, k2, k3⟩, b, b1, b2⟩ := h
  exact ⟨a1.frM f h1.1 h2, ⟨k, k1, k2, (f.1 24 h1.2.2).trans k3⟩, b, b1, (f.1 23 h1.2.1).trans b2⟩
theorem Ddm.blanks {B : Nat → Nat} {n : Nat} {τ : CS} (h : Ddm B n τ) : ∃ τ', f_M_blanks τ = some (0, τ') ∧ FrM [23, 26] [] τ τ' ∧ Ddm B n τ' := by
  obtain ⟨a1, ⟨k, k1, k2, k3⟩, b, b1, b2⟩ := h
  exact ⟨_, blanksM a1 b1 b2, FrM.f1 _ _ (by decide), a1.at _, ⟨k, k1, k2, k3⟩, _, sk_le b1, Bam_23 _ _⟩
theorem Ddm.closes {B : Nat → Nat} {n : Nat} {τ : CS} (h : Ddm B n τ) (x : Int32) : ∃ τ', f_M_closes x τ = some (0, τ') ∧ FrM [23, 26] [] τ τ' ∧ Ddm B n τ' := by
  unfold f_M_closes
  rw [h.sign, bnd_s]
  exact ⟨_, rfl, FrM.f1 _ _ (by decide), h.fr (I := [26]) (A := []) (FrM.f1 _ _ (by decide)) (by decide) (by decide)⟩
/-- a sign is put into the code -/
theorem emit_ag {B : Nat → Nat} {n t s o c x : Nat} {oo vv : Int32} {σ τ : CS} (h : PS B n t s o c σ τ) (ht : t < 10) (hc : c < 450) (hr : rws σ 5 < 4000) (hx : x ≤ 10021) (he : encN x oo vv) : ∃ σ' τ', f_Reader_emit (nI x) σ = some (1, σ') ∧ f_M_emits oo vv τ = some (0, τ') ∧ PS B n t s o (c + 1) σ' τ' ∧ Kep t c σ τ σ' τ' ∧ rws σ' 5 = rws σ 5 + 1 ∧ gN σ' (rws σ 5) = x ∧ cel σ' 5 (rws σ 5) 0 = nI x ∧ encN x (τ'.2.1 35 (450 * t + c)) (τ'.2.1 36 (450 * t + c)) := by
  obtain ⟨h1, h2, h3, h4, h5, h6, h7, h8, h9, h10⟩ := h
  obtain ⟨σ1, a1, a2⟩ := tb_add h1.1 5 (by omega) hr
  obtain ⟨b1, b2⟩ := tb_putA a2 (by omega) 0 (by decide) (nI x) (ci := 0) rfl
  have F : FrC [17] [5] σ (pt σ1 5 (rws σ 5) 0 (nI x)) := b2.fr
  have eq : (450 : Int32) * nI t + nI c = nI (450 * t + c) := by rw [show (450 : Int32) = nI 450 from rfl, nI_mul, nI_add]
  have em : f_M_emits oo vv τ = some (0, sF (sA (sA τ 35 (upd (τ.2.1 35) (450 * t + c) oo)) 36 (upd (τ.2.1 36) (450 * t + c) vv)) 27 (nI (c + 1))) := by
    unfold f_M_emits
    rw [h5, if_pos (by decide), h8, h7, eq, gix_n (by omega) (by omega), gix_n (by omega) (by omega), wrn (by omega), wrn (by omega)]
    simp only [va_up, reduceIte, Nat.reduceEqDiff, h7, nI_1]
  have G : FrM [27] [35, 36] τ (sF (sA (sA τ 35 (upd (τ.2.1 35) (450 * t + c) oo)) 36 (upd (τ.2.1 36) (450 * t + c) vv)) 27 (nI (c + 1))) := (FrM.f2 _ _ (by decide)).trans ((FrM.f2 _ _ (by decide)).trans (FrM.f1 _ _ (by decide)))
  have cx : cel (pt σ1 5 (rws σ 5) 0 (nI x)) 5 (rws σ 5) 0 = nI x := pt_same _ _ _ _ _
  refine ⟨_, _, ?_, em, ?_, ⟨F.mono (by decide) (by decide), G.mono (by decide) (by decide), b2.1, by rw [b2.2.1]; omega, fun i hi => b2.2.2.2.2.2 i 0 hi (by decide), fun i hi => ?_⟩, b2.2.1, ?_, cx, ?_⟩
  · unfold f_Reader_emit
    rw [a1, bnd_s, b1, bnd_s]
  · refine ⟨h1.frC F b2.1 (by decide) (by decide), h2.frM G (by decide) (by decide), ?_, ?_, (G.1 24 (by decide)).trans h5, (G.1 26 (by decide)).trans h6, sF_self _ 27 _, (G.1 21 (by decide)).trans h8, (F.1 58 (by decide)).trans h9, (G.1 25 (by decide)).trans h10⟩
    · rw [F.1 56 (by decide)]; exact h3
    · rw [G.1 23 (by decide)]; exact h4
  · simp only [va_up, reduceIte, Nat.reduceEqDiff, upd]
    rw [if_neg (by omega), if_neg (by omega)]
    exact ⟨rfl, rfl⟩
  · unfold gN
    rw [cx, nI_clamp (by omega)]
  · simp only [va_up, reduceIte, Nat.reduceEqDiff, upd]
    exact he
/-- two values and the sign that joins them -/
theorem bin_ok {B : Nat → Nat} {n t s2 o c x m1 m2 M1 M2 : Nat} {b1 b2 b : Bool} {oo : Int32} {σ0 τ0 σ1 τ1 σ2 τ2 : CS} (K01 : Kep t c σ0 τ0 σ1 τ1) (r1 : rws σ1 5 = rws σ0 5 + m1) (g1 : Seg σ1 τ1 (rws σ0 5) (450 * t + c) m1 M1 b1) (K12 : Kep t (c + m1) σ1 τ1 σ2 τ2) (r2 : rws σ2 5 = rws σ1 5 + m2) (g2 : Seg σ2 τ2 (rws σ1 5) (450 * t + (c + m1)) m2 M2 b2) (P2 : PS B n t s2 o (c + m1 + m2) σ2 τ2) (ht : t < 10) (hc : c + m1 + m2 < 450) (hr : rws σ2 5 < 4000) (hx : x ≤ 10021) (he : encN x oo 0) (hop : ∀ st, stp x (b2 :: b1 :: st) = some (b :: st)) :
    ∃ σ3 τ3, f_Reader_emit (nI x) σ2 = some (1, σ3) ∧ f_M_emits oo 0 τ2 = some (0, τ3) ∧ Kep t c σ0 τ0 σ3 τ3 ∧ PS B n t s2 o (c + (m1 + m2 + 1)) σ3 τ3 ∧ rws σ3 5 = rws σ0 5 + (m1 + m2 + 1) ∧ Seg σ3 τ3 (rws σ0 5) (450 * t + c) (m1 + m2 + 1) (max M1 (M2 + 1)) b := by
  obtain ⟨σ3, τ3, e1, e2, e3, e4, e5, e6, e7, e8⟩ := emit_ag P2 ht hc hr hx he
  refine ⟨σ3, τ3, e1, e2, (K01.trans K12 (by omega)).trans e4 (by omega), ?_, by omega, ?_⟩
  · rw [show c + (m1 + m2 + 1) = c + m1 + m2 + 1 by omega]; exact e3
  have s1 : Seg σ3 τ3 (rws σ0 5) (450 * t + c) m1 M1 b1 := (g1.kep K12 (by omega) (by omega)).kep e4 (by omega) (by omega)
  have s2' : Seg σ3 τ3 (rws σ1 5) (450 * t + (c + m1)) m2 M2 b2 := g2.kep e4 (by omega) (by omega)
  refine ⟨fun j hj => ?_, ?_⟩
  · by_cases z1 : j < m1
    · exact s1.1 j z1
    by_cases z2 : j < m1 + m2
    · have := s2'.1 (j - m1) (by omega)
      rw [show rws σ1 5 + (j - m1) = rws σ0 5 + j by omega, show 450 * t + (c + m1) + (j - m1) = 450 * t + c + j by omega] at this
      exact this
    · rw [show rws σ0 5 + j = rws σ2 5 by omega, show 450 * t + c + j = 450 * t + (c + m1 + m2) by omega, e6, e7]
      exact ⟨rfl, e8⟩
  · refine Sgm.bin (x := x) s1.2 (s2'.2.congr (fun i _ => ?_)) ?_ hop
    · show gN σ3 (rws σ1 5 + i) = gN σ3 (rws σ0 5 + (m1 + i))
      rw [show rws σ1 5 + i = rws σ0 5 + (m1 + i) by omega]
    · show gN σ3 (rws σ0 5 + (m1 + m2)) = x
      rw [show rws σ0 5 + (m1 + m2) = rws σ2 5 by omega, e6]
theorem opens_ok {B : Nat → Nat} {n t s o c x : Nat} {σ τ : CS} (h : PS B n t s o c σ τ) (h3 : τ.1 23 = nI s) (ho : o < 8) (hx : s + x ≤ n) : ∃ τ', f_M_opens (nI x) τ = some (0, τ') ∧ FrM [23, 26] [] τ τ' ∧ PS B n t (sk B n (s + x)) (o + 1) c (Att σ (s + x)) τ' := by
  have hn := h.le.2.1
  obtain ⟨h1, h2, -, -, h5, h6, h7, h8, h9, h10⟩ := h
  unfold f_M_opens B_M_opens_18
  rw [h6, if_neg (fun z => absurd ((eq_lit 8 (by omega) (by omega)).1 z) (by omega)), nI_1, h3, nI_add]
  exact ⟨_, rfl, (FrM.f1 _ _ (by decide)).trans (FrM.f1 _ _ (by decide)), h1.at _, h2, ⟨s + x, hx, va_up_self σ.1 56 _, rfl⟩, ⟨s + x, hx, sF_self _ 23 _, rfl⟩, h5, sF_self τ 26 _, h7, h8, h9, h10⟩
theorem opens_bad {B : Nat → Nat} {n t s c x : Nat} {σ τ : CS} (h : PS B n t s 8 c σ τ) (h3 : τ.1 23 = nI s) (hx : s + x ≤ n) : ∃ τ', f_M_opens (nI x) τ = some (0, τ') ∧ FrM [23, 24, 25, 26] [] τ τ' ∧ Ddm B n τ' ∧ τ'.1 24 = nI 3 ∧ τ'.1 25 = nI s := by
  have hn := h.le.2.1
  obtain ⟨h1, h2, -, -, h5, h6, h7, h8, h9, h10⟩ := h
  have wr : f_M_wrong 3 (nI s) τ = some (0, FaM τ 3 s) := wrongM h5 3 s
  have e23 : (FaM τ 3 s).1 23 = nI s := h3
  unfold f_M_opens B_M_opens_18
  rw [h6, if_pos (by decide), h3, wr, bnd_s, e23, nI_add]
  exact ⟨_, rfl, (FrM.f1 _ _ (by decide)).trans ((FrM.f1 _ _ (by decide)).trans ((FrM.f1 _ _ (by decide)).trans (FrM.f1 _ _ (by decide)))), ⟨h2, ⟨3, by omega, by omega, sF_self τ 24 (nI 3)⟩, s + x, hx, sF_self _ 23 _⟩, sF_self τ 24 (nI 3), sF_self (sF τ 24 (nI 3)) 25 (nI s)⟩
theorem mayOpen_ok {o : Nat} (ho : o < 8) (p : Int32) (σ : CS) : f_Reader_mayOpen (nI o) p σ = some (1, σ) := by
  unfold f_Reader_mayOpen
  rw [if_pos ((lt_lit 8 (by omega) (by omega)).2 ho)]
theorem mayOpen_bad (p : Nat) (σ : CS) : f_Reader_mayOpen (nI 8) (nI p) σ = some (0, Fai σ 3 p) := by
  unfold f_Reader_mayOpen
  rw [if_neg (by decide)]
  show bnd (f_Reader_fail (nI 3) (nI p) σ) _ = _
  rw [failC, bnd_s, if_pos rfl]
/-- both fail alike, from a state at which they stand together -/
theorem Bad.mk {B : Nat → Nat} {n t s o c k p q : Nat} {σ τ : CS} (h : PS B n t s o c σ τ) (hk1 : 1 ≤ k) (hk2 : k ≤ 3) (hp : p ≤ n) (hq : q ≤ n) : Bad B n (Fai (Att σ q) k p) (FaM (Bam τ q) k p) ∧ Kep t c σ τ (Fai (Att σ q) k p) (FaM (Bam τ q) k p) := by
  obtain ⟨h1, h2, -, -, h5, -⟩ := h
  have c58 : (Fai (Att σ q) k p).1 58 = nI k := sF_self (Att σ q) 58 _
  have c59 : (Fai (Att σ q) k p).1 59 = nI p := sF_self _ 59 _
  have m24 : (FaM (Bam τ q) k p).1 24 = nI k := sF_self (Bam τ q) 24 _
  have m25 : (FaM (Bam τ q) k p).1 25 = nI p := sF_self _ 25 _
  have m23 : (FaM (Bam τ q) k p).1 23 = nI q := sF_self τ 23 _
  refine ⟨⟨⟨h2, ⟨k, hk1, hk2, m24⟩, q, hq, m23⟩, k, p, hk1, hk2, hp, c58, c59, m24, m25, q, hq, sF_self σ 56 _⟩, ?_⟩
  exact Kep.mv t c h1.1 ((FrC.f1 _ _ (by decide)).trans ((FrC.f1 _ _ (by decide)).trans (FrC.f1 _ _ (by decide)))) ((FrM.f1 _ _ (by decide)).trans ((FrM.f1 _ _ (by decide)).trans (FrM.f1 _ _ (by decide))))
theorem Kep.go (t c : Nat) {σ τ : CS} (hW : WC σ) (a b : Nat) : Kep t c σ τ (Att σ a) (Bam τ b) := Kep.mv t c hW (FrC.f1 _ _ (by decide)) (FrM.f1 _ _ (by decide))
theorem Kep.goC (t c : Nat) {σ : CS} (τ : CS) (hW : WC σ) (a : Nat) : Kep t c σ τ (Att σ a) τ := Kep.mv t c hW (FrC.f1 _ _ (by decide)) (FrM.refl _ _ _)
