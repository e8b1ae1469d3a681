/-! ===== layer 2: texts are read; values and tests ===== -/
theorem isWb_97 {B : Nat → Nat} {n s u : Nat} (hu : u < 40) (hu3 : 3 ≤ u) (h : isWb B n (ws u) s = true) : 97 ≤ bt B n s := by
  have h1 := ((isWb_iff _ _).1 h).1 0 (by have := (ws_pos u hu hu3).1; omega)
  have h2 := (ws_pos u hu hu3).2
  rw [Nat.add_zero] at h1
  omega
theorem fwd_97 {B : Nat → Nat} {n s : Nat} : ∀ (L : List Nat) (i j l : Nat), (∀ u, u ∈ L → u < 40 ∧ 3 ≤ u) → fwd B n s (L.map ws) i = some (j, l) → 97 ≤ bt B n s ∧ 2 ≤ l := by
  intro L
  induction L with
  | nil => intro i j l _ h; cases h
  | cons u L ih =>
    intro i j l hu h
    have h' : (if isWb B n (ws u) s = true then some (i, (ws u).length) else fwd B n s (L.map ws) (i + 1)) = some (j, l) := h
    have hu' := hu u List.mem_cons_self
    by_cases q : isWb B n (ws u) s = true
    · rw [if_pos q] at h'
      simp only [Option.some.injEq, Prod.mk.injEq] at h'
      exact ⟨isWb_97 hu'.1 hu'.2 q, by rw [← h'.2]; exact (ws_pos u hu'.1 hu'.2).1⟩
    · rw [if_neg q] at h'
      exact ih _ _ _ (fun v hv => hu v (List.mem_cons_of_mem _ hv)) h'
theorem lw_in : ∀ w, w < 12 → ∀ u, u ∈ lw w → u < 40 ∧ 3 ≤ u := by decide +kernel
theorem un_ok {B : Nat → Nat} {n t s2 o c m1 M : Nat} {σ0 τ0 σ2 τ2 : CS} (K01 : Kep t c σ0 τ0 σ2 τ2) (r1 : rws σ2 5 = rws σ0 5 + m1) (g1 : Seg σ2 τ2 (rws σ0 5) (450 * t + c) m1 M true) (P2 : PS B n t s2 o (c + m1) σ2 τ2) (ht : t < 10) (hc : c + m1 < 450) (hr : rws σ2 5 < 4000) (hM : 1 ≤ M) :
    ∃ σ3 τ3, f_Reader_emit 10010 σ2 = some (1, σ3) ∧ f_M_emits 10 0 τ2 = some (0, τ3) ∧ Kep t c σ0 τ0 σ3 τ3 ∧ PS B n t s2 o (c + (m1 + 1)) σ3 τ3 ∧ rws σ3 5 = rws σ0 5 + (m1 + 1) ∧ Seg σ3 τ3 (rws σ0 5) (450 * t + c) (m1 + 1) M true := by
  obtain ⟨σ3, τ3, e1, e2, e3, e4, e5, e6, e7, e8⟩ := emit_ag (x := 10010) (oo := 10) (vv := 0) P2 ht hc hr (by omega) (by right; right; exact ⟨by omega, by omega, rfl⟩)
  have s1 : Seg σ3 τ3 (rws σ0 5) (450 * t + c) m1 M true := g1.kep e4 (by omega) (by omega)
  refine ⟨σ3, τ3, e1, e2, K01.trans e4 (by omega), e3, by omega, fun j hj => ?_, Sgm.un s1.2 ?_ hM⟩
  · by_cases z1 : j < m1
    · exact s1.1 j z1
    · rw [show rws σ0 5 + j = rws σ2 5 by omega, show 450 * t + c + j = 450 * t + (c + m1) by omega, e6, e7]
      exact ⟨rfl, e8⟩
  · show gN σ3 (rws σ0 5 + m1) = 10010
    rw [show rws σ0 5 + m1 = rws σ2 5 by omega, e6]
theorem closes_ok {B : Nat → Nat} {n t s o c x : Nat} {σ τ : CS} (h : PS B n t s (o + 1) c σ τ) (hx : 1 ≤ x) (hx2 : x ≤ 255) (q : bt B n s = x) : ∃ τ', f_M_closes (nI x) τ = some (0, τ') ∧ FrM [23, 24, 25, 26] [] τ τ' ∧ PS B n t (sk B n (s + 1)) o c (Att σ (s + 1)) τ' := by
  have hs := bt_in q hx
  have e := h.sign x hx hx2
  have P2 := h.on (e := s + 1) (by omega)
  obtain ⟨h1, h2, h3, h4, h5, h6, h7⟩ := P2
  unfold f_M_closes
  rw [e, if_pos q, bnd_s, h6, nI_p1]
  exact ⟨_, rfl, (FrM.f1 _ _ (by decide)).trans (FrM.f1 _ _ (by decide)), h1, h2, h3, h4, h5, sF_self _ 26 _, h7⟩
theorem closes_bad {B : Nat → Nat} {n t s o c x : Nat} {σ τ : CS} (h : PS B n t s o c σ τ) (hx : 1 ≤ x) (hx2 : x ≤ 255) (q : ¬ bt B n s = x) : ∃ τ', f_M_closes (nI x) τ = some (0, τ') ∧ Bad B n (Fai (Att σ s) 1 s) τ' ∧ Kep t c σ τ (Fai (Att σ s) 1 s) τ' := by
  have hs := h.le.1
  have e := h.sign x hx hx2
  obtain ⟨b1, b2⟩ := Bad.mk (k := 1) (p := s) (q := s) h (by omega) (by omega) hs hs
  unfold f_M_closes
  rw [e, if_neg q, bnd_s]
  have g : FrM [23, 26] [] (FaM (Bam τ s) 1 s) (sF (FaM (Bam τ s) 1 s) 26 ((FaM (Bam τ s) 1 s).1 26 - 1)) := FrM.f1 _ _ (by decide)
  exact ⟨_, rfl, b1.dd g (b1.1.fr (I := [26]) (A := []) (FrM.f1 _ _ (by decide)) (by decide) (by decide)), b2.dd g⟩
theorem dead_183 {B : Nat → Nat} {n : Nat} (rcM : Nat → CS → Option (Int32 × CS)) {τ : CS} (h : Ddm B n τ) (x : Int32) : B_M_unit_171 rcM x τ = some (0, τ) := by
  unfold B_M_unit_171 B_M_unit_183
  rw [h.emits, h.emits, bnd_s, ite_self]
theorem dead_157 {B : Nat → Nat} {n : Nat} (rcM : Nat → CS → Option (Int32 × CS)) {τ : CS} (h : Ddm B n τ) (x y : Int32) : ∃ τ', B_M_unit_157 rcM x y τ = some (0, τ') ∧ FrM [23, 26] [] τ τ' ∧ Ddm B n τ' := by
  obtain ⟨τ1, w1, w2, w3⟩ := h.closes 41
  refine ⟨τ1, ?_, w2, w3⟩
  unfold B_M_unit_157
  rw [w1, bnd_s, dead_183 rcM w3, ite_self, ite_self]
theorem dead_147 {B : Nat → Nat} {n : Nat} (rcM : Nat → CS → Option (Int32 × CS)) (hD : DdS B n (rcM 0)) {τ : CS} (h : Ddm B n τ) (x y : Int32) : ∃ τ', B_M_unit_147 rcM x y τ = some (0, τ') ∧ FrM [23, 26] [] τ τ' ∧ Ddm B n τ' := by
  obtain ⟨v, τ1, g1, g2, g3⟩ := hD τ h
  obtain ⟨τ2, w1, w2, w3⟩ := dead_157 rcM g3 x y
  refine ⟨τ2, ?_, g2.trans w2, w3⟩
  unfold B_M_unit_147
  rw [h.sign, bnd_s, g1, bnd_s, w1]
/-- the '(' behind least or most, or alone: blanks, the sign, one more that is open -/
theorem open_ag {B : Nat → Nat} {n t s o c : Nat} {σ τ : CS} (rcM : Nat → CS → Option (Int32 × CS)) (hD : DdS B n (rcM 0)) (h : PS B n t s o c σ τ) (ho : o ≤ 8) (x y : Int32) :
    (¬ bt B n s = 40 ∧ ∃ τ', B_M_unit_102 rcM x y τ = some (0, τ') ∧ Bad B n (Fai (Att σ s) 1 s) τ' ∧ Kep t c σ τ (Fai (Att σ s) 1 s) τ') ∨
    (bt B n s = 40 ∧ o = 8 ∧ ∃ τ', B_M_unit_102 rcM x y τ = some (0, τ') ∧ Bad B n (Fai (Att σ (s + 1)) 3 s) τ' ∧ Kep t c σ τ (Fai (Att σ (s + 1)) 3 s) τ') ∨
    (bt B n s = 40 ∧ o < 8 ∧ ∃ τ', FrM [23, 26] [] (Bam τ s) τ' ∧ PS B n t (sk B n (s + 1)) (o + 1) c (Att σ (s + 1)) τ' ∧ s + 1 ≤ sk B n (s + 1) ∧ B_M_unit_102 rcM x y τ = bnd (rcM 0 τ') (fun _ σ136 => if x = 0 then if y = 0 then B_M_unit_157 rcM x y σ136 else B_M_unit_147 rcM x y σ136 else B_M_unit_147 rcM x y σ136)) := by
  obtain ⟨l1, l2, l3⟩ := h.le
  have hB := bt_le h.2.1 s
  have h24 : (Bam τ s).1 24 = 0 := h.2.2.2.2.1
  unfold B_M_unit_102
  rw [h.blanks, bnd_s, Bam_23, byteAtM (h.2.1.at s) (by omega), bnd_s]
  by_cases q : bt B n s = 40
  · right
    have hs := bt_in q (by omega)
    rw [if_pos (show nI (bt B n s) = 40 by rw [q]; rfl)]
    by_cases q8 : o = 8
    · left
      subst q8
      obtain ⟨τ1, w1, w2, w3, w4, w5⟩ := opens_bad (x := 1) h.hereM (Bam_23 _ _) (by omega)
      have w1' : f_M_opens 1 (Bam τ s) = some (0, τ1) := w1
      obtain ⟨v, τ2, g1, g2, g3⟩ := hD τ1 w3
      have fin : ∃ τ', (if x = 0 then if y = 0 then B_M_unit_157 rcM x y τ2 else B_M_unit_147 rcM x y τ2 else B_M_unit_147 rcM x y τ2) = some (0, τ') ∧ FrM [23, 26] [] τ2 τ' ∧ Ddm B n τ' := by
        by_cases zx : x = 0
        · rw [if_pos zx]
          by_cases zy : y = 0
          · rw [if_pos zy]; exact dead_157 rcM g3 x y
          · rw [if_neg zy]; exact dead_147 rcM hD g3 x y
        · rw [if_neg zx]; exact dead_147 rcM hD g3 x y
      obtain ⟨τ3, k1, k2, k3⟩ := fin
      have fr : FrM [23, 26] [] τ1 τ3 := g2.trans k2
      have fC : FrC [56, 58, 59] [] σ (Fai (Att σ (s + 1)) 3 s) := (FrC.f1 _ _ (by decide)).trans ((FrC.f1 _ _ (by decide)).trans (FrC.f1 _ _ (by decide)))
      have fM : FrM [23, 24, 25, 26] [] τ τ3 := (FrM.f1 _ _ (by decide)).trans (w2.trans (fr.mono (by decide) (by decide)))
      refine ⟨q, rfl, τ3, ?_, ⟨k3, 3, s, by omega, by omega, l1, sF_self (Att σ (s + 1)) 58 _, sF_self _ 59 _, (fr.1 24 (by decide)).trans w4, (fr.1 25 (by decide)).trans w5, s + 1, by omega, sF_self σ 56 _⟩, Kep.mv t c h.1.1 fC fM⟩
      rw [w1', bnd_s, g1, bnd_s, k1]
    · right
      obtain ⟨τ1, w1, w2, w3⟩ := opens_ok (x := 1) h.hereM (Bam_23 _ _) (by omega) (by omega)
      have w1' : f_M_opens 1 (Bam τ s) = some (0, τ1) := w1
      refine ⟨q, by omega, τ1, w2, w3, sk_ge (by omega), ?_⟩
      rw [w1', bnd_s]
  · left
    rw [if_neg (fun z => q ((eq_lit 40 (by omega) (by omega)).1 z)), Bam_23]
    have wr : f_M_wrong 1 (nI s) (Bam τ s) = some (0, FaM (Bam τ s) 1 s) := wrongM h24 1 s
    rw [wr, bnd_s]
    obtain ⟨b1, b2⟩ := Bad.mk (k := 1) (p := s) (q := s) h (by omega) (by omega) l1 l1
    exact ⟨q, _, rfl, b1, b2⟩
theorem pick_ag {B : Nat → Nat} {n t o MS : Nat} (rcC : Nat → Int32 → Int32 → CS → Option (Int32 × CS)) (rcM : Nat → CS → Option (Int32 × CS)) (ho : o ≤ 8) (hS : o < 8 → Spc B n t (o + 1) (fun σ => rcC 3 (nI (o + 1)) 0 σ) (fun τ => rcM 0 τ) MS false) (hD : DdS B n (rcM 0)) (ht : t < 10) {j : Nat} {x y : Int32} (hj : (j = 0 ∧ x = 1 ∧ y = 0) ∨ (j = 1 ∧ x = 0 ∧ y = 1)) : Spc B n t o (fun σ => f_Reader_readPick rcC (nI o) (nI j) σ) (fun τ => B_M_unit_102 rcM x y τ) (MS + 1) false := by
  intro s c σ τ hP hcs hrs
  show ∃ r σ' v τ', f_Reader_readPick rcC (nI o) (nI j) σ = some (r, σ') ∧ B_M_unit_102 rcM x y τ = some (v, τ') ∧ _
  obtain ⟨l1, l2, l3⟩ := hP.le
  have ns : f_Reader_needSign 40 (Att σ s) = if bt B n s = 40 then some (1, Att (Att σ s) (s + 1)) else some (0, Fai (Att (Att σ s) s) 1 s) := hP.hereC.needSign 40 (by omega) (by omega)
  rw [Att_Att, Att_Att] at ns
  have e56 : (Att σ s).1 56 = nI s := sF_self σ 56 _
  unfold f_Reader_readPick
  rw [hP.skip, bnd_s, ns, e56]
  rcases open_ag rcM hD hP ho x y with ⟨q, τ', k1, k2, k3⟩ | ⟨q, rfl, τ', k1, k2, k3⟩ | ⟨q, ho8, τ1, f1, P1, hge, k1⟩
  · rw [if_neg q, bnd_s, if_pos rfl, k1]
    exact ⟨0, _, 0, τ', rfl, rfl, k3, Or.inr ⟨rfl, k2⟩⟩
  · rw [if_pos q, bnd_s, if_neg i10, mayOpen_bad, bnd_s, if_pos rfl, k1]
    exact ⟨0, _, 0, τ', rfl, rfl, k3, Or.inr ⟨rfl, k2⟩⟩
  have bx : (if x = 0 then if y = 0 then (0 : Nat) else 1 else 1) = 1 := by
    rcases hj with ⟨-, rfl, rfl⟩ | ⟨-, rfl, rfl⟩ <;> rfl
  have b147 : ∀ τ2, (if x = 0 then if y = 0 then B_M_unit_157 rcM x y τ2 else B_M_unit_147 rcM x y τ2 else B_M_unit_147 rcM x y τ2) = B_M_unit_147 rcM x y τ2 := fun τ2 => by
    rcases hj with ⟨-, rfl, rfl⟩ | ⟨-, rfl, rfl⟩
    · rw [if_neg i10]
    · rw [if_pos rfl, if_neg i10]
  have b171 : ∀ τ2, (if x = 0 then if y = 0 then some ((0 : Int32), τ2) else B_M_unit_171 rcM x τ2 else B_M_unit_171 rcM x τ2) = B_M_unit_171 rcM x τ2 := fun τ2 => by
    rcases hj with ⟨-, rfl, rfl⟩ | ⟨-, rfl, rfl⟩
    · rw [if_neg i10]
    · rw [if_pos rfl, if_neg i10]
  rw [if_pos q, bnd_s, if_neg i10, mayOpen_ok ho8, bnd_s, if_neg i10, nI_1, k1]
  simp only [b147]
  have er : rws (Att σ (s + 1)) 5 = rws σ 5 := rfl
  obtain ⟨r, σ2, v, τ2, g2, g3, g4, g5⟩ := hS ho8 _ _ _ _ P1 (by omega) (by rw [er]; omega)
  have g2' : rcC 3 (nI (o + 1)) 0 (Att σ (s + 1)) = some (r, σ2) := g2
  have g3' : rcM 0 τ1 = some (v, τ2) := g3
  have K1 : Kep t c σ τ (Att σ (s + 1)) τ1 := Kep.mv t c hP.1.1 (FrC.f1 _ _ (by decide)) ((FrM.f1 _ _ (by decide)).trans (f1.mono (by decide) (by decide)))
  have K2 : Kep t c σ τ σ2 τ2 := K1.trans g4 (Nat.le_refl _)
  rw [g2', g3', bnd_s, bnd_s]
  rcases g5 with ⟨rfl, s2, m2, q1, q2, P2, q4, q5⟩ | ⟨rfl, q⟩
  rotate_left
  · obtain ⟨τ3, w1, w2, w3⟩ := dead_147 rcM hD q.1 x y
    rw [if_pos rfl, w1]
    exact ⟨0, σ2, 0, τ3, rfl, rfl, K2.dd w2, Or.inr ⟨rfl, q.dd w2 w3⟩⟩
  rw [er] at q4 q5
  rw [if_neg i10]
  have ns2 : f_Reader_needSign 44 σ2 = if bt B n s2 = 44 then some (1, Att σ2 (s2 + 1)) else some (0, Fai (Att σ2 s2) 1 s2) := P2.needSign 44 (by omega) (by omega)
  have sg2 : f_M_sign 44 τ2 = if bt B n s2 = 44 then some (0, Bam τ2 (s2 + 1)) else some (0, FaM (Bam τ2 s2) 1 s2) := P2.sign 44 (by omega) (by omega)
  have hl2 := P2.le
  unfold B_M_unit_147
  rw [ns2, sg2]
  by_cases qc : bt B n s2 = 44
  rotate_left
  · rw [if_neg qc, if_neg qc, bnd_s, bnd_s, if_pos rfl]
    obtain ⟨b1, b2⟩ := Bad.mk (k := 1) (p := s2) (q := s2) P2 (by omega) (by omega) hl2.1 hl2.1
    obtain ⟨v3, τ3, w1, w2, w3⟩ := hD _ b1.1
    obtain ⟨τ4, u1, u2, u3⟩ := dead_157 rcM w3 x y
    rw [w1, bnd_s, u1]
    exact ⟨0, _, 0, τ4, rfl, rfl, (K2.trans b2 (by omega)).dd (w2.trans u2), Or.inr ⟨rfl, b1.dd (w2.trans u2) u3⟩⟩
  have hs2 := bt_in qc (by omega)
  have hge2 : s2 + 1 ≤ sk B n (s2 + 1) := sk_ge (by omega)
  have er2 : rws (Att σ2 (s2 + 1)) 5 = rws σ2 5 := rfl
  rw [if_pos qc, if_pos qc, bnd_s, bnd_s, if_neg i10]
  obtain ⟨r, σ3, v, τ3, g6, g7, g8, g9⟩ := hS ho8 _ _ _ _ (P2.on (e := s2 + 1) (by omega)) (by omega) (by rw [er2]; omega)
  have g6' : rcC 3 (nI (o + 1)) 0 (Att σ2 (s2 + 1)) = some (r, σ3) := g6
  have g7' : rcM 0 (Bam τ2 (s2 + 1)) = some (v, τ3) := g7
  have K23 : Kep t (c + m2) σ2 τ2 σ3 τ3 := (Kep.go t (c + m2) P2.1.1 (s2 + 1) (s2 + 1)).trans g8 (Nat.le_refl _)
  rw [g6', g7', bnd_s, bnd_s]
  rcases g9 with ⟨rfl, s3, m3, p1, p2, P3, p4, p5⟩ | ⟨rfl, q⟩
  rotate_left
  · obtain ⟨τ4, u1, u2, u3⟩ := dead_157 rcM q.1 x y
    rw [if_pos rfl, u1]
    exact ⟨0, σ3, 0, τ4, rfl, rfl, (K2.trans K23 (by omega)).dd u2, Or.inr ⟨rfl, q.dd u2 u3⟩⟩
  rw [er2] at p4 p5
  rw [if_neg i10]
  have hl3 := P3.le
  have ns3 : f_Reader_needSign 41 σ3 = if bt B n s3 = 41 then some (1, Att σ3 (s3 + 1)) else some (0, Fai (Att σ3 s3) 1 s3) := P3.needSign 41 (by omega) (by omega)
  unfold B_M_unit_157
  rw [ns3]
  by_cases qd : bt B n s3 = 41
  rotate_left
  · obtain ⟨τ4, u1, u2, u3⟩ := closes_bad P3 (x := 41) (by omega) (by omega) qd
    have u1' : f_M_closes 41 τ3 = some (0, τ4) := u1
    rw [if_neg qd, bnd_s, if_pos rfl, u1', bnd_s, b171, dead_183 rcM u2.1]
    exact ⟨0, _, 0, τ4, rfl, rfl, (K2.trans K23 (by omega)).trans u3 (by omega), Or.inr ⟨rfl, u2⟩⟩
  have hs3 := bt_in qd (by omega)
  have hge3 : s3 + 1 ≤ sk B n (s3 + 1) := sk_ge (by omega)
  obtain ⟨τ4, u1, u2, P4⟩ := closes_ok P3 (x := 41) (by omega) (by omega) qd
  have u1' : f_M_closes 41 τ3 = some (0, τ4) := u1
  have K34 : Kep t (c + m2 + m3) σ3 τ3 (Att σ3 (s3 + 1)) τ4 := Kep.mv t _ P3.1.1 (FrC.f1 _ _ (by decide)) u2
  have K24 : Kep t (c + m2) σ2 τ2 (Att σ3 (s3 + 1)) τ4 := K23.trans K34 (by omega)
  have S4 : Seg (Att σ3 (s3 + 1)) τ4 (rws σ2 5) (450 * t + (c + m2)) m3 MS false := p5.kep K34 (by omega) (by omega)
  have er3 : rws (Att σ3 (s3 + 1)) 5 = rws σ3 5 := rfl
  obtain ⟨σ5, τ5, e1, e2, e3, e4, e5, e6⟩ := bin_ok (x := 10020 + j) (oo := nI (mpg (10 + j))) K2 q4 q5 K24 (by rw [er3]; exact p4) S4 P4 ht (by omega) (by rw [er3]; omega) (by omega) (by right; right; exact ⟨by omega, by omega, by rw [show 10020 + j - 10010 = 10 + j by omega]⟩) (fun st => by
    unfold stp
    rw [if_neg (by omega), if_neg (by omega)]
    show (if 10020 + j ≤ 10012 then _ else if 10020 + j ≤ 10015 then _ else some (false :: st)) = _
    rw [if_neg (by omega), if_neg (by omega)])
  have e1' : f_Reader_emit (10020 + nI j) (Att σ3 (s3 + 1)) = some (1, σ5) := by
    rw [show (10020 : Int32) + nI j = nI (10020 + j) from nI_add 10020 j]
    exact e1
  have e2' : B_M_unit_171 rcM x τ4 = some (0, τ5) := by
    unfold B_M_unit_171 B_M_unit_183
    rcases hj with ⟨rfl, rfl, -⟩ | ⟨rfl, rfl, -⟩
    · have e2'' : f_M_emits 6 0 τ4 = some (0, τ5) := e2
      rw [if_neg i10, e2'', bnd_s]
    · have e2'' : f_M_emits 7 0 τ4 = some (0, τ5) := e2
      rw [if_pos rfl, e2'', bnd_s]
  rw [if_pos qd, bnd_s, if_neg i10, e1', bnd_s, if_neg i10, u1', bnd_s, b171, e2']
  exact ⟨1, σ5, 0, τ5, rfl, rfl, e3, Or.inl ⟨rfl, sk B n (s3 + 1), m2 + m3 + 1, by omega, by omega, e4, e5, e6.1, e6.2.mono (by omega)⟩⟩
theorem nI_le1 {a : Nat} (h : a < 2147483648) : ¬ nI a = -1 := nI_neg1 h
theorem unit_ag {B : Nat → Nat} {n t o MS : Nat} (rcC rcC' : Nat → Int32 → Int32 → CS → Option (Int32 × CS)) (rcM : Nat → CS → Option (Int32 × CS)) (ho : o ≤ 8) (hpick : ∀ (j : Int32) (σ : CS), rcC 6 (nI o) j σ = f_Reader_readPick rcC' (nI o) j σ) (hS : o < 8 → Spc B n t (o + 1) (fun σ => rcC 3 (nI (o + 1)) 0 σ) (fun τ => rcM 0 τ) MS false) (hS' : o < 8 → Spc B n t (o + 1) (fun σ => rcC' 3 (nI (o + 1)) 0 σ) (fun τ => rcM 0 τ) MS false) (hD : DdS B n (rcM 0)) (ht : t < 10) : Spc B n t o (fun σ => f_Reader_readValue rcC (nI o) σ) (fun τ => f_M_unit rcM τ) (MS + 1) false := by
  intro s c σ τ hP hcs hrs
  show ∃ r σ' v τ', f_Reader_readValue rcC (nI o) σ = some (r, σ') ∧ f_M_unit rcM τ = some (v, τ') ∧ _
  obtain ⟨l1, l2, l3⟩ := hP.le
  have hW : WC σ := hP.1.1
  have hB := bt_le hP.2.1 s
  have h24 : τ.1 24 = 0 := hP.2.2.2.2.1
  have e56 : (Att σ s).1 56 = nI s := sF_self σ 56 _
  have dgt : ∀ K : Int32 → CS → Option (Int32 × CS), bnd (f_Table_get 0 (nI s) 0 (Att σ s)) (fun r18 σ18 => bnd (f_Reader_isDigit r18 σ18) K) = K (if 48 ≤ bt B n s ∧ bt B n s ≤ 57 then 1 else 0) (Att σ s) := fun K => by
    unfold bt
    by_cases q : s < n
    · rw [(hP.1.at s).get q, bnd_s, digitC _ (hP.1.2.2.2.1 s q).2, bnd_s, if_pos q]
    · rw [(hP.1.at s).get_out (by omega) (by omega), bnd_s, if_neg q, if_neg (by omega)]
      show bnd (f_Reader_isDigit (-1) (Att σ s)) K = K 0 (Att σ s)
      unfold f_Reader_isDigit
      rw [fc_within, if_pos (by decide), bnd_s, grd_s (Or.inl rfl), bnd_s]
  unfold f_Reader_readValue f_M_unit
  rw [hP.skip, bnd_s, e56, dgt, h24, if_pos (show (0 : Int32) ≤ 0 by decide), hP.blanks, bnd_s, Bam_23, byteAtM (hP.2.1.at s) (by omega), bnd_s, digitM _ hB, bnd_s]
  by_cases qd : 48 ≤ bt B n s ∧ bt B n s ≤ 57
  · -- a number
    rw [if_pos qd, if_neg i10, if_neg i10]
    rcases number_ag (l := 0) (h := 10000) (lo := 0) (hi := 9999) (hP.1.at s) (hP.2.1.at s) l1 l1 e56 (Bam_23 _ _) l3 l3 h24 rfl (by omega) (by decide) (by omega) with ⟨r, r1, r2, r3, r4, r5, r6⟩ | ⟨k, p, q, v, k1, k2, p1, q1, k3, k4⟩
    · rw [r5, r6, bnd_s, bnd_s, if_neg (nI_neg1 (by omega)), Att_Att, Bam_Bam]
      have P2 := hP.on r2
      have hge : s + r ≤ sk B n (s + r) := sk_ge r2
      have er : rws (Att σ (s + r)) 5 = rws σ 5 := rfl
      obtain ⟨σ3, τ3, e1, e2, e3, e4, e5, e6, e7, e8⟩ := emit_ag (x := vl B n s r) (oo := 0) (vv := nI (vl B n s r)) P2 ht (by omega) (by rw [er]; omega) (by omega) (Or.inl ⟨by omega, rfl, rfl⟩)
      rw [e1, e2, bnd_s, bnd_s, if_neg i10]
      refine ⟨1, σ3, 0, τ3, rfl, rfl, (Kep.go t c hW _ _).trans e4 (Nat.le_refl _), Or.inl ⟨rfl, sk B n (s + r), 1, by omega, by omega, e3, by rw [e5, er], fun j hj => ?_, (Sgm.one ?_).mono (by omega)⟩⟩
      · have : j = 0 := by omega
        subst this
        rw [er] at e6 e7
        rw [Nat.add_zero, Nat.add_zero, e6, e7]
        exact ⟨rfl, e8⟩
      · show gN σ3 (rws σ 5 + 0) < 10010
        rw [er] at e6
        rw [Nat.add_zero, e6]
        omega
    · rw [k3, k4, bnd_s, bnd_s, if_pos rfl, Att_Att, Bam_Bam]
      obtain ⟨b1, b2⟩ := Bad.mk (k := k) (p := p) (q := q) hP k1 k2 p1 q1
      rw [b1.1.emits, bnd_s]
      exact ⟨0, _, 0, _, rfl, rfl, b2, Or.inr ⟨rfl, b1⟩⟩
  rw [if_neg qd, if_pos rfl, if_pos rfl]
  have ts : f_Reader_takeSign 40 (Att σ s) = if bt B n s = 40 then some (1, Att (Att σ s) (s + 1)) else some (0, Att (Att σ s) s) := hP.hereC.takeSign 40 (by omega) (by omega)
  rw [Att_Att, Att_Att] at ts
  have tl := told_loop rcM (B_M_unit_62 rcM) (B_M_unit_75 rcM) 6 0 FU s (Bam τ s) rfl (lt_FU (by omega)) (hP.2.1.at s) h24 l1 (Bam_23 _ _) (fun z => by omega)
  rw [l3] at tl
  simp only [Bam_Bam] at tl
  have tl0 : ((lw 7).map ws).drop 0 = (lw 7).map ws := rfl
  rw [tl0] at tl
  have e32 := hP.hereM.eat (u := 32) (by omega)
  have e33 := hP.hereM.eat (u := 33) (by omega)
  rw [Bam_Bam, Bam_Bam] at e32 e33
  rw [ts]
  by_cases qp : bt B n s = 40
  · -- ( E )
    rw [if_pos qp, bnd_s, if_neg i10]
    have nw : ∀ u, u < 40 → 3 ≤ u → ¬ isWb B n (ws u) s = true := fun u h1 h2 z => by have := isWb_97 h1 h2 z; omega
    rcases tl with ⟨j, l, t1, -⟩ | ⟨t1, t2⟩
    · have := (fwd_97 (lw 7) 0 j l (lw_in 7 (by omega)) t1).1
      omega
    have t2' : L_M_unit_42 rcM (B_M_unit_62 rcM) (B_M_unit_75 rcM) FU 0 (Bam τ s) = B_M_unit_75 rcM (Bam τ s) := t2
    rw [t2']
    unfold B_M_unit_75 B_M_unit_101
    rw [e32, if_neg (nw 32 (by omega) (by omega)), bnd_s, if_pos rfl, e33, if_neg (nw 33 (by omega) (by omega)), bnd_s, if_pos rfl]
    rcases open_ag rcM hD hP.hereM ho 0 0 with ⟨q, -⟩ | ⟨q, rfl, τ', k1, k2, k3⟩ | ⟨q, ho8, τ1, f1, P1, hge, k1⟩
    · exact absurd qp q
    · rw [mayOpen_bad, bnd_s, if_pos rfl, k1]
      exact ⟨0, _, 0, τ', rfl, rfl, (Kep.mv t c hW (FrC.refl _ _ _) (FrM.f1 _ _ (by decide))).trans k3 (Nat.le_refl _), Or.inr ⟨rfl, k2⟩⟩
    rw [mayOpen_ok ho8, bnd_s, if_neg i10, nI_1, k1]
    have er : rws (Att σ (s + 1)) 5 = rws σ 5 := rfl
    obtain ⟨r, σ2, v, τ2, g2, g3, g4, g5⟩ := hS ho8 _ _ _ _ P1 (by omega) (by rw [er]; omega)
    have g2' : rcC 3 (nI (o + 1)) 0 (Att σ (s + 1)) = some (r, σ2) := g2
    have g3' : rcM 0 τ1 = some (v, τ2) := g3
    rw [Bam_Bam] at f1
    have K1 : Kep t c σ τ (Att σ (s + 1)) τ1 := Kep.mv t c hW (FrC.f1 _ _ (by decide)) ((FrM.f1 _ _ (by decide)).trans (f1.mono (by decide) (by decide)))
    have K2 : Kep t c σ τ σ2 τ2 := K1.trans g4 (Nat.le_refl _)
    rw [g2', g3', bnd_s, bnd_s, if_pos rfl, if_pos rfl]
    rcases g5 with ⟨rfl, s2, m2, q1, q2, P2, q4, q5⟩ | ⟨rfl, q⟩
    rotate_left
    · obtain ⟨τ3, w1, w2, w3⟩ := dead_157 rcM q.1 0 0
      rw [if_pos rfl, w1]
      exact ⟨0, σ2, 0, τ3, rfl, rfl, K2.dd w2, Or.inr ⟨rfl, q.dd w2 w3⟩⟩
    rw [er] at q4 q5
    rw [if_neg i10]
    have hl2 := P2.le
    have ns2 : f_Reader_needSign 41 σ2 = if bt B n s2 = 41 then some (1, Att σ2 (s2 + 1)) else some (0, Fai (Att σ2 s2) 1 s2) := P2.needSign 41 (by omega) (by omega)
    unfold B_M_unit_157
    rw [ns2]
    by_cases qc : bt B n s2 = 41
    rotate_left
    · obtain ⟨τ4, u1, u2, u3⟩ := closes_bad P2 (x := 41) (by omega) (by omega) qc
      have u1' : f_M_closes 41 τ2 = some (0, τ4) := u1
      rw [if_neg qc, bnd_s, if_pos rfl, u1', bnd_s, if_pos rfl, if_pos rfl]
      exact ⟨0, _, 0, τ4, rfl, rfl, K2.trans u3 (by omega), Or.inr ⟨rfl, u2⟩⟩
    have hs2 := bt_in qc (by omega)
    have hge2 : s2 + 1 ≤ sk B n (s2 + 1) := sk_ge (by omega)
    obtain ⟨τ4, u1, u2, P4⟩ := closes_ok P2 (x := 41) (by omega) (by omega) qc
    have u1' : f_M_closes 41 τ2 = some (0, τ4) := u1
    have K24 : Kep t (c + m2) σ2 τ2 (Att σ2 (s2 + 1)) τ4 := Kep.mv t _ P2.1.1 (FrC.f1 _ _ (by decide)) u2
    have S4 := q5.kep K24 (by omega) (by omega)
    have er2 : rws (Att σ2 (s2 + 1)) 5 = rws σ2 5 := rfl
    rw [if_pos qc, bnd_s, if_neg i10, u1', bnd_s, if_pos rfl, if_pos rfl]
    exact ⟨1, _, 0, τ4, rfl, rfl, K2.trans K24 (by omega), Or.inl ⟨rfl, sk B n (s2 + 1), m2, q1, by omega, P4, by rw [er2]; exact q4, S4.1, S4.2.mono (by omega)⟩⟩
  rw [if_neg qp, bnd_s, if_pos rfl]
  have tw := hP.hereC.takeWord (w := 7) (by omega) (by omega)
  simp only [Att_Att] at tw
  rcases tl with ⟨j, l, t1, t2⟩ | ⟨t1, t2⟩
  · -- a fact
    rcases tw with ⟨j', l', t3, t4, t5⟩ | ⟨t3, t5⟩
    rotate_left
    · rw [t3] at t1; cases t1
    rw [t3] at t1
    simp only [Option.some.injEq, Prod.mk.injEq] at t1
    obtain ⟨rfl, rfl⟩ := t1
    have hj := (fwd_b _ _ _ _ t3).2
    have hj6 : j' < 6 := hj
    have hl := (fwd_97 (lw 7) 0 j' l' (lw_in 7 (by omega)) t3).2
    have t2' : L_M_unit_42 rcM (B_M_unit_62 rcM) (B_M_unit_75 rcM) FU 0 (Bam τ s) = B_M_unit_62 rcM (nI j') (Bam τ (s + l')) := t2
    rw [t2', t5, bnd_s, if_neg (nI_neg1 (by omega))]
    unfold B_M_unit_62
    have P2 := hP.on t4
    have hge : s + l' ≤ sk B n (s + l') := sk_ge t4
    have er : rws (Att σ (s + l')) 5 = rws σ 5 := rfl
    obtain ⟨σ3, τ3, e1, e2, e3, e4, e5, e6, e7, e8⟩ := emit_ag (x := 10000 + j') (oo := 1) (vv := nI j') P2 ht (by omega) (by rw [er]; omega) (by omega) (Or.inr (Or.inl ⟨by omega, by omega, rfl, by rw [show 10000 + j' - 10000 = j' by omega]⟩))
    rw [show (10000 : Int32) + nI j' = nI (10000 + j') from nI_add 10000 j', e1, e2, bnd_s, bnd_s, grd_s (Or.inr rfl)]
    refine ⟨1, σ3, 0, τ3, rfl, rfl, (Kep.go t c hW _ _).trans e4 (Nat.le_refl _), Or.inl ⟨rfl, sk B n (s + l'), 1, by omega, by omega, e3, by rw [e5, er], fun j hj => ?_, (Sgm.one ?_).mono (by omega)⟩⟩
    · have : j = 0 := by omega
      subst this
      rw [er] at e6 e7
      rw [Nat.add_zero, Nat.add_zero, e6, e7]
      exact ⟨rfl, e8⟩
    · show gN σ3 (rws σ 5 + 0) < 10010
      rw [er] at e6
      rw [Nat.add_zero, e6]
      omega
  rcases tw with ⟨j', l', t3, -⟩ | ⟨t3, t5⟩
  · rw [t1] at t3; cases t3
  have t2' : L_M_unit_42 rcM (B_M_unit_62 rcM) (B_M_unit_75 rcM) FU 0 (Bam τ s) = B_M_unit_75 rcM (Bam τ s) := t2
  rw [t2', t5, bnd_s, if_pos rfl]
  have tw2 := hP.hereC.takeWord (w := 8) (by omega) (by omega)
  simp only [Att_Att] at tw2
  have ef : fwd B n s ((lw 8).map ws) 0 = if isWb B n (ws 32) s = true then some (0, (ws 32).length) else if isWb B n (ws 33) s = true then some (1, (ws 33).length) else none := rfl
  rw [ef] at tw2
  unfold B_M_unit_75 B_M_unit_101
  have pk : ∀ (j l : Nat) (x y : Int32), ((j = 0 ∧ x = 1 ∧ y = 0) ∨ (j = 1 ∧ x = 0 ∧ y = 1)) → s + l ≤ n → ∃ r σ' v τ', bnd (rcC 6 (nI o) (nI j) (Att σ (s + l))) (fun r138 σ138 => grd (r138 = 0 ∨ r138 = 1) (some (r138, σ138))) = some (r, σ') ∧ B_M_unit_102 rcM x y (Bam τ (s + l)) = some (v, τ') ∧ Kep t c σ τ σ' τ' ∧ ((r = 1 ∧ Okk B n t s o c (MS + 1) false σ τ σ' τ') ∨ (r = 0 ∧ Bad B n σ' τ')) := by
    intro j l x y hj hl
    have hge : s + l ≤ sk B n (s + l) := sk_ge hl
    have er : rws (Att σ (s + l)) 5 = rws σ 5 := rfl
    obtain ⟨r, σ', v, τ', g2, g3, g4, g5⟩ := pick_ag rcC' rcM ho hS' hD ht hj _ _ _ _ (hP.on hl) (by omega) (by rw [er]; omega)
    have g2' : f_Reader_readPick rcC' (nI o) (nI j) (Att σ (s + l)) = some (r, σ') := g2
    have hr : r = 0 ∨ r = 1 := by
      rcases g5 with ⟨z, -⟩ | ⟨z, -⟩
      · exact Or.inr z
      · exact Or.inl z
    rw [hpick, g2', bnd_s, grd_s hr]
    refine ⟨r, σ', v, τ', rfl, g3, (Kep.go t c hW _ _).trans g4 (Nat.le_refl _), ?_⟩
    rcases g5 with ⟨z, s2, m2, q1, q2, q3, q4, q5⟩ | z
    · exact Or.inl ⟨z, s2, m2, q1, by omega, q3, by rw [q4, er], by rw [er] at q5; exact q5⟩
    · exact Or.inr z
  rw [e32]
  by_cases q32 : isWb B n (ws 32) s = true
  · rw [if_pos q32] at tw2 ⊢
    rcases tw2 with ⟨j, l, u1, u2, u3⟩ | ⟨u1, -⟩
    rotate_left
    · cases u1
    simp only [Option.some.injEq, Prod.mk.injEq] at u1
    obtain ⟨rfl, rfl⟩ := u1
    rw [u3, bnd_s, bnd_s, if_neg (by decide), if_neg i10]
    exact pk 0 _ 1 0 (Or.inl ⟨rfl, rfl, rfl⟩) u2
  rw [if_neg q32] at tw2 ⊢
  rw [bnd_s, if_pos rfl, e33]
  by_cases q33 : isWb B n (ws 33) s = true
  · rw [if_pos q33] at tw2 ⊢
    rcases tw2 with ⟨j, l, u1, u2, u3⟩ | ⟨u1, -⟩
    rotate_left
    · cases u1
    simp only [Option.some.injEq, Prod.mk.injEq] at u1
    obtain ⟨rfl, rfl⟩ := u1
    rw [u3, bnd_s, bnd_s, if_neg (by decide), if_neg i10]
    exact pk 1 _ 0 1 (Or.inr ⟨rfl, rfl, rfl⟩) u2
  rw [if_neg q33] at tw2 ⊢
  rcases tw2 with ⟨j, l, u1, -⟩ | ⟨-, u3⟩
  · cases u1
  rw [u3, bnd_s, bnd_s, if_pos rfl, if_pos rfl, e56]
  rcases open_ag rcM hD hP.hereM ho 0 0 with ⟨q, τ', k1, k2, k3⟩ | ⟨q, -⟩ | ⟨q, -⟩
  · rw [k1]
    show ∃ r σ' v τ', bnd (f_Reader_fail (nI 1) (nI s) (Att σ s)) (fun r150 σ150 => grd (r150 = 0 ∨ r150 = 1) (some (r150, σ150))) = some (r, σ') ∧ _
    rw [failC, bnd_s, grd_s (Or.inl rfl)]
    exact ⟨0, _, 0, τ', rfl, rfl, (Kep.mv t c hW (FrC.refl _ _ _) (FrM.f1 _ _ (by decide))).trans k3 (Nat.le_refl _), Or.inr ⟨rfl, k2⟩⟩
  · exact absurd q qp
  · exact absurd q qp
