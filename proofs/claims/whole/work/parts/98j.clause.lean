/-! ===== layer 2: texts are read; one clause ===== -/
theorem PS.frC {B : Nat → Nat} {n t s o c : Nat} {σ τ σ' : CS} {I A : List Nat} (h : PS B n t s o c σ τ) (f : FrC I A σ σ') (hW : WC σ') (h1 : 2 ∉ I ∧ 55 ∉ I ∧ 56 ∉ I ∧ 58 ∉ I) (h2 : 0 ∉ A) : PS B n t s o c σ' τ := by
  obtain ⟨a1, a2, a3, a4, a5, a6, a7, a8, a9, a10⟩ := h
  exact ⟨a1.frC f hW ⟨h1.1, h1.2.1⟩ h2, a2, by rw [f.1 56 h1.2.2.1]; exact a3, a4, a5, a6, a7, a8, (f.1 58 h1.2.2.2).trans a9, a10⟩
theorem PS.frM {B : Nat → Nat} {n t s o c : Nat} {σ τ τ' : CS} {I A : List Nat} (h : PS B n t s o c σ τ) (f : FrM I A τ τ') (h1 : ∀ k, k ∈ I → k < 21 ∨ 28 ≤ k) (h2 : 6 ∉ A) : PS B n t s o c σ τ' := by
  obtain ⟨a1, a2, a3, a4, a5, a6, a7, a8, a9, a10⟩ := h
  have g : ∀ k, 21 ≤ k → k < 28 → τ'.1 k = τ.1 k := fun k h3 h4 => f.1 k (fun z => by have := h1 k z; omega)
  exact ⟨a1, ⟨(g 22 (by omega) (by omega)).trans a2.1, a2.2.1, by rw [f.2 6 h2]; exact a2.2.2⟩, a3, by rw [g 23 (by omega) (by omega)]; exact a4, (g 24 (by omega) (by omega)).trans a5, (g 26 (by omega) (by omega)).trans a6, (g 27 (by omega) (by omega)).trans a7, (g 21 (by omega) (by omega)).trans a8, a9, (g 25 (by omega) (by omega)).trans a10⟩
/-- what stays while a clause is read -/
def Kec (t c I : Nat) (σ0 τ0 σ τ : CS) : Prop := FrC [14, 17, 56, 58, 59] [4, 5] σ0 σ ∧ FrM [23, 24, 25, 26, 27] [30, 31, 32, 33, 34, 35, 36] τ0 τ ∧ WC σ ∧ rws σ0 5 ≤ rws σ 5 ∧ (∀ i, i < rws σ0 5 → cel σ 5 i 0 = cel σ0 5 i 0) ∧ (∀ i, i < 450 * t + c → τ.2.1 35 i = τ0.2.1 35 i ∧ τ.2.1 36 i = τ0.2.1 36 i) ∧ (∀ a i, 30 ≤ a → a ≤ 34 → i ≠ I → τ.2.1 a i = τ0.2.1 a i) ∧ rws σ0 4 ≤ rws σ 4 ∧ ∀ i e, i < rws σ0 4 → e < 9 → cel σ 4 i e = cel σ0 4 i e
theorem Kec.kep {t c c' I : Nat} {σ0 τ0 σ τ σ' τ' : CS} (h : Kec t c I σ0 τ0 σ τ) (k : Kep t c' σ τ σ' τ') (hc : c ≤ c') : Kec t c I σ0 τ0 σ' τ' := by
  obtain ⟨a1, a2, a3, a4, a5, a6, a7, a8, a9⟩ := h
  obtain ⟨b1, b2, b3, b4, b5, b6⟩ := k
  refine ⟨a1.trans (b1.mono (by decide) (by decide)), a2.trans (b2.mono (by decide) (by decide)), b3, by omega, fun i hi => (b5 i (by omega)).trans (a5 i hi), fun i hi => ⟨(b6 i (by omega)).1.trans (a6 i hi).1, (b6 i (by omega)).2.trans (a6 i hi).2⟩, fun a i h1 h2 h3 => ?_, by rw [b1.fr (t := 4) (by decide)]; exact a8, fun i e h1 h2 => (b1.fc (by decide) i e).trans (a9 i e h1 h2)⟩
  rw [b2.2 a (by simp only [List.mem_cons, List.not_mem_nil, or_false]; omega)]
  exact a7 a i h1 h2 h3
theorem Kec.dd {t c I : Nat} {σ0 τ0 σ τ τ' : CS} (h : Kec t c I σ0 τ0 σ τ) (g : FrM [23, 26] [] τ τ') : Kec t c I σ0 τ0 σ τ' :=
  h.kep (c' := c) (Kep.mv t c h.2.2.1 (FrC.refl _ _ _) (g.mono (by decide) (by decide))) (Nat.le_refl _)
theorem Kec.put {t c I R : Nat} {σ0 τ0 σ τ : CS} (h : Kec t c I σ0 τ0 σ τ) (hR : rws σ0 4 ≤ R) {e : Nat} (he : e < 9) (v : Int32) : Kec t c I σ0 τ0 (pt σ 4 R e v) τ := by
  obtain ⟨a1, a2, a3, a4, a5, a6, a7, a8, a9⟩ := h
  refine ⟨a1.trans (FrC.f3 _ _ _ _ (by decide)), a2, pt_W a3 _ _ _ _, a4, fun i hi => ?_, a6, a7, a8, fun i e' h1 h2 => ?_⟩
  · rw [pt_other _ _ _ _ _ _ _ _ (by omega)]
    exact a5 i hi
  · rw [pt_cel _ _ _ _ _ _ _ (show e < wid 4 from he) (show e' < wid 4 from h2), if_neg (by omega)]
    exact a9 i e' h1 h2
theorem Kec.wr {t c I : Nat} {σ0 τ0 σ τ : CS} (h : Kec t c I σ0 τ0 σ τ) {a : Nat} (h1 : 30 ≤ a) (h2 : a ≤ 34) (v : Int32) : Kec t c I σ0 τ0 σ (sA τ a (upd (τ.2.1 a) I v)) := by
  obtain ⟨a1, a2, a3, a4, a5, a6, a7, a8, a9⟩ := h
  refine ⟨a1, a2.trans (FrM.f2 _ _ (by simp only [List.mem_cons, List.not_mem_nil, or_false]; omega)), a3, a4, a5, fun i hi => ?_, fun b i h3 h4 h5 => ?_, a8, a9⟩
  · simp only [va_up]
    rw [if_neg (by omega), if_neg (by omega)]
    exact a6 i hi
  · simp only [va_up]
    by_cases q : b = a
    · rw [if_pos q, q]
      unfold upd
      rw [if_neg h5]
      exact a7 a i h1 h2 h5
    · rw [if_neg q]
      exact a7 b i h3 h4 h5
/-- in a clause, both alive -/
def CSt (B : Nat → Nat) (n t : Nat) (σ0 τ0 : CS) (c0 I R s c : Nat) (row : Nat → Int32) (σ τ : CS) : Prop := PS B n t s 0 c σ τ ∧ Kec t c0 I σ0 τ0 σ τ ∧ rws σ 4 = R + 1 ∧ ∀ e, e < 9 → cel σ 4 R e = row e
/-- in a clause, both have failed -/
def BSt (B : Nat → Nat) (n t : Nat) (σ0 τ0 : CS) (c0 I R : Nat) (σ τ : CS) : Prop := Bad B n σ τ ∧ Kec t c0 I σ0 τ0 σ τ ∧ rws σ 4 = R + 1
variable {B : Nat → Nat} {n t c0 I R : Nat} {σ0 τ0 : CS}
theorem CSt.kep {s c s' c' : Nat} {row : Nat → Int32} {σ τ σ' τ' : CS} (h : CSt B n t σ0 τ0 c0 I R s c row σ τ) (k : Kep t c σ τ σ' τ') (P : PS B n t s' 0 c' σ' τ') (hc : c0 ≤ c) : CSt B n t σ0 τ0 c0 I R s' c' row σ' τ' := by
  obtain ⟨-, h2, h3, h4⟩ := h
  exact ⟨P, h2.kep k hc, (k.1.fr (t := 4) (by decide)).trans h3, fun e he => (k.1.fc (by decide) R e).trans (h4 e he)⟩
theorem CSt.bad {s c : Nat} {row : Nat → Int32} {σ τ σ' τ' : CS} (h : CSt B n t σ0 τ0 c0 I R s c row σ τ) (k : Kep t c σ τ σ' τ') (b : Bad B n σ' τ') (hc : c0 ≤ c) : BSt B n t σ0 τ0 c0 I R σ' τ' := by
  obtain ⟨-, h2, h3, -⟩ := h
  exact ⟨b, h2.kep k hc, (k.1.fr (t := 4) (by decide)).trans h3⟩
theorem CSt.put {s c : Nat} {row : Nat → Int32} {σ τ : CS} (h : CSt B n t σ0 τ0 c0 I R s c row σ τ) (hR : rws σ0 4 = R) {e : Nat} (he : e < 9) (v : Int32) {ce : Int32} (hce : ce = nI e) : f_Table_put 4 (nI R) ce v σ = some (0, pt σ 4 R e v) ∧ CSt B n t σ0 τ0 c0 I R s c (upd row e v) (pt σ 4 R e v) τ := by
  obtain ⟨h1, h2, h3, h4⟩ := h
  refine ⟨tb_put h1.1.1 4 (by omega) R e (by omega) (show e < 9 from he) v hce, h1.frC (I := []) (A := [4]) (FrC.f3 _ _ _ _ (by decide)) (pt_W h1.1.1 _ _ _ _) (by decide) (by decide), h2.put (by omega) he v, h3, fun e' he' => ?_⟩
  rw [pt_cel _ _ _ _ _ _ _ (show e < wid 4 from he) (show e' < wid 4 from he')]
  unfold upd
  by_cases q : e' = e
  · rw [if_pos q, if_pos ⟨rfl, q⟩]
  · rw [if_neg q, if_neg (fun z => q z.2)]
    exact h4 e' he'
theorem CSt.wr {s c : Nat} {row : Nat → Int32} {σ τ : CS} (h : CSt B n t σ0 τ0 c0 I R s c row σ τ) {a : Nat} (h1 : 30 ≤ a) (h2 : a ≤ 34) (v : Int32) : CSt B n t σ0 τ0 c0 I R s c row σ (sA τ a (upd (τ.2.1 a) I v)) := by
  obtain ⟨p1, p2, p3, p4⟩ := h
  exact ⟨p1.frM (I := []) (A := [a]) (FrM.f2 _ _ (by simp)) (by decide) (by simp; omega), p2.wr h1 h2 v, p3, p4⟩
theorem BSt.put {σ τ : CS} (h : BSt B n t σ0 τ0 c0 I R σ τ) (hR : rws σ0 4 = R) {e : Nat} (he : e < 9) (v : Int32) {ce : Int32} (hce : ce = nI e) : f_Table_put 4 (nI R) ce v σ = some (0, pt σ 4 R e v) ∧ BSt B n t σ0 τ0 c0 I R (pt σ 4 R e v) τ := by
  obtain ⟨h1, h2, h3⟩ := h
  exact ⟨tb_put h2.2.2.1 4 (by omega) R e (by omega) (show e < 9 from he) v hce, h1, h2.put (by omega) he v, h3⟩
theorem BSt.dd {σ τ τ' : CS} (h : BSt B n t σ0 τ0 c0 I R σ τ) (g : FrM [23, 26] [] τ τ') (d : Ddm B n τ') : BSt B n t σ0 τ0 c0 I R σ τ' := ⟨h.1.dd g d, h.2.1.dd g, h.2.2⟩
theorem BSt.wr {σ τ : CS} (h : BSt B n t σ0 τ0 c0 I R σ τ) {a : Nat} (h1 : 30 ≤ a) (h2 : a ≤ 34) (v : Int32) : BSt B n t σ0 τ0 c0 I R σ (sA τ a (upd (τ.2.1 a) I v)) := by
  obtain ⟨⟨d, k, p, b1, b2, b3, b4, b5, b6, b7⟩, p2, p3⟩ := h
  exact ⟨⟨d.fr (I := []) (A := [a]) (FrM.f2 _ _ (by simp)) (by decide) (by simp; omega), k, p, b1, b2, b3, b4, b5, b6, b7⟩, p2.wr h1 h2 v, p3⟩
theorem tail_bad {σ τ : CS} (h : BSt B n t σ0 τ0 c0 I R σ τ) (hR : rws σ0 4 = R) : ∃ σ', B_Reader_readClause_331 (nI R) 0 σ = some (0, σ') ∧ B_M_clause_290 τ = some (0, τ) ∧ BSt B n t σ0 τ0 c0 I R σ' τ := by
  obtain ⟨p1, p2⟩ := h.put hR (e := 5) (by omega) (nI (rws σ 5)) (ce := 5) rfl
  refine ⟨_, ?_, ?_, p2⟩
  · unfold B_Reader_readClause_331
    rw [tb_size h.2.1.2.2.1 5 (by omega), bnd_s, p1, bnd_s, if_pos rfl]
  · unfold B_M_clause_290
    rw [h.1.1.sign, bnd_s]
theorem tail_ok {s c : Nat} {row : Nat → Int32} {σ τ : CS} (h : CSt B n t σ0 τ0 c0 I R s c row σ τ) (hR : rws σ0 4 = R) (hc : c0 ≤ c) : ∃ σ' τ', B_Reader_readClause_331 (nI R) 1 σ = some (0, σ') ∧ B_M_clause_290 τ = some (0, τ') ∧ ((∃ s', s + 1 ≤ s' ∧ CSt B n t σ0 τ0 c0 I R s' c (upd row 5 (nI (rws σ 5))) σ' τ' ∧ rws σ' 5 = rws σ 5 ∧ (∀ i, cel σ' 5 i 0 = cel σ 5 i 0) ∧ FrM [23] [] τ τ') ∨ BSt B n t σ0 τ0 c0 I R σ' τ') := by
  obtain ⟨p1, p2⟩ := h.put hR (e := 5) (by omega) (nI (rws σ 5)) (ce := 5) rfl
  have hl := p2.1.le
  have ns : f_Reader_needSign 59 (pt σ 4 R 5 (nI (rws σ 5))) = if bt B n s = 59 then some (1, Att (pt σ 4 R 5 (nI (rws σ 5))) (s + 1)) else some (0, Fai (Att (pt σ 4 R 5 (nI (rws σ 5))) s) 1 s) := p2.1.needSign 59 (by omega) (by omega)
  have sg : f_M_sign 59 τ = if bt B n s = 59 then some (0, Bam τ (s + 1)) else some (0, FaM (Bam τ s) 1 s) := p2.1.sign 59 (by omega) (by omega)
  unfold B_Reader_readClause_331 B_M_clause_290
  rw [tb_size h.1.1.1 5 (by omega), bnd_s, p1, bnd_s, if_neg i10, ns, sg]
  by_cases q : bt B n s = 59
  · have hs := bt_in q (by omega)
    rw [if_pos q, if_pos q, bnd_s, bnd_s]
    refine ⟨_, _, rfl, rfl, Or.inl ⟨sk B n (s + 1), sk_ge (by omega), p2.kep (Kep.go t c p2.1.1.1 (s + 1) (s + 1)) (p2.1.on (by omega)) hc, rfl, fun i => ?_, FrM.f1 _ _ (by decide)⟩⟩
    show cel (pt σ 4 R 5 (nI (rws σ 5))) 5 i 0 = _
    rw [pt_other _ _ _ _ _ _ _ _ (by omega)]
  · obtain ⟨b1, b2⟩ := Bad.mk (k := 1) (p := s) (q := s) p2.1 (by omega) (by omega) hl.1 hl.1
    rw [if_neg q, if_neg q, bnd_s, bnd_s]
    exact ⟨_, _, rfl, rfl, Or.inr (p2.bad b2 b1 hc)⟩
/-- the code of a clause, in both -/
def CodB (σ τ : CS) (t r i : Nat) (b : Bool) (C : Nat) : Prop := ∃ a n c0 M f, 1 ≤ n ∧ cel σ 4 r 4 = nI a ∧ cel σ 4 r 5 = nI (a + n) ∧ a + n ≤ rws σ 5 ∧ τ.2.1 32 i = nI c0 ∧ c0 + n < C ∧ (∀ j, j < n → cel σ 5 (a + j) 0 = nI (f j) ∧ encN (f j) (τ.2.1 35 (450 * t + c0 + j)) (τ.2.1 36 (450 * t + c0 + j))) ∧ τ.2.1 35 (450 * t + c0 + n) = 14 ∧ Sgm f n M b ∧ M ≤ 60
def Cln (σ τ : CS) (t k r i C : Nat) : Prop := (cel σ 4 r 0 = nI t ∧ cel σ 4 r 1 = nI k ∧ cel σ 4 r 2 = τ.2.1 30 i) ∧ (¬ 3 < τ.2.1 30 i → cel σ 4 r 3 = τ.2.1 31 i) ∧ (3 < τ.2.1 30 i → cel σ 4 r 3 = -1) ∧ (τ.2.1 30 i = 3 → CodB σ τ t r i false C) ∧ ((τ.2.1 30 i = 0 ∨ τ.2.1 30 i = 1) → (τ.2.1 32 i = -1 ∧ cel σ 4 r 4 = cel σ 4 r 5) ∨ CodB σ τ t r i true C) ∧ Kok τ t i ∧ (τ.2.1 30 i = 4 ∨ τ.2.1 30 i = 5 ∨ τ.2.1 30 i = 7 → cel σ 4 r 6 = τ.2.1 31 i) ∧ (τ.2.1 30 i = 6 → cel σ 4 r 6 = τ.2.1 31 i ∧ cel σ 4 r 7 = τ.2.1 33 i ∧ cel σ 4 r 8 = τ.2.1 34 i)
/-- how a clause ends -/
def Fin (B : Nat → Nat) (n t : Nat) (σ0 τ0 : CS) (c0 I R s0 k : Nat) (σ τ : CS) : Prop := Kec t c0 I σ0 τ0 σ τ ∧ rws σ 4 = R + 1 ∧ ((∃ s' c', s0 + 1 ≤ s' ∧ PS B n t s' 0 c' σ τ ∧ c0 ≤ c' ∧ c' + s0 ≤ c0 + s' ∧ rws σ 5 + s0 ≤ rws σ0 5 + s' ∧ Cln σ τ t k R I c') ∨ Bad B n σ τ)
theorem BSt.fin {s0 k : Nat} {σ τ : CS} (h : BSt B n t σ0 τ0 c0 I R σ τ) : Fin B n t σ0 τ0 c0 I R s0 k σ τ := ⟨h.2.1, h.2.2, Or.inr h.1⟩
/-- where a clause's own part begins -/
def Beg (B : Nat → Nat) (n t : Nat) (σ0 τ0 : CS) (c0 I R s0 k j s : Nat) (row : Nat → Int32) (σ τ : CS) : Prop := CSt B n t σ0 τ0 c0 I R s c0 row σ τ ∧ s0 + 2 ≤ s ∧ rws σ 5 = rws σ0 5 ∧ τ.2.1 30 I = nI j ∧ τ.2.1 32 I = -1 ∧ row 0 = nI t ∧ row 1 = nI k ∧ row 2 = nI j ∧ row 3 = -1 ∧ row 4 = nI (rws σ0 5) ∧ c0 ≤ s0 + 12 ∧ rws σ0 5 + n ≤ 4000 + s0
theorem act_ag {s : Nat} {row : Nat → Int32} {σ τ : CS} (h : CSt B n t σ0 τ0 c0 I R s c0 row σ τ) (hR : rws σ0 4 = R) : (∃ a s' σ' τ', a ≤ 5 ∧ s ≤ s' ∧ f_Reader_readAct (nI R) σ = some (1, σ') ∧ f_M_act τ = some (nI a, τ') ∧ CSt B n t σ0 τ0 c0 I R s' c0 (upd row 3 (nI a)) σ' τ' ∧ rws σ' 5 = rws σ 5 ∧ FrM [23] [] τ τ') ∨ (∃ v σ' τ', f_Reader_readAct (nI R) σ = some (0, σ') ∧ f_M_act τ = some (v, τ') ∧ BSt B n t σ0 τ0 c0 I R σ' τ') := by
  obtain ⟨l1, l2, l3⟩ := h.1.le
  have h24 : τ.1 24 = 0 := h.1.2.2.2.2.1
  obtain ⟨b, hb, b1, b2⟩ := h.1.2.2.2.1
  have tl := act_loop (B := B) (n := n) B_M_act_27 6 0 FU b τ rfl (lt_FU (by omega)) h.1.2.1 h24 hb b1 (fun z => by omega)
  rw [b2] at tl
  have tl0 : ((lw 4).map ws).drop 0 = (lw 4).map ws := rfl
  rw [tl0] at tl
  unfold f_Reader_readAct f_M_act
  rcases h.1.takeWord (w := 4) (by omega) (by omega) with ⟨j, l, t1, t2, t3⟩ | ⟨t1, t3⟩
  · left
    rcases tl with ⟨j', l', u1, u2⟩ | ⟨u1, -⟩
    rotate_left
    · rw [t1] at u1; cases u1
    rw [t1] at u1
    simp only [Option.some.injEq, Prod.mk.injEq] at u1
    obtain ⟨rfl, rfl⟩ := u1
    have u2' : L_M_act_2 B_M_act_27 FU 0 τ = some (nI j, Bam τ (s + l)) := u2
    have hj : j < 6 := (fwd_b _ _ _ _ t1).2
    have C2 := h.kep (Kep.go t c0 h.1.1.1 (s + l) (s + l)) (h.1.on t2) (Nat.le_refl _)
    obtain ⟨p1, p2⟩ := C2.put hR (e := 3) (by omega) (nI j) (ce := 3) rfl
    have : s + l ≤ sk B n (s + l) := sk_ge t2
    rw [t3, bnd_s, p1, bnd_s, if_neg (nI_neg1 (by omega)), u2']
    exact ⟨j, sk B n (s + l), _, _, by omega, by omega, rfl, rfl, p2, rfl, FrM.f1 _ _ (by decide)⟩
  · right
    rcases tl with ⟨j', l', u1, -⟩ | ⟨u1, u2⟩
    · rw [t1] at u1; cases u1
    have u2' : L_M_act_2 B_M_act_27 FU 0 τ = B_M_act_27 (Bam τ s) := u2
    have C2 := h.kep (Kep.go t c0 h.1.1.1 s s) h.1.here (Nat.le_refl _)
    obtain ⟨p1, p2⟩ := C2.put hR (e := 3) (by omega) (-1) (ce := 3) rfl
    have e56 : (pt (Att σ s) 4 R 3 (-1)).1 56 = nI s := sF_self σ 56 _
    have wr : f_M_wrong 1 (nI s) (Bam τ s) = some (0, FaM (Bam τ s) 1 s) := wrongM (τ := Bam τ s) h24 1 s
    have u3 : B_M_act_27 (Bam τ s) = some (0, FaM (Bam τ s) 1 s) := by
      unfold B_M_act_27
      rw [Bam_23, wr, bnd_s]
    rw [t3, bnd_s, p1, bnd_s, if_pos rfl, u2', e56, u3]
    obtain ⟨b1, b2⟩ := Bad.mk (k := 1) (p := s) (q := s) p2.1 (by omega) (by omega) l1 l1
    have ea : Att (pt (Att σ s) 4 R 3 (-1)) s = pt (Att σ s) 4 R 3 (-1) := Att_id e56
    rw [ea, Bam_Bam] at b1 b2
    refine ⟨0, Fai (pt (Att σ s) 4 R 3 (-1)) 1 s, _, ?_, rfl, p2.bad b2 b1 (Nat.le_refl _)⟩
    show bnd (f_Reader_fail (nI 1) (nI s) (pt (Att σ s) 4 R 3 (-1))) _ = _
    rw [failC, bnd_s, if_pos rfl]
theorem num_ag {s e l h : Nat} {row : Nat → Int32} {σ τ : CS} {lo hi : Int32} (hS : CSt B n t σ0 τ0 c0 I R s c0 row σ τ) (hR : rws σ0 4 = R) (he : e < 9) {ce : Int32} (hce : ce = nI e) (hlo : lo = nI l) (hl : l ≤ 1) (hhi : hi = nI h - 1) (hh : h ≤ 10000) : (∃ a s' σ' τ', l ≤ a ∧ a < h ∧ s ≤ s' ∧ f_Reader_readNumber (nI R) ce lo hi σ = some (1, σ') ∧ f_M_figures lo hi τ = some (nI a, τ') ∧ CSt B n t σ0 τ0 c0 I R s' c0 (upd row e (nI a)) σ' τ' ∧ rws σ' 5 = rws σ 5 ∧ FrM [23] [] τ τ') ∨ (∃ v σ' τ', f_Reader_readNumber (nI R) ce lo hi σ = some (0, σ') ∧ f_M_figures lo hi τ = some (v, τ') ∧ BSt B n t σ0 τ0 c0 I R σ' τ') := by
  obtain ⟨l1, l2, l3⟩ := hS.1.le
  have h24 : τ.1 24 = 0 := hS.1.2.2.2.2.1
  obtain ⟨a, ha, a1, a2⟩ := hS.1.2.2.1
  obtain ⟨b, hb, b1, b2⟩ := hS.1.2.2.2.1
  unfold f_Reader_readNumber
  rcases number_ag hS.1.1 hS.1.2.1 ha hb a1 b1 a2 b2 h24 hlo hl hhi hh with ⟨r, r1, r2, r3, r4, r5, r6⟩ | ⟨k, p, q, v, k1, k2, p1, q1, k3, k4⟩
  · left
    have C2 := hS.kep (Kep.go t c0 hS.1.1.1 (s + r) (s + r)) (hS.1.on r2) (Nat.le_refl _)
    obtain ⟨p1, p2⟩ := C2.put hR he (nI (vl B n s r)) hce
    have : s + r ≤ sk B n (s + r) := sk_ge r2
    rw [r5, bnd_s, p1, bnd_s, if_neg (nI_neg1 (by omega)), r6]
    exact ⟨vl B n s r, sk B n (s + r), _, _, r3, r4, by omega, rfl, rfl, p2, rfl, FrM.f1 _ _ (by decide)⟩
  · right
    obtain ⟨b1, b2⟩ := Bad.mk (k := k) (p := p) (q := q) hS.1 k1 k2 p1 q1
    have B2 := hS.bad b2 b1 (Nat.le_refl _)
    obtain ⟨p1, p2⟩ := B2.put hR he (-1) hce
    rw [k3, bnd_s, p1, bnd_s, if_pos rfl, k4]
    exact ⟨v, _, _, rfl, rfl, p2⟩
/-- the reference puts an end behind a code -/
theorem endM {s c : Nat} {σ τ : CS} (h : PS B n t s 0 c σ τ) (ht : t < 10) (hc : c < 450) : ∃ τ', f_M_emits 14 0 τ = some (0, τ') ∧ PS B n t s 0 (c + 1) σ τ' ∧ Kep t c σ τ σ τ' ∧ τ'.2.1 35 (450 * t + c) = 14 := by
  obtain ⟨h1, h2, h3, h4, h5, h6, h7, h8, h9, h10⟩ := h
  have eq : (450 : Int32) * nI t + nI c = nI (450 * t + c) := by rw [show (450 : Int32) = nI 450 from rfl, nI_mul, nI_add]
  have em : f_M_emits 14 0 τ = some (0, sF (sA (sA τ 35 (upd (τ.2.1 35) (450 * t + c) 14)) 36 (upd (τ.2.1 36) (450 * t + c) 0)) 27 (nI (c + 1))) := by
    unfold f_M_emits
    rw [h5, if_pos (by decide), h8, h7, eq, gix_n (by omega) (by omega), gix_n (by omega) (by omega), wrn (by omega), wrn (by omega)]
    simp only [va_up, reduceIte, Nat.reduceEqDiff, h7, nI_1]
  have G : FrM [27] [35, 36] τ (sF (sA (sA τ 35 (upd (τ.2.1 35) (450 * t + c) 14)) 36 (upd (τ.2.1 36) (450 * t + c) 0)) 27 (nI (c + 1))) := (FrM.f2 _ _ (by decide)).trans ((FrM.f2 _ _ (by decide)).trans (FrM.f1 _ _ (by decide)))
  refine ⟨_, em, ⟨h1, h2.frM G (by decide) (by decide), h3, ?_, (G.1 24 (by decide)).trans h5, (G.1 26 (by decide)).trans h6, sF_self _ 27 _, (G.1 21 (by decide)).trans h8, h9, (G.1 25 (by decide)).trans h10⟩, ⟨FrC.refl _ _ _, G.mono (by decide) (by decide), h1.1, Nat.le_refl _, fun _ _ => rfl, fun i hi => ?_⟩, ?_⟩
  · rw [G.1 23 (by decide)]; exact h4
  · simp only [va_up, reduceIte, Nat.reduceEqDiff, upd]
    rw [if_neg (by omega), if_neg (by omega)]
    exact ⟨rfl, rfl⟩
  · simp [va_up, upd]
