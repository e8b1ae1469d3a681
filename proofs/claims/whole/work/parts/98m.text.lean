/-! ===== layer 2: texts are read; a clause whole, a text whole ===== -/
theorem fwd_len {B : Nat → Nat} {n s : Nat} : ∀ (L : List Nat) (i j l : Nat), fwd B n s (L.map ws) i = some (j, l) → i ≤ j ∧ ∃ u, L[j - i]? = some u ∧ l = (ws u).length := by
  intro L
  induction L with
  | nil => intro i j l h; cases h
  | cons u L ih =>
    intro i j l h
    have h' : (if isWb B n (ws u) s = true then some (i, (ws u).length) else fwd B n s (L.map ws) (i + 1)) = some (j, l) := h
    by_cases q : isWb B n (ws u) s = true
    · rw [if_pos q] at h'
      simp only [Option.some.injEq, Prod.mk.injEq] at h'
      obtain ⟨rfl, rfl⟩ := h'
      exact ⟨Nat.le_refl _, u, by rw [Nat.sub_self]; rfl, rfl⟩
    · rw [if_neg q] at h'
      obtain ⟨h1, v, h2, h3⟩ := ih _ _ _ h'
      refine ⟨by omega, v, ?_, h3⟩
      rw [show j - i = (j - (i + 1)) + 1 by omega, List.getElem?_cons_succ]
      exact h2
theorem lw3 : ∀ j, j < 8 → (lw 3)[j]? = some (12 + j) := by decide +kernel
theorem Kec.refl (t c I : Nat) {σ : CS} (hW : WC σ) (τ : CS) : Kec t c I σ τ σ τ := ⟨FrC.refl _ _ _, FrM.refl _ _ _, hW, Nat.le_refl _, fun _ _ => rfl, fun _ _ => ⟨rfl, rfl⟩, fun _ _ _ _ _ => rfl, Nat.le_refl _, fun _ _ _ _ => rfl⟩
theorem Kec.app {t c I : Nat} {σ0 τ0 σ τ σ' : CS} {row : Nat → Int32} (h : Kec t c I σ0 τ0 σ τ) (a : App σ 4 row σ') : Kec t c I σ0 τ0 σ' τ := by
  obtain ⟨a1, a2, a3, a4, a5, a6, a7, a8, a9⟩ := h
  have f : FrC [14] [4] σ σ' := a.fr
  refine ⟨a1.trans (f.mono (by decide) (by decide)), a2, a.1, by rw [f.fr (t := 5) (by decide)]; exact a4, fun i hi => (f.fc (by decide) i 0).trans (a5 i hi), a6, a7, by rw [a.2.1]; omega, fun i e h1 h2 => ?_⟩
  rw [a.2.2.2.2.2 i e (by omega) (show e < wid 4 from h2)]
  exact a9 i e h1 h2
theorem clause_ag {B : Nat → Nat} {n t s k c R : Nat} {σ τ : CS} (hP : PS B n t s 0 c σ τ) (h57 : σ.1 57 = nI t) (ht : t < 10) (hk : k < 12) (hR : rws σ 4 = R) (hR2 : R < 120) (hc : c ≤ s + 12) (hr : rws σ 5 + n ≤ 4000 + s) : ∃ v1 σ' v2 τ', f_Reader_readClause (nI k) σ = some (v1, σ') ∧ f_M_clause (nI (12 * t + k)) τ = some (v2, τ') ∧ Kec t c (12 * t + k) σ τ σ' τ' ∧ ((rws σ' 4 = R + 1 ∧ ∃ s' c', s + 1 ≤ s' ∧ PS B n t s' 0 c' σ' τ' ∧ c ≤ c' ∧ c' + s ≤ c + s' ∧ rws σ' 5 + s ≤ rws σ 5 + s' ∧ Cln σ' τ' t k R (12 * t + k) c') ∨ Bad B n σ' τ') := by
  obtain ⟨l1, l2, l3⟩ := hP.le
  have h24 : τ.1 24 = 0 := hP.2.2.2.2.1
  have hI : 12 * t + k < 120 := by omega
  generalize hIe : 12 * t + k = I at *
  obtain ⟨b, hb, b1, b2⟩ := hP.2.2.2.1
  have cl := clause_loop (B := B) (n := n) 8 0 FU b τ rfl (lt_FU (by omega)) hP.2.1 hb b1 (fun z => by omega)
  rw [b2] at cl
  have cl0 : ((lw 3).map ws).drop 0 = (lw 3).map ws := rfl
  rw [cl0] at cl
  have gI : ∀ {X : Type} (o : Option X), gix (nI I) 120 o = o := fun o => gix_n hI (by omega)
  unfold f_Reader_readClause f_M_clause f_M_clauseHere
  rcases hP.takeWord (w := 3) (by omega) (by omega) with ⟨j, l, t1, t2, t3⟩ | ⟨t1, t3⟩
  rotate_left
  · rcases cl with ⟨j', l', u1, -⟩ | ⟨u1, u2⟩
    · rw [t1] at u1; cases u1
    have u2' : L_M_clauseHere_2 FU 0 τ = some (-1, Bam τ s) := u2
    obtain ⟨x1, x2⟩ := Bad.mk (k := 1) (p := s) (q := s) hP (by omega) (by omega) l1 l1
    have wr : f_M_wrong 1 (nI s) (Bam τ s) = some (0, FaM (Bam τ s) 1 s) := wrongM (τ := Bam τ s) h24 1 s
    rw [t3, bnd_s, if_pos rfl, u2', bnd_s, if_neg (by decide), Bam_23, wr, bnd_s, show (Att σ s).1 56 = nI s from sF_self σ 56 _]
    refine ⟨0, Fai (Att σ s) 1 s, 0, _, ?_, rfl, (Kec.refl t c I hP.1.1 τ).kep x2 (Nat.le_refl _), Or.inr x1⟩
    show bnd (f_Reader_fail (nI 1) (nI s) (Att σ s)) _ = _
    rw [failC, bnd_s]
  rcases cl with ⟨j', l', u1, u2⟩ | ⟨u1, -⟩
  rotate_left
  · rw [t1] at u1; cases u1
  rw [t1] at u1
  simp only [Option.some.injEq, Prod.mk.injEq] at u1
  obtain ⟨rfl, rfl⟩ := u1
  have u2' : L_M_clauseHere_2 FU 0 τ = some (nI j, Bam τ s) := u2
  have hj : j < 8 := (fwd_b _ _ _ _ t1).2
  have hlen : l = (ws (12 + j)).length := by
    obtain ⟨-, u, x1, x2⟩ := fwd_len _ _ _ _ t1
    rw [Nat.sub_zero, lw3 j hj] at x1
    simp only [Option.some.injEq] at x1
    rw [x2, ← x1]
  have hl2 : 2 ≤ l := (fwd_97 (lw 3) 0 j l (lw_in 3 (by omega)) t1).2
  have hge := sk_ge (B := B) t2
  -- the class: a new row
  have C0 : Kec t c I σ τ (Att σ (s + l)) (Bam τ (s + l)) := (Kec.refl t c I hP.1.1 τ).kep (Kep.go t c hP.1.1 (s + l) (s + l)) (Nat.le_refl _)
  obtain ⟨σb, p1, p2⟩ := tb_add (σ := Att σ (s + l)) (C0.2.2.1) 4 (by omega) (show rws (Att σ (s + l)) 4 < 120 by show rws σ 4 < 120; omega)
  have eR : rws (Att σ (s + l)) 4 = R := hR
  rw [eR] at p1
  have P1 : PS B n t (sk B n (s + l)) 0 c σb (Bam τ (s + l)) := (hP.on t2).frC (I := [14]) (A := [4]) p2.fr p2.1 (by decide) (by decide)
  have S1 : CSt B n t σ τ c I R (sk B n (s + l)) c (fun _ => -1) σb (Bam τ (s + l)) := ⟨P1, C0.app p2, by rw [p2.2.1, eR], fun e he => by
    have := p2.2.2.2.2.1 e (show e < wid 4 from he)
    rw [eR] at this
    exact this⟩
  have e57 : σb.1 57 = nI t := by rw [p2.2.2.1 57 (by omega)]; exact h57
  have e5b : rws σb 5 = rws σ 5 := (App.fr p2).fr (t := 5) (by decide)
  obtain ⟨q1, S2⟩ := S1.put hR (e := 0) (by omega) (nI t) (ce := 0) rfl
  obtain ⟨q2, S3⟩ := S2.put hR (e := 1) (by omega) (nI k) (ce := 1) rfl
  obtain ⟨q3, S4⟩ := S3.put hR (e := 2) (by omega) (nI j) (ce := 2) rfl
  obtain ⟨q4, S5⟩ := S4.put hR (e := 4) (by omega) (nI (rws σ 5)) (ce := 4) rfl
  have S6 := (S5.wr (a := 30) (by omega) (by omega) (nI j)).wr (a := 32) (by omega) (by omega) (-1)
  have r5 : rws (pt (pt (pt σb 4 R 0 (nI t)) 4 R 1 (nI k)) 4 R 2 (nI j)) 5 = rws σ 5 := e5b
  have hsl : (sF (Bam τ s) 23 ((Bam τ s).1 23 + slen (nI (12 + j)).toNatClampNeg)) = Bam τ (s + l) := by
    rw [nI_clamp (by omega), slen_ws (by omega), Bam_23, nI_add, ← hlen, sF_sF]
  have hBeg : Beg B n t σ τ c I R s k j (sk B n (s + l)) _ _ _ := ⟨S6, by omega, e5b, by simp [va_up, upd], by simp [va_up, upd], by simp [upd], by simp [upd], by simp [upd], by simp [upd], by simp [upd], hc, hr⟩
  rw [t3, bnd_s, if_neg (nI_neg1 (by omega)), if_pos ((lt_lit 12 (by omega) (by omega)).2 hk), p1, bnd_s, e57, q1, bnd_s, q2, bnd_s, q3, bnd_s, tb_size S4.1.1.1 5 (by omega), bnd_s, r5, q4, bnd_s, u2', bnd_s, if_pos ((lit_le 0 (by omega) (by omega)).2 (Nat.zero_le _)), clauseName_m j hj, bnd_s, gI, gI, hsl, wrn (show I < 2147483648 by omega), wrn (show I < 2147483648 by omega)]
  generalize hσe : pt (pt (pt (pt σb 4 R 0 (nI t)) 4 R 1 (nI k)) 4 R 2 (nI j)) 4 R 4 (nI (rws σ 5)) = σe at *
  generalize hτe : sA (sA (Bam τ (s + l)) 30 (upd ((Bam τ (s + l)).2.1 30) I (nI j))) 32 (upd ((sA (Bam τ (s + l)) 30 (upd ((Bam τ (s + l)).2.1 30) I (nI j))).2.1 32) I (-1)) = τe at *
  have conv : ∀ {P Q : Option (Int32 × CS)}, (∃ v1 σ' v2 τ', P = some (v1, σ') ∧ Q = some (v2, τ') ∧ Fin B n t σ τ c I R s k σ' τ') → ∃ v1 σ' v2 τ', P = some (v1, σ') ∧ Q = some (v2, τ') ∧ Kec t c I σ τ σ' τ' ∧ ((rws σ' 4 = R + 1 ∧ ∃ s' c', s + 1 ≤ s' ∧ PS B n t s' 0 c' σ' τ' ∧ c ≤ c' ∧ c' + s ≤ c + s' ∧ rws σ' 5 + s ≤ rws σ 5 + s' ∧ Cln σ' τ' t k R I c') ∨ Bad B n σ' τ') := by
    rintro P Q ⟨v1, σ', v2, τ', x1, x2, x3, x4, x5⟩
    refine ⟨v1, σ', v2, τ', x1, x2, x3, ?_⟩
    rcases x5 with x5 | x5
    · exact Or.inl ⟨x4, x5⟩
    · exact Or.inr x5
  have hcs : j = 0 ∨ j = 1 ∨ j = 2 ∨ j = 3 ∨ j = 4 ∨ j = 5 ∨ j = 6 ∨ j = 7 := by omega
  have n57 : σe.1 57 = nI t := by rw [← hσe]; exact e57
  have e21 : τe.1 21 = nI t := S6.1.2.2.2.2.2.2.2.1
  rcases hcs with rfl | rfl | rfl | rfl | rfl | rfl | rfl | rfl
  · rw [if_pos (show nI 0 = (0 : Int32) from rfl), if_neg (lo3 (by omega))]
    simp only [gI, wrn (show I < 2147483648 by omega)]
    have := kind_if hBeg (by omega) hR ht hI
    simp only [gI, wrn (show I < 2147483648 by omega)] at this
    exact conv this
  · rw [if_neg (show ¬ nI 1 = (0 : Int32) by decide), if_pos (show nI 1 = (1 : Int32) from rfl), if_neg (lo3 (by omega))]
    simp only [gI, wrn (show I < 2147483648 by omega)]
    have := kind_if hBeg (by omega) hR ht hI
    simp only [gI, wrn (show I < 2147483648 by omega)] at this
    exact conv this
  · rw [if_neg (show ¬ nI 2 = (0 : Int32) by decide), if_neg (show ¬ nI 2 = (1 : Int32) by decide), if_pos (show nI 2 = (2 : Int32) from rfl), if_neg (lo3 (by omega))]
    simp only [gI, wrn (show I < 2147483648 by omega)]
    have := kind_strike hBeg hR hI
    simp only [gI, wrn (show I < 2147483648 by omega)] at this
    exact conv this
  · rw [if_neg (show ¬ nI 3 = (0 : Int32) by decide), if_neg (show ¬ nI 3 = (1 : Int32) by decide), if_neg (show ¬ nI 3 = (2 : Int32) by decide), if_pos (show nI 3 = (3 : Int32) from rfl), if_neg (lo3 (by omega))]
    simp only [gI, wrn (show I < 2147483648 by omega)]
    have := kind_fine hBeg hR ht hI
    simp only [gI, wrn (show I < 2147483648 by omega)] at this
    exact conv this
  · rw [if_neg (show ¬ nI 4 = (0 : Int32) by decide), if_neg (show ¬ nI 4 = (1 : Int32) by decide), if_neg (show ¬ nI 4 = (2 : Int32) by decide), if_neg (show ¬ nI 4 = (3 : Int32) by decide), if_pos (show nI 4 = (4 : Int32) from rfl), if_pos (hi3 (by omega) (by omega)), b64_hi (by omega) (by omega)]
    unfold B_M_clause_138
    rw [if_pos (show nI 4 = (4 : Int32) from rfl), n57, e21]
    exact conv (kind_num (l := 0) (h := t) hBeg (Or.inl ⟨rfl, rfl⟩) hR hI rfl (by omega) rfl (by omega))
  · rw [if_neg (show ¬ nI 5 = (0 : Int32) by decide), if_neg (show ¬ nI 5 = (1 : Int32) by decide), if_neg (show ¬ nI 5 = (2 : Int32) by decide), if_neg (show ¬ nI 5 = (3 : Int32) by decide), if_neg (show ¬ nI 5 = (4 : Int32) by decide), if_pos (show nI 5 = (5 : Int32) from rfl), if_pos (hi3 (by omega) (by omega)), b64_hi (by omega) (by omega)]
    unfold B_M_clause_138
    rw [if_neg (show ¬ nI 5 = (4 : Int32) by decide), if_pos (show nI 5 = (5 : Int32) from rfl)]
    exact conv (kind_heirs hBeg hR hI)
  · rw [if_neg (show ¬ nI 6 = (0 : Int32) by decide), if_neg (show ¬ nI 6 = (1 : Int32) by decide), if_neg (show ¬ nI 6 = (2 : Int32) by decide), if_neg (show ¬ nI 6 = (3 : Int32) by decide), if_neg (show ¬ nI 6 = (4 : Int32) by decide), if_neg (show ¬ nI 6 = (5 : Int32) by decide), if_pos (show nI 6 = (6 : Int32) from rfl), if_pos (hi3 (by omega) (by omega)), b64_hi (by omega) (by omega)]
    unfold B_M_clause_138
    rw [if_neg (show ¬ nI 6 = (4 : Int32) by decide), if_neg (show ¬ nI 6 = (5 : Int32) by decide), if_pos (show nI 6 = (6 : Int32) from rfl)]
    exact conv (kind_courts hBeg hR hI)
  · rw [if_neg (show ¬ nI 7 = (0 : Int32) by decide), if_neg (show ¬ nI 7 = (1 : Int32) by decide), if_neg (show ¬ nI 7 = (2 : Int32) by decide), if_neg (show ¬ nI 7 = (3 : Int32) by decide), if_neg (show ¬ nI 7 = (4 : Int32) by decide), if_neg (show ¬ nI 7 = (5 : Int32) by decide), if_neg (show ¬ nI 7 = (6 : Int32) by decide), if_pos (hi3 (by omega) (by omega)), b64_hi (by omega) (by omega)]
    unfold B_M_clause_138
    rw [if_neg (show ¬ nI 7 = (4 : Int32) by decide), if_neg (show ¬ nI 7 = (5 : Int32) by decide), if_neg (show ¬ nI 7 = (6 : Int32) by decide), if_pos (show nI 7 = (7 : Int32) from rfl)]
    exact conv (kind_num (l := 1) (h := 61) hBeg (Or.inr ⟨rfl, rfl, rfl⟩) hR hI rfl (by omega) (by decide) (by omega))
/-- what stays while a text is read -/
def Ket (t : Nat) (σ0 τ0 σ τ : CS) : Prop := FrC [14, 17, 56, 58, 59] [4, 5] σ0 σ ∧ FrM [23, 24, 25, 26, 27] [30, 31, 32, 33, 34, 35, 36] τ0 τ ∧ WC σ ∧ rws σ0 5 ≤ rws σ 5 ∧ (∀ i, i < rws σ0 5 → cel σ 5 i 0 = cel σ0 5 i 0) ∧ (∀ i, i < 450 * t → τ.2.1 35 i = τ0.2.1 35 i ∧ τ.2.1 36 i = τ0.2.1 36 i) ∧ (∀ a i, 30 ≤ a → a ≤ 34 → i < 12 * t → τ.2.1 a i = τ0.2.1 a i) ∧ rws σ0 4 ≤ rws σ 4 ∧ ∀ i e, i < rws σ0 4 → e < 9 → cel σ 4 i e = cel σ0 4 i e
theorem Ket.kec {t c I : Nat} {σ0 τ0 σ τ σ' τ' : CS} (h : Ket t σ0 τ0 σ τ) (k : Kec t c I σ τ σ' τ') (hI : 12 * t ≤ I) : Ket t σ0 τ0 σ' τ' := by
  obtain ⟨a1, a2, a3, a4, a5, a6, a7, a8, a9⟩ := h
  obtain ⟨b1, b2, b3, b4, b5, b6, b7, b8, b9⟩ := k
  exact ⟨a1.trans b1, a2.trans b2, b3, by omega, fun i hi => (b5 i (by omega)).trans (a5 i hi), fun i hi => ⟨(b6 i (by omega)).1.trans (a6 i hi).1, (b6 i (by omega)).2.trans (a6 i hi).2⟩, fun a i h1 h2 h3 => (b7 a i h1 h2 (by omega)).trans (a7 a i h1 h2 h3), by omega, fun i e h1 h2 => (b9 i e (by omega) h2).trans (a9 i e h1 h2)⟩
theorem CodB.kec {t c I r i C : Nat} {b : Bool} {σ τ σ' τ' : CS} (h : CodB σ τ t r i b c) (k : Kec t c I σ τ σ' τ') (hr : r < rws σ 4) (hi : i ≠ I) (hC : c ≤ C) : CodB σ' τ' t r i b C := by
  obtain ⟨a, n, c0, M, f, h1, h2, h3, h4, h5, h6, h7, h8, h9, h10⟩ := h
  obtain ⟨b1, b2, b3, b4, b5, b6, b7, b8, b9⟩ := k
  refine ⟨a, n, c0, M, f, h1, by rw [b9 r 4 hr (by omega)]; exact h2, by rw [b9 r 5 hr (by omega)]; exact h3, by omega, by rw [b7 32 i (by omega) (by omega) hi]; exact h5, by omega, fun j hj => ?_, ?_, h9, h10⟩
  · rw [b5 (a + j) (by omega), (b6 (450 * t + c0 + j) (by omega)).1, (b6 (450 * t + c0 + j) (by omega)).2]
    exact h7 j hj
  · rw [(b6 (450 * t + c0 + n) (by omega)).1]
    exact h8
theorem Cln.kec {t c I r i k C : Nat} {σ τ σ' τ' : CS} (h : Cln σ τ t k r i c) (K : Kec t c I σ τ σ' τ') (hr : r < rws σ 4) (hi : i ≠ I) (hC : c ≤ C) : Cln σ' τ' t k r i C := by
  obtain ⟨b1, b2, b3, b4, b5, b6, b7, b8, b9⟩ := id K
  obtain ⟨h1, h2, h3, h4, h5, h6, h7, h8⟩ := h
  unfold Cln Kok
  unfold Kok at h6
  rw [b7 30 i (by omega) (by omega) hi, b7 31 i (by omega) (by omega) hi, b7 32 i (by omega) (by omega) hi, b7 33 i (by omega) (by omega) hi, b7 34 i (by omega) (by omega) hi, b9 r 0 hr (by omega), b9 r 1 hr (by omega), b9 r 2 hr (by omega), b9 r 3 hr (by omega), b9 r 4 hr (by omega), b9 r 5 hr (by omega), b9 r 6 hr (by omega), b9 r 7 hr (by omega), b9 r 8 hr (by omega)]
  refine ⟨h1, h2, h3, fun z => (h4 z).kec K hr hi hC, fun z => ?_, h6, h7, h8⟩
  rcases h5 z with y | y
  · exact Or.inl y
  · exact Or.inr (y.kec K hr hi hC)
/-- a text read to its end -/
def Rdd (B : Nat → Nat) (n t R0 k s c : Nat) (σ0 σ τ : CS) : Prop := PS B n t s 0 c σ τ ∧ rws σ 4 = R0 + k ∧ (∀ j, j < k → Cln σ τ t j (R0 + j) (12 * t + j) c) ∧ c ≤ s ∧ rws σ 5 ≤ rws σ0 5 + s
theorem PS.goesOn {B : Nat → Nat} {n t s c : Nat} {σ τ : CS} (h : PS B n t s 0 c σ τ) : f_Reader_goesOn σ = if n ≤ s then some (0, Att σ s) else some (1, Att σ s) := by
  obtain ⟨l1, l2, l3⟩ := h.le
  have h58 : (Att σ s).1 58 = 0 := h.2.2.2.2.2.2.2.2.1
  have h55 : (Att σ s).1 55 = nI n := h.1.2.2.2.2
  unfold f_Reader_goesOn
  rw [h.skip, bnd_s, if_pos h58, h55, show (Att σ s).1 56 = nI s from sF_self σ 56 _]
  by_cases q : n ≤ s
  · rw [if_pos q, if_pos (nI_le q (by omega))]
  · rw [if_neg q, if_neg (nI_ge (by omega) (by omega))]
/-- what stands behind blanks is read as if they had been skipped -/
theorem add_skip {B : Nat → Nat} {n t s c : Nat} {σ τ : CS} {KC : Int32 → Int32 → Int32 → CS → Option (Int32 × CS)} {X1 X2 X3 x : Int32} {m : Nat} (h : PS B n t s 0 c σ τ) (hm : 0 < m) (hx : ¬ 12 < x) : L_Laws_addText_50 KC X1 X2 X3 m x σ = L_Laws_addText_50 KC X1 X2 X3 m x (Att σ s) := by
  obtain ⟨m, rfl⟩ : ∃ n, m = n + 1 := ⟨m - 1, by omega⟩
  rw [L_Laws_addText_50, L_Laws_addText_50, if_neg hx, if_neg hx, h.goesOn, h.hereC.goesOn, Att_Att]
theorem text_loop {B : Nat → Nat} {n t R0 : Nat} {σ0 τ0 : CS} (ht : t < 10) (hR0 : R0 ≤ 108) (hr0 : rws σ0 5 ≤ 3600) (day : Int32) (K : Int32 → Int32 → CS → Option (Int32 × CS)) (KC : Int32 → Int32 → Int32 → CS → Option (Int32 × CS)) (X1 X2 X3 : Int32) : ∀ (d k m m' s c : Nat) (σ τ : CS), k + d = 12 → d + 2 ≤ m → d + 2 ≤ m' → σ.1 56 = nI s → τ.1 23 = nI s → σ.1 57 = nI t → Ket t σ0 τ0 σ τ → Rdd B n t R0 k s c σ0 σ τ →
    ∃ σ' τ', Ket t σ0 τ0 σ' τ' ∧ ((∃ k' s' c', k' ≤ 12 ∧ L_Laws_addText_50 KC X1 X2 X3 m (nI k) σ = KC X1 X2 X3 σ' ∧ L_M_text_91 K day m' (nI k) τ = K day (nI k') τ' ∧ Rdd B n t R0 k' s' c' σ0 σ' τ') ∨ (∃ kk p x, 1 ≤ kk ∧ kk ≤ 3 ∧ p ≤ n ∧ L_Laws_addText_50 KC X1 X2 X3 m (nI k) σ = KC X1 X2 X3 σ' ∧ L_M_text_91 K day m' (nI k) τ = K day x τ' ∧ σ'.1 59 = nI p ∧ τ'.1 24 = nI kk ∧ τ'.1 25 = nI p ∧ σ'.1 58 = nI kk)) := by
  intro d
  induction d with
  | zero =>
    intro k m m' s c σ τ h1 h2 h3 h56 h23 h57 hK hD
    obtain ⟨m, rfl⟩ : ∃ n, m = n + 2 := ⟨m - 2, by omega⟩
    obtain ⟨m', rfl⟩ : ∃ n, m' = n + 2 := ⟨m' - 2, by omega⟩
    have hk : k = 12 := by omega
    subst hk
    obtain ⟨hP, g1, g2, g3, g4⟩ := id hD
    obtain ⟨l1, l2, l3⟩ := hP.le
    have h24 : τ.1 24 = 0 := hP.2.2.2.2.1
    have h58 : σ.1 58 = 0 := hP.2.2.2.2.2.2.2.2.1
    have h22 : τ.1 22 = nI n := hP.2.1.1
    have h55 : σ.1 55 = nI n := hP.1.2.2.2.2
    rw [L_Laws_addText_50, L_M_text_91, if_neg (show ¬ (12 : Int32) < nI 12 by decide), hP.goesOn, Att_id h56, if_pos h24, h22, h23]
    by_cases q : n ≤ s
    · rw [if_pos q, if_pos (nI_le q (by omega)), bnd_s, if_pos rfl]
      exact ⟨σ, τ, hK, Or.inl ⟨12, s, c, by omega, rfl, rfl, hD⟩⟩
    rw [if_neg q, if_neg (nI_ge (by omega) (by omega)), bnd_s, if_neg i10, if_pos (show nI 12 = (12 : Int32) from rfl)]
    have cl := clause_loop (B := B) (n := n) 8 0 FU s τ rfl (lt_FU (by omega)) hP.2.1 l1 h23 (fun z => by omega)
    rw [l3, Bam_id h23] at cl
    have cl0 : ((lw 3).map ws).drop 0 = (lw 3).map ws := rfl
    rw [cl0] at cl
    -- the end, once both have failed
    have fin : ∀ (kk e : Nat), 1 ≤ kk → kk ≤ 3 → e ≤ n → ∃ σ' τ', Ket t σ0 τ0 σ' τ' ∧ L_Laws_addText_50 KC X1 X2 X3 (m + 1) (nI 12 + 1) (Fai (Att σ e) kk s) = KC X1 X2 X3 σ' ∧ L_M_text_91 K day (m' + 1) (nI 12) (FaM τ kk s) = K day (nI 12) τ' ∧ σ'.1 59 = nI s ∧ τ'.1 24 = nI kk ∧ τ'.1 25 = nI s ∧ σ'.1 58 = nI kk := by
      intro kk e hk1 hk2 he
      have fC : FrC [56, 58, 59] [] σ (Fai (Att σ e) kk s) := (FrC.f1 _ _ (by decide)).trans ((FrC.f1 _ _ (by decide)).trans (FrC.f1 _ _ (by decide)))
      have hW : WC (Fai (Att σ e) kk s) := hP.1.1.fr fC (by decide) (by decide)
      have m24 : (FaM τ kk s).1 24 = nI kk := sF_self τ 24 _
      have n24 : ¬ (FaM τ kk s).1 24 = 0 := by rw [m24]; exact (pos3 hk1 hk2 rfl).2
      have K2 : Kep t 0 σ τ (Fai (Att σ e) kk s) (FaM τ kk s) := Kep.mv t 0 hP.1.1 fC ((FrM.f1 _ _ (by decide)).trans (FrM.f1 _ _ (by decide)))
      refine ⟨Fai (Att σ e) kk s, FaM τ kk s, hK.kec (I := 12 * t) ((Kec.refl t 0 (12 * t) hP.1.1 τ).kep K2 (Nat.le_refl _)) (Nat.le_refl _), ?_, ?_, sF_self (sF (Att σ e) 58 (nI kk)) 59 _, m24, sF_self _ 25 _, sF_self (Att σ e) 58 _⟩
      · rw [L_Laws_addText_50, if_pos (show (12 : Int32) < nI 12 + 1 by decide)]
      · rw [L_M_text_91, if_neg n24]
    unfold f_Reader_readClause B_M_text_128 f_M_clauseHere
    rcases hP.takeWord (w := 3) (by omega) (by omega) with ⟨j, l, t1, t2, t3⟩ | ⟨t1, t3⟩
    · rcases cl with ⟨j', l', u1, u2⟩ | ⟨u1, -⟩
      rotate_left
      · rw [t1] at u1; cases u1
      rw [t1] at u1
      simp only [Option.some.injEq, Prod.mk.injEq] at u1
      obtain ⟨rfl, rfl⟩ := u1
      have hj : j < 8 := (fwd_b _ _ _ _ t1).2
      have u2' : L_M_clauseHere_2 FU 0 τ = some (nI j, τ) := u2
      have wr : f_M_wrong 3 (nI s) τ = some (0, FaM τ 3 s) := wrongM h24 3 s
      have fl : f_Reader_fail 3 (nI s) (Att σ (s + l)) = some (0, Fai (Att σ (s + l)) 3 s) := rfl
      obtain ⟨σ', τ', f1, f2, f3, f4, f5, f6, f7⟩ := fin 3 (s + l) (by omega) (by omega) t2
      rw [t3, bnd_s, if_neg (nI_neg1 (by omega)), if_neg (show ¬ nI 12 < (12 : Int32) by decide), h56, fl, bnd_s, bnd_s, f2, u2', bnd_s, if_neg (fun z => absurd ((lt_lit 0 (by omega) (by omega)).1 z) (by omega)), h23, wr, bnd_s, f3]
      exact ⟨σ', τ', f1, Or.inr ⟨3, s, nI 12, by omega, by omega, l1, rfl, rfl, f4, f5, f6, f7⟩⟩
    · rcases cl with ⟨j', l', u1, -⟩ | ⟨u1, u2⟩
      · rw [t1] at u1; cases u1
      have u2' : L_M_clauseHere_2 FU 0 τ = some (-1, τ) := u2
      have wr : f_M_wrong 1 (nI s) τ = some (0, FaM τ 1 s) := wrongM h24 1 s
      have fl : f_Reader_fail 1 (nI s) (Att σ s) = some (0, Fai (Att σ s) 1 s) := rfl
      obtain ⟨σ', τ', f1, f2, f3, f4, f5, f6, f7⟩ := fin 1 s (by omega) (by omega) l1
      rw [t3, bnd_s, if_pos rfl, show (Att σ s).1 56 = nI s from sF_self σ 56 _, fl, bnd_s, bnd_s, f2, u2', bnd_s, if_pos (by decide), h23, wr, bnd_s, f3]
      exact ⟨σ', τ', f1, Or.inr ⟨1, s, nI 12, by omega, by omega, l1, rfl, rfl, f4, f5, f6, f7⟩⟩
  | succ d ih =>
    intro k m m' s c σ τ h1 h2 h3 h56 h23 h57 hK hD
    obtain ⟨m, rfl⟩ : ∃ n, m = n + 1 := ⟨m - 1, by omega⟩
    obtain ⟨m', rfl⟩ : ∃ n, m' = n + 1 := ⟨m' - 1, by omega⟩
    obtain ⟨hP, g1, g2, g3, g4⟩ := id hD
    obtain ⟨l1, l2, l3⟩ := hP.le
    have h24 : τ.1 24 = 0 := hP.2.2.2.2.1
    have h58 : σ.1 58 = 0 := hP.2.2.2.2.2.2.2.2.1
    have h22 : τ.1 22 = nI n := hP.2.1.1
    have h55 : σ.1 55 = nI n := hP.1.2.2.2.2
    have h21 : τ.1 21 = nI t := hP.2.2.2.2.2.2.2.1
    rw [L_Laws_addText_50, L_M_text_91, if_neg (fun z => absurd ((lit_lt 12 (by omega) (by omega)).1 z) (by omega)), hP.goesOn, Att_id h56, if_pos h24, h22, h23]
    by_cases q : n ≤ s
    · rw [if_pos q, if_pos (nI_le q (by omega)), bnd_s, if_pos rfl]
      exact ⟨σ, τ, hK, Or.inl ⟨k, s, c, by omega, rfl, rfl, hD⟩⟩
    have eI : (12 : Int32) * nI t + nI k = nI (12 * t + k) := by rw [show (12 : Int32) = nI 12 from rfl, nI_mul, nI_add]
    rw [if_neg q, if_neg (nI_ge (by omega) (by omega)), bnd_s, if_neg i10, if_neg (show ¬ nI k = 12 from fun z => by have := nI_eqI (b := 12) (by omega) (by omega) z; omega), h21, eI]
    obtain ⟨v1, σ1, v2, τ1, x1, x2, x3, x4⟩ := clause_ag hP h57 ht (show k < 12 by omega) g1 (by omega) (by omega) (by omega)
    rw [x1, x2, bnd_s, bnd_s, nI_1]
    rcases x4 with ⟨y1, s1, c1, y2, y3, y4, y5, y6, y7⟩ | x4
    rotate_left
    · obtain ⟨hd, kk, p, w1, w2, w3, w4, w5, w6, w7, a, w8, w9⟩ := x4
      have hcl : CL B n σ1 := hP.1.frC x3.1 x3.2.2.1 (by decide) (by decide)
      obtain ⟨τ2, z1, z2, z3⟩ := hd.blanks
      have n58 : ¬ (Att σ1 (sk B n a)).1 58 = 0 := by
        rw [show (Att σ1 (sk B n a)).1 58 = nI kk from w4]
        exact (pos3 w1 w2 rfl).2
      have e58 : (Att σ1 (sk B n a)).1 58 = nI kk := w4
      have gF : f_Reader_goesOn σ1 = some (0, Att σ1 (sk B n a)) := by
        unfold f_Reader_goesOn
        rw [skipC hcl w8 w9, bnd_s, if_neg n58]
      rw [z1, bnd_s]
      obtain ⟨m, rfl⟩ : ∃ n, m = n + 1 := ⟨m - 1, by omega⟩
      obtain ⟨m', rfl⟩ : ∃ n, m' = n + 1 := ⟨m' - 1, by omega⟩
      rw [L_Laws_addText_50, L_M_text_91, if_neg z3.n0.2, if_neg (fun z => absurd ((lit_lt 12 (by omega) (by omega)).1 z) (by omega)), gF, bnd_s, if_pos rfl]
      have K2 : Kep t c σ1 τ1 (Att σ1 (sk B n a)) τ2 := Kep.mv t c x3.2.2.1 (FrC.f1 _ _ (by decide)) (z2.mono (by decide) (by decide))
      exact ⟨_, τ2, hK.kec (x3.kep K2 (Nat.le_refl _)) (by omega), Or.inr ⟨kk, p, nI (k + 1), w1, w2, w3, rfl, rfl, w5, (z2.1 24 (by decide)).trans w6, (z2.1 25 (by decide)).trans w7, e58⟩⟩
    rw [add_skip y3 (by omega) (fun z => absurd ((lit_lt 12 (by omega) (by omega)).1 z) (by omega)), y3.blanks, bnd_s]
    have K2 : Kec t c (12 * t + k) σ τ (Att σ1 s1) (Bam τ1 s1) := x3.kep (Kep.go t c x3.2.2.1 s1 s1) (Nat.le_refl _)
    refine ih (k + 1) m m' s1 c1 _ _ (by omega) (by omega) (by omega) (sF_self σ1 56 _) (Bam_23 _ _) ((x3.1.1 57 (by decide)).trans h57) (hK.kec K2 (by omega)) ⟨y3.here, by show rws σ1 4 = _; omega, fun j hj => ?_, by omega, by show rws σ1 5 ≤ _; omega⟩
    by_cases z : j = k
    · subst z
      exact y7
    · exact (g2 j (by omega)).kec K2 (by omega) (by omega) y4
