/-! ===== layer 2: texts are read; words and numbers on both sides ===== -/
theorem takeWordC {B : Nat → Nat} {n : Nat} {σ : CS} (h : CL B n σ) {s a : Nat} (hs3 : 3 ≤ s) (hs : s < 12) (ha : a ≤ n) (h3 : σ.1 56 = nI a) : (∃ j l, fwd B n (sk B n a) ((lw s).map ws) 0 = some (j, l) ∧ sk B n a + l ≤ n ∧ f_Reader_takeWord s σ = some (nI j, Att σ (sk B n a + l))) ∨ (fwd B n (sk B n a) ((lw s).map ws) 0 = none ∧ f_Reader_takeWord s σ = some (-1, Att σ (sk B n a))) := by
  have hn := h.2.2.1
  have hk := sk_le (B := B) ha
  have e56 : (Att σ (sk B n a)).1 56 = nI (sk B n a) := va_up_self σ.1 56 _
  have hl := (ws_all s (by omega)).2.1
  unfold f_Reader_takeWord
  rw [skipC h ha h3, bnd_s, e56]
  obtain ⟨e, g1, g2, g3, g4, g5⟩ := run_loop (h.at (sk B n a)) s (B_Reader_takeWord_99 s) (sk B n a) (n - sk B n a) (sk B n a) FU (Nat.le_refl _) (by omega) (lt_FU (by omega)) (fun i h1 h2 => by omega)
  rw [g1]
  rcases words_loop (h.at (sk B n a)) (s := s) (by omega) hk e56 g2 g3 g4 g5 ((lw s).map ws) 0 0 FU (okS_all s hs hs3) (Nat.zero_le _) (lt_FU (by omega)) with ⟨j, l, k1, k2, k3⟩ | ⟨k1, k2⟩
  · left
    have k3' : L_Reader_takeWord_55 s (B_Reader_takeWord_99 s) (nI e) FU 0 0 0 (Att σ (sk B n a)) = some (nI j, Att (Att σ (sk B n a)) (sk B n a + l)) := k3
    exact ⟨j, l, k1, by omega, by rw [k3', Att_Att]⟩
  · right
    exact ⟨k1, k2⟩
/-! the reference's side -/
def ML (B : Nat → Nat) (n : Nat) (τ : CS) : Prop := τ.1 22 = nI n ∧ n ≤ 400 ∧ ∀ k, k < n → τ.2.1 6 k &&& 255 = nI (B k) ∧ B k ≤ 255
abbrev Bam (τ : CS) (b : Nat) : CS := sF τ 23 (nI b)
abbrev FaM (τ : CS) (k p : Nat) : CS := sF (sF τ 24 (nI k)) 25 (nI p)
theorem Bam_id {τ : CS} {b : Nat} (h : τ.1 23 = nI b) : Bam τ b = τ := sF_id τ 23 _ h
theorem Bam_Bam (τ : CS) (a b : Nat) : Bam (Bam τ a) b = Bam τ b := sF_sF τ 23 _ _
theorem Bam_23 (τ : CS) (b : Nat) : (Bam τ b).1 23 = nI b := va_up_self τ.1 23 _
theorem ML.at {B : Nat → Nat} {n : Nat} {τ : CS} (h : ML B n τ) (b : Nat) : ML B n (Bam τ b) := h
theorem bt_le {B : Nat → Nat} {n : Nat} {τ : CS} (h : ML B n τ) (k : Nat) : bt B n k ≤ 255 := by
  unfold bt
  by_cases q : k < n
  · rw [if_pos q]; exact (h.2.2 k q).2
  · rw [if_neg q]; omega
theorem byteAtM {B : Nat → Nat} {n : Nat} {τ : CS} (h : ML B n τ) {k : Nat} (hk : k < 1000000) : f_M_byteAt (nI k) τ = some (nI (bt B n k), τ) := by
  have := h.2.1
  unfold f_M_byteAt bt
  rw [h.1]
  by_cases q : k < n
  · rw [if_neg (nI_ge q (by omega)), gix_n (by omega) (by omega), rdn (by omega), (h.2.2 k q).1, if_pos q]
  · rw [if_pos (nI_le (by omega) (by omega)), if_neg q]
    rfl
theorem blanksM_loop {B : Nat → Nat} {n : Nat} : ∀ (d b m : Nat) (τ : CS), ML B n τ → b + d = n → d < m → τ.1 23 = nI b → L_M_blanks_0 m τ = some (0, Bam τ (sk B n b)) := by
  intro d
  induction d with
  | zero =>
    intro b m τ h h1 h2 h3
    obtain ⟨m, rfl⟩ : ∃ n, m = n + 1 := ⟨m - 1, by omega⟩
    have := h.2.1
    rw [L_M_blanks_0, h.1, h3, if_pos (nI_le (by omega) (by omega)), sk_stop (by omega), Bam_id h3]
  | succ d ih =>
    intro b m τ h h1 h2 h3
    obtain ⟨m, rfl⟩ : ∃ n, m = n + 1 := ⟨m - 1, by omega⟩
    have := h.2.1
    have hB := (h.2.2 b (by omega)).2
    have eb : bt B n b = B b := by unfold bt; rw [if_pos (by omega)]
    rw [L_M_blanks_0, h.1, h3, if_neg (nI_ge (by omega) (by omega)), byteAtM h (by omega), bnd_s, eb]
    by_cases q : B b = 32
    · rw [if_pos (by rw [q]; rfl), h3, nI_1, ih (b + 1) m (Bam τ (b + 1)) (h.at _) (by omega) (by omega) (Bam_23 _ _), sk_step (by omega) q, Bam_Bam]
    · rw [if_neg (fun z => q ((eq_lit 32 (by omega) (by omega)).1 z)), sk_stop (fun z => q z.2), Bam_id h3]
theorem blanksM {B : Nat → Nat} {n b : Nat} {τ : CS} (h : ML B n τ) (hb : b ≤ n) (h3 : τ.1 23 = nI b) : f_M_blanks τ = some (0, Bam τ (sk B n b)) := by
  have := h.2.1
  exact blanksM_loop (n - b) b FU τ h (by omega) (lt_FU (by omega)) h3
theorem wordM_loop {B : Nat → Nat} {n b s : Nat} {τ : CS} (h : ML B n τ) (hb : b ≤ n) (h3 : τ.1 23 = nI b) (hs : s < 40) : ∀ (d k m : Nat), k + d = (ws s).length → d < m → ∃ v, L_M_isWord_6 s (B_M_isWord_40 s) m (nI k) τ = some (v, τ) ∧ ((v = 1 ∧ (∀ i, k ≤ i → i < (ws s).length → bt B n (b + i) = (ws s).getD i 0) ∧ ¬ (97 ≤ bt B n (b + (ws s).length) ∧ bt B n (b + (ws s).length) ≤ 122)) ∨ (v = 0 ∧ ¬ ((∀ i, k ≤ i → i < (ws s).length → bt B n (b + i) = (ws s).getD i 0) ∧ ¬ (97 ≤ bt B n (b + (ws s).length) ∧ bt B n (b + (ws s).length) ≤ 122)))) := by
  have := h.2.1
  have hl := (ws_all s hs).2.1
  intro d
  induction d with
  | zero =>
    intro k m h1 h2
    obtain ⟨m, rfl⟩ : ∃ n, m = n + 1 := ⟨m - 1, by omega⟩
    have hx := bt_le h (b + (ws s).length)
    rw [L_M_isWord_6, slen_ws hs, if_pos (nI_le (by omega) (by omega))]
    unfold B_M_isWord_40
    rw [slen_ws hs, h3, nI_add, byteAtM h (by omega), bnd_s]
    by_cases q : bt B n (b + (ws s).length) < 97
    · rw [if_pos ((lt_lit 97 (by omega) (by omega)).2 q)]
      exact ⟨1, rfl, Or.inl ⟨rfl, fun i h4 h5 => by omega, by omega⟩⟩
    · rw [if_neg (fun z => q ((lt_lit 97 (by omega) (by omega)).1 z))]
      by_cases q2 : bt B n (b + (ws s).length) ≤ 122
      · rw [if_pos ((le_lit 122 (by omega) (by omega)).2 q2)]
        exact ⟨0, rfl, Or.inr ⟨rfl, fun z => z.2 ⟨by omega, q2⟩⟩⟩
      · rw [if_neg (fun z => q2 ((le_lit 122 (by omega) (by omega)).1 z))]
        exact ⟨1, rfl, Or.inl ⟨rfl, fun i h4 h5 => by omega, by omega⟩⟩
  | succ d ih =>
    intro k m h1 h2
    obtain ⟨m, rfl⟩ : ∃ n, m = n + 1 := ⟨m - 1, by omega⟩
    have hx := bt_le h (b + k)
    have hw := (ws_all s hs).2.2 k (by omega)
    rw [L_M_isWord_6, slen_ws hs, if_neg (nI_ge (by omega) (by omega)), h3, nI_add, byteAtM h (by omega), bnd_s, gix_ws hs (by omega), sch_ws hs (by omega)]
    by_cases q : bt B n (b + k) = (ws s).getD k 0
    · rw [if_pos (by rw [q]), nI_1]
      obtain ⟨v, g1, g2⟩ := ih (k + 1) m (by omega) (by omega)
      refine ⟨v, g1, ?_⟩
      rcases g2 with ⟨g2, g3, g4⟩ | ⟨g2, g3⟩
      · refine Or.inl ⟨g2, fun i h4 h5 => ?_, g4⟩
        by_cases z : i = k
        · rw [z]; exact q
        · exact g3 i (by omega) h5
      · exact Or.inr ⟨g2, fun z => g3 ⟨fun i h4 h5 => z.1 i (by omega) h5, z.2⟩⟩
    · rw [if_neg (fun z => q (nI_eqI (by omega) (by omega) z))]
      exact ⟨0, rfl, Or.inr ⟨rfl, fun z => q (z.1 k (Nat.le_refl _) (by omega))⟩⟩
theorem isWordM {B : Nat → Nat} {n b s : Nat} {τ : CS} (h : ML B n τ) (hb : b ≤ n) (h3 : τ.1 23 = nI b) (hs : s < 40) : f_M_isWord s τ = some (if isWb B n (ws s) (sk B n b) = true then 1 else 0, Bam τ (sk B n b)) := by
  have hl := (ws_all s hs).2.1
  unfold f_M_isWord
  rw [blanksM h hb h3, bnd_s]
  obtain ⟨v, g1, g2⟩ := wordM_loop (h.at (sk B n b)) (sk_le hb) (Bam_23 _ _) hs (ws s).length 0 FU (by omega) (lt_FU (by omega))
  have g1' : L_M_isWord_6 s (B_M_isWord_40 s) FU 0 (Bam τ (sk B n b)) = some (v, Bam τ (sk B n b)) := g1
  rw [g1']
  rcases g2 with ⟨rfl, g3, g4⟩ | ⟨rfl, g3⟩
  · rw [if_pos ((isWb_iff _ _).2 ⟨fun i hi => g3 i (Nat.zero_le _) hi, g4⟩)]
  · rw [if_neg (fun z => g3 ⟨fun i _ hi => ((isWb_iff _ _).1 z).1 i hi, ((isWb_iff _ _).1 z).2⟩)]
/-- a word that stands lies on the tape -/
theorem isWb_in {B : Nat → Nat} {n a s : Nat} (hs : s < 40) (h : isWb B n (ws s) a = true) (ha : a ≤ n) : a + (ws s).length ≤ n := by
  have h1 := ((isWb_iff _ _).1 h).1
  by_cases q : a + (ws s).length ≤ n
  · exact q
  · have h2 := h1 ((ws s).length - 1) (by omega)
    have h3 := ((ws_all s hs).2.2 ((ws s).length - 1) (by omega)).2.2
    unfold bt at h2
    rw [if_neg (by omega)] at h2
    omega
theorem eatM {B : Nat → Nat} {n b s : Nat} {τ : CS} (h : ML B n τ) (hb : b ≤ n) (h3 : τ.1 23 = nI b) (hs : s < 40) (h0 : τ.1 24 = 0) : f_M_eat s τ = if isWb B n (ws s) (sk B n b) = true then some (1, Bam τ (sk B n b + (ws s).length)) else some (0, Bam τ (sk B n b)) := by
  unfold f_M_eat B_M_eat_19 B_M_eat_20
  rw [if_pos h0, isWordM h hb h3 hs, bnd_s]
  by_cases q : isWb B n (ws s) (sk B n b) = true
  · rw [if_pos q, if_pos q, if_neg i10, if_neg i10, grd_s (Or.inr rfl), Bam_23, slen_ws hs, nI_add, sF_sF]
  · rw [if_neg q, if_neg q, if_pos rfl, if_pos rfl, grd_s (Or.inl rfl)]
theorem eatM_dead {s : Nat} {τ : CS} (h0 : ¬ τ.1 24 = 0) : f_M_eat s τ = some (0, τ) := by
  unfold f_M_eat B_M_eat_19 B_M_eat_20
  rw [if_neg h0, if_pos rfl, grd_s (Or.inl rfl)]
theorem fwd_b {B : Nat → Nat} {n a : Nat} : ∀ (W : List (List Nat)) (i j l : Nat), fwd B n a W i = some (j, l) → i ≤ j ∧ j < i + W.length := by
  intro W
  induction W with
  | nil => intro i j l h; cases h
  | cons w r ih =>
    intro i j l h
    have h' : (if isWb B n w a = true then some (i, w.length) else fwd B n a r (i + 1)) = some (j, l) := h
    rw [List.length_cons]
    by_cases q : isWb B n w a = true
    · rw [if_pos q] at h'
      simp only [Option.some.injEq, Prod.mk.injEq] at h'
      omega
    · rw [if_neg q] at h'
      have := ih _ _ _ h'
      omega
theorem dr4 : ∀ i, i < 6 → ((lw 4).map ws).drop i = ws (20 + i) :: ((lw 4).map ws).drop (i + 1) := by decide +kernel
theorem dr3 : ∀ i, i < 8 → ((lw 3).map ws).drop i = ws (12 + i) :: ((lw 3).map ws).drop (i + 1) := by decide +kernel
theorem dr7 : ∀ i, i < 6 → ((lw 7).map ws).drop i = ws (26 + i) :: ((lw 7).map ws).drop (i + 1) := by decide +kernel
theorem dr4e : ((lw 4).map ws).drop 6 = [] := by decide +kernel
theorem dr3e : ((lw 3).map ws).drop 8 = [] := by decide +kernel
theorem dr7e : ((lw 7).map ws).drop 6 = [] := by decide +kernel
theorem actName_m : ∀ i, i < 6 → ∀ τ, f_M_actName (nI i) τ = some (nI (20 + i), τ) := by
  intro i hi τ
  have : i = 0 ∨ i = 1 ∨ i = 2 ∨ i = 3 ∨ i = 4 ∨ i = 5 := by omega
  rcases this with rfl | rfl | rfl | rfl | rfl | rfl <;> rfl
theorem toldName_m : ∀ i, i < 6 → ∀ τ, f_M_toldName (nI i) τ = some (nI (26 + i), τ) := by
  intro i hi τ
  have : i = 0 ∨ i = 1 ∨ i = 2 ∨ i = 3 ∨ i = 4 ∨ i = 5 := by omega
  rcases this with rfl | rfl | rfl | rfl | rfl | rfl <;> rfl
theorem clauseName_m : ∀ i, i < 8 → ∀ τ, f_M_clauseName (nI i) τ = some (nI (12 + i), τ) := by
  intro i hi τ
  have : i = 0 ∨ i = 1 ∨ i = 2 ∨ i = 3 ∨ i = 4 ∨ i = 5 ∨ i = 6 ∨ i = 7 := by omega
  rcases this with rfl | rfl | rfl | rfl | rfl | rfl | rfl | rfl <;> rfl
theorem act_loop {B : Nat → Nat} {n : Nat} (K : CS → Option (Int32 × CS)) : ∀ (d i m b : Nat) (τ : CS), i + d = 6 → d < m → ML B n τ → τ.1 24 = 0 → b ≤ n → τ.1 23 = nI b → (d = 0 → sk B n b = b) → (∃ j l, fwd B n (sk B n b) (((lw 4).map ws).drop i) i = some (j, l) ∧ L_M_act_2 K m (nI i) τ = some (nI j, Bam τ (sk B n b + l))) ∨ (fwd B n (sk B n b) (((lw 4).map ws).drop i) i = none ∧ L_M_act_2 K m (nI i) τ = K (Bam τ (sk B n b))) := by
  intro d
  induction d with
  | zero =>
    intro i m b τ h1 h2 h h0 hb h3 hz
    obtain ⟨m, rfl⟩ : ∃ n, m = n + 1 := ⟨m - 1, by omega⟩
    have : i = 6 := by omega
    subst this
    right
    rw [dr4e, L_M_act_2, if_pos (by decide), hz rfl, Bam_id h3]
    exact ⟨rfl, rfl⟩
  | succ d ih =>
    intro i m b τ h1 h2 h h0 hb h3 hz
    obtain ⟨m, rfl⟩ : ∃ n, m = n + 1 := ⟨m - 1, by omega⟩
    rw [dr4 i (by omega), L_M_act_2, if_neg (fun z => absurd ((lit_le 6 (by omega) (by omega)).1 z) (by omega)), actName_m i (by omega), bnd_s, nI_clamp (by omega), eatM h hb h3 (by omega) h0]
    show (∃ j l, (if isWb B n (ws (20 + i)) (sk B n b) = true then some (i, (ws (20 + i)).length) else fwd B n (sk B n b) (((lw 4).map ws).drop (i + 1)) (i + 1)) = some (j, l) ∧ _) ∨ ((if isWb B n (ws (20 + i)) (sk B n b) = true then some (i, (ws (20 + i)).length) else fwd B n (sk B n b) (((lw 4).map ws).drop (i + 1)) (i + 1)) = none ∧ _)
    by_cases q : isWb B n (ws (20 + i)) (sk B n b) = true
    · left
      rw [if_pos q, if_pos q, bnd_s, if_neg i10]
      exact ⟨i, _, rfl, rfl⟩
    · rw [if_neg q, if_neg q, bnd_s, if_pos rfl, nI_1]
      have := ih (i + 1) m (sk B n b) (Bam τ (sk B n b)) (by omega) (by omega) (h.at _) h0 (sk_le hb) (Bam_23 _ _) (fun _ => sk_sk hb)
      rw [sk_sk hb] at this
      simp only [Bam_Bam] at this
      exact this
theorem clause_loop {B : Nat → Nat} {n : Nat} : ∀ (d i m b : Nat) (τ : CS), i + d = 8 → d < m → ML B n τ → b ≤ n → τ.1 23 = nI b → (d = 0 → sk B n b = b) → (∃ j l, fwd B n (sk B n b) (((lw 3).map ws).drop i) i = some (j, l) ∧ L_M_clauseHere_2 m (nI i) τ = some (nI j, Bam τ (sk B n b))) ∨ (fwd B n (sk B n b) (((lw 3).map ws).drop i) i = none ∧ L_M_clauseHere_2 m (nI i) τ = some (-1, Bam τ (sk B n b))) := by
  intro d
  induction d with
  | zero =>
    intro i m b τ h1 h2 h hb h3 hz
    obtain ⟨m, rfl⟩ : ∃ n, m = n + 1 := ⟨m - 1, by omega⟩
    have : i = 8 := by omega
    subst this
    right
    rw [dr3e, L_M_clauseHere_2, if_pos (by decide), hz rfl, Bam_id h3]
    exact ⟨rfl, rfl⟩
  | succ d ih =>
    intro i m b τ h1 h2 h hb h3 hz
    obtain ⟨m, rfl⟩ : ∃ n, m = n + 1 := ⟨m - 1, by omega⟩
    rw [dr3 i (by omega), L_M_clauseHere_2, if_neg (fun z => absurd ((lit_le 8 (by omega) (by omega)).1 z) (by omega)), clauseName_m i (by omega), bnd_s, nI_clamp (by omega), isWordM h hb h3 (by omega), bnd_s]
    show (∃ j l, (if isWb B n (ws (12 + i)) (sk B n b) = true then some (i, (ws (12 + i)).length) else fwd B n (sk B n b) (((lw 3).map ws).drop (i + 1)) (i + 1)) = some (j, l) ∧ _) ∨ ((if isWb B n (ws (12 + i)) (sk B n b) = true then some (i, (ws (12 + i)).length) else fwd B n (sk B n b) (((lw 3).map ws).drop (i + 1)) (i + 1)) = none ∧ _)
    by_cases q : isWb B n (ws (12 + i)) (sk B n b) = true
    · left
      rw [if_pos q, if_pos q, if_neg i10]
      exact ⟨i, _, rfl, rfl⟩
    · rw [if_neg q, if_neg q, if_pos rfl, nI_1]
      have := ih (i + 1) m (sk B n b) (Bam τ (sk B n b)) (by omega) (by omega) (h.at _) (sk_le hb) (Bam_23 _ _) (fun _ => sk_sk hb)
      rw [sk_sk hb] at this
      simp only [Bam_Bam] at this
      exact this
theorem told_loop {B : Nat → Nat} {n : Nat} (rc : Nat → CS → Option (Int32 × CS)) (K : Int32 → CS → Option (Int32 × CS)) (K' : CS → Option (Int32 × CS)) : ∀ (d i m b : Nat) (τ : CS), i + d = 6 → d < m → ML B n τ → τ.1 24 = 0 → b ≤ n → τ.1 23 = nI b → (d = 0 → sk B n b = b) → (∃ j l, fwd B n (sk B n b) (((lw 7).map ws).drop i) i = some (j, l) ∧ L_M_unit_42 rc K K' m (nI i) τ = K (nI j) (Bam τ (sk B n b + l))) ∨ (fwd B n (sk B n b) (((lw 7).map ws).drop i) i = none ∧ L_M_unit_42 rc K K' m (nI i) τ = K' (Bam τ (sk B n b))) := by
  intro d
  induction d with
  | zero =>
    intro i m b τ h1 h2 h h0 hb h3 hz
    obtain ⟨m, rfl⟩ : ∃ n, m = n + 1 := ⟨m - 1, by omega⟩
    have : i = 6 := by omega
    subst this
    right
    rw [dr7e, L_M_unit_42, if_pos (by decide), hz rfl, Bam_id h3]
    exact ⟨rfl, rfl⟩
  | succ d ih =>
    intro i m b τ h1 h2 h h0 hb h3 hz
    obtain ⟨m, rfl⟩ : ∃ n, m = n + 1 := ⟨m - 1, by omega⟩
    rw [dr7 i (by omega), L_M_unit_42, if_neg (fun z => absurd ((lit_le 6 (by omega) (by omega)).1 z) (by omega)), toldName_m i (by omega), bnd_s, nI_clamp (by omega), eatM h hb h3 (by omega) h0]
    show (∃ j l, (if isWb B n (ws (26 + i)) (sk B n b) = true then some (i, (ws (26 + i)).length) else fwd B n (sk B n b) (((lw 7).map ws).drop (i + 1)) (i + 1)) = some (j, l) ∧ _) ∨ ((if isWb B n (ws (26 + i)) (sk B n b) = true then some (i, (ws (26 + i)).length) else fwd B n (sk B n b) (((lw 7).map ws).drop (i + 1)) (i + 1)) = none ∧ _)
    by_cases q : isWb B n (ws (26 + i)) (sk B n b) = true
    · left
      rw [if_pos q, if_pos q, bnd_s, if_neg i10]
      exact ⟨i, _, rfl, rfl⟩
    · rw [if_neg q, if_neg q, bnd_s, if_pos rfl, nI_1]
      have := ih (i + 1) m (sk B n b) (Bam τ (sk B n b)) (by omega) (by omega) (h.at _) h0 (sk_le hb) (Bam_23 _ _) (fun _ => sk_sk hb)
      rw [sk_sk hb] at this
      simp only [Bam_Bam] at this
      exact this
/-! numbers -/
def dg (B : Nat → Nat) (n k : Nat) : Prop := 48 ≤ bt B n k ∧ bt B n k ≤ 57
def vl (B : Nat → Nat) (n a : Nat) : Nat → Nat
  | 0 => 0
  | j + 1 => 10 * vl B n a j + (bt B n (a + j) - 48)
theorem digitC (x : Nat) (hx : x ≤ 255) (σ : CS) : f_Reader_isDigit (nI x) σ = some (if 48 ≤ x ∧ x ≤ 57 then 1 else 0, σ) := by
  unfold f_Reader_isDigit
  rw [fc_within, bnd_s]
  by_cases q : 48 ≤ x ∧ x ≤ 57
  · rw [if_neg, if_pos q, grd_s (Or.inr rfl)]
    rintro (z | z)
    · have := (lt_lit 48 (by omega) (by omega)).1 z; omega
    · have := (lit_lt 57 (by omega) (by omega)).1 z; omega
  · rw [if_pos, if_neg q, grd_s (Or.inl rfl)]
    by_cases z : x < 48
    · exact Or.inl ((lt_lit 48 (by omega) (by omega)).2 z)
    · exact Or.inr ((lit_lt 57 (by omega) (by omega)).2 (by omega))
theorem digitM (x : Nat) (hx : x ≤ 255) (τ : CS) : f_M_isDigit (nI x) τ = some (if 48 ≤ x ∧ x ≤ 57 then 1 else 0, τ) := by
  unfold f_M_isDigit
  by_cases q : x < 48
  · rw [if_pos ((lt_lit 48 (by omega) (by omega)).2 q), if_neg (by omega)]
  · rw [if_neg (fun z => q ((lt_lit 48 (by omega) (by omega)).1 z))]
    by_cases q2 : 57 < x
    · rw [if_pos ((lit_lt 57 (by omega) (by omega)).2 q2), if_neg (by omega)]
    · rw [if_neg (fun z => q2 ((lit_lt 57 (by omega) (by omega)).1 z)), if_pos (by omega)]
theorem numC_loop {B : Nat → Nat} {n a : Nat} (K : Int32 → Int32 → Int32 → Int32 → CS → Option (Int32 × CS)) (lo hi : Int32) : ∀ (d j m : Nat) (σ : CS), CL B n σ → a + j + d = n → d < m → σ.1 56 = nI (a + j) → (∀ i, i < j → dg B n (a + i)) → ∃ r, j ≤ r ∧ a + r ≤ n ∧ (∀ i, i < r → dg B n (a + i)) ∧ ¬ dg B n (a + r) ∧ L_Reader_takeNumber_15 K lo hi (nI a) m (nI (min (vl B n a j) 10000)) (nI (a + j)) σ = K lo hi (nI a) (nI (min (vl B n a r) 10000)) (Att σ (a + r)) := by
  intro d
  induction d with
  | zero =>
    intro j m σ h h1 h2 h3 hd
    obtain ⟨m, rfl⟩ : ∃ n, m = n + 1 := ⟨m - 1, by omega⟩
    have := h.2.2.1
    refine ⟨j, Nat.le_refl _, by omega, hd, fun z => ?_, by rw [L_Reader_takeNumber_15, h.2.2.2.2, if_pos (nI_le (by omega) (by omega)), Att_id h3]⟩
    unfold dg bt at z
    rw [if_neg (by omega)] at z
    omega
  | succ d ih =>
    intro j m σ h h1 h2 h3 hd
    obtain ⟨m, rfl⟩ : ∃ n, m = n + 1 := ⟨m - 1, by omega⟩
    have := h.2.2.1
    have hB := (h.2.2.2.1 (a + j) (by omega)).2
    have eb : bt B n (a + j) = B (a + j) := by unfold bt; rw [if_pos (by omega)]
    rw [L_Reader_takeNumber_15, h.2.2.2.2, if_neg (nI_ge (by omega) (by omega)), h.get (by omega), bnd_s, digitC _ hB, bnd_s]
    by_cases q : 48 ≤ B (a + j) ∧ B (a + j) ≤ 57
    · rw [if_pos q, if_neg i10, h.get (by omega), bnd_s]
      have ev : nI (min (vl B n a j) 10000) * 10 + nI (B (a + j)) - 48 = nI (min (vl B n a j) 10000 * 10 + B (a + j) - 48) := by
        rw [show (10 : Int32) = nI 10 from rfl, nI_mul, nI_add, show (48 : Int32) = nI 48 from rfl, nI_sub (by omega)]
      have ew : (if 10000 < nI (min (vl B n a j) 10000 * 10 + B (a + j) - 48) then (10000 : Int32) else nI (min (vl B n a j) 10000 * 10 + B (a + j) - 48)) = nI (min (vl B n a (j + 1)) 10000) := by
        show _ = nI (min (10 * vl B n a j + (bt B n (a + j) - 48)) 10000)
        rw [eb]
        by_cases z : 10000 < min (vl B n a j) 10000 * 10 + B (a + j) - 48
        · rw [if_pos ((lit_lt 10000 (by omega) (by omega)).2 z)]
          have : min (10 * vl B n a j + (B (a + j) - 48)) 10000 = 10000 := by omega
          rw [this]
          rfl
        · rw [if_neg (fun y => z ((lit_lt 10000 (by omega) (by omega)).1 y))]
          congr 1
          omega
      rw [ev, ew, nI_1]
      obtain ⟨r, r1, r2, r3, r4, r5⟩ := ih (j + 1) m (Att σ (a + j + 1)) (h.at _) (by omega) (by omega) (va_up_self σ.1 56 _) (fun i hi => by
        by_cases y : i = j
        · subst y
          unfold dg
          rw [eb]
          exact q
        · exact hd i (by omega))
      refine ⟨r, by omega, r2, r3, r4, ?_⟩
      rw [Att_Att] at r5
      exact r5
    · rw [if_neg q, if_pos rfl]
      refine ⟨j, Nat.le_refl _, by omega, hd, fun z => ?_, by rw [Att_id h3]⟩
      unfold dg at z
      rw [eb] at z
      exact q z
theorem numM_loop {B : Nat → Nat} {n a : Nat} (K : Int32 → Int32 → Int32 → Int32 → CS → Option (Int32 × CS)) (lo hi : Int32) : ∀ (d j v m : Nat) (τ : CS), ML B n τ → a + j + d = n → d < m → τ.1 23 = nI (a + j) → (∀ i, i < j → dg B n (a + i)) → ((v = vl B n a j ∧ v ≤ 1000009) ∨ (100000 < v ∧ v ≤ 1000009 ∧ 100000 < vl B n a j)) → ∃ r u, j ≤ r ∧ a + r ≤ n ∧ (∀ i, i < r → dg B n (a + i)) ∧ ¬ dg B n (a + r) ∧ ((u = vl B n a r ∧ u ≤ 1000009) ∨ (100000 < u ∧ u ≤ 1000009 ∧ 100000 < vl B n a r)) ∧ L_M_figures_46 K lo hi (nI a) m (nI v) τ = K lo hi (nI a) (nI u) (Bam τ (a + r)) := by
  intro d
  induction d with
  | zero =>
    intro j v m τ h h1 h2 h3 hd hv
    obtain ⟨m, rfl⟩ : ∃ n, m = n + 1 := ⟨m - 1, by omega⟩
    have := h.2.1
    have eb : bt B n (a + j) = 0 := by unfold bt; rw [if_neg (by omega)]
    have nd : ¬ dg B n (a + j) := by unfold dg; rw [eb]; omega
    refine ⟨j, v, Nat.le_refl _, by omega, hd, nd, hv, ?_⟩
    rw [L_M_figures_46, h3, byteAtM h (by omega), bnd_s, digitM _ (bt_le h _), bnd_s, if_neg (show ¬ (48 ≤ bt B n (a + j) ∧ bt B n (a + j) ≤ 57) from nd), if_pos rfl, Bam_id h3]
  | succ d ih =>
    intro j v m τ h h1 h2 h3 hd hv
    obtain ⟨m, rfl⟩ : ∃ n, m = n + 1 := ⟨m - 1, by omega⟩
    have := h.2.1
    have hB := bt_le h (a + j)
    rw [L_M_figures_46, h3, byteAtM h (by omega), bnd_s, digitM _ hB, bnd_s]
    by_cases q : 48 ≤ bt B n (a + j) ∧ bt B n (a + j) ≤ 57
    · rw [if_pos q, if_neg i10]
      have hd' : ∀ i, i < j + 1 → dg B n (a + i) := fun i hi => by
        by_cases y : i = j
        · subst y; exact q
        · exact hd i (by omega)
      unfold B_M_figures_90
      have e23 : τ.1 23 = nI (a + j) := h3
      have es : vl B n a (j + 1) = 10 * vl B n a j + (bt B n (a + j) - 48) := rfl
      by_cases z : v ≤ 100000
      · rw [if_pos ((le_lit 100000 (by omega) (by omega)).2 z), h3, byteAtM h (by omega), bnd_s, h3, nI_1]
        have ev : (10 : Int32) * nI v + nI (bt B n (a + j)) - 48 = nI (10 * v + bt B n (a + j) - 48) := by
          rw [show (10 : Int32) = nI 10 from rfl, nI_mul, nI_add, show (48 : Int32) = nI 48 from rfl, nI_sub (by omega)]
        rw [ev]
        obtain ⟨r, u, r1, r2, r3, r4, r5, r6⟩ := ih (j + 1) (10 * v + bt B n (a + j) - 48) m (Bam τ (a + j + 1)) (h.at _) (by omega) (by omega) (Bam_23 _ _) hd' (by
          rcases hv with ⟨y, -⟩ | ⟨y, -⟩
          · left; rw [es, ← y]; omega
          · omega)
        refine ⟨r, u, by omega, r2, r3, r4, r5, ?_⟩
        rw [Bam_Bam] at r6
        exact r6
      · rw [if_neg (fun y => z ((le_lit 100000 (by omega) (by omega)).1 y)), h3, nI_1]
        obtain ⟨r, u, r1, r2, r3, r4, r5, r6⟩ := ih (j + 1) v m (Bam τ (a + j + 1)) (h.at _) (by omega) (by omega) (Bam_23 _ _) hd' (by
          right
          rw [es]
          rcases hv with ⟨y, y2⟩ | ⟨y, y2, y3⟩
          · omega
          · omega)
        refine ⟨r, u, by omega, r2, r3, r4, r5, ?_⟩
        rw [Bam_Bam] at r6
        exact r6
    · rw [if_neg q, if_pos rfl]
      exact ⟨j, v, Nat.le_refl _, by omega, hd, q, hv, by rw [Bam_id h3]⟩
theorem wrongM {τ : CS} (h0 : τ.1 24 = 0) (k p : Nat) : f_M_wrong (nI k) (nI p) τ = some (0, FaM τ k p) := by
  unfold f_M_wrong
  rw [h0, if_pos (by decide)]
theorem wrongM_dead {τ : CS} (h0 : ¬ τ.1 24 ≤ 0) (k p : Int32) : f_M_wrong k p τ = some (0, τ) := by
  unfold f_M_wrong
  rw [if_neg h0]
theorem number_ag {B : Nat → Nat} {n a b s l h : Nat} {lo hi : Int32} {σ τ : CS} (hC : CL B n σ) (hM : ML B n τ) (ha : a ≤ n) (hb : b ≤ n) (h3 : σ.1 56 = nI a) (h4 : τ.1 23 = nI b) (sa : sk B n a = s) (sb : sk B n b = s) (h0 : τ.1 24 = 0) (hlo : lo = nI l) (hl : l ≤ 1) (hhi : hi = nI h - 1) (hh : h ≤ 10000) :
    (∃ r, 1 ≤ r ∧ s + r ≤ n ∧ l ≤ vl B n s r ∧ vl B n s r < h ∧ f_Reader_takeNumber lo hi σ = some (nI (vl B n s r), Att σ (s + r)) ∧ f_M_figures lo hi τ = some (nI (vl B n s r), Bam τ (s + r))) ∨
    (∃ k p q v, 1 ≤ k ∧ k ≤ 3 ∧ p ≤ n ∧ q ≤ n ∧ f_Reader_takeNumber lo hi σ = some (-1, Fai (Att σ q) k p) ∧ f_M_figures lo hi τ = some (v, FaM (Bam τ q) k p)) := by
  have hn := hC.2.2.1
  have hs : s ≤ n := sa ▸ sk_le ha
  have e56 : (Att σ s).1 56 = nI s := va_up_self σ.1 56 _
  unfold f_Reader_takeNumber f_M_figures
  rw [h0, if_pos (by decide), skipC hC ha h3, sa, bnd_s, e56, blanksM hM hb h4, sb, bnd_s, Bam_23, byteAtM (hM.at s) (by omega), bnd_s, digitM _ (bt_le hM _), bnd_s]
  obtain ⟨r, r1, r2, r3, r4, r5⟩ := numC_loop (a := s) B_Reader_takeNumber_81 lo hi (n - s) 0 FU (Att σ s) (hC.at s) (by omega) (lt_FU (by omega)) e56 (fun i hi => by omega)
  have r5' : L_Reader_takeNumber_15 B_Reader_takeNumber_81 lo hi (nI s) FU 0 (nI s) (Att σ s) = B_Reader_takeNumber_81 lo hi (nI s) (nI (min (vl B n s r) 10000)) (Att σ (s + r)) := by
    rw [Att_Att] at r5
    exact r5
  rw [r5']
  unfold B_Reader_takeNumber_81
  rw [show (Att σ (s + r)).1 56 = nI (s + r) from va_up_self σ.1 56 _]
  have hiv : ∀ x : Nat, x ≤ 1000009 → (hi < nI x ↔ h ≤ x) := fun x hx => by
    rw [hhi]
    by_cases z : h = 0
    · subst z
      rw [show nI 0 - 1 = (-1 : Int32) from rfl]
      refine ⟨fun _ => Nat.zero_le _, fun _ => ?_⟩
      rw [Int32.lt_iff_toInt_lt, nI_toInt (by omega)]
      show (-1 : Int) < _
      omega
    · obtain ⟨h', rfl⟩ : ∃ k, h = k + 1 := ⟨h - 1, by omega⟩
      rw [nI_p1]
      exact nI_ltI (by omega) (by omega)
  have hlv : ∀ x : Nat, x ≤ 1000009 → (nI x < lo ↔ x < l) := fun x hx => by
    rw [hlo]
    exact nI_ltI (by omega) (by omega)
  by_cases q : 48 ≤ bt B n s ∧ bt B n s ≤ 57
  · have hr : 1 ≤ r := by
      by_cases z : r = 0
      · subst z; exact absurd q r4
      · omega
    rw [if_pos q, if_neg i10, if_neg (fun z => absurd (nI_eqI (by omega) (by omega) z) (by omega))]
    obtain ⟨r', u, t1, t2, t3, t4, t5, t6⟩ := numM_loop (a := s) B_M_figures_105 lo hi (n - s) 0 0 FU (Bam τ s) (hM.at s) (by omega) (lt_FU (by omega)) (Bam_23 _ _) (fun i hi => by omega) (Or.inl ⟨rfl, by omega⟩)
    have er : r' = r := by
      by_cases z : r' < r
      · exact absurd (r3 r' z) t4
      · by_cases z2 : r < r'
        · exact absurd (t3 r z2) r4
        · omega
    subst er
    have t6' : L_M_figures_46 B_M_figures_105 lo hi (nI s) FU 0 (Bam τ s) = B_M_figures_105 lo hi (nI s) (nI u) (Bam τ (s + r')) := by
      rw [Bam_Bam] at t6
      exact t6
    rw [t6']
    unfold B_M_figures_105 B_M_figures_117
    rw [fc_within, bnd_s]
    have w1 := hlv (min (vl B n s r') 10000) (by omega)
    have w2 := hiv (min (vl B n s r') 10000) (by omega)
    have w3 := hlv u (by omega)
    have w4 := hiv u (by omega)
    by_cases g : l ≤ vl B n s r' ∧ vl B n s r' < h
    · left
      have eu : u = vl B n s r' := by omega
      have em : min (vl B n s r') 10000 = vl B n s r' := by omega
      have nw : ¬ (nI (min (vl B n s r') 10000) < lo ∨ hi < nI (min (vl B n s r') 10000)) := by
        rintro (z | z)
        · have := w1.1 z; omega
        · have := w2.1 z; omega
      rw [if_neg nw, if_neg i10, if_neg (fun z => by have := w3.1 z; omega), if_pos (Int32.not_lt.1 (fun z => by have := w4.1 z; omega)), em, eu]
      exact ⟨r', hr, r2, g.1, g.2, rfl, rfl⟩
    · right
      refine ⟨2, s, s + r', nI u, by omega, by omega, hs, r2, ?_, ?_⟩
      · have yw : nI (min (vl B n s r') 10000) < lo ∨ hi < nI (min (vl B n s r') 10000) := by
          by_cases z : vl B n s r' < l
          · exact Or.inl (w1.2 (by omega))
          · exact Or.inr (w2.2 (by omega))
        rw [if_pos yw, if_pos rfl]
        show bnd (f_Reader_fail (nI 2) (nI s) (Att σ (s + r'))) _ = _
        rw [failC, bnd_s]
      · have wr : f_M_wrong 2 (nI s) (Bam τ (s + r')) = some (0, FaM (Bam τ (s + r')) 2 s) := wrongM (τ := Bam τ (s + r')) h0 2 s
        by_cases z : vl B n s r' < l
        · rw [if_pos (w3.2 (by omega)), wr, bnd_s]
        · rw [if_neg (fun y => by have := w3.1 y; omega), if_neg (fun y => absurd (w4.2 (by omega)) (Int32.not_lt.2 y)), wr, bnd_s]
  · right
    have hr : r = 0 := by
      by_cases z : r = 0
      · exact z
      · exact absurd (r3 0 (by omega)) q
    subst hr
    have wr : f_M_wrong 1 (nI s) (Bam τ s) = some (0, FaM (Bam τ s) 1 s) := wrongM (τ := Bam τ s) h0 1 s
    rw [if_neg q, if_pos rfl, Nat.add_zero, if_pos rfl, Bam_23, wr, bnd_s]
    refine ⟨1, s, s, 0, by omega, by omega, hs, hs, ?_, rfl⟩
    show bnd (f_Reader_fail (nI 1) (nI s) (Att σ s)) _ = _
    rw [failC, bnd_s]
