/-! ===== layer 2: all ties together ===== -/
abbrev nin (L M : List Nat) : Prop := ∀ k, k ∈ L → k ∉ M
abbrev D4 (L1 L2 L3 L4 I A I' A' : List Nat) : Prop := nin L1 I ∧ nin L2 A ∧ nin L3 I' ∧ nin L4 A'
def InvA (σ τ : CS) : Prop := CB σ τ ∧ CR σ ∧ ITap σ τ ∧ IWoo σ τ ∧ ITak σ τ ∧ ISpo σ τ ∧ ICla σ τ ∧ IWlk σ τ ∧ IRol σ τ ∧ IBea σ ∧ σ.1 52 = τ.1 25 ∧ (rws σ 3 = 10 → τ.1 25 = -1)
theorem ICas.mono {σ σ' τ : CS} (h : ICas σ τ) (hb : rws σ' 10 ≤ 4000) (r6 : rws σ 6 ≤ rws σ' 6) (r9 : rws σ 9 ≤ rws σ' 9) (g10 : Gr10 σ σ') (e35 : rws σ' 11 = rws σ 11) (c11 : ∀ i c, cel σ' 11 i c = cel σ 11 i c) (e62 : σ'.1 62 = σ.1 62) : ICas σ' τ := by
  obtain ⟨h1, h2, h3, h4⟩ := h
  refine ⟨by rw [e35]; exact h1, fun k hk => ?_, fun k a b => h3 k (by omega) b, fun d hd => ?_⟩
  · rw [e35] at hk
    obtain ⟨a1, a2, a3, a4, a5, a6, a7, a8⟩ := h2 k hk
    unfold Cas
    simp only [c11, e62]
    exact ⟨⟨a1.1, a1.2.mono g10.1⟩, ⟨a2.1, a2.2.mono r9⟩, ⟨a3.1, a3.2.mono r6⟩, ⟨a4.1, a4.2.mono r6⟩, ⟨a5.1, a5.2.mono r6⟩, a6, a7, a8⟩
  · unfold Doc
    simp only [c11, e35]
    by_cases q : d < rws σ 10
    · rw [g10.2.1 d q]
      exact h4 d q
    · rw [g10.2.2 d (by omega) hd]
      refine Or.inl ⟨rfl, fun k hk z => ?_⟩
      obtain ⟨e, e1, e2⟩ := (h2 k hk).1.2
      rw [e2] at z
      have h60 : e = d ∨ ¬ e = d := by omega
      rcases h60 with y | y
      · omega
      · exact y (nI_eqI (by omega) (by omega) z)
theorem Gr10.of {I A : List Nat} {σ σ' : CS} (f : FrC I A σ σ') (h1 : 32 ∉ I) (h2 : 10 ∉ A) : Gr10 σ σ' := ⟨Nat.le_of_eq (f.fr (t := 10) h1).symm, fun i _ => f.fc h2 i 6, fun i a b => by rw [f.fr (t := 10) h1] at b; omega⟩

theorem InvA.step {σ τ σ1 τ1 : CS} {I A I' A' : List Nat} (h : InvA σ τ) (F : FrC I A σ σ1) (G : FrM I' A' τ τ1) (hW : WC σ1) (h6 : rws σ 6 ≤ rws σ1 6 ∨ 20 ∉ I := by exact Or.inr (by decide)) (h1 : rws σ 1 ≤ rws σ1 1 ∨ 5 ∉ I := by exact Or.inr (by decide)) (cmar : IMar σ1 τ1 ∨ D4 [5] [1] [2] [3, 4, 5] I A I' A' := by exact Or.inr (by decide)) (crin : IRin σ1 τ1 ∨ D4 [8, 48] [2] [10, 11] [12, 13, 14, 15] I A I' A' := by exact Or.inr (by decide)) (cpeo : IPeo σ1 τ1 ∨ D4 [20] [6] [38] [40, 41, 42, 43] I A I' A' := by exact Or.inr (by decide)) (cwar : IWar σ1 τ1 ∨ D4 [29] [9] [44] [45, 46, 47, 88, 89, 90, 91] I A I' A' := by exact Or.inr (by decide)) (ctap : ITap σ1 τ1 ∨ D4 [2] [0] [7] [6] I A I' A' := by exact Or.inr (by decide)) (cwoo : IWoo σ1 τ1 ∨ D4 [44] [14] [102] [104, 105, 106] I A I' A' := by exact Or.inr (by decide)) (ctak : ITak σ1 τ1 ∨ D4 [47] [15] [103] [107, 108, 109, 110, 111] I A I' A' := by exact Or.inr (by decide)) (cspo : ISpo σ1 τ1 ∨ D4 [41] [13] [92] [93, 94, 95] I A I' A' := by exact Or.inr (by decide)) (ccla : ICla σ1 τ1 ∨ D4 [23, 26] [7, 8] [71] [72, 73, 74, 75, 76, 77, 78] I A I' A' := by exact Or.inr (by decide)) (cwlk : IWlk σ1 τ1 ∨ D4 [51, 49] [19] [18, 19] [17] I A I' A' := by exact Or.inr (by decide)) (ctxt : ITxt σ1 τ1 ∨ D4 [11] [3] [21] [28, 29, 30, 31, 32, 33, 34] I A I' A' := by exact Or.inr (by decide)) (ccls : ICls σ1 τ1 ∨ D4 [11, 14, 17] [4, 5] [21] [28, 29, 30, 31, 32, 33, 34, 35, 36] I A I' A' := by exact Or.inr (by decide)) (cdee : IDee σ1 τ1 ∨ D4 [32] [10] [48] [49, 50, 51, 52, 53, 54] I A I' A' := by exact Or.inr (by decide)) (ccas : ICas σ1 τ1 ∨ D4 [20, 29, 32, 35, 62] [10, 11] [60] [61, 62, 63, 64, 65, 66, 67, 68, 69, 70] I A I' A' := by exact Or.inr (by decide)) (ccr : CR σ1 ∨ D4 [11, 60, 61, 62] [3, 22] [] [] I A I' A' := by exact Or.inr (by decide)) (crol : IRol σ1 τ1 ∨ D4 [35, 38, 64, 65, 66] [12, 25, 26] [] [79, 80, 81] I A I' A' := by exact Or.inr (by decide)) (cbea : IBea σ1 ∨ D4 [29, 41, 67, 68] [9, 13, 30] [] [] I A I' A' := by exact Or.inr (by decide)) (cfau : (σ1.1 52 = τ1.1 25 ∧ (rws σ1 3 = 10 → τ1.1 25 = -1)) ∨ D4 [11, 52] [] [25] [] I A I' A' := by exact Or.inr (by decide)) (ctim : (τ1.1 1 = σ1.1 62 ∧ Rg (σ1.1 62) 100000 ∧ τ1.1 39 = σ1.1 63) ∨ D4 [62, 63] [] [1, 39] [] I A I' A' := by exact Or.inr (by decide)) : InvA σ1 τ1 := by
  obtain ⟨⟨hW0, mar, rin, txt, cls, peo, dee, war, cas, t1, t2, t3⟩, cr, tap, woo, tak, spo, cla, wlk, rol, bea, f1, f2⟩ := h
  have r6 : rws σ 6 ≤ rws σ1 6 := by
    rcases h6 with x | x
    · exact x
    · exact Nat.le_of_eq (F.fr (t := 6) x).symm
  have r1 : rws σ 1 ≤ rws σ1 1 := by
    rcases h1 with x | x
    · exact x
    · exact Nat.le_of_eq (F.fr (t := 1) x).symm
  have n_mar : IMar σ1 τ1 := by
    rcases cmar with x | d
    · exact x
    · exact mar.fr (F.1 5 (d.1 5 (by decide))) (F.2 1 (d.2.1 1 (by decide))).1 (G.1 2 (d.2.2.1 2 (by decide))) (G.2 3 (d.2.2.2 3 (by decide))) (G.2 4 (d.2.2.2 4 (by decide))) (G.2 5 (d.2.2.2 5 (by decide)))
  have n_rin : IRin σ1 τ1 := by
    rcases crin with x | d
    · exact x
    · exact rin.fr r1 (F.1 8 (d.1 8 (by decide))) (F.2 2 (d.2.1 2 (by decide))).1 (F.1 48 (d.1 48 (by decide))) (G.1 10 (d.2.2.1 10 (by decide))) (G.1 11 (d.2.2.1 11 (by decide))) (G.2 12 (d.2.2.2 12 (by decide))) (G.2 13 (d.2.2.2 13 (by decide))) (G.2 14 (d.2.2.2 14 (by decide))) (G.2 15 (d.2.2.2 15 (by decide)))
  have n_peo : IPeo σ1 τ1 := by
    rcases cpeo with x | d
    · exact x
    · exact peo.fr (F.1 20 (d.1 20 (by decide))) (F.2 6 (d.2.1 6 (by decide))).1 (G.1 38 (d.2.2.1 38 (by decide))) (G.2 40 (d.2.2.2 40 (by decide))) (G.2 41 (d.2.2.2 41 (by decide))) (G.2 42 (d.2.2.2 42 (by decide))) (G.2 43 (d.2.2.2 43 (by decide)))
  have n_war : IWar σ1 τ1 := by
    rcases cwar with x | d
    · exact x
    · exact war.fr r6 (F.1 29 (d.1 29 (by decide))) (F.2 9 (d.2.1 9 (by decide))).1 (G.1 44 (d.2.2.1 44 (by decide))) (G.2 45 (d.2.2.2 45 (by decide))) (G.2 46 (d.2.2.2 46 (by decide))) (G.2 47 (d.2.2.2 47 (by decide))) (G.2 88 (d.2.2.2 88 (by decide))) (G.2 89 (d.2.2.2 89 (by decide))) (G.2 90 (d.2.2.2 90 (by decide))) (G.2 91 (d.2.2.2 91 (by decide)))
  have n_tap : ITap σ1 τ1 := by
    rcases ctap with x | d
    · exact x
    · exact tap.fr (F.1 2 (d.1 2 (by decide))) (F.2 0 (d.2.1 0 (by decide))).1 (G.1 7 (d.2.2.1 7 (by decide))) (G.2 6 (d.2.2.2 6 (by decide)))
  have n_woo : IWoo σ1 τ1 := by
    rcases cwoo with x | d
    · exact x
    · exact woo.fr (F.1 44 (d.1 44 (by decide))) (F.2 14 (d.2.1 14 (by decide))).1 (G.1 102 (d.2.2.1 102 (by decide))) (G.2 104 (d.2.2.2 104 (by decide))) (G.2 105 (d.2.2.2 105 (by decide))) (G.2 106 (d.2.2.2 106 (by decide)))
  have n_tak : ITak σ1 τ1 := by
    rcases ctak with x | d
    · exact x
    · exact tak.fr (F.1 47 (d.1 47 (by decide))) (F.2 15 (d.2.1 15 (by decide))).1 (G.1 103 (d.2.2.1 103 (by decide))) (G.2 107 (d.2.2.2 107 (by decide))) (G.2 108 (d.2.2.2 108 (by decide))) (G.2 109 (d.2.2.2 109 (by decide))) (G.2 110 (d.2.2.2 110 (by decide))) (G.2 111 (d.2.2.2 111 (by decide)))
  have n_spo : ISpo σ1 τ1 := by
    rcases cspo with x | d
    · exact x
    · exact spo.fr (F.1 41 (d.1 41 (by decide))) (F.2 13 (d.2.1 13 (by decide))).1 (G.1 92 (d.2.2.1 92 (by decide))) (G.2 93 (d.2.2.2 93 (by decide))) (G.2 94 (d.2.2.2 94 (by decide))) (G.2 95 (d.2.2.2 95 (by decide)))
  have n_cla : ICla σ1 τ1 := by
    rcases ccla with x | d
    · exact x
    · exact cla.fr r6 (F.1 23 (d.1 23 (by decide))) (F.1 26 (d.1 26 (by decide))) (F.2 7 (d.2.1 7 (by decide))).1 (F.2 8 (d.2.1 8 (by decide))).1 (G.1 71 (d.2.2.1 71 (by decide))) (G.2 72 (d.2.2.2 72 (by decide))) (G.2 73 (d.2.2.2 73 (by decide))) (G.2 74 (d.2.2.2 74 (by decide))) (G.2 75 (d.2.2.2 75 (by decide))) (G.2 76 (d.2.2.2 76 (by decide))) (G.2 77 (d.2.2.2 77 (by decide))) (G.2 78 (d.2.2.2 78 (by decide)))
  have n_wlk : IWlk σ1 τ1 := by
    rcases cwlk with x | d
    · exact x
    · exact wlk.fr (F.1 51 (d.1 51 (by decide))) (F.1 49 (d.1 49 (by decide))) (F.2 19 (d.2.1 19 (by decide))).1 (G.1 18 (d.2.2.1 18 (by decide))) (G.1 19 (d.2.2.1 19 (by decide))) (G.2 17 (d.2.2.2 17 (by decide)))
  have n_txt : ITxt σ1 τ1 := by
    rcases ctxt with x | d
    · exact x
    · exact txt.fr (F.1 11 (d.1 11 (by decide))) (F.2 3 (d.2.1 3 (by decide))).1 ⟨G.1 21 (d.2.2.1 21 (by decide)), fun a x y => by
      rcases (show a = 28 ∨ a = 29 ∨ a = 30 ∨ a = 31 ∨ a = 32 ∨ a = 33 ∨ a = 34 by omega) with rfl | rfl | rfl | rfl | rfl | rfl | rfl <;> exact G.2 _ (d.2.2.2 _ (by decide))⟩
  have n_cls : ICls σ1 τ1 := by
    rcases ccls with x | d
    · exact x
    · exact cls.fr (F.1 11 (d.1 11 (by decide))) (F.1 14 (d.1 14 (by decide))) (F.1 17 (d.1 17 (by decide))) (F.2 4 (d.2.1 4 (by decide))).1 (F.2 5 (d.2.1 5 (by decide))).1 ⟨G.1 21 (d.2.2.1 21 (by decide)), fun a x y => by
      rcases (show a = 28 ∨ a = 29 ∨ a = 30 ∨ a = 31 ∨ a = 32 ∨ a = 33 ∨ a = 34 by omega) with rfl | rfl | rfl | rfl | rfl | rfl | rfl <;> exact G.2 _ (d.2.2.2 _ (by decide))⟩ (G.2 35 (d.2.2.2 35 (by decide))) (G.2 36 (d.2.2.2 36 (by decide)))
  have n_dee : IDee σ1 τ1 := by
    rcases cdee with x | d
    · exact x
    · exact dee.fr r6 (F.1 32 (d.1 32 (by decide))) (fun i c _ _ => F.fc (d.2.1 10 (by decide)) i c) (G.1 48 (d.2.2.1 48 (by decide))) (G.2 49 (d.2.2.2 49 (by decide))) (G.2 50 (d.2.2.2 50 (by decide))) (G.2 51 (d.2.2.2 51 (by decide))) (G.2 52 (d.2.2.2 52 (by decide))) (G.2 53 (d.2.2.2 53 (by decide))) (G.2 54 (d.2.2.2 54 (by decide)))
  have n_cas : ICas σ1 τ1 := by
    rcases ccas with x | d
    · exact x
    · exact (cas.frC F ⟨d.1 20 (by decide), d.1 29 (by decide), d.1 32 (by decide), d.1 35 (by decide), d.1 62 (by decide)⟩ ⟨d.2.1 10 (by decide), d.2.1 11 (by decide)⟩).frM (G.1 60 (d.2.2.1 60 (by decide))) (fun a x y => by
        rcases (show a = 61 ∨ a = 62 ∨ a = 63 ∨ a = 64 ∨ a = 65 ∨ a = 66 ∨ a = 67 ∨ a = 68 ∨ a = 69 ∨ a = 70 by omega) with rfl | rfl | rfl | rfl | rfl | rfl | rfl | rfl | rfl | rfl <;> exact G.2 _ (d.2.2.2 _ (by decide)))
  have n_cr : CR σ1 := by
    rcases ccr with x | d
    · exact x
    · exact cr.fr hW0 hW n_txt (F.fr (t := 3) (d.1 11 (by decide))) (fun i c _ _ => F.fc (d.2.1 3 (by decide)) i c) (F.1 60 (d.1 60 (by decide))) (F.1 61 (d.1 61 (by decide))) (by rw [F.1 62 (d.1 62 (by decide))]; exact Int32.le_refl _) (F.2 22 (d.2.1 22 (by decide))).1
  have n_rol : IRol σ1 τ1 := by
    rcases crol with x | d
    · exact x
    · exact rol.fr F G (Nat.le_of_eq (F.fr (t := 11) (d.1 35 (by decide))).symm) ⟨d.1 38 (by decide), d.1 64 (by decide), d.1 65 (by decide), d.1 66 (by decide)⟩ ⟨d.2.1 12 (by decide), d.2.1 25 (by decide), d.2.1 26 (by decide)⟩ ⟨d.2.2.2 79 (by decide), d.2.2.2 80 (by decide), d.2.2.2 81 (by decide)⟩
  have n_bea : IBea σ1 := by
    rcases cbea with x | d
    · exact x
    · exact bea.fr F ⟨d.1 29 (by decide), d.1 41 (by decide), d.1 67 (by decide), d.1 68 (by decide)⟩ ⟨d.2.1 9 (by decide), d.2.1 13 (by decide), d.2.1 30 (by decide)⟩
  have n_fau : σ1.1 52 = τ1.1 25 ∧ (rws σ1 3 = 10 → τ1.1 25 = -1) := by
    rcases cfau with x | d
    · exact x
    · rw [F.1 52 (d.1 52 (by decide)), G.1 25 (d.2.2.1 25 (by decide)), F.fr (t := 3) (d.1 11 (by decide))]
      exact ⟨f1, f2⟩
  have n_tim : τ1.1 1 = σ1.1 62 ∧ Rg (σ1.1 62) 100000 ∧ τ1.1 39 = σ1.1 63 := by
    rcases ctim with x | d
    · exact x
    · rw [F.1 62 (d.1 62 (by decide)), F.1 63 (d.1 63 (by decide)), G.1 1 (d.2.2.1 1 (by decide)), G.1 39 (d.2.2.1 39 (by decide))]
      exact ⟨t1, t2, t3⟩
  exact ⟨⟨hW, n_mar, n_rin, n_txt, n_cls, n_peo, n_dee, n_war, n_cas, n_tim⟩, n_cr, n_tap, n_woo, n_tak, n_spo, n_cla, n_wlk, n_rol, n_bea, n_fau.1, n_fau.2⟩
theorem InvA.thr {σ τ : CS} (h : InvA σ τ) (c : Int32) : InvA σ (sF τ 0 c) := h.step (I := []) (A := []) (FrC.refl _ _ _) (FrM.f1 (I := [0]) (A := []) τ c (by decide)) h.1.1
theorem rows9 {σ : CS} (hW : WC σ) (a0 a1 a2 : Int32) {r : Int32 × Int32} {σ1 : CS} (h : f_FC_warden a0 a1 a2 σ = some (r, σ1)) : rws σ 9 ≤ rws σ1 9 := by
  have h40 : rws σ 9 ≤ 6 := hW.hlim (t := 9) (by omega)
  have same : ∀ {r' : Int32 × Int32}, some (r', σ) = some (r, σ1) → rws σ 9 ≤ rws σ1 9 := by
    intro r' e
    simp only [Option.some.injEq, Prod.mk.injEq] at e
    rw [← e.2]
    exact Nat.le_refl _
  unfold f_FC_warden B_FC_warden_38 B_FC_warden_39 at h
  by_cases q0 : ∃ j, j < rws σ 6 ∧ a0 = nI j
  · obtain ⟨j, hj, rfl⟩ := q0
    simp only [tb_has1 hW 6 (by omega) hj, bnd_s, if_neg i10, if_true, fc_within] at h
    by_cases q1 : a1 < 1 ∨ 9 < a1
    · simp only [if_pos q1, if_true, bnd_s, if_neg i10] at h
      exact same h
    simp only [if_neg q1, if_neg i10] at h
    by_cases q2 : a2 < 0 ∨ 50 < a2
    · simp only [if_pos q2, if_true, bnd_s, if_neg i10] at h
      exact same h
    simp only [if_neg q2, if_neg i10, bnd_s, if_true, f_Courts_addWarden] at h
    by_cases q3 : rws σ 9 < 6
    · obtain ⟨σ2, e1, A1⟩ := tb_add hW 9 (by omega) q3
      obtain ⟨e2, A2⟩ := tb_putA A1 (by omega) 0 (by decide) (nI j) (ci := 0) rfl
      obtain ⟨e3, A3⟩ := tb_putA A2 (by omega) 1 (by decide) a1 (ci := 1) rfl
      obtain ⟨e4, A4⟩ := tb_putA A3 (by omega) 2 (by decide) a2 (ci := 2) rfl
      simp only [e1, bnd_s, e2, e3, e4, Option.some.injEq, Prod.mk.injEq] at h
      rw [← h.2]
      obtain ⟨-, b2, -⟩ := A4
      omega
    · simp only [tb_add_full hW 9 (by omega) q3, bnd_s, tb_put_neg 9 (show (-1 : Int32) < 0 by decide)] at h
      exact same h
  · simp only [tb_has0 hW 6 (by omega) q0, bnd_s, if_true] at h
    exact same h
theorem rows9L {σ : CS} (hW : WC σ) (a0 a1 a2 a3 : Int32) {r : Int32 × Int32} {σ1 : CS} (h : f_FC_lodge a0 a1 a2 a3 σ = some (r, σ1)) : rws σ 9 ≤ rws σ1 9 := by
  have same : ∀ {r' : Int32 × Int32}, some (r', σ) = some (r, σ1) → rws σ 9 ≤ rws σ1 9 := by
    intro r' e
    simp only [Option.some.injEq, Prod.mk.injEq] at e
    rw [← e.2]
    exact Nat.le_refl _
  unfold f_FC_lodge B_FC_lodge_38 B_FC_lodge_39 at h
  by_cases q0 : ∃ j, j < rws σ 9 ∧ a0 = nI j
  · obtain ⟨j, hj, rfl⟩ := q0
    simp only [tb_has1 hW 9 (by omega) hj, bnd_s, if_neg i10, if_true, fc_within, fc_isPlace] at h
    by_cases q1 : badP a1 a2
    · simp only [if_pos q1, if_true, bnd_s, if_neg i10] at h
      exact same h
    simp only [if_neg q1, if_neg i10] at h
    by_cases q2 : a3 < 0 ∨ 4000 < a3
    · simp only [if_pos q2, if_true, bnd_s, if_neg i10] at h
      exact same h
    have W1 := pt_W hW 9 j 3 a1
    have W2 := pt_W W1 9 j 4 a2
    simp only [if_neg q2, if_neg i10, bnd_s, if_true, f_Patrols_setLodge, tb_pl hW 9 (by omega) j 3 hj (by decide), tb_pl W1 9 (by omega) j 4 hj (by decide), tb_pl W2 9 (by omega) j 5 hj (by decide), Option.some.injEq, Prod.mk.injEq] at h
    rw [← h.2, sF_rw _ (by omega) _ (by omega)]
    exact Nat.le_refl _
  · simp only [tb_has0 hW 9 (by omega) q0, bnd_s, if_true] at h
    exact same h
/-! the calls -/
theorem ag_wait {σ τ : CS} (h : InvA σ τ) (a0 : Int32) : AgX (f_FC_wait a0 σ) (f_M_wait a0 τ) (fun c0 => c0 = 0 ∨ c0 = 1 ∨ c0 = 2) (fun c0 => (if c0 = 0 then (0 : Int32) else if c0 = 1 then 1 else 2)) InvA := by
  obtain ⟨c0, v0, σ1, b0, τ1, g1, g2, g3, g4, g5, ⟨CB1, CR1, F, G⟩⟩ := pm_wait h.1 h.2.1 a0
  obtain ⟨W1, m1, r1, x1, l1, p1, d1, w1, k1, t1⟩ := id CB1
  exact ⟨c0, v0, σ1, b0, τ1, g1, g2, g3, g4, g5, h.step F G W1 (cmar := Or.inl m1) (crin := Or.inl r1) (cpeo := Or.inl p1) (cwar := Or.inl w1) (ctxt := Or.inl x1) (ccls := Or.inl l1) (cdee := Or.inl d1) (ccas := Or.inl k1) (ccr := Or.inl CR1) (ctim := Or.inl t1)⟩
theorem AgX.imp {F : Option ((Int32 × Int32) × CS)} {G : Option (Int32 × CS)} {cs : Int32 → Prop} {kk : Int32 → Int32} {J J' : CS → CS → Prop} (h : AgX F G cs kk J) (hJ : ∀ σ1 τ1, J σ1 τ1 → J' σ1 τ1) : AgX F G cs kk J' := by
  obtain ⟨c0, v0, σ1, b0, τ1, h1, h2, h3, h4, h5, h6⟩ := h
  exact ⟨c0, v0, σ1, b0, τ1, h1, h2, h3, h4, h5, hJ _ _ h6⟩
theorem stay {σ τ : CS} (h : InvA σ τ) {I' A' : List Nat} (σ1 τ1 : CS) (j : σ1 = σ ∧ FrM I' A' τ τ1) (k1 : ∀ k, k ∈ I' → k = 0 ∨ k = 9) (k2 : ∀ a, a ∈ A' → a = 8 ∨ a = 37) : InvA σ1 τ1 := by
  obtain ⟨rfl, g⟩ := j
  exact h.step (I := []) (A := []) (FrC.refl _ _ _) (g.mono (I' := [0, 9]) (A' := [8, 37]) (fun k hk => by rcases k1 k hk with rfl | rfl <;> decide) (fun a ha => by rcases k2 a ha with rfl | rfl <;> decide)) h.1.1

theorem ag_mark {σ τ : CS} (h : InvA σ τ) (a0 a1 a2 : Int32) : AgX (f_FC_mark a0 a1 a2 σ) (f_M_mark a0 a1 a2 τ) (fun c0 => c0 = 0 ∨ c0 = 1 ∨ c0 = 2) (fun c0 => (if c0 = 0 then (0 : Int32) else if c0 = 1 then 1 else 2)) InvA := (pm_mark h.1.1 h.1.2.1 a0 a1 a2).imp (fun σ1 τ1 j => h.step j.1.2.2.1 j.1.2.2.2 j.1.1 (h1 := Or.inl j.2.1) (cmar := Or.inl j.1.2.1))
theorem ag_ring {σ τ : CS} (h : InvA σ τ) (a0 a1 : Int32) : AgX (f_FC_ring a0 a1 σ) (f_M_ring a0 a1 τ) (fun c0 => c0 = 0 ∨ c0 = 1) (fun c0 => (if c0 = 0 then (0 : Int32) else 1)) InvA := (pm_ring h.1.1 h.2.2.1 h.1.2.1 h.1.2.2.1 a0 a1).imp (fun σ1 τ1 j => h.step j.2.2.2.1 j.2.2.2.2 j.1 (ctap := Or.inl j.2.1) (crin := Or.inl j.2.2.1))
theorem ag_unring {σ τ : CS} (h : InvA σ τ) (a0 a1 : Int32) : AgX (f_FC_unring a0 a1 σ) (f_M_unring a0 a1 τ) (fun c0 => c0 = 0 ∨ c0 = 3 ∨ c0 = 1) (fun c0 => (if c0 = 0 then (0 : Int32) else if c0 = 3 then 1 else 2)) InvA := (pm_unring h.1.1 h.1.2.2.1 a0 a1).imp (fun σ1 τ1 j => h.step j.2.2.1 j.2.2.2 j.1 (crin := Or.inl j.2.1))
theorem ag_strip {σ τ : CS} (h : InvA σ τ) (a0 : Int32) : AgX (f_FC_strip a0 σ) (f_M_strip a0 τ) (fun c0 => c0 = 0 ∨ c0 = 1) (fun c0 => (if c0 = 0 then (0 : Int32) else 1)) InvA := (pm_strip h.1.1 h.1.2.2.1 a0).imp (fun σ1 τ1 j => h.step j.2.2.1 j.2.2.2 j.1 (crin := Or.inl j.2.1))
theorem ag_bounds {σ τ : CS} (h : InvA σ τ) (a0 : Int32) : AgX (f_FC_bounds a0 σ) (f_M_bounds a0 τ) (fun c0 => c0 = 0 ∨ c0 = 1) (fun c0 => (if c0 = 0 then (0 : Int32) else 1)) InvA := (pm_bounds h.1.1 h.1.2.2.1 a0).imp (fun σ1 τ1 j => h.step j.2.2.1 j.2.2.2 j.1 (crin := Or.inl j.2.1))
theorem ag_where {σ τ : CS} (h : InvA σ τ) (a0 a1 a2 : Int32) : AgX (f_FC_where a0 a1 a2 σ) (f_M_where a0 a1 a2 τ) (fun c0 => c0 = 0 ∨ c0 = 1) (fun c0 => (if c0 = 0 then (0 : Int32) else 1)) InvA := (pm_where h.1.1 h.1.2.1 h.1.2.2.1 a0 a1 a2).imp (fun σ1 τ1 j => stay h σ1 τ1 j (by decide) (by decide))
theorem ag_walk {σ τ : CS} (h : InvA σ τ) (a0 : Int32) : AgX (f_FC_walk a0 σ) (f_M_walk a0 τ) (fun c0 => c0 = 0 ∨ c0 = 1) (fun c0 => (if c0 = 0 then (0 : Int32) else 1)) InvA := (pm_walk h.1.1 h.2.2.1 h.1.2.1 h.2.2.2.2.2.2.2.1 a0).imp (fun σ1 τ1 j => h.step j.2.2.2.1 j.2.2.2.2 j.1 (ctap := Or.inl j.2.1) (cwlk := Or.inl j.2.2.1))
theorem ag_force {σ τ : CS} (h : InvA σ τ) (a0 a1 : Int32) : AgX (f_FC_force a0 a1 σ) (f_M_force a0 a1 τ) (fun c0 => c0 = 0 ∨ c0 = 3 ∨ c0 = 1) (fun c0 => (if c0 = 0 then (0 : Int32) else if c0 = 3 then 1 else 2)) InvA := (pm_force h.1.1 h.1.2.2.2.1 a0 a1).imp (fun σ1 τ1 j => stay h σ1 τ1 j (by decide) (by decide))
theorem ag_rule {σ τ : CS} (h : InvA σ τ) (a0 a1 : Int32) : AgX (f_FC_rule a0 a1 σ) (f_M_rule a0 a1 τ) (fun c0 => c0 = 0 ∨ c0 = 1) (fun c0 => (if c0 = 0 then (0 : Int32) else 1)) InvA := (pm_rule h.1.1 h.1.2.2.2.1 a0 a1).imp (fun σ1 τ1 j => stay h σ1 τ1 j (by decide) (by decide))
theorem ag_sure {σ τ : CS} (h : InvA σ τ) (a0 a1 : Int32) : AgX (f_FC_sure a0 a1 σ) (f_M_sure a0 a1 τ) (fun c0 => c0 = 0 ∨ c0 = 3 ∨ c0 = 1) (fun c0 => (if c0 = 0 then (0 : Int32) else if c0 = 3 then 1 else 2)) InvA := (pm_sure h.1.1 h.1.2.2.2.1 h.2.2.2.2.2.2.1 a0 a1).imp (fun σ1 τ1 j => stay h σ1 τ1 j (by decide) (by decide))
theorem casP {σ τ σ1 τ1 : CS} (h : InvA σ τ) (W1 : WC σ1) (F : FrC [20] [6] σ σ1) (G : FrM [0, 38] [40, 41, 42, 43] τ τ1) (r6 : rws σ 6 ≤ rws σ1 6) : ICas σ1 τ1 := by
  have c : ICas σ τ := h.1.2.2.2.2.2.2.2.2.1
  exact (c.mono (W1.hr4 (t := 10) (by omega)) r6 (Nat.le_of_eq (F.fr (t := 9) (by decide)).symm) (Gr10.of F (by decide) (by decide)) (F.fr (t := 11) (by decide)) (fun i e => F.fc (t := 11) (by decide) i e) (F.1 62 (by decide))).frM (G.1 60 (by decide)) (fun a x y => G.2 a (fun z => by
    simp only [List.mem_cons, List.not_mem_nil, or_false] at z
    omega))
theorem ag_person {σ τ : CS} (h : InvA σ τ) (a0 a1 : Int32) : AgX (f_FC_person a0 a1 σ) (f_M_person a0 a1 τ) (fun c0 => c0 = 0 ∨ c0 = 1 ∨ c0 = 2) (fun c0 => (if c0 = 0 then (0 : Int32) else if c0 = 1 then 1 else 2)) InvA := (pm_person h.1.1 h.1.2.2.2.2.2.1 a0 a1).imp (fun σ1 τ1 j => h.step j.2.2.1 j.2.2.2.1 j.1 (h6 := Or.inl j.2.2.2.2) (cpeo := Or.inl j.2.1) (ccas := Or.inl (casP h j.1 j.2.2.1 j.2.2.2.1 j.2.2.2.2)))
theorem ag_heir {σ τ : CS} (h : InvA σ τ) (a0 a1 : Int32) : AgX (f_FC_heir a0 a1 σ) (f_M_heir a0 a1 τ) (fun c0 => c0 = 0 ∨ c0 = 3 ∨ c0 = 1) (fun c0 => (if c0 = 0 then (0 : Int32) else if c0 = 3 then 1 else 2)) InvA := (pm_heir h.1.1 h.1.2.2.2.2.2.1 a0 a1).imp (fun σ1 τ1 j => h.step j.2.2.1 j.2.2.2.1 j.1 (h6 := Or.inl j.2.2.2.2) (cpeo := Or.inl j.2.1) (ccas := Or.inl (casP h j.1 j.2.2.1 j.2.2.2.1 j.2.2.2.2)))
theorem ag_die {σ τ : CS} (h : InvA σ τ) (a0 : Int32) : AgX (f_FC_die a0 σ) (f_M_die a0 τ) (fun c0 => c0 = 0 ∨ c0 = 3) (fun c0 => (if c0 = 0 then (0 : Int32) else 1)) InvA := (pm_die h.1.1 h.1.2.2.2.2.2.1 h.1.2.2.2.2.2.2.2.2.2.1 h.1.2.2.2.2.2.2.2.2.2.2.1 a0).imp (fun σ1 τ1 j => h.step j.2.2.1 j.2.2.2.1 j.1 (h6 := Or.inl j.2.2.2.2) (cpeo := Or.inl j.2.1) (ccas := Or.inl (casP h j.1 j.2.2.1 j.2.2.2.1 j.2.2.2.2)))
theorem ag_told {σ τ : CS} (h : InvA σ τ) (a0 a1 : Int32) : AgX (f_FC_told a0 a1 σ) (f_M_told a0 a1 τ) (fun c0 => c0 = 0 ∨ c0 = 3 ∨ c0 = 1) (fun c0 => (if c0 = 0 then (0 : Int32) else if c0 = 3 then 1 else 2)) InvA := (pm_told h.1.1 h.1.2.2.2.2.2.1 a0 a1).imp (fun σ1 τ1 j => h.step j.2.2.1 j.2.2.2.1 j.1 (h6 := Or.inl j.2.2.2.2) (cpeo := Or.inl j.2.1) (ccas := Or.inl (casP h j.1 j.2.2.1 j.2.2.2.1 j.2.2.2.2)))
theorem casW {σ τ σ1 τ1 : CS} (h : InvA σ τ) (W1 : WC σ1) (F : FrC [29, 68] [9] σ σ1) (G : FrM [0, 44] [45, 46, 47, 88, 89, 90, 91] τ τ1) (r9 : rws σ 9 ≤ rws σ1 9) : ICas σ1 τ1 := by
  have c : ICas σ τ := h.1.2.2.2.2.2.2.2.2.1
  exact (c.mono (W1.hr4 (t := 10) (by omega)) (Nat.le_of_eq (F.fr (t := 6) (by decide)).symm) r9 (Gr10.of F (by decide) (by decide)) (F.fr (t := 11) (by decide)) (fun i e => F.fc (t := 11) (by decide) i e) (F.1 62 (by decide))).frM (G.1 60 (by decide)) (fun a x y => G.2 a (fun z => by
    simp only [List.mem_cons, List.not_mem_nil, or_false] at z
    omega))
theorem ag_warden {σ τ : CS} (h : InvA σ τ) (a0 a1 a2 : Int32) : AgX (f_FC_warden a0 a1 a2 σ) (f_M_warden a0 a1 a2 τ) (fun c0 => c0 = 0 ∨ c0 = 3 ∨ c0 = 1) (fun c0 => (if c0 = 0 then (0 : Int32) else if c0 = 3 then 1 else 2)) InvA := by
  obtain ⟨c0, v0, σ1, b0, τ1, g1, g2, g3, g4, g5, j⟩ := pm_warden h.1.1 h.1.2.2.2.2.2.1 h.1.2.2.2.2.2.2.2.1 a0 a1 a2
  exact ⟨c0, v0, σ1, b0, τ1, g1, g2, g3, g4, g5, h.step j.2.2.1 j.2.2.2 j.1 (cwar := Or.inl j.2.1) (ccas := Or.inl (casW h j.1 j.2.2.1 j.2.2.2 (rows9 h.1.1 a0 a1 a2 g1))) (cbea := Or.inl (IBea.warden h.1.1 h.2.2.2.2.2.2.2.2.2.1 a0 a1 a2 g1))⟩
theorem ag_lodge {σ τ : CS} (h : InvA σ τ) (a0 a1 a2 a3 : Int32) : AgX (f_FC_lodge a0 a1 a2 a3 σ) (f_M_lodge a0 a1 a2 a3 τ) (fun c0 => c0 = 0 ∨ c0 = 3 ∨ c0 = 1) (fun c0 => (if c0 = 0 then (0 : Int32) else if c0 = 3 then 1 else 2)) InvA := by
  obtain ⟨c0, v0, σ1, b0, τ1, g1, g2, g3, g4, g5, j, e⟩ := pm_lodge h.1.1 h.1.2.2.2.2.2.2.2.1 a0 a1 a2 a3
  refine ⟨c0, v0, σ1, b0, τ1, g1, g2, g3, g4, g5, h.step j.2.2.1 j.2.2.2 j.1 (cwar := Or.inl j.2.1) (ccas := Or.inl (casW h j.1 j.2.2.1 j.2.2.2 (rows9L h.1.1 a0 a1 a2 a3 g1))) (cbea := Or.inl ?_)⟩
  rcases e with e | ⟨e, -⟩
  · exact Or.inr e
  · rw [e]
    exact h.2.2.2.2.2.2.2.2.2.1
theorem ag_spot {σ τ : CS} (h : InvA σ τ) (a0 a1 a2 : Int32) : AgX (f_FC_spot a0 a1 a2 σ) (f_M_spot a0 a1 a2 τ) (fun c0 => c0 = 0 ∨ c0 = 1) (fun c0 => (if c0 = 0 then (0 : Int32) else 1)) InvA := by
  obtain ⟨c0, v0, σ1, b0, τ1, g1, g2, g3, g4, g5, j, e⟩ := pm_spot h.1.1 h.2.2.2.2.2.1 a0 a1 a2
  refine ⟨c0, v0, σ1, b0, τ1, g1, g2, g3, g4, g5, h.step j.2.2.1 j.2.2.2 j.1 (cspo := Or.inl j.2.1) (cbea := Or.inl ?_)⟩
  rcases e with e | ⟨e, -⟩
  · exact Or.inr e
  · rw [e]
    exact h.2.2.2.2.2.2.2.2.2.1
theorem casD {σ τ σ1 τ1 : CS} (h : InvA σ τ) (W1 : WC σ1) (F : FrC [32] [10] σ σ1) (G : FrM [0, 48] [49, 50, 51, 52, 53, 54] τ τ1) (g : Gr10 σ σ1) : ICas σ1 τ1 := by
  have c : ICas σ τ := h.1.2.2.2.2.2.2.2.2.1
  exact (c.mono (W1.hr4 (t := 10) (by omega)) (Nat.le_of_eq (F.fr (t := 6) (by decide)).symm) (Nat.le_of_eq (F.fr (t := 9) (by decide)).symm) g (F.fr (t := 11) (by decide)) (fun i e => F.fc (t := 11) (by decide) i e) (F.1 62 (by decide))).frM (G.1 60 (by decide)) (fun a x y => G.2 a (fun z => by
    simp only [List.mem_cons, List.not_mem_nil, or_false] at z
    omega))
theorem ag_deed {σ τ : CS} (h : InvA σ τ) (a0 a1 a2 a3 a4 a5 : Int32) : AgX (f_FC_deed a0 a1 a2 a3 a4 a5 σ) (f_M_deed a0 a1 a2 a3 a4 a5 τ) (fun c0 => c0 = 0 ∨ c0 = 3 ∨ c0 = 1) (fun c0 => (if c0 = 0 then (0 : Int32) else if c0 = 3 then 1 else 2)) InvA := (pm_deed h.1.1 h.1.2.2.2.2.2.1 h.1.2.2.2.2.2.2.1 h.1.2.2.2.2.2.2.2.2.2.1 h.1.2.2.2.2.2.2.2.2.2.2.1 a0 a1 a2 a3 a4 a5).imp (fun σ1 τ1 j => h.step j.1.2.2.1 j.1.2.2.2 j.1.1 (cdee := Or.inl j.1.2.1) (ccas := Or.inl (casD h j.1.1 j.1.2.2.1 j.1.2.2.2 j.2)))
theorem worR {σ τ σ1 τ1 : CS} (h : InvA σ τ) (j : JWor σ τ σ1 τ1) : InvA σ1 τ1 := h.step j.2.1 j.2.2 j.1
theorem ag_barred {σ τ : CS} (h : InvA σ τ) (a0 : Int32) : AgX (f_FC_barred a0 σ) (f_M_barred a0 τ) (fun c0 => c0 = 0 ∨ c0 = 3) (fun c0 => (if c0 = 0 then (0 : Int32) else 1)) InvA := (pm_barred h.1.1 h.1.2.1 h.1.2.2.1 h.1.2.2.2.1 h.1.2.2.2.2.1 h.1.2.2.2.2.2.1 h.1.2.2.2.2.2.2.1 h.2.2.2.2.2.2.1 a0).imp (fun σ1 τ1 j => worR h j)
theorem ag_why {σ τ : CS} (h : InvA σ τ) (a0 : Int32) : AgX (f_FC_why a0 σ) (f_M_why a0 τ) (fun c0 => c0 = 0 ∨ c0 = 3) (fun c0 => (if c0 = 0 then (0 : Int32) else 1)) InvA := (pm_why h.1.1 h.1.2.1 h.1.2.2.1 h.1.2.2.2.1 h.1.2.2.2.2.1 h.1.2.2.2.2.2.1 h.1.2.2.2.2.2.2.1 a0).imp (fun σ1 τ1 j => worR h j)
theorem ag_fine {σ τ : CS} (h : InvA σ τ) (a0 : Int32) : AgX (f_FC_fine a0 σ) (f_M_fine a0 τ) (fun c0 => c0 = 0 ∨ c0 = 3) (fun c0 => (if c0 = 0 then (0 : Int32) else 1)) InvA := (pm_fine h.1.1 h.1.2.1 h.1.2.2.1 h.1.2.2.2.1 h.1.2.2.2.2.1 h.1.2.2.2.2.2.1 h.1.2.2.2.2.2.2.1 a0).imp (fun σ1 τ1 j => worR h j)
theorem rolX {σ τ σ1 τ1 : CS} (h : InvA σ τ) (F : FrC [35, 53, 54] [10, 11, 20, 21] σ σ1) (G : FrM [0, 9, 56, 57, 58, 59, 60] [8, 37, 55, 61, 62, 63, 64, 66] τ τ1) (r : rws σ 11 ≤ rws σ1 11) : IRol σ1 τ1 := IRol.fr h.2.2.2.2.2.2.2.2.1 F G r (by decide) (by decide) (by decide)
theorem deeX {σ τ σ1 τ1 : CS} (h : InvA σ τ) (F : FrC [35, 53, 54] [10, 11, 20, 21] σ σ1) (G : FrM [0, 9, 56, 57, 58, 59, 60] [8, 37, 55, 61, 62, 63, 64, 66] τ τ1) (e : ∀ i c, c < 6 → cel σ1 10 i c = cel σ 10 i c) : IDee σ1 τ1 := IDee.fr h.1.2.2.2.2.2.2.1 (Nat.le_of_eq (F.fr (t := 6) (by decide)).symm) (F.1 32 (by decide)) (fun i c _ hc => e i c hc) (G.1 48 (by decide)) (G.2 49 (by decide)) (G.2 50 (by decide)) (G.2 51 (by decide)) (G.2 52 (by decide)) (G.2 53 (by decide)) (G.2 54 (by decide))
theorem rows11 {σ τ : CS} (h : InvA σ τ) (a0 a1 a2 a3 : Int32) {r : Int32 × Int32} {σ1 : CS} (e : f_FC_present a0 a1 a2 a3 σ = some (r, σ1)) : rws σ 11 ≤ rws σ1 11 := by
  obtain ⟨⟨hW, hM, hR, hT, hC, hP, hD, hA, hK, -, -, -⟩, -, -, -, -, -, hL, -⟩ := h
  have h40 : rws σ 11 ≤ 40 := hW.hlim (t := 11) (by omega)
  have same : ∀ (σ' : CS) {r' : Int32 × Int32}, rws σ' 11 = rws σ 11 → some (r', σ') = some (r, σ1) → rws σ 11 ≤ rws σ1 11 := by
    intro σ' r' q z
    simp only [Option.some.injEq, Prod.mk.injEq] at z
    rw [← z.2, q]
    exact Nat.le_refl _
  unfold f_FC_present at e
  by_cases q0 : ∃ j, j < rws σ 10 ∧ a0 = nI j
  rotate_left
  · simp only [tb_has0 hW 10 (by omega) q0, bnd_s, if_true, B_FC_present_32, B_FC_present_33] at e
    exact same σ rfl e
  obtain ⟨d, hd, rfl⟩ := q0
  by_cases q1 : ∃ j, j < rws σ 9 ∧ a1 = nI j
  rotate_left
  · simp only [tb_has1 hW 10 (by omega) hd, tb_has0 hW 9 (by omega) q1, bnd_s, if_true, B_FC_present_32, B_FC_present_33, if_neg i10] at e
    exact same σ rfl e
  obtain ⟨w, hw, rfl⟩ := q1
  by_cases q2 : ∃ j, j < rws σ 6 ∧ a2 = nI j
  rotate_left
  · simp only [tb_has1 hW 10 (by omega) hd, tb_has1 hW 9 (by omega) hw, tb_has0 hW 6 (by omega) q2, bnd_s, if_true, B_FC_present_69, B_FC_present_70, B_FC_present_33, if_neg i10] at e
    exact same σ rfl e
  obtain ⟨p, hp, rfl⟩ := q2
  by_cases q3 : ∃ j, j < rws σ 6 ∧ a3 = nI j
  rotate_left
  · simp only [tb_has1 hW 10 (by omega) hd, tb_has1 hW 9 (by omega) hw, tb_has1 hW 6 (by omega) hp, tb_has0 hW 6 (by omega) q3, bnd_s, if_true, B_FC_present_69, B_FC_present_70, B_FC_present_33, if_neg i10] at e
    exact same σ rfl e
  obtain ⟨q, hq, rfl⟩ := q3
  simp only [tb_has1 hW 10 (by omega) hd, tb_has1 hW 9 (by omega) hw, tb_has1 hW 6 (by omega) hp, tb_has1 hW 6 (by omega) hq, bnd_s, B_FC_present_70, B_FC_present_33, if_neg i10] at e
  unfold f_Courts_addPresentment at e
  rw [tb_full hW 11 (by omega), bnd_s, show lim 11 = 40 from rfl] at e
  by_cases q4 : rws σ 11 < 40
  rotate_left
  · rw [if_neg q4, if_neg i10, bnd_s] at e
    exact same σ rfl e
  rw [if_pos q4, if_pos rfl, tb_gl hW 10 (by omega) d 6 hd (by decide), bnd_s] at e
  by_cases x1 : cel σ 10 d 6 = -1
  rotate_left
  · rw [if_neg x1, bnd_s] at e
    exact same σ rfl e
  rw [if_pos x1] at e
  obtain ⟨b, σ', τ', hb, g1, g2, g3, g4, g5⟩ := barred_ag hW hM hR hT hC hP hD hL hd
  have r11 : rws σ' 11 = rws σ 11 := g4.fr (by decide)
  have r10 : rws σ' 10 = rws σ 10 := g4.fr (by decide)
  have r6 : rws σ' 6 = rws σ 6 := g4.fr (by decide)
  have hP' : IPeo σ' τ := hP.fr (g4.1 20 (by decide)) (g4.2 6 (by decide)).1 rfl rfl rfl rfl rfl
  rw [g1, bnd_s] at e
  by_cases q5 : b = 0
  · rw [if_pos q5, bnd_s] at e
    exact same σ' r11 e
  rw [if_neg q5, tb_gl g3 10 (by omega) d 0 (by omega) (by decide), bnd_s] at e
  rcases lives_ag g3 hP' (h := p) (by omega) with ⟨-, l1, -⟩ | ⟨-, l1, -⟩
  rotate_left
  · rw [l1, bnd_s, if_pos rfl, bnd_s] at e
    exact same σ' r11 e
  rw [l1, bnd_s, if_neg i10] at e
  rcases lives_ag g3 hP' (h := q) (by omega) with ⟨-, l3, -⟩ | ⟨-, l3, -⟩
  rotate_left
  · rw [l3, bnd_s, if_pos rfl, bnd_s] at e
    exact same σ' r11 e
  rw [l3, bnd_s, if_neg i10] at e
  by_cases q6 : nI p = cel σ' 10 d 0
  · rw [if_pos q6, bnd_s] at e
    exact same σ' r11 e
  rw [if_neg q6] at e
  by_cases q7 : nI q = cel σ' 10 d 0
  · rw [if_pos q7, bnd_s] at e
    exact same σ' r11 e
  rw [if_neg q7] at e
  by_cases q8 : nI p = nI q
  · rw [if_pos q8, bnd_s] at e
    exact same σ' r11 e
  rw [if_neg q8] at e
  obtain ⟨σf, row, a1, a2, -⟩ := add_case g3 (d := d) (by omega) (by omega) (cel σ' 10 d 0) (nI w) (nI p) (nI q)
  rw [a1, bnd_s] at e
  simp only [Option.some.injEq, Prod.mk.injEq] at e
  have b2 : rws σf 11 = rws (pt σ' 10 d 6 (nI (rws σ' 11))) 11 + 1 := a2.2.1
  rw [pt_rws, r11] at b2
  rw [← e.2]
  omega
theorem ag_present {σ τ : CS} (h : InvA σ τ) (a0 a1 a2 a3 : Int32) : AgX (f_FC_present a0 a1 a2 a3 σ) (f_M_present a0 a1 a2 a3 τ) (fun c0 => c0 = 0 ∨ c0 = 3) (fun c0 => (if c0 = 0 then (0 : Int32) else 1)) InvA := by
  obtain ⟨c0, v0, σ1, b0, τ1, g1, g2, g3, g4, g5, j, e⟩ := pm_present h.1.1 h.1.2.1 h.1.2.2.1 h.1.2.2.2.1 h.1.2.2.2.2.1 h.1.2.2.2.2.2.1 h.1.2.2.2.2.2.2.1 h.2.2.2.2.2.2.1 h.1.2.2.2.2.2.2.2.1 h.1.2.2.2.2.2.2.2.2.1 h.1.2.2.2.2.2.2.2.2.2.1 h.1.2.2.2.2.2.2.2.2.2.2.1 a0 a1 a2 a3
  exact ⟨c0, v0, σ1, b0, τ1, g1, g2, g3, g4, g5, h.step j.2.2.1 j.2.2.2 j.1 (ccas := Or.inl j.2.1) (cdee := Or.inl (deeX h j.2.2.1 j.2.2.2 e)) (crol := Or.inl (rolX h j.2.2.1 j.2.2.2 (rows11 h a0 a1 a2 a3 g1)))⟩
theorem ag_proof {σ τ : CS} (h : InvA σ τ) (a0 a1 : Int32) : AgX (f_FC_proof a0 a1 σ) (f_M_proof a0 a1 τ) (fun c0 => c0 = 0 ∨ c0 = 3 ∨ c0 = 1) (fun c0 => (if c0 = 0 then (0 : Int32) else if c0 = 3 then 1 else 2)) InvA := (pm_proof h.1.1 h.1.2.2.2.2.2.2.2.2.1 a0 a1).imp (fun σ1 τ1 j => h.step j.2.2.1 j.2.2.2 j.1 (ccas := Or.inl j.2.1))
theorem ag_of {σ τ : CS} (h : InvA σ τ) (a0 a1 : Int32) : AgX (f_FC_of a0 a1 σ) (f_M_of a0 a1 τ) (fun c0 => c0 = 0 ∨ c0 = 3 ∨ c0 = 1) (fun c0 => (if c0 = 0 then (0 : Int32) else if c0 = 3 then 1 else 2)) InvA := (pm_of h.1.1 h.1.2.2.2.2.2.2.2.2.1 a0 a1).imp (fun σ1 τ1 j => h.step j.2.2.1 j.2.2.2 j.1 (ccas := Or.inl j.2.1))
theorem ag_claim {σ τ : CS} (h : InvA σ τ) (a0 a1 a2 a3 : Int32) : AgX (f_FC_claim a0 a1 a2 a3 σ) (f_M_claim a0 a1 a2 a3 τ) (fun c0 => c0 = 0 ∨ c0 = 3 ∨ c0 = 1) (fun c0 => (if c0 = 0 then (0 : Int32) else if c0 = 3 then 1 else 2)) InvA := (pm_claim h.1.1 h.1.2.2.2.2.2.1 h.2.2.2.2.2.2.1 a0 a1 a2 a3).imp (fun σ1 τ1 j => h.step j.2.2.1 j.2.2.2 j.1 (ccla := Or.inl j.2.1))
theorem ag_use {σ τ : CS} (h : InvA σ τ) (a0 a1 a2 : Int32) : AgX (f_FC_use a0 a1 a2 σ) (f_M_use a0 a1 a2 τ) (fun c0 => c0 = 0 ∨ c0 = 3 ∨ c0 = 1) (fun c0 => (if c0 = 0 then (0 : Int32) else if c0 = 3 then 1 else 2)) InvA := (pm_use h.1.1 h.2.2.2.2.2.2.1 a0 a1 a2).imp (fun σ1 τ1 j => h.step j.2.2.1 j.2.2.2 j.1 (ccla := Or.inl j.2.1))
theorem ag_enter {σ τ : CS} (h : InvA σ τ) (a0 a1 a2 : Int32) : AgX (f_FC_enter a0 a1 a2 σ) (f_M_enter a0 a1 a2 τ) (fun c0 => c0 = 0 ∨ c0 = 3 ∨ c0 = 1) (fun c0 => (if c0 = 0 then (0 : Int32) else if c0 = 3 then 1 else 2)) InvA := (pm_enter h.1.1 h.2.2.2.2.2.2.2.2.1 h.1.2.2.2.2.2.2.2.2.1 a0 a1 a2).imp (fun σ1 τ1 j => h.step j.2.2.1 j.2.2.2 j.1 (crol := Or.inl j.2.1))
theorem ag_joined {σ τ : CS} (h : InvA σ τ) (a0 a1 : Int32) : AgX (f_FC_joined a0 a1 σ) (f_M_joined a0 a1 τ) (fun c0 => c0 = 0 ∨ c0 = 1) (fun c0 => (if c0 = 0 then (0 : Int32) else 1)) InvA := (pm_joined h.1.1 h.2.2.2.2.2.2.2.2.1 h.1.2.2.2.2.2.2.2.2.1.1 a0 a1).imp (fun σ1 τ1 j => h.step j.2.2.1 j.2.2.2 j.1 (crol := Or.inl j.2.1))
theorem ag_beat {σ τ : CS} (h : InvA σ τ) (a0 : Int32) : AgX (f_FC_beat a0 σ) (f_M_beat a0 τ) (fun c0 => c0 = 0 ∨ c0 = 3) (fun c0 => (if c0 = 0 then (0 : Int32) else 1)) InvA := (pm_beat h.1.1 h.1.2.2.2.2.2.2.2.1 h.2.2.2.2.2.1 h.2.2.2.2.2.2.2.2.2.1 a0).imp (fun σ1 τ1 j => h.step j.2.2.1 j.2.2.2 j.1 (cbea := Or.inl j.2.1))
theorem ag_wood {σ τ : CS} (h : InvA σ τ) (a0 a1 a2 : Int32) : AgX (f_FC_wood a0 a1 a2 σ) (f_M_wood a0 a1 a2 τ) (fun c0 => c0 = 0 ∨ c0 = 1) (fun c0 => (if c0 = 0 then (0 : Int32) else 1)) InvA := (pm_wood h.1.1 h.2.2.2.1 a0 a1 a2).imp (fun σ1 τ1 j => h.step j.2.2.1 j.2.2.2 j.1 (cwoo := Or.inl j.2.1))
theorem ag_take {σ τ : CS} (h : InvA σ τ) (a0 a1 a2 a3 : Int32) : AgX (f_FC_take a0 a1 a2 a3 σ) (f_M_take a0 a1 a2 a3 τ) (fun c0 => c0 = 0 ∨ c0 = 3 ∨ c0 = 1) (fun c0 => (if c0 = 0 then (0 : Int32) else if c0 = 3 then 1 else 2)) InvA := (pm_take h.1.1 h.2.2.2.1 h.2.2.2.2.1 h.1.2.2.2.2.2.2.2.2.2.1 a0 a1 a2 a3).imp (fun σ1 τ1 j => h.step j.2.2.1 j.2.2.2 j.1 (ctak := Or.inl j.2.1))
theorem ag_stock {σ τ : CS} (h : InvA σ τ) (a0 a1 a2 a3 : Int32) : AgX (f_FC_stock a0 a1 a2 a3 σ) (f_M_stock a0 a1 a2 a3 τ) (fun c0 => c0 = 0 ∨ c0 = 3 ∨ c0 = 1) (fun c0 => (if c0 = 0 then (0 : Int32) else if c0 = 3 then 1 else 2)) InvA := (pm_stock h.1.1 h.2.2.2.1 h.2.2.2.2.1 a0 a1 a2 a3).imp (fun σ1 τ1 j => h.step j.2.2.1 j.2.2.2 j.1 (ctak := Or.inl j.2.1))
theorem ag_text {σ τ : CS} (h : InvA σ τ) (a0 a1 : Int32) : AgX (f_FC_text a0 a1 σ) (f_M_text a0 a1 τ) (fun c0 => c0 = 0 ∨ c0 = 1) (fun c0 => (if c0 = 0 then (0 : Int32) else 1)) InvA := by
  refine (pm_text h.1.1 h.2.2.1 h.1.2.2.2.1 h.1.2.2.2.2.1 h.2.2.2.2.2.2.2.2.2.2.1 h.2.2.2.2.2.2.2.2.2.2.2 a0 a1).imp (fun σ1 τ1 j => ?_)
  obtain ⟨j1, j2, j3, j4, j5, j6, j7, j8, j9⟩ := j
  refine h.step j5 j6 j1 (ctap := Or.inl j2) (ctxt := Or.inl j3) (ccls := Or.inl j4) (cfau := Or.inl ⟨j7, j8⟩) (ccr := Or.inl ?_)
  have cr : CR σ := h.2.1
  rcases j9 with ⟨e1, e2⟩ | e1
  · exact cr.fr h.1.1 j1 j3 e1 (fun i c x y => e2 i c x y) (j5.1 60 (by decide)) (j5.1 61 (by decide)) (by rw [j5.1 62 (by decide)]; exact Int32.le_refl _) (j5.2 22 (by decide)).1
  · obtain ⟨s, x1, x2, -⟩ := cr
    exact ⟨s, by omega, (j5.1 61 (by decide)).trans x2, fun z => by omega⟩
theorem an_feed {σ τ : CS} (h : InvA σ τ) (a0 a1 a2 a3 a4 : Int32) : ∃ v σ1 τ1, f_FC_feed a0 a1 a2 a3 a4 σ = some (v, σ1) ∧ f_M_feed a0 a1 a2 a3 a4 τ = some (v, τ1) ∧ InvA σ1 τ1 := by
  obtain ⟨v, σ1, τ1, g1, g2, j⟩ := pm_feed h.1.1 h.2.2.1 a0 a1 a2 a3 a4
  exact ⟨v, σ1, τ1, g1, g2, h.step j.2.2.1 j.2.2.2 j.1 (ctap := Or.inl j.2.1)⟩
theorem an_walked {σ τ : CS} (h : InvA σ τ) (a0 : Int32) : ∃ v σ1 τ1, f_FC_walked a0 σ = some (v, σ1) ∧ f_M_walked a0 τ = some (v, τ1) ∧ InvA σ1 τ1 := by
  obtain ⟨v, g1, g2⟩ := pm_walked h.2.2.2.2.2.2.2.1 a0
  exact ⟨v, _, _, g1, g2, h.thr 0⟩
theorem an_rivals {σ τ : CS} (h : InvA σ τ) : ∃ v σ1 τ1, f_FC_rivals σ = some (v, σ1) ∧ f_M_rivals τ = some (v, τ1) ∧ InvA σ1 τ1 := by
  obtain ⟨v, g1, g2⟩ := pm_rivals h.2.2.2.2.2.2.2.1
  exact ⟨v, _, _, g1, g2, h.thr 0⟩
theorem an_fault {σ τ : CS} (h : InvA σ τ) : ∃ v σ1 τ1, f_FC_fault σ = some (v, σ1) ∧ f_M_fault τ = some (v, τ1) ∧ InvA σ1 τ1 := by
  refine ⟨σ.1 52, σ, sF τ 0 0, rfl, ?_, h.thr 0⟩
  unfold f_M_fault
  rw [h.2.2.2.2.2.2.2.2.2.2.1]
theorem an_quarrel {σ τ : CS} (h : InvA σ τ) : ∃ v σ1 τ1, f_FC_quarrel σ = some (v, σ1) ∧ f_M_quarrel τ = some (v, τ1) ∧ InvA σ1 τ1 := by
  obtain ⟨v, σ1, τ1, g1, g2, -, j⟩ := pm_quarrel h.1.1 h.2.2.2.2.2.2.2.2.1 h.1.2.2.2.2.2.2.2.2.1.1
  exact ⟨v, σ1, τ1, g1, g2, h.step j.2.2.1 j.2.2.2 j.1 (crol := Or.inl j.2.1)⟩
theorem an_beats {σ τ : CS} (h : InvA σ τ) : ∃ v σ1 τ1, f_FC_beats σ = some (v, σ1) ∧ f_M_beats τ = some (v, τ1) ∧ InvA σ1 τ1 := by
  obtain ⟨v, σ1, τ1, g1, g2, -, j⟩ := pm_beats h.1.1 h.1.2.2.2.2.2.2.2.1 h.2.2.2.2.2.1 h.2.2.2.2.2.2.2.2.2.1
  exact ⟨v, σ1, τ1, g1, g2, h.step j.2.2.1 j.2.2.2 j.1 (cbea := Or.inl j.2.1)⟩
theorem an_count {σ τ : CS} (h : InvA σ τ) (a0 : Int32) : ∃ v σ1 τ1, f_FC_count a0 σ = some (v, σ1) ∧ f_M_count a0 τ = some (v, τ1) ∧ InvA σ1 τ1 := by
  obtain ⟨v, g1, g2⟩ := ct_m h.1.1 h.1.2.2.2.2.2.2.2.2.2.1.symm h.1.2.2.2.2.2.2.2.2.2.2.2.symm h.1.2.1.1 h.1.2.2.1.1 h.1.2.2.2.1.1 h.1.2.2.2.2.2.1.1 h.1.2.2.2.2.2.2.2.1.1 h.1.2.2.2.2.2.2.1.1 h.1.2.2.2.2.2.2.2.2.1.1 h.2.2.2.2.2.2.1.1 h.2.2.2.2.2.1.1 h.2.2.2.1.1 h.2.2.2.2.1.1 h.2.2.1.1 a0
  exact ⟨v, _, _, g1, g2, h.thr 0⟩
