/-! ===== layer 2: what the functions do; the base ===== -/
theorem bnd_s {Y S X : Type} (y : Y) (s : S) (k : Y → S → Option X) : bnd (some (y, s)) k = k y s := by rw [bnd]
theorem grd_s {X : Type} {P : Prop} [Decidable P] {a : Option X} (h : P) : grd P a = a := if_pos h
theorem gix_s {X : Type} {i : Int32} {n : Nat} {a : Option X} (h : vp_in i n) : gix i n a = a := if_neg h
theorem gix_n {X : Type} {j n : Nat} {a : Option X} (h : j < n) (hn : n < 2147483648) : gix (nI j) n a = a := gix_s (nI_in h hn)
theorem lt_FU {d : Nat} (h : d < 1000000) : d < FU := h
theorem nI_z : (0 : Int32) = nI 0 := rfl
theorem nI_mul (a b : Nat) : nI a * nI b = nI (a * b) := (Int32.ofNat_mul a b).symm
theorem nI_sub {a b : Nat} (h : b ≤ a) : nI a - nI b = nI (a - b) := by
  have : nI a = nI (a - b) + nI b := by rw [nI_add, Nat.sub_add_cancel h]
  rw [this, Int32.add_sub_cancel]
theorem nI_p1 (a : Nat) : nI (a + 1) - 1 = nI a := nI_pred a
theorem nI_neg1 {a : Nat} (h : a < 2147483648) : ¬ nI a = -1 := by
  intro q
  have h1 := nI_toInt h
  rw [q, show ((-1 : Int32)).toInt = -1 from rfl] at h1
  omega
theorem nI_neg1' {a : Nat} (h : a < 2147483648) : ¬ -1 = nI a := fun q => nI_neg1 h q.symm
/-- an int within two numbers -/
theorem nI_rng {x lo hi : Int32} {n : Nat} (hhi : hi = nI n) (hn : n < 2147483648) (hlo : 0 ≤ lo.toInt) (h : ¬ x < lo) (h5 : ¬ hi < x) : ∃ j : Nat, j ≤ n ∧ x = nI j := by
  subst hhi
  rw [Int32.lt_iff_toInt_lt] at h h5
  rw [nI_toInt hn] at h5
  have hx := Int32.toInt_lt x
  refine ⟨x.toInt.toNat, by omega, Int32.toInt_inj.mp ?_⟩
  rw [nI_toInt (by omega)]
  omega
theorem rdn {j : Nat} (h : j < 2147483648) (σ : CS) (a : Nat) : rd σ a (nI j) = σ.2.1 a j := by
  show σ.2.1 a (nI j).toNatClampNeg = _
  rw [nI_clamp h]
theorem wrn {j : Nat} (h : j < 2147483648) (σ : CS) (a : Nat) (v : Int32) : wr σ a (nI j) v = sA σ a (upd (σ.2.1 a) j v) := by
  show sA σ a (upd (σ.2.1 a) (nI j).toNatClampNeg v) = _
  rw [nI_clamp h]
/-! tables of the class -/
def wid (t : Nat) : Nat := ([1, 3, 13, 7, 9, 1, 4, 5, 3, 6, 7, 13, 3, 3, 3, 5] : List Nat).getD t 0
def lim (t : Nat) : Nat := ([400, 40, 12, 10, 120, 4000, 40, 20, 1200, 6, 60, 40, 32, 8, 6, 100] : List Nat).getD t 0
def cap (t : Nat) : Nat := ([512, 64, 16, 16, 128, 4096, 64, 32, 2048, 8, 64, 64, 32, 8, 8, 128] : List Nat).getD t 0
def rws (σ : CS) (t : Nat) : Nat := (σ.1 (3 * t + 2)).toNatClampNeg
def cel (σ : CS) (t i c : Nat) : Int32 := σ.2.1 t (i * wid t + c)
theorem rws_1 {σ σ' : CS} (h : σ'.1 = σ.1) (u : Nat) : rws σ' u = rws σ u := by unfold rws; rw [h]
/-- the table t is whole: its width, its limit, its rows, the length of its cells -/
def Tok (σ : CS) (t : Nat) : Prop := σ.1 (3 * t) = nI (wid t) ∧ σ.1 (3 * t + 1) = nI (lim t) ∧ σ.1 (3 * t + 2) = nI (rws σ t) ∧ rws σ t ≤ lim t ∧ ∃ k : Nat, σ.2.2 t = wid t * 2 ^ (k + 2) ∧ 2 ^ (k + 2) ≤ cap t ∧ rws σ t ≤ 2 ^ (k + 2)
def WC (σ : CS) : Prop := ∀ t, t < 16 → Tok σ t
theorem all16 {P : Nat → Prop} [DecidablePred P] (h : (List.range 16).all (fun t => decide (P t)) = true) {t : Nat} (ht : t < 16) : P t := by
  have := List.all_eq_true.mp h t (List.mem_range.mpr ht)
  exact of_decide_eq_true this
theorem wid_b {t : Nat} (ht : t < 16) : 1 ≤ wid t ∧ wid t ≤ 13 ∧ lim t ≤ 4000 ∧ lim t ≤ cap t ∧ 1 ≤ lim t ∧ wid t * cap t ≤ 6144 :=
  all16 (P := fun t => 1 ≤ wid t ∧ wid t ≤ 13 ∧ lim t ≤ 4000 ∧ lim t ≤ cap t ∧ 1 ≤ lim t ∧ wid t * cap t ≤ 6144) (by decide +kernel) ht
theorem cap_p {t : Nat} (ht : t < 16) : ∃ K, cap t = 2 ^ K := by
  have h : cap t = 2 ^ (cap t).log2 := all16 (P := fun t => cap t = 2 ^ (cap t).log2) (by decide +kernel) ht
  exact ⟨_, h⟩
theorem WC.hlen {σ : CS} (h : WC σ) {t : Nat} (ht : t < 16) : σ.2.2 t ≤ wid t * cap t := by
  obtain ⟨-, -, -, -, k, h1, h2, -⟩ := h t ht
  rw [h1]
  exact Nat.mul_le_mul_left _ h2
theorem WC.hph {σ : CS} (h : WC σ) : ph σ.2.2 ≤ 14944 := by
  unfold ph
  have w : ∀ t, t < 16 → σ.2.2 t ≤ wid t * cap t := fun t ht => h.hlen ht
  have a0 := w 0 (by omega); have a1 := w 1 (by omega); have a2 := w 2 (by omega); have a3 := w 3 (by omega)
  have a4 := w 4 (by omega); have a5 := w 5 (by omega); have a6 := w 6 (by omega); have a7 := w 7 (by omega)
  have a8 := w 8 (by omega); have a9 := w 9 (by omega); have a10 := w 10 (by omega); have a11 := w 11 (by omega)
  have a12 := w 12 (by omega); have a13 := w 13 (by omega); have a14 := w 14 (by omega); have a15 := w 15 (by omega)
  simp only [wid, cap, List.getD_eq_getElem?_getD, List.getElem?_cons_zero, List.getElem?_cons_succ, Option.getD_some] at a0 a1 a2 a3 a4 a5 a6 a7 a8 a9 a10 a11 a12 a13 a14 a15
  omega
theorem WC.hrow {σ : CS} (h : WC σ) {t : Nat} (ht : t < 16) : σ.1 (3 * t + 2) = nI (rws σ t) := (h t ht).2.2.1
theorem WC.hlim {σ : CS} (h : WC σ) {t : Nat} (ht : t < 16) : rws σ t ≤ lim t := (h t ht).2.2.2.1
theorem WC.hr4 {σ : CS} (h : WC σ) {t : Nat} (ht : t < 16) : rws σ t ≤ 4000 := Nat.le_trans (h.hlim ht) (wid_b ht).2.2.1
/-- a place of the cells -/
theorem WC.hat {σ : CS} (h : WC σ) {t i c : Nat} (ht : t < 16) (hi : i < rws σ t) (hc : c < wid t) : i * wid t + c < σ.2.2 t ∧ σ.2.2 t ≤ 6144 := by
  obtain ⟨-, -, -, -, k, h1, h2, h3⟩ := h t ht
  have h5 := h.hlen ht
  have h6 := (wid_b ht).2.2.2.2.2
  refine ⟨?_, by omega⟩
  rw [h1]
  have h4 : (i + 1) * wid t ≤ 2 ^ (k + 2) * wid t := Nat.mul_le_mul_right _ (by omega)
  rw [Nat.mul_comm (wid t)]
  rw [Nat.succ_mul] at h4
  omega
theorem tb_size {σ : CS} (h : WC σ) (t : Nat) (ht : t < 16) : f_Table_size t σ = some (nI (rws σ t), σ) := by
  unfold f_Table_size
  rw [h.hrow ht]
theorem tb_has {σ : CS} (h : WC σ) (t : Nat) (ht : t < 16) (i : Nat) (hi : i < 2147483648) : f_Table_has t (nI i) σ = some (if i < rws σ t then 1 else 0, σ) := by
  have hr := h.hr4 ht
  unfold f_Table_has
  rw [h.hrow ht, if_neg (nI_pos hi)]
  by_cases q : i < rws σ t
  · rw [if_neg (nI_ge q (by omega)), if_pos q]
  · rw [if_pos (nI_le (by omega) hi), if_neg q]
theorem tb_has_neg {σ : CS} (t : Nat) {x : Int32} (hx : x < 0) : f_Table_has t x σ = some (0, σ) := by
  unfold f_Table_has
  rw [if_pos hx]
theorem tb_full {σ : CS} (h : WC σ) (t : Nat) (ht : t < 16) : f_Table_isFull t σ = some (if rws σ t < lim t then 0 else 1, σ) := by
  have hr := h.hr4 ht
  have hl := (wid_b ht).2.2.1
  unfold f_Table_isFull
  rw [h.hrow ht, (h t ht).2.1]
  by_cases q : rws σ t < lim t
  · rw [if_pos (nI_lt q (by omega)), if_pos q]
  · rw [if_neg (nI_nlt (by omega) (by omega)), if_neg q]
theorem at_nI {t i c : Nat} : nI i * nI (wid t) + nI c = nI (i * wid t + c) := by rw [nI_mul, nI_add]
theorem tb_get {σ : CS} (h : WC σ) (t : Nat) (ht : t < 16) (i c : Nat) (hi : i < rws σ t) (hc : c < wid t) {ci : Int32} (hci : ci = nI c) : f_Table_get t (nI i) ci σ = some (cel σ t i c, σ) := by
  subst hci
  have hr := h.hr4 ht
  have hw := wid_b ht
  obtain ⟨h1, h2⟩ := h.hat ht hi hc
  unfold f_Table_get
  rw [h.hrow ht, (h t ht).1, if_neg (nI_pos (by omega)), if_neg (nI_ge hi (by omega)), if_neg (nI_pos (by omega)), if_pos (nI_lt hc (by omega)), at_nI, if_neg (nI_ge h1 (by omega)), gix_n h1 (by omega)]
  show some (σ.2.1 t (nI (i * wid t + c)).toNatClampNeg, σ) = _
  rw [nI_clamp (by omega)]
  rfl
theorem tb_gl {σ : CS} (h : WC σ) (t : Nat) (ht : t < 16) (i c : Nat) (hi : i < rws σ t) (hc : c < wid t) : f_Table_get t (nI i) (OfNat.ofNat c) σ = some (cel σ t i c, σ) := tb_get h t ht i c hi hc rfl
theorem tb_get_out {σ : CS} (h : WC σ) (t : Nat) (ht : t < 16) {x y : Int32} (hx : x < 0 ∨ nI (rws σ t) ≤ x) : f_Table_get t x y σ = some (-1, σ) := by
  unfold f_Table_get
  rw [h.hrow ht]
  rcases hx with hx | hx
  · rw [if_pos hx]
  · rw [if_pos hx, ite_self]
/-- a cell anew -/
def pt (σ : CS) (t i c : Nat) (v : Int32) : CS := sA σ t (upd (σ.2.1 t) (i * wid t + c) v)
theorem tb_put {σ : CS} (h : WC σ) (t : Nat) (ht : t < 16) (i c : Nat) (hi : i < rws σ t) (hc : c < wid t) (v : Int32) {ci : Int32} (hci : ci = nI c) : f_Table_put t (nI i) ci v σ = some (0, pt σ t i c v) := by
  subst hci
  have hr := h.hr4 ht
  have hw := wid_b ht
  obtain ⟨h1, h2⟩ := h.hat ht hi hc
  unfold f_Table_put
  rw [h.hrow ht, (h t ht).1, if_neg (nI_pos (by omega)), if_neg (nI_ge hi (by omega)), if_neg (nI_pos (by omega)), if_pos (nI_lt hc (by omega)), at_nI, if_neg (nI_ge h1 (by omega)), gix_n h1 (by omega)]
  show some ((0 : Int32), sA σ t (upd (σ.2.1 t) (nI (i * wid t + c)).toNatClampNeg v)) = _
  rw [nI_clamp (by omega)]
  rfl
theorem tb_pl {σ : CS} (h : WC σ) (t : Nat) (ht : t < 16) (i c : Nat) (hi : i < rws σ t) (hc : c < wid t) (v : Int32) : f_Table_put t (nI i) (OfNat.ofNat c) v σ = some (0, pt σ t i c v) := tb_put h t ht i c hi hc v rfl
theorem tb_put_neg {σ : CS} (t : Nat) {x y v : Int32} (hx : x < 0) : f_Table_put t x y v σ = some (0, σ) := by
  unfold f_Table_put
  rw [if_pos hx]
theorem pt_W {σ : CS} (h : WC σ) (t i c : Nat) (v : Int32) : WC (pt σ t i c v) := h
theorem pt_1 (σ : CS) (t i c : Nat) (v : Int32) : (pt σ t i c v).1 = σ.1 := rfl
theorem pt_rws (σ : CS) (t i c : Nat) (v : Int32) (u : Nat) : rws (pt σ t i c v) u = rws σ u := rfl
theorem at_inj {w i c j d : Nat} (hc : c < w) (hd : d < w) (h : i * w + c = j * w + d) : i = j ∧ c = d := by
  have h1 : (i * w + c) / w = i := by rw [Nat.mul_comm, Nat.mul_add_div (by omega), Nat.div_eq_of_lt hc, Nat.add_zero]
  have h2 : (j * w + d) / w = j := by rw [Nat.mul_comm, Nat.mul_add_div (by omega), Nat.div_eq_of_lt hd, Nat.add_zero]
  have h3 : i = j := by rw [← h1, ← h2, h]
  subst h3
  exact ⟨rfl, by omega⟩
theorem pt_same (σ : CS) (t i c : Nat) (v : Int32) : cel (pt σ t i c v) t i c = v := by
  simp [cel, pt, va_up, upd]
theorem pt_cel (σ : CS) (t i c : Nat) (v : Int32) (j d : Nat) (hc : c < wid t) (hd : d < wid t) : cel (pt σ t i c v) t j d = if j = i ∧ d = c then v else cel σ t j d := by
  unfold cel pt
  simp only [va_up, if_true, upd]
  by_cases q : j * wid t + d = i * wid t + c
  · obtain ⟨a, b⟩ := at_inj hd hc q
    rw [if_pos q, if_pos ⟨a, b⟩]
  · rw [if_neg q, if_neg]
    rintro ⟨rfl, rfl⟩
    exact q rfl
theorem pt_other (σ : CS) (t i c : Nat) (v : Int32) (u j d : Nat) (hu : u ≠ t) : cel (pt σ t i c v) u j d = cel σ u j d := by
  unfold cel pt
  simp only [va_up, if_neg hu]
theorem pt_arr (σ : CS) (t i c : Nat) (v : Int32) (a : Nat) (h : a ≠ t) : (pt σ t i c v).2.1 a = σ.2.1 a := by
  unfold pt
  simp only [va_up, if_neg h]
/-- σ' is σ with one row more in table t, its cells being row -/
def App (σ : CS) (t : Nat) (row : Nat → Int32) (σ' : CS) : Prop :=
  WC σ' ∧ rws σ' t = rws σ t + 1 ∧ (∀ k, k ≠ 3 * t + 2 → σ'.1 k = σ.1 k) ∧ (∀ a, a ≠ t → σ'.2.1 a = σ.2.1 a ∧ σ'.2.2 a = σ.2.2 a) ∧ (∀ c, c < wid t → cel σ' t (rws σ t) c = row c) ∧ (∀ i c, i < rws σ t → c < wid t → cel σ' t i c = cel σ t i c)
theorem tb_putA {σ σ' : CS} {t : Nat} {row : Nat → Int32} (h : App σ t row σ') (ht : t < 16) (c : Nat) (hc : c < wid t) (v : Int32) {ci : Int32} (hci : ci = nI c) : f_Table_put t (nI (rws σ t)) ci v σ' = some (0, pt σ' t (rws σ t) c v) ∧ App σ t (upd row c v) (pt σ' t (rws σ t) c v) := by
  obtain ⟨h1, h2, h3, h4, h5, h6⟩ := h
  refine ⟨tb_put h1 t ht _ c (by omega) hc v hci, h1, h2, h3, fun a ha => ⟨?_, (h4 a ha).2⟩, fun d hd => ?_, fun i d hi hd => ?_⟩
  · rw [pt_arr _ _ _ _ _ _ ha]
    exact (h4 a ha).1
  · rw [pt_cel _ _ _ _ _ _ _ hc hd]
    unfold upd
    by_cases q : d = c
    · rw [if_pos ⟨rfl, q⟩, if_pos q]
    · rw [if_neg (fun z => q z.2), if_neg q]
      exact h5 d hd
  · rw [pt_cel _ _ _ _ _ _ _ hc hd, if_neg (by omega)]
    exact h6 i d hi hd
theorem add_loop {σ1 : CS} (t : Nat) (ht : t < 16) (hW : WC σ1) (r : Nat) (hr : rws σ1 t = r + 1) : ∀ (d j n : Nat) (σ : CS), j + d = wid t → d < n → σ.1 = σ1.1 → σ.2.2 = σ1.2.2 → (∀ a, a ≠ t → σ.2.1 a = σ1.2.1 a) → (∀ c, c < j → cel σ t r c = -1) → (∀ i c, i < r → c < wid t → cel σ t i c = cel σ1 t i c) →
    ∃ σ', L_Table_add_64 t n (nI j) σ = some (nI r, σ') ∧ σ'.1 = σ1.1 ∧ σ'.2.2 = σ1.2.2 ∧ (∀ a, a ≠ t → σ'.2.1 a = σ1.2.1 a) ∧ (∀ c, c < wid t → cel σ' t r c = -1) ∧ (∀ i c, i < r → c < wid t → cel σ' t i c = cel σ1 t i c) := by
  intro d
  have hw := wid_b ht
  induction d with
  | zero =>
    intro j n σ h1 h2 h3 h4 h5 h6 h7
    obtain ⟨n, rfl⟩ : ∃ m, n = m + 1 := ⟨n - 1, by omega⟩
    refine ⟨σ, ?_, h3, h4, h5, fun c hc => h6 c (by omega), h7⟩
    show (if σ.1 (3 * t) ≤ nI j then _ else _) = _
    rw [h3, (hW t ht).1, if_pos (nI_le (by omega) (by omega)), (hW t ht).2.2.1, hr, nI_p1]
  | succ d ih =>
    intro j n σ h1 h2 h3 h4 h5 h6 h7
    obtain ⟨n, rfl⟩ : ∃ m, n = m + 1 := ⟨n - 1, by omega⟩
    have hWs : WC σ := by
      intro u hu
      obtain ⟨a1, a2, a3, a4, k, a5, a6, a7⟩ := hW u hu
      have e : rws σ u = rws σ1 u := by unfold rws; rw [h3]
      exact ⟨by rw [h3]; exact a1, by rw [h3]; exact a2, by rw [h3, e]; exact a3, by rw [e]; exact a4, k, by rw [h4]; exact a5, a6, by rw [e]; exact a7⟩
    have er : rws σ t = r + 1 := by rw [← hr]; unfold rws; rw [h3]
    have hstep : L_Table_add_64 t (n + 1) (nI j) σ = L_Table_add_64 t n (nI (j + 1)) (pt σ t r j (-1)) := by
      show (if σ.1 (3 * t) ≤ nI j then _ else bnd (f_Table_put t ((σ.1 (3 * t + 2)) - 1) (nI j) (-1) σ) (fun _ σ81 => (L_Table_add_64 t n) (nI j + 1) σ81)) = _
      rw [h3, (hW t ht).1, if_neg (nI_ge (by omega) (by omega)), (hW t ht).2.2.1, hr, nI_p1, tb_put hWs t ht r j (by omega) (by omega) (-1) rfl, bnd_s, nI_1]
    rw [hstep]
    refine ih (j + 1) n _ (by omega) (by omega) h3 h4 (fun a ha => ?_) (fun c hc => ?_) (fun i c hi hc => ?_)
    · rw [pt_arr _ _ _ _ _ _ ha]
      exact h5 a ha
    · rw [pt_cel _ _ _ _ _ _ _ (by omega) (by omega)]
      by_cases q : c = j
      · rw [if_pos ⟨rfl, q⟩]
      · rw [if_neg (fun z => q z.2)]
        exact h6 c (by omega)
    · rw [pt_cel _ _ _ _ _ _ _ (by omega) hc, if_neg (by omega)]
      exact h7 i c hi hc
theorem tb_add_full {σ : CS} (h : WC σ) (t : Nat) (ht : t < 16) (hr : ¬ rws σ t < lim t) : f_Table_add t σ = some (-1, σ) := by
  unfold f_Table_add
  rw [tb_full h t ht, if_neg hr, bnd_s, if_neg (by decide)]
theorem add_tail {σ : CS} (t : Nat) (ht : t < 16) (r : Nat) (hW : WC (sF σ (3 * t + 2) (nI (r + 1)))) (hr : σ.1 (3 * t + 2) = nI r) (hr2 : r + 1 ≤ 4000) :
    ∃ σ', B_Table_add_52 t σ = some (nI r, σ') ∧ σ'.1 = va_up σ.1 (3 * t + 2) (nI (r + 1)) ∧ σ'.2.2 = σ.2.2 ∧ (∀ a, a ≠ t → σ'.2.1 a = σ.2.1 a) ∧ (∀ c, c < wid t → cel σ' t r c = -1) ∧ (∀ i c, i < r → c < wid t → cel σ' t i c = cel σ t i c) := by
  have hw := wid_b ht
  unfold B_Table_add_52
  rw [hr, nI_1]
  have e : rws (sF σ (3 * t + 2) (nI (r + 1))) t = r + 1 := by
    unfold rws
    show (va_up σ.1 (3 * t + 2) (nI (r + 1)) (3 * t + 2)).toNatClampNeg = _
    rw [va_up_self, nI_clamp (by omega)]
  obtain ⟨σ', h1, h2, h3, h4, h5, h6⟩ := add_loop t ht hW r e (wid t) 0 FU (sF σ (3 * t + 2) (nI (r + 1))) (by omega) (lt_FU (by omega)) rfl rfl (fun a _ => rfl) (fun c hc => absurd hc (by omega)) (fun i c _ _ => rfl)
  exact ⟨σ', h1, h2, h3, h4, h5, h6⟩
theorem sF_rws {σ : CS} {t r : Nat} (hr : r < 2147483648) : rws (sF σ (3 * t + 2) (nI r)) t = r := by
  unfold rws
  show (va_up σ.1 (3 * t + 2) (nI r) (3 * t + 2)).toNatClampNeg = _
  rw [va_up_self, nI_clamp hr]
theorem tb_add {σ : CS} (h : WC σ) (t : Nat) (ht : t < 16) (hr : rws σ t < lim t) : ∃ σ', f_Table_add t σ = some (nI (rws σ t), σ') ∧ App σ t (fun _ => -1) σ' := by
  have hw := wid_b ht
  have hph := h.hph
  have hlen := h.hlen ht
  obtain ⟨h1, h2, h3, h4, k, h5, h6, h7⟩ := h t ht
  have e1 : nI (rws σ t) + 1 = nI (rws σ t + 1) := nI_1 _
  have e2 : nI (rws σ t + 1) * nI (wid t) = nI ((rws σ t + 1) * wid t) := nI_mul _ _
  have hb : (rws σ t + 1) * wid t ≤ 52000 := by
    calc (rws σ t + 1) * wid t ≤ 4000 * 13 := Nat.mul_le_mul (by omega) (by omega)
      _ = 52000 := rfl
  unfold f_Table_add
  rw [tb_full h t ht, if_pos hr, bnd_s, if_pos rfl, h3, h1, e1, e2]
  by_cases q : (rws σ t + 1) * wid t ≤ σ.2.2 t
  · rw [if_pos (nI_le q (by omega))]
    have hk : rws σ t + 1 ≤ 2 ^ (k + 2) := by
      rw [h5, Nat.mul_comm (wid t)] at q
      exact Nat.le_of_mul_le_mul_right q (by omega)
    have hW : WC (sF σ (3 * t + 2) (nI (rws σ t + 1))) := by
      intro u hu
      obtain ⟨a1, a2, a3, a4, k', a5, a6, a7⟩ := h u hu
      by_cases qu : u = t
      · subst qu
        have e := sF_rws (σ := σ) (t := u) (r := rws σ u + 1) (by omega)
        refine ⟨?_, ?_, ?_, by rw [e]; omega, k, h5, h6, by rw [e]; exact hk⟩
        · show va_up σ.1 (3 * u + 2) _ (3 * u) = _
          rw [va_up_ne _ _ (by omega)]; exact a1
        · show va_up σ.1 (3 * u + 2) _ (3 * u + 1) = _
          rw [va_up_ne _ _ (by omega)]; exact a2
        · rw [e]
          show va_up σ.1 (3 * u + 2) _ (3 * u + 2) = _
          rw [va_up_self]
      · have e : rws (sF σ (3 * t + 2) (nI (rws σ t + 1))) u = rws σ u := by
          unfold rws
          show (va_up σ.1 (3 * t + 2) _ (3 * u + 2)).toNatClampNeg = _
          rw [va_up_ne _ _ (by omega)]
        refine ⟨?_, ?_, ?_, by rw [e]; exact a4, k', a5, a6, by rw [e]; exact a7⟩
        · show va_up σ.1 (3 * t + 2) _ (3 * u) = _
          rw [va_up_ne _ _ (by omega)]; exact a1
        · show va_up σ.1 (3 * t + 2) _ (3 * u + 1) = _
          rw [va_up_ne _ _ (by omega)]; exact a2
        · rw [e]
          show va_up σ.1 (3 * t + 2) _ (3 * u + 2) = _
          rw [va_up_ne _ _ (by omega)]; exact a3
    obtain ⟨σ', b1, b2, b3, b4, b5, b6⟩ := add_tail t ht (rws σ t) hW h3 (by omega)
    refine ⟨σ', b1, ?_, ?_, fun i hi => ?_, fun a ha => ⟨b4 a ha, by rw [b3]⟩, b5, b6⟩
    · intro u hu
      obtain ⟨a1, a2, a3, a4, k', a5, a6, a7⟩ := hW u hu
      have e : rws σ' u = rws (sF σ (3 * t + 2) (nI (rws σ t + 1))) u := rws_1 b2 u
      exact ⟨by rw [b2]; exact a1, by rw [b2]; exact a2, by rw [b2, e]; exact a3, by rw [e]; exact a4, k', by rw [b3]; exact a5, a6, by rw [e]; exact a7⟩
    · unfold rws
      rw [b2, va_up_self, nI_clamp (by unfold rws at *; omega)]
      rfl
    · rw [b2, va_up_ne _ _ hi]
  · rw [if_neg (nI_ge (by omega) (by omega))]
    have hk : rws σ t = 2 ^ (k + 2) := by
      rw [h5, Nat.mul_comm (wid t)] at q
      have : ¬ rws σ t + 1 ≤ 2 ^ (k + 2) := fun z => q (Nat.mul_le_mul_right _ z)
      omega
    have hk4 : 4 ≤ 2 ^ (k + 2) := by
      have : 2 ^ 2 ≤ 2 ^ (k + 2) := Nat.pow_le_pow_right (by omega) (by omega)
      omega
    have h8 : 2 ^ (k + 3) ≤ cap t := by
      obtain ⟨K, hK⟩ := cap_p ht
      rw [hK]
      have : k + 2 < K := (Nat.pow_lt_pow_iff_right (a := 2) (by omega)).mp (by rw [← hK]; omega)
      exact Nat.pow_le_pow_right (by omega) (by omega)
    have e3 : (2 : Int32) * nI (σ.2.2 t) = nI (2 * σ.2.2 t) := by rw [show (2 : Int32) = nI 2 from rfl, nI_mul]
    have h9 : (rws σ t + 1) * wid t < 2 * σ.2.2 t := by
      rw [hk, h5]
      have : 2 * (wid t * 2 ^ (k + 2)) = (2 * 2 ^ (k + 2)) * wid t := by rw [Nat.mul_comm (wid t), Nat.mul_assoc]
      rw [this]
      exact Nat.mul_lt_mul_of_pos_right (by omega) (by omega)
    have h10 : 2 * σ.2.2 t = wid t * 2 ^ (k + 3) := by rw [h5, Nat.pow_succ 2 (k + 2), Nat.mul_comm 2, Nat.mul_assoc]
    have h11 : 2 * σ.2.2 t ≤ 6144 := by
      rw [h10]
      exact Nat.le_trans (Nat.mul_le_mul_left _ h8) hw.2.2.2.2.2
    rw [e3, if_pos (nI_lt h9 (by omega))]
    have hpos : 0 < σ.2.2 t := by
      rw [h5]; exact Nat.mul_pos (by omega) (by omega)
    have hg : grw σ t (nI (2 * σ.2.2 t)) := by
      refine ⟨nI_pos (by omega), ?_, ?_, ?_⟩ <;> rw [nI_clamp (by omega)]
      · omega
      · omega
      · unfold BB; omega
    rw [grd_s hg]
    have eg : (gro σ t (nI (2 * σ.2.2 t))).1 = σ.1 := rfl
    have eg2 : (gro σ t (nI (2 * σ.2.2 t))).2.2 = va_up σ.2.2 t (2 * σ.2.2 t) := by unfold gro; rw [nI_clamp (by omega)]
    have eg3 : (gro σ t (nI (2 * σ.2.2 t))).2.1 = va_up σ.2.1 t (va_cpy (σ.2.1 t) (fun _ => 0) 0 0 (σ.2.2 t)) := rfl
    have hW : WC (sF (gro σ t (nI (2 * σ.2.2 t))) (3 * t + 2) (nI (rws σ t + 1))) := by
      intro u hu
      obtain ⟨a1, a2, a3, a4, k', a5, a6, a7⟩ := h u hu
      by_cases qu : u = t
      · subst qu
        have e : rws (sF (gro σ u (nI (2 * σ.2.2 u))) (3 * u + 2) (nI (rws σ u + 1))) u = rws σ u + 1 := sF_rws (by omega)
        refine ⟨?_, ?_, ?_, by rw [e]; omega, k + 1, ?_, h8, by rw [e, Nat.pow_succ]; omega⟩
        · show va_up σ.1 (3 * u + 2) _ (3 * u) = _
          rw [va_up_ne _ _ (by omega)]; exact a1
        · show va_up σ.1 (3 * u + 2) _ (3 * u + 1) = _
          rw [va_up_ne _ _ (by omega)]; exact a2
        · rw [e]
          show va_up σ.1 (3 * u + 2) _ (3 * u + 2) = _
          rw [va_up_self]
        · show (gro σ u (nI (2 * σ.2.2 u))).2.2 u = _
          rw [eg2, va_up_self, h10]
      · have e : rws (sF (gro σ t (nI (2 * σ.2.2 t))) (3 * t + 2) (nI (rws σ t + 1))) u = rws σ u := by
          unfold rws
          show (va_up σ.1 (3 * t + 2) _ (3 * u + 2)).toNatClampNeg = _
          rw [va_up_ne _ _ (by omega)]
        refine ⟨?_, ?_, ?_, by rw [e]; exact a4, k', ?_, a6, by rw [e]; exact a7⟩
        · show va_up σ.1 (3 * t + 2) _ (3 * u) = _
          rw [va_up_ne _ _ (by omega)]; exact a1
        · show va_up σ.1 (3 * t + 2) _ (3 * u + 1) = _
          rw [va_up_ne _ _ (by omega)]; exact a2
        · rw [e]
          show va_up σ.1 (3 * t + 2) _ (3 * u + 2) = _
          rw [va_up_ne _ _ (by omega)]; exact a3
        · show (gro σ t (nI (2 * σ.2.2 t))).2.2 u = _
          rw [eg2, va_up_ne _ _ qu]; exact a5
    obtain ⟨σ', b1, b2, b3, b4, b5, b6⟩ := add_tail t ht (rws σ t) hW h3 (by omega)
    refine ⟨σ', b1, ?_, ?_, fun i hi => ?_, fun a ha => ⟨?_, ?_⟩, b5, fun i c hi hc => ?_⟩
    · intro u hu
      obtain ⟨a1, a2, a3, a4, k', a5, a6, a7⟩ := hW u hu
      have e : rws σ' u = rws (sF (gro σ t (nI (2 * σ.2.2 t))) (3 * t + 2) (nI (rws σ t + 1))) u := rws_1 b2 u
      exact ⟨by rw [b2]; exact a1, by rw [b2]; exact a2, by rw [b2, e]; exact a3, by rw [e]; exact a4, k', by rw [b3]; exact a5, a6, by rw [e]; exact a7⟩
    · unfold rws
      rw [b2, va_up_self, nI_clamp (by unfold rws at *; omega)]
      rfl
    · rw [b2, va_up_ne _ _ hi, eg]
    · rw [b4 a ha, eg3, va_up_ne _ _ ha]
    · rw [b3, eg2, va_up_ne _ _ ha]
    · rw [b6 i c hi hc]
      unfold cel
      rw [eg3, va_up_self]
      unfold va_cpy
      have := (h.hat ht hi hc).1
      rw [if_pos ⟨by omega, by omega⟩, Nat.zero_add, Nat.sub_zero]
/-- what stays, class side: ints but those of I, arrays and lengths but those of A -/
def FrC (I A : List Nat) (σ σ' : CS) : Prop := (∀ k, k ∉ I → σ'.1 k = σ.1 k) ∧ (∀ a, a ∉ A → σ'.2.1 a = σ.2.1 a ∧ σ'.2.2 a = σ.2.2 a)
theorem FrC.refl (I A : List Nat) (σ : CS) : FrC I A σ σ := ⟨fun _ _ => rfl, fun _ _ => ⟨rfl, rfl⟩⟩
theorem FrC.trans {I A : List Nat} {σ1 σ2 σ3 : CS} (h1 : FrC I A σ1 σ2) (h2 : FrC I A σ2 σ3) : FrC I A σ1 σ3 :=
  ⟨fun k hk => (h2.1 k hk).trans (h1.1 k hk), fun a ha => ⟨((h2.2 a ha).1).trans (h1.2 a ha).1, ((h2.2 a ha).2).trans (h1.2 a ha).2⟩⟩
theorem FrC.mono {I A I' A' : List Nat} {σ σ' : CS} (h : FrC I A σ σ') (hI : ∀ k, k ∈ I → k ∈ I') (hA : ∀ k, k ∈ A → k ∈ A') : FrC I' A' σ σ' :=
  ⟨fun k hk => h.1 k (fun z => hk (hI k z)), fun a ha => h.2 a (fun z => ha (hA a z))⟩
theorem FrC.f1 {I A : List Nat} (σ : CS) {k : Nat} (v : Int32) (hk : k ∈ I) : FrC I A σ (sF σ k v) :=
  ⟨fun j hj => va_up_ne _ _ (fun z => hj (z ▸ hk)), fun _ _ => ⟨rfl, rfl⟩⟩
theorem FrC.f2 {I A : List Nat} (σ : CS) {a : Nat} (f : Nat → Int32) (ha : a ∈ A) : FrC I A σ (sA σ a f) :=
  ⟨fun _ _ => rfl, fun j hj => ⟨va_up_ne _ _ (fun z => hj (z ▸ ha)), rfl⟩⟩
theorem FrC.f3 {I A : List Nat} (σ : CS) {t : Nat} (i c : Nat) (v : Int32) (ha : t ∈ A) : FrC I A σ (pt σ t i c v) := FrC.f2 σ _ ha
theorem App.fr {σ σ' : CS} {t : Nat} {row : Nat → Int32} (h : App σ t row σ') : FrC [3 * t + 2] [t] σ σ' :=
  ⟨fun k hk => h.2.2.1 k (fun z => hk (by rw [z]; exact List.mem_singleton.mpr rfl)), fun a ha => h.2.2.2.1 a (fun z => ha (by rw [z]; exact List.mem_singleton.mpr rfl))⟩
theorem FrC.fc {I A : List Nat} {σ σ' : CS} (h : FrC I A σ σ') {t : Nat} (ht : t ∉ A) (i c : Nat) : cel σ' t i c = cel σ t i c := by
  unfold cel
  rw [(h.2 t ht).1]
theorem FrC.fr {I A : List Nat} {σ σ' : CS} (h : FrC I A σ σ') {t : Nat} (ht : 3 * t + 2 ∉ I) : rws σ' t = rws σ t := by
  unfold rws
  rw [h.1 _ ht]
/-- the reference's side -/
def FrM (I A : List Nat) (τ τ' : CS) : Prop := (∀ k, k ∉ I → τ'.1 k = τ.1 k) ∧ (∀ a, a ∉ A → τ'.2.1 a = τ.2.1 a)
theorem FrM.refl (I A : List Nat) (σ : CS) : FrM I A σ σ := ⟨fun _ _ => rfl, fun _ _ => rfl⟩
theorem FrM.trans {I A : List Nat} {σ1 σ2 σ3 : CS} (h1 : FrM I A σ1 σ2) (h2 : FrM I A σ2 σ3) : FrM I A σ1 σ3 :=
  ⟨fun k hk => (h2.1 k hk).trans (h1.1 k hk), fun a ha => (h2.2 a ha).trans (h1.2 a ha)⟩
theorem FrM.mono {I A I' A' : List Nat} {σ σ' : CS} (h : FrM I A σ σ') (hI : ∀ k, k ∈ I → k ∈ I') (hA : ∀ k, k ∈ A → k ∈ A') : FrM I' A' σ σ' :=
  ⟨fun k hk => h.1 k (fun z => hk (hI k z)), fun a ha => h.2 a (fun z => ha (hA a z))⟩
theorem FrM.f1 {I A : List Nat} (σ : CS) {k : Nat} (v : Int32) (hk : k ∈ I) : FrM I A σ (sF σ k v) :=
  ⟨fun j hj => va_up_ne _ _ (fun z => hj (z ▸ hk)), fun _ _ => rfl⟩
theorem FrM.f2 {I A : List Nat} (σ : CS) {a : Nat} (f : Nat → Int32) (ha : a ∈ A) : FrM I A σ (sA σ a f) :=
  ⟨fun _ _ => rfl, fun j hj => va_up_ne _ _ (fun z => hj (z ▸ ha))⟩
