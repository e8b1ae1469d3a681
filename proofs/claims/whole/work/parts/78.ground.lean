/-! ===== layer 2: the ground's functions, as geometry ===== -/
def Bo (o : Option (Int32 × CS)) (σ : CS) (P : Prop) : Prop := (P ∧ o = some (1, σ)) ∨ (¬ P ∧ o = some (0, σ))
theorem Bo.iff {o : Option (Int32 × CS)} {σ : CS} {P Q : Prop} (h : Bo o σ P) (e : P ↔ Q) : Bo o σ Q := by
  rcases h with ⟨h1, h2⟩ | ⟨h1, h2⟩
  · exact Or.inl ⟨e.mp h1, h2⟩
  · exact Or.inr ⟨fun z => h1 (e.mpr z), h2⟩
theorem Bo.t {o : Option (Int32 × CS)} {σ : CS} {P : Prop} (h1 : P) (h2 : o = some (1, σ)) : Bo o σ P := Or.inl ⟨h1, h2⟩
theorem Bo.f {o : Option (Int32 × CS)} {σ : CS} {P : Prop} (h1 : ¬ P) (h2 : o = some (0, σ)) : Bo o σ P := Or.inr ⟨h1, h2⟩
def sg (z : Int) : Int32 := if z ≤ 0 then (if 0 ≤ z then 0 else -1) else 1
theorem sg_cases (z : Int) : (z < 0 ∧ sg z = -1) ∨ (z = 0 ∧ sg z = 0) ∨ (0 < z ∧ sg z = 1) := by
  unfold sg
  by_cases h : z ≤ 0
  · by_cases h2 : 0 ≤ z
    · rw [if_pos h, if_pos h2]; right; left; exact ⟨by omega, rfl⟩
    · rw [if_pos h, if_neg h2]; left; exact ⟨by omega, rfl⟩
  · rw [if_neg h]; right; right; exact ⟨by omega, rfl⟩
theorem sg_mul_pos (a b : Int) : 0 < sg a * sg b ↔ 0 < a * b := by
  rcases sg_cases a with ⟨h1, e1⟩ | ⟨h1, e1⟩ | ⟨h1, e1⟩ <;> rcases sg_cases b with ⟨h2, e2⟩ | ⟨h2, e2⟩ | ⟨h2, e2⟩ <;> rw [e1, e2]
  · exact ⟨fun _ => Int.mul_pos_of_neg_of_neg h1 h2, fun _ => by decide⟩
  · subst h2; exact ⟨fun z => absurd z (by decide), fun z => by omega⟩
  · exact ⟨fun z => absurd z (by decide), fun z => by have := Int.mul_neg_of_neg_of_pos h1 h2; omega⟩
  · subst h1; exact ⟨fun z => absurd z (by decide), fun z => by omega⟩
  · subst h1; exact ⟨fun z => absurd z (by decide), fun z => by omega⟩
  · subst h1; exact ⟨fun z => absurd z (by decide), fun z => by omega⟩
  · exact ⟨fun z => absurd z (by decide), fun z => by have := Int.mul_neg_of_pos_of_neg h1 h2; omega⟩
  · subst h2; exact ⟨fun z => absurd z (by decide), fun z => by omega⟩
  · exact ⟨fun _ => Int.mul_pos h1 h2, fun _ => by decide⟩
theorem sg_mul_nn (a b : Int) : 0 ≤ sg a * sg b ↔ 0 ≤ a * b := by
  rcases sg_cases a with ⟨h1, e1⟩ | ⟨h1, e1⟩ | ⟨h1, e1⟩ <;> rcases sg_cases b with ⟨h2, e2⟩ | ⟨h2, e2⟩ | ⟨h2, e2⟩ <;> rw [e1, e2]
  · exact ⟨fun _ => by have := Int.mul_pos_of_neg_of_neg h1 h2; omega, fun _ => by decide⟩
  · subst h2; exact ⟨fun z => by omega, fun z => by decide⟩
  · exact ⟨fun z => absurd z (by decide), fun z => by have := Int.mul_neg_of_neg_of_pos h1 h2; omega⟩
  · subst h1; exact ⟨fun z => by omega, fun z => by decide⟩
  · subst h1; exact ⟨fun z => by omega, fun z => by decide⟩
  · subst h1; exact ⟨fun z => by omega, fun z => by decide⟩
  · exact ⟨fun z => absurd z (by decide), fun z => by have := Int.mul_neg_of_pos_of_neg h1 h2; omega⟩
  · subst h2; exact ⟨fun z => by omega, fun z => by decide⟩
  · exact ⟨fun _ => by have := Int.mul_pos h1 h2; omega, fun _ => by decide⟩
theorem sg_eq0 (a : Int) : sg a = 0 ↔ a = 0 := by
  rcases sg_cases a with ⟨h1, e1⟩ | ⟨h1, e1⟩ | ⟨h1, e1⟩ <;> rw [e1]
  · exact ⟨fun z => absurd z (by decide), fun z => by omega⟩
  · exact ⟨fun _ => h1, fun _ => rfl⟩
  · exact ⟨fun z => absurd z (by decide), fun z => by omega⟩
theorem sg_pos (a : Int) : 0 < sg a ↔ 0 < a := by
  rcases sg_cases a with ⟨h1, e1⟩ | ⟨h1, e1⟩ | ⟨h1, e1⟩ <;> rw [e1]
  · exact ⟨fun z => absurd z (by decide), fun z => by omega⟩
  · exact ⟨fun z => absurd z (by decide), fun z => by omega⟩
  · exact ⟨fun _ => h1, fun _ => by decide⟩
theorem sg_nn (a : Int) : 0 ≤ sg a ↔ 0 ≤ a := by
  rcases sg_cases a with ⟨h1, e1⟩ | ⟨h1, e1⟩ | ⟨h1, e1⟩ <;> rw [e1]
  · exact ⟨fun z => absurd z (by decide), fun z => by omega⟩
  · exact ⟨fun z => by omega, fun z => by decide⟩
  · exact ⟨fun _ => by omega, fun _ => by decide⟩
theorem handC {a b c d : Int32} {A B C D : Int} (ha : B32 a A 2000) (hb : B32 b B 2000) (hc : B32 c C 2000) (hd : B32 d D 2000) (σ : CS) : f_Ground_handOf a b c d σ = some (sg (A * D - B * C), σ) := by
  have h := (ha.mul hd (by omega)).sub (hb.mul hc (by omega)) (by omega)
  unfold f_Ground_handOf sg
  by_cases q : A * D - B * C ≤ 0
  · rw [if_pos (h.le0.mpr q), if_pos q]
    by_cases r : 0 ≤ A * D - B * C
    · rw [if_pos (h.ge0.mpr r), if_pos r]
    · rw [if_neg (fun z => r (h.ge0.mp z)), if_neg r]
  · rw [if_neg (fun z => q (h.le0.mp z)), if_neg q]
theorem turnM {a b c d e f : Int32} {A B C D E F : Int} (ha : B32 a A 999) (hb : B32 b B 999) (hc : B32 c C 999) (hd : B32 d D 999) (he : B32 e E 999) (hf : B32 f F 999) (σ : CS) : f_M_turn a b c d e f σ = some (sg (area A B C D E F), σ) := by
  have h := ((hc.sub ha (by omega)).mul (hf.sub hb (by omega)) (by omega)).sub ((hd.sub hb (by omega)).mul (he.sub ha (by omega)) (by omega)) (by omega)
  unfold f_M_turn
  have e0 : (C - A) * (F - B) - (D - B) * (E - A) = area A B C D E F := rfl
  rw [e0] at h
  unfold sg
  by_cases q : 0 ≤ area A B C D E F
  · rw [if_pos (h.ge0.mpr q)]
    by_cases r : area A B C D E F ≤ 0
    · rw [if_pos (h.le0.mpr r), if_pos r, if_pos q]
    · rw [if_neg (fun z => r (h.le0.mp z)), if_neg r]
  · rw [if_neg (fun z => q (h.ge0.mp z)), if_pos (by omega), if_neg q]
/-- a mark's place -/
def mx (σ : CS) (a : Nat) : Int := (cel σ 1 a 1).toInt
def my (σ : CS) (a : Nat) : Int := (cel σ 1 a 2).toInt
/-- places of marks are small -/
def Mok (σ : CS) : Prop := ∀ a, a < rws σ 1 → B32 (cel σ 1 a 1) (mx σ a) 999 ∧ B32 (cel σ 1 a 2) (my σ a) 999
theorem Rg.b32 {x : Int32} {n : Nat} (h : Rg x n) (hn : n < 2147483648) : B32 x x.toInt n := by
  obtain ⟨a, h1, rfl⟩ := h
  refine ⟨rfl, ?_⟩
  rw [nI_toInt (by omega)]
  omega
theorem IMar.mok {σ τ : CS} (h : IMar σ τ) : Mok σ := fun a ha => ⟨(h.2.1 a ha).2.2.2.1.b32 (by omega), (h.2.1 a ha).2.2.2.2.b32 (by omega)⟩
theorem B32.w {x : Int32} {a : Int} {m n : Nat} (h : B32 x a m) (hn : m ≤ n) : B32 x a n := ⟨h.1, Nat.le_trans h.2 hn⟩
theorem turnC {σ : CS} (hW : WC σ) (hM : Mok σ) {a b c : Nat} (ha : a < rws σ 1) (hb : b < rws σ 1) (hc : c < rws σ 1) : f_Ground_turn (nI a) (nI b) (nI c) σ = some (sg (area (mx σ a) (my σ a) (mx σ b) (my σ b) (mx σ c) (my σ c)), σ) := by
  unfold f_Ground_turn
  rw [tb_gl hW 1 (by omega) a 1 ha (by decide), bnd_s, tb_gl hW 1 (by omega) a 2 ha (by decide), bnd_s, tb_gl hW 1 (by omega) b 1 hb (by decide), bnd_s, tb_gl hW 1 (by omega) b 2 hb (by decide), bnd_s, tb_gl hW 1 (by omega) c 1 hc (by decide), bnd_s, tb_gl hW 1 (by omega) c 2 hc (by decide), bnd_s]
  have h1 := hM a ha
  have h2 := hM b hb
  have h3 := hM c hc
  rw [handC ((h2.1.sub h1.1 (by omega)).w (by omega)) ((h2.2.sub h1.2 (by omega)).w (by omega)) ((h3.1.sub h1.1 (by omega)).w (by omega)) ((h3.2.sub h1.2 (by omega)).w (by omega)), bnd_s]
  rfl
def sam (σ : CS) (a b : Nat) : Prop := mx σ a = mx σ b ∧ my σ a = my σ b
theorem sameC {σ : CS} (hW : WC σ) (hM : Mok σ) {a b : Nat} (ha : a < rws σ 1) (hb : b < rws σ 1) : Bo (f_Ground_isSamePlace (nI a) (nI b) σ) σ (sam σ a b) := by
  have h1 := hM a ha
  have h2 := hM b hb
  unfold f_Ground_isSamePlace
  rw [tb_gl hW 1 (by omega) a 1 ha (by decide), bnd_s, tb_gl hW 1 (by omega) b 1 hb (by decide), bnd_s]
  by_cases q : cel σ 1 a 1 = cel σ 1 b 1
  · rw [if_pos q, tb_gl hW 1 (by omega) a 2 ha (by decide), bnd_s, tb_gl hW 1 (by omega) b 2 hb (by decide), bnd_s]
    by_cases r : cel σ 1 a 2 = cel σ 1 b 2
    · rw [if_pos r]
      exact Bo.t ⟨(h1.1.eq h2.1).mp q, (h1.2.eq h2.2).mp r⟩ rfl
    · rw [if_neg r]
      exact Bo.f (fun z => r ((h1.2.eq h2.2).mpr z.2)) rfl
  · rw [if_neg q]
    exact Bo.f (fun z => q ((h1.1.eq h2.1).mpr z.1)) rfl
def fol (σ : CS) (a b c : Nat) : Prop := 0 < (mx σ a - mx σ b) * (mx σ c - mx σ b) + (my σ a - my σ b) * (my σ c - my σ b) ∧ area (mx σ a) (my σ a) (mx σ b) (my σ b) (mx σ c) (my σ c) = 0
theorem foldC {σ : CS} (hW : WC σ) (hM : Mok σ) {a b c : Nat} (ha : a < rws σ 1) (hb : b < rws σ 1) (hc : c < rws σ 1) : Bo (f_Ground_foldsBack (nI a) (nI b) (nI c) σ) σ (fol σ a b c) := by
  have h1 := hM a ha
  have h2 := hM b hb
  have h3 := hM c hc
  unfold f_Ground_foldsBack
  rw [tb_gl hW 1 (by omega) b 1 hb (by decide), bnd_s, tb_gl hW 1 (by omega) b 2 hb (by decide), bnd_s, tb_gl hW 1 (by omega) a 1 ha (by decide), bnd_s, tb_gl hW 1 (by omega) c 1 hc (by decide), bnd_s, tb_gl hW 1 (by omega) a 2 ha (by decide), bnd_s, tb_gl hW 1 (by omega) c 2 hc (by decide), bnd_s, turnC hW hM ha hb hc, bnd_s]
  have h := ((h1.1.sub h2.1 (by omega)).mul (h3.1.sub h2.1 (by omega)) (by omega)).add ((h1.2.sub h2.2 (by omega)).mul (h3.2.sub h2.2 (by omega)) (by omega)) (by omega)
  by_cases q : (mx σ a - mx σ b) * (mx σ c - mx σ b) + (my σ a - my σ b) * (my σ c - my σ b) ≤ 0
  · rw [if_pos (h.le0.mpr q)]
    exact Bo.f (fun z => absurd z.1 (by omega)) rfl
  · rw [if_neg (fun z => q (h.le0.mp z))]
    by_cases r : sg (area (mx σ a) (my σ a) (mx σ b) (my σ b) (mx σ c) (my σ c)) = 0
    · rw [if_pos r]
      exact Bo.t ⟨by omega, (sg_eq0 _).mp r⟩ rfl
    · rw [if_neg r]
      exact Bo.f (fun z => r ((sg_eq0 _).mpr z.2)) rfl
theorem ovlC {a b c d : Int32} {A B C D : Int} {m : Nat} (ha : B32 a A m) (hb : B32 b B m) (hc : B32 c C m) (hd : B32 d D m) (σ : CS) : Bo (f_Ground_overlap a b c d σ) σ (ovl A B C D) := by
  have e1 : B32 (if a < b then b else a) (if A < B then B else A) m := by
    by_cases q : A < B
    · rw [if_pos q, if_pos ((ha.lt hb).mpr q)]; exact hb
    · rw [if_neg q, if_neg (fun z => q ((ha.lt hb).mp z))]; exact ha
  have e2 : B32 (if d < c then d else c) (if D < C then D else C) m := by
    by_cases q : D < C
    · rw [if_pos q, if_pos ((hd.lt hc).mpr q)]; exact hd
    · rw [if_neg q, if_neg (fun z => q ((hd.lt hc).mp z))]; exact hc
  have e3 : B32 (if c < d then d else c) (if C < D then D else C) m := by
    by_cases q : C < D
    · rw [if_pos q, if_pos ((hc.lt hd).mpr q)]; exact hd
    · rw [if_neg q, if_neg (fun z => q ((hc.lt hd).mp z))]; exact hc
  have e4 : B32 (if b < a then b else a) (if B < A then B else A) m := by
    by_cases q : B < A
    · rw [if_pos q, if_pos ((hb.lt ha).mpr q)]; exact hb
    · rw [if_neg q, if_neg (fun z => q ((hb.lt ha).mp z))]; exact ha
  unfold f_Ground_overlap
  by_cases q : (if A < B then B else A) < (if D < C then D else C)
  · rw [if_pos ((e1.lt e2).mpr q)]
    refine Bo.f (fun z => ?_) rfl
    unfold ovl at z
    apply z; left
    split at q <;> split at q <;> omega
  · rw [if_neg (fun z => q ((e1.lt e2).mp z))]
    by_cases r : (if C < D then D else C) < (if B < A then B else A)
    · rw [if_pos ((e3.lt e4).mpr r)]
      refine Bo.f (fun z => ?_) rfl
      unfold ovl at z
      apply z; right
      split at r <;> split at r <;> omega
    · rw [if_neg (fun z => r ((e3.lt e4).mp z))]
      refine Bo.t ?_ rfl
      unfold ovl
      split at q <;> split at q <;> split at r <;> split at r <;> omega
def tch (σ : CS) (a b c d : Nat) : Prop := ovl (mx σ a) (mx σ b) (mx σ c) (mx σ d) ∧ ovl (my σ a) (my σ b) (my σ c) (my σ d) ∧ area (mx σ a) (my σ a) (mx σ b) (my σ b) (mx σ c) (my σ c) * area (mx σ a) (my σ a) (mx σ b) (my σ b) (mx σ d) (my σ d) ≤ 0 ∧ area (mx σ c) (my σ c) (mx σ d) (my σ d) (mx σ a) (my σ a) * area (mx σ c) (my σ c) (mx σ d) (my σ d) (mx σ b) (my σ b) ≤ 0
theorem touchC {σ : CS} (hW : WC σ) (hM : Mok σ) {a b c d : Nat} (ha : a < rws σ 1) (hb : b < rws σ 1) (hc : c < rws σ 1) (hd : d < rws σ 1) : Bo (f_Ground_touch (nI a) (nI b) (nI c) (nI d) σ) σ (tch σ a b c d) := by
  have h1 := hM a ha
  have h2 := hM b hb
  have h3 := hM c hc
  have h4 := hM d hd
  unfold f_Ground_touch
  rw [tb_gl hW 1 (by omega) a 1 ha (by decide), bnd_s, tb_gl hW 1 (by omega) b 1 hb (by decide), bnd_s, tb_gl hW 1 (by omega) c 1 hc (by decide), bnd_s, tb_gl hW 1 (by omega) d 1 hd (by decide), bnd_s]
  rcases ovlC h1.1 h2.1 h3.1 h4.1 σ with ⟨o1, e1⟩ | ⟨o1, e1⟩
  · rw [e1, bnd_s, if_neg i10, tb_gl hW 1 (by omega) a 2 ha (by decide), bnd_s, tb_gl hW 1 (by omega) b 2 hb (by decide), bnd_s, tb_gl hW 1 (by omega) c 2 hc (by decide), bnd_s, tb_gl hW 1 (by omega) d 2 hd (by decide), bnd_s]
    rcases ovlC h1.2 h2.2 h3.2 h4.2 σ with ⟨o2, e2⟩ | ⟨o2, e2⟩
    · rw [e2, bnd_s, if_neg i10, turnC hW hM ha hb hc, bnd_s, turnC hW hM ha hb hd, bnd_s]
      by_cases p1 : 0 < area (mx σ a) (my σ a) (mx σ b) (my σ b) (mx σ c) (my σ c) * area (mx σ a) (my σ a) (mx σ b) (my σ b) (mx σ d) (my σ d)
      · rw [if_pos ((sg_mul_pos _ _).mpr p1)]
        exact Bo.f (fun z => absurd z.2.2.1 (by omega)) rfl
      · rw [if_neg (fun z => p1 ((sg_mul_pos _ _).mp z)), turnC hW hM hc hd ha, bnd_s, turnC hW hM hc hd hb, bnd_s]
        by_cases p2 : 0 < area (mx σ c) (my σ c) (mx σ d) (my σ d) (mx σ a) (my σ a) * area (mx σ c) (my σ c) (mx σ d) (my σ d) (mx σ b) (my σ b)
        · rw [if_pos ((sg_mul_pos _ _).mpr p2)]
          exact Bo.f (fun z => absurd z.2.2.2 (by omega)) rfl
        · rw [if_neg (fun z => p2 ((sg_mul_pos _ _).mp z))]
          exact Bo.t ⟨o1, o2, by omega, by omega⟩ rfl
    · rw [e2, bnd_s, if_pos rfl]
      exact Bo.f (fun z => o2 z.2.1) rfl
  · rw [e1, bnd_s, if_pos rfl]
    exact Bo.f (fun z => o1 z.1) rfl
/-! the reference's row of marks -/
def Pol (τ : CS) (x y : Nat → Int32) (X Y : Nat → Int) : Prop := ∀ k, k < 40 → f_M_x (nI k) τ = some (x k, τ) ∧ f_M_y (nI k) τ = some (y k, τ) ∧ B32 (x k) (X k) 999 ∧ B32 (y k) (Y k) 999
theorem btwM {v a b : Int32} {V A B : Int} {m : Nat} (hv : B32 v V m) (ha : B32 a A m) (hb : B32 b B m) (τ : CS) : Bo (f_M_isBetween v a b τ) τ (btw V A B) := by
  unfold f_M_isBetween
  by_cases q : B ≤ A
  · rw [if_pos ((hb.le ha).mpr q)]
    by_cases r : V < B
    · rw [if_pos ((hv.lt hb).mpr r)]
      exact Bo.f (fun z => by rw [btw_iff] at z; omega) rfl
    · rw [if_neg (fun z => r ((hv.lt hb).mp z))]
      by_cases s : A < V
      · rw [if_pos ((ha.lt hv).mpr s)]
        exact Bo.f (fun z => by rw [btw_iff] at z; omega) rfl
      · rw [if_neg (fun z => s ((ha.lt hv).mp z))]
        exact Bo.t (by rw [btw_iff]; omega) rfl
  · rw [if_neg (fun z => q ((hb.le ha).mp z))]
    by_cases r : V < A
    · rw [if_pos ((hv.lt ha).mpr r)]
      exact Bo.f (fun z => by rw [btw_iff] at z; omega) rfl
    · rw [if_neg (fun z => r ((hv.lt ha).mp z))]
      by_cases s : B < V
      · rw [if_pos ((hb.lt hv).mpr s)]
        exact Bo.f (fun z => by rw [btw_iff] at z; omega) rfl
      · rw [if_neg (fun z => s ((hb.lt hv).mp z))]
        exact Bo.t (by rw [btw_iff]; omega) rfl
theorem onM {τ : CS} {x y : Nat → Int32} {X Y : Nat → Int} (h : Pol τ x y X Y) {k : Nat} (hk : k + 1 < 40) {px py : Int32} {PX PY : Int} (hx : B32 px PX 999) (hy : B32 py PY 999) : Bo (f_M_isOn (nI k) px py τ) τ (onS (X k) (Y k) (X (k + 1)) (Y (k + 1)) PX PY) := by
  obtain ⟨a1, a2, a3, a4⟩ := h k (by omega)
  obtain ⟨b1, b2, b3, b4⟩ := h (k + 1) hk
  unfold f_M_isOn
  rw [nI_1, a1, bnd_s, a2, bnd_s, b1, bnd_s, b2, bnd_s, turnM a3 a4 b3 b4 hx hy, bnd_s]
  by_cases q : sg (area (X k) (Y k) (X (k + 1)) (Y (k + 1)) PX PY) = 0
  · rw [if_pos q, a1, bnd_s, b1, bnd_s]
    rcases btwM hx a3 b3 τ with ⟨p1, e1⟩ | ⟨p1, e1⟩
    · rw [e1, bnd_s, if_neg i10, a2, bnd_s, b2, bnd_s]
      rcases btwM hy a4 b4 τ with ⟨p2, e2⟩ | ⟨p2, e2⟩
      · rw [e2, bnd_s, if_neg i10]
        exact Bo.t ⟨(sg_eq0 _).mp q, p1, p2⟩ rfl
      · rw [e2, bnd_s, if_pos rfl]
        exact Bo.f (fun z => p2 z.2.2) rfl
    · rw [e1, bnd_s, if_pos rfl]
      exact Bo.f (fun z => p1 z.2.1) rfl
  · rw [if_neg q]
    exact Bo.f (fun z => q ((sg_eq0 _).mpr z.1)) rfl
def met (X Y : Nat → Int) (i j : Nat) : Prop := onS (X i) (Y i) (X (i + 1)) (Y (i + 1)) (X j) (Y j) ∨ onS (X i) (Y i) (X (i + 1)) (Y (i + 1)) (X (j + 1)) (Y (j + 1)) ∨ onS (X j) (Y j) (X (j + 1)) (Y (j + 1)) (X i) (Y i) ∨ onS (X j) (Y j) (X (j + 1)) (Y (j + 1)) (X (i + 1)) (Y (i + 1)) ∨
  (area (X i) (Y i) (X (i + 1)) (Y (i + 1)) (X j) (Y j) * area (X i) (Y i) (X (i + 1)) (Y (i + 1)) (X (j + 1)) (Y (j + 1)) < 0 ∧ area (X j) (Y j) (X (j + 1)) (Y (j + 1)) (X i) (Y i) * area (X j) (Y j) (X (j + 1)) (Y (j + 1)) (X (i + 1)) (Y (i + 1)) < 0)
theorem metM {τ : CS} {x y : Nat → Int32} {X Y : Nat → Int} (h : Pol τ x y X Y) {i j : Nat} (hi : i + 1 < 40) (hj : j + 1 < 40) : Bo (f_M_isMet (nI i) (nI j) τ) τ (met X Y i j) := by
  obtain ⟨a1, a2, a3, a4⟩ := h i (by omega)
  obtain ⟨b1, b2, b3, b4⟩ := h (i + 1) hi
  obtain ⟨c1, c2, c3, c4⟩ := h j (by omega)
  obtain ⟨d1, d2, d3, d4⟩ := h (j + 1) hj
  unfold f_M_isMet
  simp only [nI_1, c1, c2, bnd_s]
  rcases onM h hi c3 c4 with ⟨p1, e1⟩ | ⟨p1, e1⟩
  · rw [e1, bnd_s, if_neg i10]
    exact Bo.t (Or.inl p1) rfl
  simp only [e1, bnd_s, if_true, d1, d2]
  rcases onM h hi d3 d4 with ⟨p2, e2⟩ | ⟨p2, e2⟩
  · rw [e2, bnd_s, if_neg i10]
    exact Bo.t (Or.inr (Or.inl p2)) rfl
  simp only [e2, bnd_s, if_true, a1, a2]
  rcases onM h hj a3 a4 with ⟨p3, e3⟩ | ⟨p3, e3⟩
  · rw [e3, bnd_s, if_neg i10]
    exact Bo.t (Or.inr (Or.inr (Or.inl p3))) rfl
  simp only [e3, bnd_s, if_true, b1, b2]
  rcases onM h hj b3 b4 with ⟨p4, e4⟩ | ⟨p4, e4⟩
  · rw [e4, bnd_s, if_neg i10]
    exact Bo.t (Or.inr (Or.inr (Or.inr (Or.inl p4)))) rfl
  simp only [e4, bnd_s, if_true, a1, a2, b1, b2, c1, c2, d1, d2, turnM a3 a4 b3 b4 c3 c4, turnM a3 a4 b3 b4 d3 d4, turnM c3 c4 d3 d4 a3 a4, turnM c3 c4 d3 d4 b3 b4]
  by_cases q1 : 0 ≤ area (X i) (Y i) (X (i + 1)) (Y (i + 1)) (X j) (Y j) * area (X i) (Y i) (X (i + 1)) (Y (i + 1)) (X (j + 1)) (Y (j + 1))
  · rw [if_pos ((sg_mul_nn _ _).mpr q1)]
    refine Bo.f ?_ rfl
    rintro (z | z | z | z | z)
    · exact p1 z
    · exact p2 z
    · exact p3 z
    · exact p4 z
    · omega
  rw [if_neg (fun z => q1 ((sg_mul_nn _ _).mp z))]
  by_cases q2 : 0 ≤ area (X j) (Y j) (X (j + 1)) (Y (j + 1)) (X i) (Y i) * area (X j) (Y j) (X (j + 1)) (Y (j + 1)) (X (i + 1)) (Y (i + 1))
  · rw [if_pos ((sg_mul_nn _ _).mpr q2)]
    refine Bo.f ?_ rfl
    rintro (z | z | z | z | z)
    · exact p1 z
    · exact p2 z
    · exact p3 z
    · exact p4 z
    · omega
  rw [if_neg (fun z => q2 ((sg_mul_nn _ _).mp z))]
  exact Bo.t (Or.inr (Or.inr (Or.inr (Or.inr ⟨by omega, by omega⟩)))) rfl
