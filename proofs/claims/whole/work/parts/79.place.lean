/-! ===== layer 2: what a place is ===== -/
theorem nI_div {a b : Nat} (ha : a < 2147483648) (hb : b < 2147483648) : nI a / nI b = nI (a / b) := by
  apply Int32.toInt_inj.mp
  have hd : a / b ≤ a := Nat.div_le_self a b
  rw [Int32.toInt_div, nI_toInt ha, nI_toInt hb, nI_toInt (by omega), Int.tdiv_eq_ediv_of_nonneg (by omega)]
  have e : (a : Int) / (b : Int) = ((a / b : Nat) : Int) := by simp
  rw [e]
  clear e
  generalize a / b = q at hd ⊢
  apply Int.bmod_eq_of_le <;> omega
theorem nI_rem {a b : Nat} (ha : a < 2147483648) (hb : b < 2147483648) : nI a - nI a / nI b * nI b = nI (a % b) := by
  rw [nI_div ha hb, nI_mul, nI_sub (Nat.div_mul_le_self a b)]
  congr 1
  have := Nat.div_add_mod a b
  rw [Nat.mul_comm] at this
  omega
def RowM (σ τ : CS) (n : Nat) (R : Nat → Nat) : Prop := τ.1 9 = nI n ∧ 1 ≤ n ∧ n ≤ 10 ∧ ∀ k, k < n → τ.2.1 8 k = nI (R k) ∧ R k < rws σ 1
abbrev Xr (σ : CS) (n : Nat) (R : Nat → Nat) (k : Nat) : Int := mx σ (R (k % n))
abbrev Yr (σ : CS) (n : Nat) (R : Nat → Nat) (k : Nat) : Int := my σ (R (k % n))
theorem RowM.pol {σ τ : CS} (hW : WC σ) (hM : IMar σ τ) {n : Nat} {R : Nat → Nat} (h : RowM σ τ n R) : Pol τ (fun k => cel σ 1 (R (k % n)) 1) (fun k => cel σ 1 (R (k % n)) 2) (Xr σ n R) (Yr σ n R) := by
  intro k hk
  obtain ⟨h1, h2, h3, h4⟩ := h
  have h40 : rws σ 1 ≤ 40 := hW.hlim (t := 1) (by omega)
  have hm : k % n < n := Nat.mod_lt _ (by omega)
  obtain ⟨r1, r2⟩ := h4 (k % n) hm
  obtain ⟨-, m2, m3, -, -⟩ := hM.2.1 _ r2
  have hb := hM.mok _ r2
  refine ⟨?_, ?_, hb.1, hb.2⟩
  · unfold f_M_x
    rw [h1, grd_s (nI_ne0 (by omega) (by omega)), nI_rem (by omega) (by omega), gix_n (by omega) (by omega), rdn (by omega), r1, gix_n (by omega) (by omega), rdn (by omega), m2]
  · unfold f_M_y
    rw [h1, grd_s (nI_ne0 (by omega) (by omega)), nI_rem (by omega) (by omega), gix_n (by omega) (by omega), rdn (by omega), r1, gix_n (by omega) (by omega), rdn (by omega), m3]
theorem cmp_pos (x y : Int64) : 0 < lg_cmp x y ↔ y < x := by
  unfold lg_cmp
  by_cases h : y < x
  · rw [if_pos h]; exact ⟨fun _ => h, fun _ => by decide⟩
  · rw [if_neg h]
    refine ⟨fun z => ?_, fun z => absurd z h⟩
    by_cases q : x = y
    · rw [if_pos q] at z; exact absurd z (by decide)
    · rw [if_neg q] at z; exact absurd z (by decide)
theorem cmp_neg (x y : Int64) : lg_cmp x y < 0 ↔ x < y := by
  unfold lg_cmp
  by_cases h : y < x
  · rw [if_pos h]
    exact ⟨fun z => absurd z (by decide), fun z => absurd (Int64.lt_trans z h) (Int64.lt_irrefl)⟩
  · rw [if_neg h]
    by_cases q : x = y
    · rw [if_pos q]
      exact ⟨fun z => absurd z (by decide), fun z => by rw [q] at z; exact absurd z Int64.lt_irrefl⟩
    · rw [if_neg q]
      exact ⟨fun _ => Int64.lt_of_le_of_ne (Int64.not_lt.mp h) q, fun _ => by decide⟩
def alo (ax ay bx by_ px py : Int) : Int := (px - ax) * (bx - ax) + (py - ay) * (by_ - ay)
def sde (ax ay bx by_ : Int) : Int := (bx - ax) * (bx - ax) + (by_ - ay) * (by_ - ay)
def offI (ax ay bx by_ px py : Int) : Int := (px - ax) * (by_ - ay) - (py - ay) * (bx - ax)
def nearI (ax ay bx by_ px py s : Int) : Prop :=
  (alo ax ay bx by_ px py ≤ 0 ∧ (px - ax) * (px - ax) + (py - ay) * (py - ay) ≤ s * s) ∨
  (0 < alo ax ay bx by_ px py ∧ sde ax ay bx by_ ≤ alo ax ay bx by_ px py ∧ (px - bx) * (px - bx) + (py - by_) * (py - by_) ≤ s * s) ∨
  (0 < alo ax ay bx by_ px py ∧ alo ax ay bx by_ px py < sde ax ay bx by_ ∧ offI ax ay bx by_ px py * offI ax ay bx by_ px py ≤ s * s * sde ax ay bx by_)
theorem B64.zero : B64 0 0 0 := ⟨rfl, by decide⟩
theorem B64.as {x : Int64} {a b : Int} {m : Nat} (h : B64 x a m) (e : a = b) : B64 x b m := e ▸ h
theorem near_br {o : Option (Int32 × CS)} {σ : CS} {P : Prop} {x y : Int64} {a b : Int} {m n : Nat} (hx : B64 x a m) (hy : B64 y b n) (ho : o = if 0 < lg_cmp x y then some (0, σ) else some (1, σ)) (hP : P ↔ a ≤ b) : Bo o σ P := by
  rw [ho]
  by_cases q : 0 < lg_cmp x y
  · rw [if_pos q]
    exact Bo.f (fun z => by have := hP.mp z; have := (hy.lt hx).mp ((cmp_pos _ _).mp q); omega) rfl
  · rw [if_neg q]
    refine Bo.t (hP.mpr ?_) rfl
    rcases Int.lt_or_le b a with z | z
    · exact absurd ((cmp_pos _ _).mpr ((hy.lt hx).mpr z)) q
    · exact z
theorem nearC {σ : CS} (hW : WC σ) (hM : Mok σ) (hS : Rg (σ.1 48) 100) {a b : Nat} (ha : a < rws σ 1) (hb : b < rws σ 1) {px py : Int32} {PX PY : Int} (hx : B32 px PX 999) (hy : B32 py PY 999) : Bo (f_Ground_isNear (nI a) (nI b) px py σ) σ (nearI (mx σ a) (my σ a) (mx σ b) (my σ b) PX PY (σ.1 48).toInt) := by
  have h1 := hM a ha
  have h2 := hM b hb
  have hs := (hS.b32 (by omega)).w (show 100 ≤ 100 by omega)
  have dx := B64.of (h2.1.sub h1.1 (by omega))
  have dy := B64.of (h2.2.sub h1.2 (by omega))
  have qx := B64.of (hx.sub h1.1 (by omega))
  have qy := B64.of (hy.sub h1.2 (by omega))
  have rc := (B64.of hs).mul (B64.of hs) (by omega)
  have al := (qx.mul dx (by omega)).add (qy.mul dy (by omega)) (by omega)
  have sd := (dx.mul dx (by omega)).add (dy.mul dy (by omega)) (by omega)
  have of := (qx.mul dy (by omega)).sub (qy.mul dx (by omega)) (by omega)
  have n1 := (qx.mul qx (by omega)).add (qy.mul qy (by omega)) (by omega)
  have ex := (qx.sub dx (by omega)).as (show PX - mx σ a - (mx σ b - mx σ a) = PX - mx σ b by omega)
  have ey := (qy.sub dy (by omega)).as (show PY - my σ a - (my σ b - my σ a) = PY - my σ b by omega)
  have n2 := (ex.mul ex (by omega)).add (ey.mul ey (by omega)) (by omega)
  have n3 := of.mul of (by omega)
  have n4 := rc.mul sd (by omega)
  unfold f_Ground_isNear
  rw [tb_gl hW 1 (by omega) b 1 hb (by decide), bnd_s, tb_gl hW 1 (by omega) a 1 ha (by decide), bnd_s, tb_gl hW 1 (by omega) b 2 hb (by decide), bnd_s, tb_gl hW 1 (by omega) a 2 ha (by decide), bnd_s, tb_gl hW 1 (by omega) a 1 ha (by decide), bnd_s, tb_gl hW 1 (by omega) a 2 ha (by decide), bnd_s]
  by_cases q : 0 < alo (mx σ a) (my σ a) (mx σ b) (my σ b) PX PY
  · rw [if_pos ((cmp_pos _ _).mpr ((B64.zero.lt al).mpr q))]
    by_cases r : alo (mx σ a) (my σ a) (mx σ b) (my σ b) PX PY < sde (mx σ a) (my σ a) (mx σ b) (my σ b)
    · rw [if_pos ((cmp_neg _ _).mpr ((al.lt sd).mpr r))]
      refine near_br n3 n4 rfl ?_
      unfold nearI
      constructor
      · rintro (z | z | z)
        · omega
        · omega
        · exact z.2.2
      · intro z; exact Or.inr (Or.inr ⟨q, r, z⟩)
    · rw [if_neg (fun z => r ((al.lt sd).mp ((cmp_neg _ _).mp z)))]
      refine near_br n2 rc rfl ?_
      unfold nearI
      constructor
      · rintro (z | z | z)
        · omega
        · exact z.2.2
        · omega
      · intro z; exact Or.inr (Or.inl ⟨q, by omega, z⟩)
  · rw [if_neg (fun z => q ((B64.zero.lt al).mp ((cmp_pos _ _).mp z)))]
    refine near_br n1 rc rfl ?_
    unfold nearI
    constructor
    · rintro (z | z | z)
      · exact z.2
      · omega
      · omega
    · intro z; exact Or.inl ⟨by omega, z⟩
/-- who is on a side is near it -/
theorem on_near {ax ay bx by_ px py : Int} (s : Int) (h : onS ax ay bx by_ px py) : nearI ax ay bx by_ px py s := by
  obtain ⟨h0, h1, h2⟩ := on_iff.mp h
  have ss := sq_nn s
  unfold nearI
  have ea : alo ax ay bx by_ px py = ((px - ax) * (px - ax) + (py - ay) * (py - ay)) + ((px - ax) * (bx - px) + (py - ay) * (by_ - py)) := by unfold alo; grind
  have es : sde ax ay bx by_ - alo ax ay bx by_ px py = ((px - bx) * (px - bx) + (py - by_) * (py - by_)) + ((px - ax) * (bx - px) + (py - ay) * (by_ - py)) := by unfold alo sde; grind
  by_cases q : 0 < alo ax ay bx by_ px py
  · by_cases r : alo ax ay bx by_ px py < sde ax ay bx by_
    · refine Or.inr (Or.inr ⟨q, r, ?_⟩)
      have eo : offI ax ay bx by_ px py = 0 := by unfold offI; grind
      rw [eo]
      have := Int.mul_nonneg ss (show 0 ≤ sde ax ay bx by_ by omega)
      omega
    · refine Or.inr (Or.inl ⟨q, by omega, ?_⟩)
      omega
  · exact Or.inl ⟨by omega, by omega⟩
theorem nearM {τ : CS} {x y : Nat → Int32} {X Y : Nat → Int} (h : Pol τ x y X Y) (hS : Rg (τ.1 11) 100) {k : Nat} (hk : k + 1 < 40) {px py : Int32} {PX PY : Int} (hx : B32 px PX 999) (hy : B32 py PY 999) : Bo (f_M_isNear (nI k) px py τ) τ (nearI (X k) (Y k) (X (k + 1)) (Y (k + 1)) PX PY (τ.1 11).toInt) := by
  obtain ⟨a1, a2, a3, a4⟩ := h k (by omega)
  obtain ⟨b1, b2, b3, b4⟩ := h (k + 1) hk
  have hs := (hS.b32 (by omega)).w (show 100 ≤ 100 by omega)
  have dx := B64.of (b3.sub a3 (by omega))
  have dy := B64.of (b4.sub a4 (by omega))
  have qx := B64.of (hx.sub a3 (by omega))
  have qy := B64.of (hy.sub a4 (by omega))
  have ex := B64.of (hx.sub b3 (by omega))
  have ey := B64.of (hy.sub b4 (by omega))
  have rc := (B64.of hs).mul (B64.of hs) (by omega)
  have al := (qx.mul dx (by omega)).add (qy.mul dy (by omega)) (by omega)
  have sd := (dx.mul dx (by omega)).add (dy.mul dy (by omega)) (by omega)
  have of := (dx.mul qy (by omega)).sub (dy.mul qx (by omega)) (by omega)
  have n1 := (qx.mul qx (by omega)).add (qy.mul qy (by omega)) (by omega)
  have n2 := (ex.mul ex (by omega)).add (ey.mul ey (by omega)) (by omega)
  have n3 := (of.mul of (by omega)).as (show _ = offI (X k) (Y k) (X (k + 1)) (Y (k + 1)) PX PY * offI (X k) (Y k) (X (k + 1)) (Y (k + 1)) PX PY by unfold offI; grind)
  have n4 := rc.mul sd (by omega)
  unfold f_M_isNear
  rcases onM h hk hx hy with ⟨p1, e1⟩ | ⟨p1, e1⟩
  · rw [e1, bnd_s, if_neg i10]
    exact Bo.t (on_near _ p1) rfl
  rw [e1, bnd_s, if_pos rfl, nI_1, b1, bnd_s, a1, bnd_s, b2, bnd_s, a2, bnd_s, a1, bnd_s, a2, bnd_s, b1, bnd_s, b2, bnd_s]
  by_cases q : 0 < alo (X k) (Y k) (X (k + 1)) (Y (k + 1)) PX PY
  · rw [if_pos ((cmp_pos _ _).mpr ((B64.zero.lt al).mpr q))]
    by_cases r : alo (X k) (Y k) (X (k + 1)) (Y (k + 1)) PX PY < sde (X k) (Y k) (X (k + 1)) (Y (k + 1))
    · rw [if_pos ((cmp_neg _ _).mpr ((al.lt sd).mpr r))]
      refine near_br n3 n4 rfl ?_
      unfold nearI
      constructor
      · rintro (z | z | z)
        · omega
        · omega
        · exact z.2.2
      · intro z; exact Or.inr (Or.inr ⟨q, r, z⟩)
    · rw [if_neg (fun z => r ((al.lt sd).mp ((cmp_neg _ _).mp z)))]
      refine near_br n2 rc rfl ?_
      unfold nearI
      constructor
      · rintro (z | z | z)
        · omega
        · exact z.2.2
        · omega
      · intro z; exact Or.inr (Or.inl ⟨q, by omega, z⟩)
  · rw [if_neg (fun z => q ((B64.zero.lt al).mp ((cmp_pos _ _).mp z)))]
    refine near_br n1 rc rfl ?_
    unfold nearI
    constructor
    · rintro (z | z | z)
      · exact z.2
      · omega
      · omega
    · intro z; exact Or.inl ⟨by omega, z⟩

def leftI (ax ay bx by_ px py : Int) : Prop := (ay ≤ py ∧ py < by_ ∧ 0 < area ax ay bx by_ px py) ∨ (py < ay ∧ by_ ≤ py ∧ area ax ay bx by_ px py < 0)
theorem leftC {σ : CS} (hW : WC σ) (hM : Mok σ) {a b : Nat} (ha : a < rws σ 1) (hb : b < rws σ 1) {px py : Int32} {PX PY : Int} (hx : B32 px PX 999) (hy : B32 py PY 999) : Bo (f_Ground_isLeftOf (nI a) (nI b) px py σ) σ (leftI (mx σ a) (my σ a) (mx σ b) (my σ b) PX PY) := by
  have h1 := hM a ha
  have h2 := hM b hb
  unfold f_Ground_isLeftOf B_Ground_isLeftOf_83
  rw [tb_gl hW 1 (by omega) a 1 ha (by decide), bnd_s, tb_gl hW 1 (by omega) a 2 ha (by decide), bnd_s, tb_gl hW 1 (by omega) b 2 hb (by decide), bnd_s, tb_gl hW 1 (by omega) b 1 hb (by decide), bnd_s]
  rw [handC ((h2.1.sub h1.1 (by omega)).w (by omega)) ((h2.2.sub h1.2 (by omega)).w (by omega)) ((hx.sub h1.1 (by omega)).w (by omega)) ((hy.sub h1.2 (by omega)).w (by omega)), bnd_s]
  rw [show (mx σ b - mx σ a) * (PY - my σ a) - (my σ b - my σ a) * (PX - mx σ a) = area (mx σ a) (my σ a) (mx σ b) (my σ b) PX PY from rfl]
  unfold leftI
  by_cases q1 : PY < my σ a
  · rw [if_pos ((hy.lt h1.2).mpr q1), if_neg (fun z => absurd ((h1.2.le hy).mp z) (by omega))]
    by_cases q2 : PY < my σ b
    · rw [if_pos ((hy.lt h2.2).mpr q2)]
      exact Bo.f (by omega) rfl
    · rw [if_neg (fun z => q2 ((hy.lt h2.2).mp z))]
      by_cases q3 : 0 ≤ area (mx σ a) (my σ a) (mx σ b) (my σ b) PX PY
      · rw [if_pos ((sg_nn _).mpr q3)]
        exact Bo.f (by omega) rfl
      · rw [if_neg (fun z => q3 ((sg_nn _).mp z))]
        exact Bo.t (by omega) rfl
  · rw [if_neg (fun z => q1 ((hy.lt h1.2).mp z)), if_pos ((h1.2.le hy).mpr (by omega))]
    by_cases q2 : my σ b ≤ PY
    · rw [if_pos ((h2.2.le hy).mpr q2)]
      exact Bo.f (by omega) rfl
    · rw [if_neg (fun z => q2 ((h2.2.le hy).mp z))]
      by_cases q3 : 0 < area (mx σ a) (my σ a) (mx σ b) (my σ b) PX PY
      · rw [if_pos ((sg_pos _).mpr q3)]
        exact Bo.t (by omega) rfl
      · rw [if_neg (fun z => q3 ((sg_pos _).mp z))]
        exact Bo.f (by omega) rfl
/-- the reference's step behind isNear -/
theorem leftM {τ : CS} {x y : Nat → Int32} {X Y : Nat → Int} (h : Pol τ x y X Y) {k : Nat} (hk : k + 1 < 40) {px py : Int32} {PX PY : Int} (hx : B32 px PX 999) (hy : B32 py PY 999) (K : Int32 → Int32 → CS → Option (Int32 × CS)) (s : Int32) :
    (leftI (X k) (Y k) (X (k + 1)) (Y (k + 1)) PX PY ∧ bnd (f_M_y (nI k) τ) (fun r94 σ94 => if py < r94 then B_M_placed_106 K px py s (nI k) 0 σ94 else B_M_placed_106 K px py s (nI k) 1 σ94) = (if s = 0 then K 1 (nI (k + 1)) τ else K 0 (nI (k + 1)) τ)) ∨
    (¬ leftI (X k) (Y k) (X (k + 1)) (Y (k + 1)) PX PY ∧ bnd (f_M_y (nI k) τ) (fun r94 σ94 => if py < r94 then B_M_placed_106 K px py s (nI k) 0 σ94 else B_M_placed_106 K px py s (nI k) 1 σ94) = K s (nI (k + 1)) τ) := by
  obtain ⟨a1, a2, a3, a4⟩ := h k (by omega)
  obtain ⟨b1, b2, b3, b4⟩ := h (k + 1) hk
  unfold leftI B_M_placed_106 B_M_placed_123 B_M_placed_187
  simp only [a1, a2, b1, b2, bnd_s, nI_1, turnM a3 a4 b3 b4 hx hy]
  by_cases q1 : PY < Y k
  · simp only [if_pos ((hy.lt a4).mpr q1)]
    by_cases q2 : PY < Y (k + 1)
    · rw [if_pos ((hy.lt b4).mpr q2), if_pos trivial]
      exact Or.inr ⟨by omega, rfl⟩
    · rw [if_neg (fun z => q2 ((hy.lt b4).mp z)), if_neg i01]
      by_cases q3 : 0 ≤ area (X k) (Y k) (X (k + 1)) (Y (k + 1)) PX PY
      · rw [if_pos ((sg_nn _).mpr q3)]
        exact Or.inr ⟨by omega, rfl⟩
      · rw [if_neg (fun z => q3 ((sg_nn _).mp z))]
        exact Or.inl ⟨by omega, rfl⟩
  · simp only [if_neg (fun z => q1 ((hy.lt a4).mp z))]
    by_cases q2 : PY < Y (k + 1)
    · rw [if_pos ((hy.lt b4).mpr q2), if_neg i10]
      by_cases q3 : 0 < area (X k) (Y k) (X (k + 1)) (Y (k + 1)) PX PY
      · rw [if_neg (fun z => absurd ((sg_pos _).mpr q3) (Int32.not_lt.mpr z))]
        exact Or.inl ⟨by omega, rfl⟩
      · rw [if_pos (Int32.not_lt.mp (fun z => q3 ((sg_pos _).mp z)))]
        exact Or.inr ⟨by omega, rfl⟩
    · rw [if_neg (fun z => q2 ((hy.lt b4).mp z)), if_pos trivial]
      exact Or.inr ⟨by omega, rfl⟩
/-- the reference fills its row from a ring -/
theorem fillM {σ : CS} (K : Int32 → CS → Option (Int32 × CS)) (px py : Int32) {r n : Nat} (hr : r < 12) (hn1 : 1 ≤ n) (hn : n ≤ 10) (R : Nat → Nat) : ∀ (d k m : Nat) (τ : CS), k + d = n → d < m → τ.1 9 = nI n → (∀ i, i < n → τ.2.1 12 (10 * r + i) = nI (R i) ∧ R i < rws σ 1) → (∀ i, i < k → τ.2.1 8 i = nI (R i)) →
    ∃ τ', L_M_placed_28 K px py (nI r) m (nI k) τ = L_M_placed_69 K px py FU 0 0 τ' ∧ FrM [9] [8] τ τ' ∧ RowM σ τ' n R := by
  intro d
  induction d with
  | zero =>
    intro k m τ h1 h2 h3 h4 h5
    obtain ⟨m, rfl⟩ : ∃ q, m = q + 1 := ⟨m - 1, by omega⟩
    refine ⟨τ, ?_, FrM.refl _ _ _, h3, hn1, hn, fun i hi => ⟨h5 i (by omega), (h4 i hi).2⟩⟩
    show (if τ.1 9 ≤ nI k then _ else _) = _
    rw [h3, if_pos (nI_le (by omega) (by omega))]
  | succ d ih =>
    intro k m τ h1 h2 h3 h4 h5
    obtain ⟨m, rfl⟩ : ∃ q, m = q + 1 := ⟨m - 1, by omega⟩
    have e : L_M_placed_28 K px py (nI r) (m + 1) (nI k) τ = L_M_placed_28 K px py (nI r) m (nI (k + 1)) (sA τ 8 (upd (τ.2.1 8) k (nI (R k)))) := by
      show (if τ.1 9 ≤ nI k then _ else _) = _
      rw [h3, if_neg (nI_ge (by omega) (by omega)), show (10 : Int32) = nI 10 from rfl, nI_mul, nI_add, gix_n (by omega) (by omega), gix_n (by omega) (by omega), rdn (by omega), wrn (by omega), (h4 k (by omega)).1, nI_1]
    obtain ⟨τ', g1, g2, g3⟩ := ih (k + 1) m (sA τ 8 (upd (τ.2.1 8) k (nI (R k)))) (by omega) (by omega) h3 (fun i hi => by
      simp only [va_up, reduceIte, Nat.reduceEqDiff]
      exact h4 i hi) (fun i hi => by
      simp only [va_up, reduceIte, upd]
      by_cases q : i = k
      · rw [if_pos q, q]
      · rw [if_neg q]
        exact h5 i (by omega))
    exact ⟨τ', e.trans g1, (FrM.f2 _ _ (by decide)).trans g2, g3⟩
theorem place_loop {σ τ : CS} (hW : WC σ) (hM : IMar σ τ) (hS : Rg (σ.1 48) 100) (hS2 : τ.1 11 = σ.1 48) {r n : Nat} {R : Nat → Nat} (hr : r < rws σ 2) (hn3 : 3 ≤ n) (hR : RowM σ τ n R) (hC : ∀ k, k < n → cel σ 2 r (3 + k) = nI (R k)) {px py : Int32} {PX PY : Int} (hx : B32 px PX 999) (hy : B32 py PY 999) :
    ∀ (d k m m' : Nat) (s : Int32), k + d = n → d < m → d < m' → (s = 0 ∨ s = 1) → ∃ v, L_Ground_placeOn_33 px py (nI r) (nI n) m s (nI k) σ = some (v, σ) ∧ L_M_placed_69 B_M_placed_205 px py m' s (nI k) τ = some (v, τ) ∧ (v = 0 ∨ v = 1 ∨ v = 2) := by
  have hPol := hR.pol hW hM
  have hMk := hM.mok
  obtain ⟨r1, r2, r3, r4⟩ := hR
  intro d
  induction d with
  | zero =>
    intro k m m' s h1 h2 h3 h4
    obtain ⟨m, rfl⟩ : ∃ q, m = q + 1 := ⟨m - 1, by omega⟩
    obtain ⟨m', rfl⟩ : ∃ q, m' = q + 1 := ⟨m' - 1, by omega⟩
    refine ⟨s, ?_, ?_, h4.imp id Or.inl⟩
    · show (if nI n ≤ nI k then _ else _) = _
      rw [if_pos (nI_le (by omega) (by omega))]
    · show (if τ.1 9 ≤ nI k then _ else _) = _
      rw [r1, if_pos (nI_le (by omega) (by omega))]
      unfold B_M_placed_205
      rcases h4 with rfl | rfl
      · rw [if_pos rfl]
      · rw [if_neg i10]
  | succ d ih =>
    intro k m m' s h1 h2 h3 h4
    obtain ⟨m, rfl⟩ : ∃ q, m = q + 1 := ⟨m - 1, by omega⟩
    obtain ⟨m', rfl⟩ : ∃ q, m' = q + 1 := ⟨m' - 1, by omega⟩
    have hk : k < n := by omega
    have hmod : k % n = k := Nat.mod_eq_of_lt hk
    have hb : R ((k + 1) % n) < rws σ 1 := (r4 _ (Nat.mod_lt _ (by omega))).2
    have ha : R k < rws σ 1 := (r4 k hk).2
    -- the class's step
    have eC : L_Ground_placeOn_33 px py (nI r) (nI n) (m + 1) s (nI k) σ = bnd (f_Ground_isNear (nI (R k)) (nI (R ((k + 1) % n))) px py σ) (fun r99 σ99 => if r99 = 0 then bnd (f_Ground_isLeftOf (nI (R k)) (nI (R ((k + 1) % n))) px py σ99) (fun r114 σ114 => if r114 = 0 then L_Ground_placeOn_33 px py (nI r) (nI n) m s (nI (k + 1)) σ114 else L_Ground_placeOn_33 px py (nI r) (nI n) m (1 - s) (nI (k + 1)) σ114) else some (2, σ99)) := by
      have e3 : ∀ j, j < n → f_Table_get 2 (nI r) (3 + nI j) σ = some (nI (R j), σ) := by
        intro j hj
        rw [tb_get hW 2 (by omega) r (3 + j) hr (by show 3 + j < 13; omega) (ci := 3 + nI j) (nI_add 3 j), hC j hj]
      show (if nI n ≤ nI k then _ else _) = _
      rw [if_neg (nI_ge (by omega) (by omega)), if_neg (fun z => absurd ((lit_le 10 (by omega) (by omega)).mp z) (by omega)), e3 k hk, bnd_s, nI_1]
      by_cases q : n ≤ k + 1
      · rw [if_pos (nI_le q (by omega))]
        unfold B_Ground_placeOn_86
        have : k + 1 = n := by omega
        rw [show f_Table_get 2 (nI r) (3 + 0) σ = some (nI (R 0), σ) from e3 0 (by omega), bnd_s, nI_1, this, Nat.mod_self]
      · rw [if_neg (nI_ge (by omega) (by omega))]
        unfold B_Ground_placeOn_86
        rw [e3 (k + 1) (by omega), bnd_s, nI_1, Nat.mod_eq_of_lt (show k + 1 < n by omega)]
    have eM : L_M_placed_69 B_M_placed_205 px py (m' + 1) s (nI k) τ = bnd (f_M_isNear (nI k) px py τ) (fun r83 σ83 => if r83 = 0 then bnd (f_M_y (nI k) σ83) (fun r94 σ94 => if py < r94 then B_M_placed_106 (L_M_placed_69 B_M_placed_205 px py m') px py s (nI k) 0 σ94 else B_M_placed_106 (L_M_placed_69 B_M_placed_205 px py m') px py s (nI k) 1 σ94) else some (2, σ83)) := by
      show (if τ.1 9 ≤ nI k then _ else _) = _
      rw [r1, if_neg (nI_ge (by omega) (by omega))]
    rw [eC, eM]
    have nC := nearC hW hMk hS ha hb hx hy
    have nM := nearM hPol (by rw [hS2]; exact hS) (show k + 1 < 40 by omega) hx hy
    rw [hS2] at nM
    have eX : Xr σ n R k = mx σ (R k) := by unfold Xr; rw [hmod]
    have eY : Yr σ n R k = my σ (R k) := by unfold Yr; rw [hmod]
    rw [eX, eY] at nM
    rcases nC with ⟨p, e1⟩ | ⟨p, e1⟩
    · rcases nM with ⟨p', e2⟩ | ⟨p', e2⟩
      · rw [e1, e2, bnd_s, bnd_s, if_neg i10, if_neg i10]
        exact ⟨2, rfl, rfl, Or.inr (Or.inr rfl)⟩
      · exact absurd p p'
    · rcases nM with ⟨p', e2⟩ | ⟨p', e2⟩
      · exact absurd p' p
      · rw [e1, e2, bnd_s, bnd_s, if_pos rfl, if_pos rfl]
        have lC := leftC hW hMk ha hb hx hy
        have lM := leftM hPol (show k + 1 < 40 by omega) hx hy (L_M_placed_69 B_M_placed_205 px py m') s
        rw [eX, eY] at lM
        rcases lC with ⟨l, e3⟩ | ⟨l, e3⟩
        · rcases lM with ⟨l', e4⟩ | ⟨l', e4⟩
          · rw [e3, bnd_s, if_neg i10, e4]
            rcases h4 with rfl | rfl
            · rw [if_pos rfl]
              exact ih (k + 1) m m' 1 (by omega) (by omega) (by omega) (Or.inr rfl)
            · rw [if_neg i10]
              exact ih (k + 1) m m' 0 (by omega) (by omega) (by omega) (Or.inl rfl)
          · exact absurd l l'
        · rcases lM with ⟨l', e4⟩ | ⟨l', e4⟩
          · exact absurd l' l
          · rw [e3, bnd_s, if_pos rfl, e4]
            exact ih (k + 1) m m' s (by omega) (by omega) (by omega) h4
theorem place_ag {σ τ : CS} (hW : WC σ) (hM : IMar σ τ) (hP : IRin σ τ) (day : Int32) {px py : Int32} {PX PY : Int} (hx : B32 px PX 999) (hy : B32 py PY 999) : ∃ v τ', f_Ground_placeOn day px py σ = some (v, σ) ∧ f_M_placed day px py τ = some (v, τ') ∧ FrM [9] [8] τ τ' ∧ (v = 0 ∨ v = 1 ∨ v = 2) := by
  have h12 : rws σ 2 ≤ 12 := hW.hlim (t := 2) (by omega)
  obtain ⟨b, e1, e2, e3⟩ := bounds_ag hW hP day
  unfold f_Ground_placeOn f_M_placed
  rw [e1, e2, bnd_s, bnd_s]
  rcases e3 with rfl | ⟨r, hr, rfl⟩
  · rw [if_pos rfl, if_neg (by decide)]
    exact ⟨0, τ, rfl, rfl, FrM.refl _ _ _, Or.inl rfl⟩
  · obtain ⟨a1, a2, a3, a4, a5, n, a6, a7, a8, a9⟩ := hP.2.2.2 r hr
    rw [if_neg (nI_neg1 (by omega)), if_pos (nI_pos' (by omega)), tb_gl hW 2 (by omega) r 2 hr (by decide), bnd_s, gix_n (by omega) (by omega), rdn (by omega), a3, a8]
    have hR : ∀ k, k < n → τ.2.1 12 (10 * r + k) = nI (cel σ 2 r (3 + k)).toNatClampNeg ∧ (cel σ 2 r (3 + k)).toNatClampNeg < rws σ 1 := by
      intro k hk
      obtain ⟨b1, h, b2, b3⟩ := a9 k hk
      have := hW.hr4 (t := 1) (by omega)
      rw [b1, b3, nI_clamp (by omega)]
      exact ⟨rfl, b2⟩
    obtain ⟨τ', f1, f2, f3⟩ := fillM (σ := σ) B_M_placed_205 px py (show r < 12 by omega) (show 1 ≤ n by omega) a7 (fun k => (cel σ 2 r (3 + k)).toNatClampNeg) n 0 FU (sF τ 9 (nI n)) (by omega) (lt_FU (by omega)) (va_up_self τ.1 9 (nI n)) hR (fun i hi => absurd hi (by omega))
    have fr : FrM [9] [8] τ τ' := (FrM.f1 _ _ (by decide)).trans f2
    have hM' : IMar σ τ' := hM.fr rfl rfl (fr.1 2 (by decide)) (fr.2 3 (by decide)) (fr.2 4 (by decide)) (fr.2 5 (by decide))
    obtain ⟨v, g1, g2, g3⟩ := place_loop hW hM' hP.2.2.1 (by rw [fr.1 11 (by decide)]; exact hP.2.1) hr a6 f3 (fun k hk => by
      obtain ⟨b1, h, b2, b3⟩ := a9 k hk
      have := hW.hr4 (t := 1) (by omega)
      rw [b3, nI_clamp (by omega)]) hx hy n 0 FU FU 0 (by omega) (lt_FU (by omega)) (lt_FU (by omega)) (Or.inl rfl)
    refine ⟨v, τ', g1, ?_, fr, g3⟩
    exact f1.trans g2
theorem Rg.b999 {x : Int32} (h : Rg x 999) : B32 x x.toInt 999 := h.b32 (by omega)
theorem badP_n {x y : Int32} (h : ¬ badP x y) : Rg x 999 ∧ Rg y 999 := ⟨Rg.of (fun z => h (Or.inl z)) (n := 999) rfl (by omega) (by decide), Rg.of (fun z => h (Or.inr z)) (n := 999) rfl (by omega) (by decide)⟩
theorem pm_where {σ τ : CS} (hW : WC σ) (hM : IMar σ τ) (hP : IRin σ τ) (a0 a1 a2 : Int32) : AgX (f_FC_where a0 a1 a2 σ) (f_M_where a0 a1 a2 τ) (fun c0 => c0 = 0 ∨ c0 = 1) (fun c0 => (if c0 = 0 then (0 : Int32) else 1)) (fun σ1 τ1 => σ1 = σ ∧ FrM [0, 9] [8] τ τ1) := by
  unfold f_FC_where f_M_where B_FC_where_19
  simp only [fc_isDay, fm_isDay, fc_isPlace, fm_isPlace, bnd_s]
  by_cases q0 : a0 < 0 ∨ 100000 < a0
  · simp only [if_pos q0, if_true, B_FC_where_20, B_M_where_26, fm_bad1, bnd_s, if_neg i10]
    exact AgX.mk 1 0 σ 0 _ rfl (Or.inr rfl) rfl rfl (fun z => absurd z (by decide)) ⟨rfl, (FrM.f1 _ _ (by decide)).trans (FrM.f1 _ _ (by decide))⟩
  simp only [if_neg q0, if_neg i10]
  by_cases q1 : badP a1 a2
  · simp only [if_pos q1, if_true, B_FC_where_20, B_M_where_26, fm_bad1, bnd_s, if_neg i10]
    exact AgX.mk 1 0 σ 0 _ rfl (Or.inr rfl) rfl rfl (fun z => absurd z (by decide)) ⟨rfl, (FrM.f1 _ _ (by decide)).trans (FrM.f1 _ _ (by decide))⟩
  obtain ⟨v, τ', e1, e2, e3, -⟩ := place_ag hW (IMar.thr τ 0 hM) (IRin.thr τ 0 hP) a0 (badP_n q1).1.b999 (badP_n q1).2.b999
  simp only [if_neg q1, if_neg i10, B_FC_where_20, B_M_where_26, fm_bad0, bnd_s, if_true, e1, e2]
  refine AgX.mk 0 _ σ _ _ rfl (Or.inl rfl) rfl ?_ (fun _ => rfl) ⟨rfl, (FrM.f1 _ _ (by decide)).trans (e3.mono (by decide) (by decide))⟩
  rw [e3.1 0 (by decide)]
  rfl
