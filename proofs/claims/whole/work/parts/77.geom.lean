/-! ===== layer 2: numbers by their bounds; plane geometry in whole numbers ===== -/
def B32 (x : Int32) (z : Int) (m : Nat) : Prop := x.toInt = z ∧ z.natAbs ≤ m
def B64 (x : Int64) (z : Int) (m : Nat) : Prop := x.toInt = z ∧ z.natAbs ≤ m
theorem B32.nat {a m : Nat} (h : a ≤ m) (hm : m < 2147483648) : B32 (nI a) a m := ⟨nI_toInt (by omega), by omega⟩
theorem nAbs_mul_le {a b : Int} {m n : Nat} (h1 : a.natAbs ≤ m) (h2 : b.natAbs ≤ n) : (a * b).natAbs ≤ m * n := by
  rw [Int.natAbs_mul]
  exact Nat.mul_le_mul h1 h2
theorem B32.add {x y : Int32} {a b : Int} {m n : Nat} (h1 : B32 x a m) (h2 : B32 y b n) (h : m + n < 2147483648) : B32 (x + y) (a + b) (m + n) := by
  refine ⟨?_, by have := h1.2; have := h2.2; omega⟩
  rw [Int32.toInt_add, h1.1, h2.1]
  apply Int.bmod_eq_of_le <;> (have := h1.2; have := h2.2; omega)
theorem B32.sub {x y : Int32} {a b : Int} {m n : Nat} (h1 : B32 x a m) (h2 : B32 y b n) (h : m + n < 2147483648) : B32 (x - y) (a - b) (m + n) := by
  refine ⟨?_, by have := h1.2; have := h2.2; omega⟩
  rw [Int32.toInt_sub, h1.1, h2.1]
  apply Int.bmod_eq_of_le <;> (have := h1.2; have := h2.2; omega)
theorem B32.mul {x y : Int32} {a b : Int} {m n : Nat} (h1 : B32 x a m) (h2 : B32 y b n) (h : m * n < 2147483648) : B32 (x * y) (a * b) (m * n) := by
  have h3 := nAbs_mul_le h1.2 h2.2
  refine ⟨?_, h3⟩
  rw [Int32.toInt_mul, h1.1, h2.1]
  apply Int.bmod_eq_of_le <;> omega
theorem B64.of {x : Int32} {a : Int} {m : Nat} (h1 : B32 x a m) : B64 x.toInt64 a m := ⟨by rw [Int32.toInt_toInt64, h1.1], h1.2⟩
theorem B64.add {x y : Int64} {a b : Int} {m n : Nat} (h1 : B64 x a m) (h2 : B64 y b n) (h : m + n < 9223372036854775808) : B64 (x + y) (a + b) (m + n) := by
  refine ⟨?_, by have := h1.2; have := h2.2; omega⟩
  rw [Int64.toInt_add, h1.1, h2.1]
  apply Int.bmod_eq_of_le <;> (have := h1.2; have := h2.2; omega)
theorem B64.sub {x y : Int64} {a b : Int} {m n : Nat} (h1 : B64 x a m) (h2 : B64 y b n) (h : m + n < 9223372036854775808) : B64 (x - y) (a - b) (m + n) := by
  refine ⟨?_, by have := h1.2; have := h2.2; omega⟩
  rw [Int64.toInt_sub, h1.1, h2.1]
  apply Int.bmod_eq_of_le <;> (have := h1.2; have := h2.2; omega)
theorem B64.mul {x y : Int64} {a b : Int} {m n : Nat} (h1 : B64 x a m) (h2 : B64 y b n) (h : m * n < 9223372036854775808) : B64 (x * y) (a * b) (m * n) := by
  have h3 := nAbs_mul_le h1.2 h2.2
  refine ⟨?_, h3⟩
  rw [Int64.toInt_mul, h1.1, h2.1]
  apply Int.bmod_eq_of_le <;> omega
theorem B32.le0 {x : Int32} {a : Int} {m : Nat} (h : B32 x a m) : x ≤ 0 ↔ a ≤ 0 := by rw [Int32.le_iff_toInt_le, h.1]; exact Iff.rfl
theorem B32.ge0 {x : Int32} {a : Int} {m : Nat} (h : B32 x a m) : 0 ≤ x ↔ 0 ≤ a := by rw [Int32.le_iff_toInt_le, h.1]; exact Iff.rfl
theorem B32.le {x y : Int32} {a b : Int} {m n : Nat} (h : B32 x a m) (h2 : B32 y b n) : x ≤ y ↔ a ≤ b := by rw [Int32.le_iff_toInt_le, h.1, h2.1]
theorem B32.lt {x y : Int32} {a b : Int} {m n : Nat} (h : B32 x a m) (h2 : B32 y b n) : x < y ↔ a < b := by rw [Int32.lt_iff_toInt_lt, h.1, h2.1]
theorem B32.eq {x y : Int32} {a b : Int} {m n : Nat} (h : B32 x a m) (h2 : B32 y b n) : x = y ↔ a = b := by rw [← Int32.toInt_inj, h.1, h2.1]
theorem B64.lt {x y : Int64} {a b : Int} {m n : Nat} (h : B64 x a m) (h2 : B64 y b n) : x < y ↔ a < b := by rw [Int64.lt_iff_toInt_lt, h.1, h2.1]
/-! products' signs -/
theorem sq_nn (x : Int) : 0 ≤ x * x := by
  rcases Int.le_total 0 x with h | h
  · exact Int.mul_nonneg h h
  · exact Int.mul_nonneg_of_nonpos_of_nonpos h h
theorem sq_ps {x : Int} (h : x ≠ 0) : 0 < x * x := by
  rcases Int.lt_or_gt_of_ne h with h | h
  · exact Int.mul_pos_of_neg_of_neg h h
  · exact Int.mul_pos h h
theorem nn_of {x k : Int} (hk : 0 < k) (h : 0 ≤ x * k) : 0 ≤ x := by
  rcases Int.lt_or_le x 0 with q | q
  · have := Int.mul_neg_of_neg_of_pos q hk
    omega
  · exact q
theorem nn_pp {x y : Int} (h : 0 ≤ x * y) : (0 ≤ x ∧ 0 ≤ y) ∨ (x ≤ 0 ∧ y ≤ 0) := by
  rcases Int.lt_or_le x 0 with q | q
  · right
    refine ⟨by omega, ?_⟩
    rcases Int.lt_or_le 0 y with r | r
    · have := Int.mul_neg_of_neg_of_pos q r
      omega
    · exact r
  · rcases Int.lt_or_le y 0 with r | r
    · rcases Int.lt_or_le 0 x with s | s
      · have := Int.mul_neg_of_pos_of_neg s r
        omega
      · exact Or.inr ⟨s, by omega⟩
    · exact Or.inl ⟨q, r⟩
theorem pp_nn {x y : Int} (h : (0 ≤ x ∧ 0 ≤ y) ∨ (x ≤ 0 ∧ y ≤ 0)) : 0 ≤ x * y := by
  rcases h with h | h
  · exact Int.mul_nonneg h.1 h.2
  · exact Int.mul_nonneg_of_nonpos_of_nonpos h.1 h.2
theorem eq0_of_sq {x y : Int} (h : x * x + y * y ≤ 0) : x = 0 ∧ y = 0 := by
  constructor
  · apply Classical.byContradiction
    intro q
    have := sq_ps q
    have := sq_nn y
    omega
  · apply Classical.byContradiction
    intro q
    have := sq_ps q
    have := sq_nn x
    omega
/-- on which hand c lies -/
def area (ax ay bx by_ cx cy : Int) : Int := (bx - ax) * (cy - ay) - (by_ - ay) * (cx - ax)
/-- between, as the products tell it -/
def btw (v a b : Int) : Prop := 0 ≤ (v - a) * (b - v)
theorem btw_iff {v a b : Int} : btw v a b ↔ (a ≤ v ∧ v ≤ b) ∨ (b ≤ v ∧ v ≤ a) := by
  constructor
  · intro h
    rcases nn_pp h with h | h
    · left; omega
    · right; omega
  · intro h
    apply pp_nn
    rcases h with h | h
    · left; omega
    · right; omega
def onS (ax ay bx by_ px py : Int) : Prop := area ax ay bx by_ px py = 0 ∧ btw px ax bx ∧ btw py ay by_
/-- p and q on one line, on one hand: (p x z) (q x z) is not negative -/
theorem cross_nn {px py qx qy zx zy : Int} (h0 : px * qy = py * qx) (h1 : 0 ≤ px * qx) (h2 : 0 ≤ py * qy) : 0 ≤ (px * zy - py * zx) * (qx * zy - qy * zx) := by
  have e : (px * zy - py * zx) * (qx * zy - qy * zx) = (px * qx) * (zy * zy) + (py * qy) * (zx * zx) - 2 * (px * qy) * (zx * zy) := by grind
  have g : (px * qy) * (px * qy) = (px * qx) * (py * qy) := by grind
  rcases Int.lt_or_le 0 (px * qx) with q | q
  · apply nn_of q
    have e2 : (px * zy - py * zx) * (qx * zy - qy * zx) * (px * qx) = (px * qx * zy - px * qy * zx) * (px * qx * zy - px * qy * zx) := by grind
    rw [e2]
    exact sq_nn _
  · have q0 : px * qx = 0 := by omega
    have g0 : px * qy = 0 := by
      rw [q0, Int.zero_mul] at g
      apply Classical.byContradiction
      intro z
      have := sq_ps z
      omega
    rw [e, q0, g0]
    have := Int.mul_nonneg h2 (sq_nn zx)
    omega
/-- p and q on the line of w, which z crosses: the hands of z tell p q's sign -/
theorem along_nn {px py qx qy zx zy : Int} (h0 : px * qy = py * qx) (hw : (px + qx) * zy - (py + qy) * zx ≠ 0) (h : 0 ≤ (px * zy - py * zx) * (qx * zy - qy * zx)) : 0 ≤ px * qx ∧ 0 ≤ py * qy := by
  have hk := sq_ps hw
  constructor
  · apply nn_of hk
    have e : px * qx * (((px + qx) * zy - (py + qy) * zx) * ((px + qx) * zy - (py + qy) * zx)) = ((px + qx) * (px + qx)) * ((px * zy - py * zx) * (qx * zy - qy * zx)) := by grind
    rw [e]
    exact Int.mul_nonneg (sq_nn _) h
  · apply nn_of hk
    have e : py * qy * (((px + qx) * zy - (py + qy) * zx) * ((px + qx) * zy - (py + qy) * zx)) = ((py + qy) * (py + qy)) * ((px * zy - py * zx) * (qx * zy - qy * zx)) := by grind
    rw [e]
    exact Int.mul_nonneg (sq_nn _) h
theorem on_iff {ax ay bx by_ px py : Int} : onS ax ay bx by_ px py ↔ ((px - ax) * (by_ - py) = (py - ay) * (bx - px) ∧ 0 ≤ (px - ax) * (bx - px) ∧ 0 ≤ (py - ay) * (by_ - py)) := by
  unfold onS btw area
  constructor
  · rintro ⟨h1, h2, h3⟩
    exact ⟨by grind, h2, h3⟩
  · rintro ⟨h1, h2, h3⟩
    exact ⟨by grind, h2, h3⟩
theorem fold_iff {ax ay bx by_ cx cy : Int} (h1 : ¬ (ax = bx ∧ ay = by_)) (h2 : ¬ (cx = bx ∧ cy = by_)) : (0 < (ax - bx) * (cx - bx) + (ay - by_) * (cy - by_) ∧ area ax ay bx by_ cx cy = 0) ↔ (onS ax ay bx by_ cx cy ∨ onS bx by_ cx cy ax ay) := by
  obtain ⟨ux, hux⟩ : ∃ u, u = ax - bx := ⟨_, rfl⟩
  obtain ⟨uy, huy⟩ : ∃ u, u = ay - by_ := ⟨_, rfl⟩
  obtain ⟨vx, hvx⟩ : ∃ u, u = cx - bx := ⟨_, rfl⟩
  obtain ⟨vy, hvy⟩ : ∃ u, u = cy - by_ := ⟨_, rfl⟩
  have hu : ¬ (ux = 0 ∧ uy = 0) := fun z => h1 (by omega)
  have hv : ¬ (vx = 0 ∧ vy = 0) := fun z => h2 (by omega)
  have hU : 0 < ux * ux + uy * uy := by
    rcases Int.lt_or_le 0 (ux * ux + uy * uy) with q | q
    · exact q
    · exact absurd (eq0_of_sq q) hu
  have hV : 0 < vx * vx + vy * vy := by
    rcases Int.lt_or_le 0 (vx * vx + vy * vy) with q | q
    · exact q
    · exact absurd (eq0_of_sq q) hv
  have ea : area ax ay bx by_ cx cy = 0 ↔ ux * vy = uy * vx := by
    unfold area
    rw [show bx - ax = - ux by omega, show by_ - ay = - uy by omega, show cy - ay = vy - uy by omega, show cx - ax = vx - ux by omega]
    constructor
    · intro h; grind
    · intro h; grind
  have e1 : onS ax ay bx by_ cx cy ↔ (ux * vy = uy * vx ∧ 0 ≤ (ux - vx) * vx ∧ 0 ≤ (uy - vy) * vy) := by
    rw [on_iff, show cx - ax = - (ux - vx) by omega, show cy - ay = -(uy - vy) by omega, show by_ - cy = -vy by omega, show bx - cx = - vx by omega]
    rw [show -(ux - vx) * -vx = (ux - vx) * vx by grind, show -(uy - vy) * -vy = (uy - vy) * vy by grind]
    constructor
    · rintro ⟨a, b, c⟩; exact ⟨by grind, b, c⟩
    · rintro ⟨a, b, c⟩; exact ⟨by grind, b, c⟩
  have e2 : onS bx by_ cx cy ax ay ↔ (ux * vy = uy * vx ∧ 0 ≤ ux * (vx - ux) ∧ 0 ≤ uy * (vy - uy)) := by
    rw [on_iff, ← hux, ← huy, show cx - ax = vx - ux by omega, show cy - ay = vy - uy by omega]
    constructor
    · rintro ⟨a, b, c⟩; exact ⟨by grind, b, c⟩
    · rintro ⟨a, b, c⟩; exact ⟨by grind, b, c⟩
  rw [ea, e1, e2, ← hux, ← huy, ← hvx, ← hvy]
  constructor
  · rintro ⟨hS, hx⟩
    have k1 : vx * (ux * ux + uy * uy) = ux * (ux * vx + uy * vy) := by grind
    have k2 : vy * (ux * ux + uy * uy) = uy * (ux * vx + uy * vy) := by grind
    rcases Int.le_total (ux * vx + uy * vy) (ux * ux + uy * uy) with q | q
    · left
      refine ⟨hx, ?_, ?_⟩
      · apply nn_of (Int.mul_pos hU hU)
        have e : (ux - vx) * vx * ((ux * ux + uy * uy) * (ux * ux + uy * uy)) = (ux * ux) * (((ux * ux + uy * uy) - (ux * vx + uy * vy)) * (ux * vx + uy * vy)) := by grind
        rw [e]
        exact Int.mul_nonneg (sq_nn _) (Int.mul_nonneg (by omega) (by omega))
      · apply nn_of (Int.mul_pos hU hU)
        have e : (uy - vy) * vy * ((ux * ux + uy * uy) * (ux * ux + uy * uy)) = (uy * uy) * (((ux * ux + uy * uy) - (ux * vx + uy * vy)) * (ux * vx + uy * vy)) := by grind
        rw [e]
        exact Int.mul_nonneg (sq_nn _) (Int.mul_nonneg (by omega) (by omega))
    · right
      refine ⟨hx, ?_, ?_⟩
      · apply nn_of hU
        have e : ux * (vx - ux) * (ux * ux + uy * uy) = (ux * ux) * ((ux * vx + uy * vy) - (ux * ux + uy * uy)) := by grind
        rw [e]
        exact Int.mul_nonneg (sq_nn _) (by omega)
      · apply nn_of hU
        have e : uy * (vy - uy) * (ux * ux + uy * uy) = (uy * uy) * ((ux * vx + uy * vy) - (ux * ux + uy * uy)) := by grind
        rw [e]
        exact Int.mul_nonneg (sq_nn _) (by omega)
  · rintro (⟨hx, p, q⟩ | ⟨hx, p, q⟩)
    · refine ⟨?_, hx⟩
      have e : ux * vx + uy * vy = (ux - vx) * vx + (uy - vy) * vy + (vx * vx + vy * vy) := by grind
      omega
    · refine ⟨?_, hx⟩
      have e : ux * vx + uy * vy = ux * (vx - ux) + uy * (vy - uy) + (ux * ux + uy * uy) := by grind
      omega
/-- c lies on the line of a and b, d doesn't; a and b on both hands of c d: c is between a and b -/
theorem on_of {ax ay bx by_ cx cy dx dy : Int} (ha : area ax ay bx by_ cx cy = 0) (hb : area ax ay bx by_ dx dy ≠ 0) (hc : area cx cy dx dy ax ay * area cx cy dx dy bx by_ ≤ 0) : onS ax ay bx by_ cx cy := by
  unfold area at ha hb hc
  have h0 : (cx - ax) * (by_ - cy) = (cy - ay) * (bx - cx) := by grind
  have hw : ((cx - ax) + (bx - cx)) * (dy - cy) - ((cy - ay) + (by_ - cy)) * (dx - cx) ≠ 0 := by
    intro z; apply hb; grind
  have hp : 0 ≤ ((cx - ax) * (dy - cy) - (cy - ay) * (dx - cx)) * ((bx - cx) * (dy - cy) - (by_ - cy) * (dx - cx)) := by
    have e : ((cx - ax) * (dy - cy) - (cy - ay) * (dx - cx)) * ((bx - cx) * (dy - cy) - (by_ - cy) * (dx - cx)) = -(((dx - cx) * (ay - cy) - (dy - cy) * (ax - cx)) * ((dx - cx) * (by_ - cy) - (dy - cy) * (bx - cx))) := by grind
    omega
  obtain ⟨r1, r2⟩ := along_nn h0 hw hp
  exact on_iff.mpr ⟨h0, r1, r2⟩
/-- .. and the other way: c between a and b has them on both hands -/
theorem on_cd {ax ay bx by_ cx cy dx dy : Int} (h : onS ax ay bx by_ cx cy) : area cx cy dx dy ax ay * area cx cy dx dy bx by_ ≤ 0 := by
  obtain ⟨h0, h1, h2⟩ := on_iff.mp h
  have := cross_nn (zx := dx - cx) (zy := dy - cy) h0 h1 h2
  have e : ((cx - ax) * (dy - cy) - (cy - ay) * (dx - cx)) * ((bx - cx) * (dy - cy) - (by_ - cy) * (dx - cx)) = -(area cx cy dx dy ax ay * area cx cy dx dy bx by_) := by
    unfold area; grind
  omega
def ovl (a b c d : Int) : Prop := ¬ ((a < c ∧ a < d ∧ b < c ∧ b < d) ∨ (c < a ∧ c < b ∧ d < a ∧ d < b))
theorem ovl_btw {a b c d : Int} (h : ovl a b c d) : btw c a b ∨ btw d a b ∨ btw a c d ∨ btw b c d := by
  unfold ovl at h
  rw [btw_iff, btw_iff, btw_iff, btw_iff]
  omega
theorem btw_ovl {a b c d : Int} (h : btw c a b) : ovl a b c d := by
  unfold ovl
  rw [btw_iff] at h
  omega
/-- on one line with a and b, and between in one coordinate, in which a and b differ: between in the other, too -/
theorem btw_other {ax ay bx by_ cx cy : Int} (h0 : area ax ay bx by_ cx cy = 0) (hx : ax ≠ bx) (h : btw cx ax bx) : btw cy ay by_ := by
  unfold area at h0
  unfold btw at h ⊢
  have hk : 0 < (bx - ax) * (bx - ax) := sq_ps (by omega)
  apply nn_of hk
  have e : (cy - ay) * (by_ - cy) * ((bx - ax) * (bx - ax)) = ((cx - ax) * (bx - cx)) * ((by_ - ay) * (by_ - ay)) := by
    have e1 : (cy - ay) * (bx - ax) = (cx - ax) * (by_ - ay) := by grind
    have e2 : (by_ - cy) * (bx - ax) = (bx - cx) * (by_ - ay) := by grind
    calc (cy - ay) * (by_ - cy) * ((bx - ax) * (bx - ax)) = ((cy - ay) * (bx - ax)) * ((by_ - cy) * (bx - ax)) := by grind
      _ = ((cx - ax) * (by_ - ay)) * ((bx - cx) * (by_ - ay)) := by rw [e1, e2]
      _ = _ := by grind
  rw [e]
  exact Int.mul_nonneg h (sq_nn _)
theorem area_sw (ax ay bx by_ cx cy : Int) : area ay ax by_ bx cy cx = - area ax ay bx by_ cx cy := by unfold area; grind
/-- all on one line, not all at one x -/
theorem col_x {ax ay bx by_ cx cy dx dy : Int} (hx : ax ≠ bx) (hz : cx ≠ dx) (ha : area ax ay bx by_ cx cy = 0) (hb : area ax ay bx by_ dx dy = 0) (hc : area cx cy dx dy ax ay = 0) (hd : area cx cy dx dy bx by_ = 0) (ho : ovl ax bx cx dx) : onS ax ay bx by_ cx cy ∨ onS ax ay bx by_ dx dy ∨ onS cx cy dx dy ax ay ∨ onS cx cy dx dy bx by_ := by
  rcases ovl_btw ho with h | h | h | h
  · exact Or.inl ⟨ha, h, btw_other ha hx h⟩
  · exact Or.inr (Or.inl ⟨hb, h, btw_other hb hx h⟩)
  · exact Or.inr (Or.inr (Or.inl ⟨hc, h, btw_other hc hz h⟩))
  · exact Or.inr (Or.inr (Or.inr ⟨hd, h, btw_other hd hz h⟩))
theorem on_sw {ax ay bx by_ px py : Int} (h : onS ay ax by_ bx py px) : onS ax ay bx by_ px py := by
  obtain ⟨h1, h2, h3⟩ := h
  rw [area_sw] at h1
  exact ⟨by omega, h3, h2⟩
theorem prod0 {x y : Int} (h : x * y = 0) : x = 0 ∨ y = 0 := Int.mul_eq_zero.mp h
theorem touch_iff {ax ay bx by_ cx cy dx dy : Int} (h1 : ¬ (ax = bx ∧ ay = by_)) (h2 : ¬ (cx = dx ∧ cy = dy)) :
    (ovl ax bx cx dx ∧ ovl ay by_ cy dy ∧ area ax ay bx by_ cx cy * area ax ay bx by_ dx dy ≤ 0 ∧ area cx cy dx dy ax ay * area cx cy dx dy bx by_ ≤ 0) ↔
    (onS ax ay bx by_ cx cy ∨ onS ax ay bx by_ dx dy ∨ onS cx cy dx dy ax ay ∨ onS cx cy dx dy bx by_ ∨ (area ax ay bx by_ cx cy * area ax ay bx by_ dx dy < 0 ∧ area cx cy dx dy ax ay * area cx cy dx dy bx by_ < 0)) := by
  have hid : area ax ay bx by_ dx dy - area ax ay bx by_ cx cy = area cx cy dx dy ax ay - area cx cy dx dy bx by_ := by unfold area; grind
  constructor
  · rintro ⟨o1, o2, p1, p2⟩
    by_cases qa : area ax ay bx by_ cx cy = 0
    · by_cases qb : area ax ay bx by_ dx dy = 0
      · -- all on one line
        have hcd : area cx cy dx dy ax ay = 0 ∧ area cx cy dx dy bx by_ = 0 := by
          unfold area at qa qb ⊢
          by_cases z : ax = bx
          · have zy : ay ≠ by_ := fun y => h1 ⟨z, y⟩
            have t1 : (by_ - ay) * (cx - ax) = 0 := by rw [z] at qa ⊢; grind
            have t2 : (by_ - ay) * (dx - ax) = 0 := by rw [z] at qb ⊢; grind
            have s1 : cx = ax := by rcases prod0 t1 with q | q <;> omega
            have s2 : dx = ax := by rcases prod0 t2 with q | q <;> omega
            subst s1 s2
            rw [← z]
            constructor <;> grind
          · have k : bx - ax ≠ 0 := by omega
            have t1 : (bx - ax) * ((dx - cx) * (ay - cy) - (dy - cy) * (ax - cx)) = 0 := by grind
            have t2 : (bx - ax) * ((dx - cx) * (by_ - cy) - (dy - cy) * (bx - cx)) = 0 := by grind
            constructor
            · rcases prod0 t1 with q | q
              · exact absurd q k
              · exact q
            · rcases prod0 t2 with q | q
              · exact absurd q k
              · exact q
        obtain ⟨qc, qd⟩ := hcd
        by_cases z : ax = bx
        · have zy : ay ≠ by_ := fun y => h1 ⟨z, y⟩
          have z2 : cx = dx := by
            have t : (by_ - ay) * (dx - cx) = 0 := by unfold area at qa qb; rw [z] at qa qb; grind
            rcases prod0 t with q | q <;> omega
          have zy2 : cy ≠ dy := fun y => h2 ⟨z2, y⟩
          have r := col_x (ax := ay) (ay := ax) (bx := by_) (by_ := bx) (cx := cy) (cy := cx) (dx := dy) (dy := dx) zy zy2 (by rw [area_sw]; omega) (by rw [area_sw]; omega) (by rw [area_sw]; omega) (by rw [area_sw]; omega) o2
          rcases r with r | r | r | r
          · exact Or.inl (on_sw r)
          · exact Or.inr (Or.inl (on_sw r))
          · exact Or.inr (Or.inr (Or.inl (on_sw r)))
          · exact Or.inr (Or.inr (Or.inr (Or.inl (on_sw r))))
        · have z2 : cx ≠ dx := by
            intro y
            have zy2 : cy ≠ dy := fun w => h2 ⟨y, w⟩
            have t : (bx - ax) * (dy - cy) = 0 := by unfold area at qa qb; rw [y] at qa; grind
            rcases prod0 t with q | q <;> omega
          rcases col_x z z2 qa qb qc qd o1 with r | r | r | r
          · exact Or.inl r
          · exact Or.inr (Or.inl r)
          · exact Or.inr (Or.inr (Or.inl r))
          · exact Or.inr (Or.inr (Or.inr (Or.inl r)))
      · exact Or.inl (on_of qa qb p2)
    · by_cases qb : area ax ay bx by_ dx dy = 0
      · right; left
        apply on_of (dx := cx) (dy := cy) qb qa
        have e : area dx dy cx cy ax ay * area dx dy cx cy bx by_ = area cx cy dx dy ax ay * area cx cy dx dy bx by_ := by unfold area; grind
        rw [e]; exact p2
      · by_cases qc : area cx cy dx dy ax ay = 0
        · by_cases qd : area cx cy dx dy bx by_ = 0
          · exfalso
            have e : area ax ay bx by_ dx dy = area ax ay bx by_ cx cy := by omega
            rw [e] at p1
            have := sq_ps qa
            omega
          · exact Or.inr (Or.inr (Or.inl (on_of qc qd p1)))
        · by_cases qd : area cx cy dx dy bx by_ = 0
          · right; right; right; left
            apply on_of (dx := ax) (dy := ay) qd qc
            have e : area bx by_ ax ay cx cy * area bx by_ ax ay dx dy = area ax ay bx by_ cx cy * area ax ay bx by_ dx dy := by unfold area; grind
            rw [e]; exact p1
          · right; right; right; right
            constructor
            · rcases Int.lt_or_eq_of_le p1 with q | q
              · exact q
              · rcases prod0 q with q | q <;> contradiction
            · rcases Int.lt_or_eq_of_le p2 with q | q
              · exact q
              · rcases prod0 q with q | q <;> contradiction
  · have sym : ∀ a b c d : Int, ovl a b c d → ovl c d a b := fun a b c d h => by unfold ovl at h ⊢; omega
    have sw : ∀ a b c d : Int, ovl a b d c → ovl a b c d := fun a b c d h => by unfold ovl at h ⊢; omega
    rintro (h | h | h | h | ⟨h, g⟩)
    · refine ⟨btw_ovl h.2.1, btw_ovl h.2.2, ?_, on_cd h⟩
      rw [h.1]; omega
    · refine ⟨sw _ _ _ _ (btw_ovl h.2.1), sw _ _ _ _ (btw_ovl h.2.2), ?_, ?_⟩
      · rw [h.1]; omega
      · have := on_cd (dx := cx) (dy := cy) h
        have e : area dx dy cx cy ax ay * area dx dy cx cy bx by_ = area cx cy dx dy ax ay * area cx cy dx dy bx by_ := by unfold area; grind
        omega
    · refine ⟨sym _ _ _ _ (btw_ovl h.2.1), sym _ _ _ _ (btw_ovl h.2.2), on_cd h, ?_⟩
      rw [h.1]; omega
    · refine ⟨sym _ _ _ _ (sw _ _ _ _ (btw_ovl h.2.1)), sym _ _ _ _ (sw _ _ _ _ (btw_ovl h.2.2)), ?_, ?_⟩
      · have := on_cd (dx := ax) (dy := ay) h
        have e : area bx by_ ax ay cx cy * area bx by_ ax ay dx dy = area ax ay bx by_ cx cy * area ax ay bx by_ dx dy := by unfold area; grind
        omega
      · rw [h.1]; omega
    · have key : ∀ (ax ay bx by_ cx cy dx dy : Int), area ax ay bx by_ cx cy * area ax ay bx by_ dx dy < 0 → area cx cy dx dy ax ay * area cx cy dx dy bx by_ < 0 → (area ax ay bx by_ dx dy - area ax ay bx by_ cx cy = area cx cy dx dy ax ay - area cx cy dx dy bx by_) → ovl ax bx cx dx := by
        intro ax ay bx by_ cx cy dx dy h g hid
        obtain ⟨a, ea⟩ : ∃ a, a = area ax ay bx by_ cx cy := ⟨_, rfl⟩
        obtain ⟨b, eb⟩ : ∃ a, a = area ax ay bx by_ dx dy := ⟨_, rfl⟩
        obtain ⟨c, ec⟩ : ∃ a, a = area cx cy dx dy ax ay := ⟨_, rfl⟩
        obtain ⟨d, ed⟩ : ∃ a, a = area cx cy dx dy bx by_ := ⟨_, rfl⟩
        have idx : a * dx - b * cx = d * ax - c * bx := by rw [ea, eb, ec, ed]; unfold area; grind
        rw [← ea, ← eb] at h
        rw [← ec, ← ed] at g
        rw [← ea, ← eb, ← ec, ← ed] at hid
        unfold ovl
        -- signs
        have sg : (0 < a ∧ b < 0 ∧ c < 0 ∧ 0 < d) ∨ (a < 0 ∧ 0 < b ∧ 0 < c ∧ d < 0) := by
          rcases Int.lt_or_le 0 a with q | q
          · left
            have hb : b < 0 := by
              rcases Int.lt_or_le b 0 with r | r
              · exact r
              · have := Int.mul_nonneg (show 0 ≤ a by omega) r; omega
            have hcd : c < d := by omega
            have hc : c < 0 := by
              rcases Int.lt_or_le c 0 with r | r
              · exact r
              · have := Int.mul_nonneg r (show 0 ≤ d by omega); omega
            have hd : 0 < d := by
              rcases Int.lt_or_le 0 d with r | r
              · exact r
              · have := Int.mul_nonneg_of_nonpos_of_nonpos (show c ≤ 0 by omega) r; omega
            exact ⟨q, hb, hc, hd⟩
          · right
            have ha : a < 0 := by
              rcases Int.lt_or_eq_of_le q with r | r
              · exact r
              · rw [r, Int.zero_mul] at h; omega
            have hb : 0 < b := by
              rcases Int.lt_or_le 0 b with r | r
              · exact r
              · have := Int.mul_nonneg_of_nonpos_of_nonpos q r; omega
            have hcd : d < c := by omega
            have hd : d < 0 := by
              rcases Int.lt_or_le d 0 with r | r
              · exact r
              · have := Int.mul_nonneg (show 0 ≤ c by omega) r; omega
            have hc : 0 < c := by
              rcases Int.lt_or_le 0 c with r | r
              · exact r
              · have := Int.mul_nonneg_of_nonpos_of_nonpos r (show d ≤ 0 by omega); omega
            exact ⟨ha, hb, hc, hd⟩
        -- a dx - b cx = d ax - c bx, written from the middle
        rintro (⟨z1, z2, z3, z4⟩ | ⟨z1, z2, z3, z4⟩)
        · rcases sg with ⟨s1, s2, s3, s4⟩ | ⟨s1, s2, s3, s4⟩
          · rcases Int.le_total ax bx with o | o
            · have m1 := Int.mul_pos s1 (show 0 < dx - bx by omega)
              have m2 := Int.mul_pos (show 0 < -b by omega) (show 0 < cx - bx by omega)
              have m3 := Int.mul_nonneg (show 0 ≤ d by omega) (show 0 ≤ bx - ax by omega)
              have : a * (dx - bx) + -b * (cx - bx) + d * (bx - ax) = 0 := by grind
              omega
            · have m1 := Int.mul_pos s1 (show 0 < dx - ax by omega)
              have m2 := Int.mul_pos (show 0 < -b by omega) (show 0 < cx - ax by omega)
              have m3 := Int.mul_nonneg (show 0 ≤ -c by omega) (show 0 ≤ ax - bx by omega)
              have : a * (dx - ax) + -b * (cx - ax) + -c * (ax - bx) = 0 := by grind
              omega
          · rcases Int.le_total ax bx with o | o
            · have m1 := Int.mul_pos (show 0 < -a by omega) (show 0 < dx - bx by omega)
              have m2 := Int.mul_pos (show 0 < b by omega) (show 0 < cx - bx by omega)
              have m3 := Int.mul_nonneg (show 0 ≤ -d by omega) (show 0 ≤ bx - ax by omega)
              have : -a * (dx - bx) + b * (cx - bx) + -d * (bx - ax) = 0 := by grind
              omega
            · have m1 := Int.mul_pos (show 0 < -a by omega) (show 0 < dx - ax by omega)
              have m2 := Int.mul_pos (show 0 < b by omega) (show 0 < cx - ax by omega)
              have m3 := Int.mul_nonneg (show 0 ≤ c by omega) (show 0 ≤ ax - bx by omega)
              have : -a * (dx - ax) + b * (cx - ax) + c * (ax - bx) = 0 := by grind
              omega
        · rcases sg with ⟨s1, s2, s3, s4⟩ | ⟨s1, s2, s3, s4⟩
          · rcases Int.le_total ax bx with o | o
            · have m1 := Int.mul_pos s1 (show 0 < ax - dx by omega)
              have m2 := Int.mul_pos (show 0 < -b by omega) (show 0 < ax - cx by omega)
              have m3 := Int.mul_nonneg (show 0 ≤ -c by omega) (show 0 ≤ bx - ax by omega)
              have : a * (ax - dx) + -b * (ax - cx) + -c * (bx - ax) = 0 := by grind
              omega
            · have m1 := Int.mul_pos s1 (show 0 < bx - dx by omega)
              have m2 := Int.mul_pos (show 0 < -b by omega) (show 0 < bx - cx by omega)
              have m3 := Int.mul_nonneg (show 0 ≤ d by omega) (show 0 ≤ ax - bx by omega)
              have : a * (bx - dx) + -b * (bx - cx) + d * (ax - bx) = 0 := by grind
              omega
          · rcases Int.le_total ax bx with o | o
            · have m1 := Int.mul_pos (show 0 < -a by omega) (show 0 < ax - dx by omega)
              have m2 := Int.mul_pos (show 0 < b by omega) (show 0 < ax - cx by omega)
              have m3 := Int.mul_nonneg (show 0 ≤ c by omega) (show 0 ≤ bx - ax by omega)
              have : -a * (ax - dx) + b * (ax - cx) + c * (bx - ax) = 0 := by grind
              omega
            · have m1 := Int.mul_pos (show 0 < -a by omega) (show 0 < bx - dx by omega)
              have m2 := Int.mul_pos (show 0 < b by omega) (show 0 < bx - cx by omega)
              have m3 := Int.mul_nonneg (show 0 ≤ -d by omega) (show 0 ≤ ax - bx by omega)
              have : -a * (bx - dx) + b * (bx - cx) + -d * (ax - bx) = 0 := by grind
              omega
      refine ⟨key _ _ _ _ _ _ _ _ h g hid, ?_, by omega, by omega⟩
      apply key ay ax by_ bx cy cx dy dx
      · rw [area_sw ax ay bx by_ cx cy, area_sw ax ay bx by_ dx dy, Int.neg_mul_neg]; exact h
      · rw [area_sw cx cy dx dy ax ay, area_sw cx cy dx dy bx by_, Int.neg_mul_neg]; exact g
      · rw [area_sw ax ay bx by_ cx cy, area_sw ax ay bx by_ dx dy, area_sw cx cy dx dy ax ay, area_sw cx cy dx dy bx by_]; omega
