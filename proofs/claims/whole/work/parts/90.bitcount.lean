/-! ===== layer 2: Long.bitCount counts bits ===== -/
theorem and_sp {P Q a c : Nat} (ha : a < 2 ^ 8) (hc : c < 2 ^ 8) : (2 ^ 8 * P + a) &&& (2 ^ 8 * Q + c) = 2 ^ 8 * (P &&& Q) + (a &&& c) := by
  have hac : a &&& c < 2 ^ 8 := Nat.lt_of_le_of_lt Nat.and_le_left ha
  apply Nat.eq_of_testBit_eq
  intro i
  rw [Nat.testBit_and, Nat.testBit_two_pow_mul_add P ha, Nat.testBit_two_pow_mul_add Q hc, Nat.testBit_two_pow_mul_add (P &&& Q) hac]
  by_cases h : i < 8
  · rw [if_pos h, if_pos h, if_pos h, Nat.testBit_and]
  · rw [if_neg h, if_neg h, if_neg h, Nat.testBit_and]
/-- a byte n times -/
def rep (c : Nat) : Nat → Nat
  | 0 => 0
  | n + 1 => 2 ^ 8 * rep c n + c
def s1 (X n : Nat) : Nat := X - ((X / 2) &&& rep 85 n)
def s2 (X n : Nat) : Nat := (X &&& rep 51 n) + ((X / 4) &&& rep 51 n)
def s3 (X n : Nat) : Nat := (X + X / 16) &&& rep 15 n
def b1 (b : Nat) : Nat := b - ((b / 2) &&& 85)
def b2 (b : Nat) : Nat := (b &&& 51) + ((b / 4) &&& 51)
def b3 (b : Nat) : Nat := (b + b / 16) &&& 15
theorem fin1 : ∀ b : Fin 256, ∀ y : Fin 2, ((b.1 / 2 + 128 * y.1) &&& 85) = ((b.1 / 2) &&& 85) := by decide +kernel
theorem fin2 : ∀ b : Fin 256, ∀ y : Fin 4, ((b.1 / 4 + 64 * y.1) &&& 51) = ((b.1 / 4) &&& 51) := by decide +kernel
theorem fin3 : ∀ b : Fin 256, b1 b.1 < 256 ∧ b2 (b1 b.1) < 256 ∧ b2 (b1 b.1) % 16 ≤ 4 ∧ b2 (b1 b.1) / 16 ≤ 4 ∧ b3 (b2 (b1 b.1)) = cnt (fun i => b.1.testBit i) 8 := by decide +kernel
theorem fin4 : ∀ x : Fin 5, ∀ y : Fin 5, ∀ z : Fin 5, ((16 * x.1 + y.1 + x.1 + 16 * z.1) &&& 15) = ((16 * x.1 + y.1 + x.1) &&& 15) := by decide +kernel
theorem s1_step {Y b n : Nat} (hb : b < 256) : s1 (2 ^ 8 * Y + b) (n + 1) = 2 ^ 8 * s1 Y n + b1 b := by
  unfold s1 b1
  have e : (2 ^ 8 * Y + b) / 2 = 2 ^ 8 * (Y / 2) + (b / 2 + 128 * (Y % 2)) := by omega
  show (2 ^ 8 * Y + b) - ((2 ^ 8 * Y + b) / 2 &&& (2 ^ 8 * rep 85 n + 85)) = _
  have f : ((b / 2 + 128 * (Y % 2)) &&& 85) = ((b / 2) &&& 85) := fin1 ⟨b, hb⟩ ⟨Y % 2, by omega⟩
  rw [e, and_sp (by omega) (by decide), f]
  have h1 : (Y / 2) &&& rep 85 n ≤ Y / 2 := Nat.and_le_left
  have h2 : (b / 2) &&& 85 ≤ b / 2 := Nat.and_le_left
  omega
theorem s2_step {Y b n : Nat} (hb : b < 256) : s2 (2 ^ 8 * Y + b) (n + 1) = 2 ^ 8 * s2 Y n + b2 b := by
  unfold s2 b2
  have e : (2 ^ 8 * Y + b) / 4 = 2 ^ 8 * (Y / 4) + (b / 4 + 64 * (Y % 4)) := by omega
  show ((2 ^ 8 * Y + b) &&& (2 ^ 8 * rep 51 n + 51)) + ((2 ^ 8 * Y + b) / 4 &&& (2 ^ 8 * rep 51 n + 51)) = _
  have f : ((b / 4 + 64 * (Y % 4)) &&& 51) = ((b / 4) &&& 51) := fin2 ⟨b, hb⟩ ⟨Y % 4, by omega⟩
  rw [e, and_sp (by omega) (by decide), and_sp (by omega) (by decide), f]
  omega
/-- the third step, where both nibbles are small -/
theorem s3_step {Y b n : Nat} (hb1 : b % 16 ≤ 4) (hb2 : b / 16 ≤ 4) (hY : Y % 16 ≤ 4) : s3 (2 ^ 8 * Y + b) (n + 1) = 2 ^ 8 * s3 Y n + b3 b := by
  unfold s3 b3
  have hb : b < 256 := by omega
  have e : (2 ^ 8 * Y + b) + (2 ^ 8 * Y + b) / 16 = 2 ^ 8 * (Y + Y / 16) + (16 * (b / 16) + b % 16 + b / 16 + 16 * (Y % 16)) := by omega
  show ((2 ^ 8 * Y + b) + (2 ^ 8 * Y + b) / 16) &&& (2 ^ 8 * rep 15 n + 15) = _
  have f : ((16 * (b / 16) + b % 16 + b / 16 + 16 * (Y % 16)) &&& 15) = ((16 * (b / 16) + b % 16 + b / 16) &&& 15) := fin4 ⟨b / 16, by omega⟩ ⟨b % 16, by omega⟩ ⟨Y % 16, by omega⟩
  rw [e, and_sp (by omega) (by decide), f]
  rw [show 16 * (b / 16) + b % 16 + b / 16 = b + b / 16 by omega]
def pc (X : Nat) : Nat → Nat
  | 0 => 0
  | n + 1 => 2 ^ 8 * pc (X / 256) n + cnt (fun i => (X % 256).testBit i) 8
/-- the three steps leave in each byte the number of its bits -/
theorem steps_pc : ∀ (n X : Nat), X < 256 ^ n → s3 (s2 (s1 X n) n) n = pc X n ∧ (s2 (s1 X n) n) % 16 ≤ 4 := by
  intro n
  induction n with
  | zero =>
    intro X h
    have : X = 0 := by omega
    subst this
    exact ⟨by decide, by decide⟩
  | succ n ih =>
    intro X h
    have hY : X / 256 < 256 ^ n := by
      rw [Nat.pow_succ] at h
      exact Nat.div_lt_of_lt_mul (by rw [Nat.mul_comm]; exact h)
    obtain ⟨i1, i2⟩ := ih (X / 256) hY
    have hb : X % 256 < 256 := by omega
    obtain ⟨f1, f2, f3, f4, f5⟩ := fin3 ⟨X % 256, hb⟩
    have eX : X = 2 ^ 8 * (X / 256) + X % 256 := by omega
    have e1 : s1 X (n + 1) = 2 ^ 8 * s1 (X / 256) n + b1 (X % 256) := by
      have := s1_step (Y := X / 256) (b := X % 256) (n := n) hb
      rw [← eX] at this
      exact this
    rw [e1, s2_step f1, s3_step f3 f4 i2, i1, f5]
    exact ⟨rfl, by omega⟩
theorem cnt_split (P : Nat → Bool) (m : Nat) : ∀ n, cnt P (m + n) = cnt P m + cnt (fun i => P (m + i)) n := by
  intro n
  induction n with
  | zero => rfl
  | succ n ih =>
    show cnt P (m + n) + (if P (m + n) then 1 else 0) = cnt P m + (cnt (fun i => P (m + i)) n + (if P (m + n) then 1 else 0))
    rw [ih]; omega
/-- bits, byte by byte -/
def csum (X : Nat) : Nat → Nat
  | 0 => 0
  | n + 1 => cnt (fun i => (X % 256).testBit i) 8 + csum (X / 256) n
theorem csum_cnt : ∀ (n X : Nat), csum X n = cnt (fun i => X.testBit i) (8 * n) := by
  intro n
  induction n with
  | zero => intro X; rfl
  | succ n ih =>
    intro X
    have eX : 2 ^ 8 * (X / 256) + X % 256 = X := by omega
    have tb : ∀ i, X.testBit i = if i < 8 then (X % 256).testBit i else (X / 256).testBit (i - 8) := by
      intro i
      have := Nat.testBit_two_pow_mul_add (X / 256) (show X % 256 < 2 ^ 8 by omega) i
      rw [eX] at this
      exact this
    show cnt (fun i => (X % 256).testBit i) 8 + csum (X / 256) n = _
    rw [ih (X / 256), show 8 * (n + 1) = 8 + 8 * n by omega, cnt_split]
    congr 1
    · exact cnt_congr 8 (fun i hi => by show (X % 256).testBit i = X.testBit i; rw [tb i, if_pos hi])
    · exact cnt_congr (8 * n) (fun i _ => by show (X / 256).testBit i = X.testBit (8 + i); rw [tb (8 + i), if_neg (by omega), show 8 + i - 8 = i by omega])
theorem div_of {Z k q r : Nat} (h : Z = k * q + r) (hr : r < k) : Z / k = q := by
  subst h
  rw [Nat.mul_add_div (by omega), Nat.div_eq_of_lt hr, Nat.add_zero]
theorem mod_of {Z k q r : Nat} (h : Z = k * q + r) (hr : r < k) : Z % k = r := by
  subst h
  rw [Nat.mul_add_mod, Nat.mod_eq_of_lt hr]
/-- eight bytes as a number -/
def oct (a : Nat → Nat) : Nat := a 0 + 256 * a 1 + 65536 * a 2 + 16777216 * a 3 + 4294967296 * a 4 + 1099511627776 * a 5 + 281474976710656 * a 6 + 72057594037927936 * a 7
theorem oct_8 (a : Nat → Nat) (h0 : a 0 < 256) : oct a / 256 = oct (fun i => if i = 7 then 0 else a (i + 1)) := by
  apply div_of (r := a 0) _ h0
  show a 0 + 256 * a 1 + 65536 * a 2 + 16777216 * a 3 + 4294967296 * a 4 + 1099511627776 * a 5 + 281474976710656 * a 6 + 72057594037927936 * a 7 = 256 * (a 1 + 256 * a 2 + 65536 * a 3 + 16777216 * a 4 + 4294967296 * a 5 + 1099511627776 * a 6 + 281474976710656 * a 7 + 72057594037927936 * 0) + a 0
  omega
theorem oct_16 (a : Nat → Nat) (h0 : a 0 < 256) (h1 : a 1 < 256) : oct a / 65536 = oct (fun i => if i = 7 then 0 else if i = 6 then 0 else a (i + 2)) := by
  apply div_of (r := a 0 + 256 * a 1) _ (by omega)
  show a 0 + 256 * a 1 + 65536 * a 2 + 16777216 * a 3 + 4294967296 * a 4 + 1099511627776 * a 5 + 281474976710656 * a 6 + 72057594037927936 * a 7 = 65536 * (a 2 + 256 * a 3 + 65536 * a 4 + 16777216 * a 5 + 4294967296 * a 6 + 1099511627776 * a 7 + 281474976710656 * 0 + 72057594037927936 * 0) + (a 0 + 256 * a 1)
  omega
theorem oct_32 (a : Nat → Nat) (h0 : a 0 < 256) (h1 : a 1 < 256) (h2 : a 2 < 256) (h3 : a 3 < 256) : oct a / 4294967296 = a 4 + 256 * a 5 + 65536 * a 6 + 16777216 * a 7 := by
  apply div_of (r := a 0 + 256 * a 1 + 65536 * a 2 + 16777216 * a 3) _ (by omega)
  show a 0 + 256 * a 1 + 65536 * a 2 + 16777216 * a 3 + 4294967296 * a 4 + 1099511627776 * a 5 + 281474976710656 * a 6 + 72057594037927936 * a 7 = 4294967296 * (a 4 + 256 * a 5 + 65536 * a 6 + 16777216 * a 7) + (a 0 + 256 * a 1 + 65536 * a 2 + 16777216 * a 3)
  omega
theorem oct_add (a b : Nat → Nat) : oct a + oct b = oct (fun i => a i + b i) := by
  show (a 0 + 256 * a 1 + 65536 * a 2 + 16777216 * a 3 + 4294967296 * a 4 + 1099511627776 * a 5 + 281474976710656 * a 6 + 72057594037927936 * a 7) + (b 0 + 256 * b 1 + 65536 * b 2 + 16777216 * b 3 + 4294967296 * b 4 + 1099511627776 * b 5 + 281474976710656 * b 6 + 72057594037927936 * b 7) = (a 0 + b 0) + 256 * (a 1 + b 1) + 65536 * (a 2 + b 2) + 16777216 * (a 3 + b 3) + 4294967296 * (a 4 + b 4) + 1099511627776 * (a 5 + b 5) + 281474976710656 * (a 6 + b 6) + 72057594037927936 * (a 7 + b 7)
  omega
/-- the last steps add the bytes up -/
theorem addup {c : Nat → Nat} (h : ∀ i, c i ≤ 8) {Z : Nat} (hZ : Z = oct c) : ((Z + Z / 256) + (Z + Z / 256) / 65536 + ((Z + Z / 256) + (Z + Z / 256) / 65536) / 4294967296) % 128 = c 0 + c 1 + c 2 + c 3 + c 4 + c 5 + c 6 + c 7 := by
  have k0 := h 0; have k1 := h 1; have k2 := h 2; have k3 := h 3; have k4 := h 4; have k5 := h 5; have k6 := h 6; have k7 := h 7
  subst hZ
  rw [oct_8 c (by omega), oct_add]
  rw [oct_16 _ (show c 0 + c 1 < 256 by omega) (show c 1 + c 2 < 256 by omega), oct_add]
  rw [oct_32 _ (show c 0 + c 1 + (c 2 + c 3) < 256 by omega) (show c 1 + c 2 + (c 3 + c 4) < 256 by omega) (show c 2 + c 3 + (c 4 + c 5) < 256 by omega) (show c 3 + c 4 + (c 5 + c 6) < 256 by omega)]
  apply mod_of (q := 2 * ((c 1 + c 2 + (c 3 + c 4)) + (c 5 + c 6 + (c 7 + 0))) + 512 * ((c 2 + c 3 + (c 4 + c 5)) + (c 6 + c 7 + 0)) + 131072 * ((c 3 + c 4 + (c 5 + c 6)) + (c 7 + 0 + 0)) + 33554432 * (c 4 + c 5 + (c 6 + c 7)) + 8589934592 * (c 5 + c 6 + (c 7 + 0)) + 2199023255552 * (c 6 + c 7 + 0) + 562949953421312 * (c 7 + 0 + 0)) _ (by omega)
  show ((c 0 + c 1 + (c 2 + c 3)) + 256 * (c 1 + c 2 + (c 3 + c 4)) + 65536 * (c 2 + c 3 + (c 4 + c 5)) + 16777216 * (c 3 + c 4 + (c 5 + c 6)) + 4294967296 * (c 4 + c 5 + (c 6 + c 7)) + 1099511627776 * (c 5 + c 6 + (c 7 + 0)) + 281474976710656 * (c 6 + c 7 + 0) + 72057594037927936 * (c 7 + 0 + 0)) + ((c 4 + c 5 + (c 6 + c 7)) + 256 * (c 5 + c 6 + (c 7 + 0)) + 65536 * (c 6 + c 7 + 0) + 16777216 * (c 7 + 0 + 0)) = _
  omega

def dvB (X : Nat) : Nat → Nat
  | 0 => X
  | i + 1 => dvB (X / 256) i
def cB8 (X i : Nat) : Nat := cnt (fun j => (dvB X i % 256).testBit j) 8
theorem cB8_le (X i : Nat) : cB8 X i ≤ 8 := cnt_le _ 8
theorem pc_oct (X : Nat) : pc X 8 = oct (cB8 X) := by
  show 2 ^ 8 * (2 ^ 8 * (2 ^ 8 * (2 ^ 8 * (2 ^ 8 * (2 ^ 8 * (2 ^ 8 * (2 ^ 8 * 0 + cB8 X 7) + cB8 X 6) + cB8 X 5) + cB8 X 4) + cB8 X 3) + cB8 X 2) + cB8 X 1) + cB8 X 0 = cB8 X 0 + 256 * cB8 X 1 + 65536 * cB8 X 2 + 16777216 * cB8 X 3 + 4294967296 * cB8 X 4 + 1099511627776 * cB8 X 5 + 281474976710656 * cB8 X 6 + 72057594037927936 * cB8 X 7
  omega
theorem csum_8 (X : Nat) : csum X 8 = cB8 X 0 + cB8 X 1 + cB8 X 2 + cB8 X 3 + cB8 X 4 + cB8 X 5 + cB8 X 6 + cB8 X 7 := by
  show cB8 X 0 + (cB8 X 1 + (cB8 X 2 + (cB8 X 3 + (cB8 X 4 + (cB8 X 5 + (cB8 X 6 + (cB8 X 7 + 0))))))) = _
  omega
theorem lN_bv (a : Nat) : (lN a).toBitVec = BitVec.ofNat 64 a := rfl
theorem lN_and (a b : Nat) : lN a &&& lN b = lN (a &&& b) := by
  apply Int64.toBitVec_inj.mp
  rw [Int64.toBitVec_and, lN_bv, lN_bv, lN_bv, BitVec.ofNat_and]
theorem lN_or (a b : Nat) : lN a ||| lN b = lN (a ||| b) := by
  apply Int64.toBitVec_inj.mp
  rw [Int64.toBitVec_or, lN_bv, lN_bv, lN_bv, BitVec.ofNat_or]
theorem lN_shr {a k : Nat} (ha : a < 2 ^ 64) (hk : k < 64) {s : UInt64} (hs : s.toBitVec % 64 = BitVec.ofNat 64 k) : ((lN a).toUInt64 >>> s).toInt64 = lN (a / 2 ^ k) := by
  apply Int64.toBitVec_inj.mp
  rw [UInt64.toBitVec_toInt64, UInt64.toBitVec_shiftRight, Int64.toBitVec_toUInt64, hs, lN_bv, lN_bv]
  apply BitVec.eq_of_toNat_eq
  have hd : a / 2 ^ k ≤ a := Nat.div_le_self _ _
  rw [BitVec.ushiftRight_eq', BitVec.toNat_ushiftRight, BitVec.toNat_ofNat, BitVec.toNat_ofNat, BitVec.toNat_ofNat, Nat.mod_eq_of_lt ha, Nat.mod_eq_of_lt (show k < 2 ^ 64 by omega), Nat.mod_eq_of_lt (show a / 2 ^ k < 2 ^ 64 by omega), Nat.shiftRight_eq_div_pow]
theorem m55 : (6148914691236517205 : Int64) = lN (rep 85 8) := by decide +kernel
theorem m33 : (3689348814741910323 : Int64) = lN (rep 51 8) := by decide +kernel
theorem m0f : (1085102592571150095 : Int64) = lN (rep 15 8) := by decide +kernel
theorem bitcount {X : Nat} (hX : X < 2 ^ 62) (σ : CS) : f_java_lang_Long_bitCount (lN X) σ = some (nI (cnt (fun i => X.testBit i) 64), σ) := by
  have h1 : s1 X 8 ≤ X := Nat.sub_le _ _
  have h1' : (X / 2) &&& rep 85 8 ≤ X := Nat.le_trans Nat.and_le_left (Nat.div_le_self _ _)
  have h2a : s1 X 8 &&& rep 51 8 ≤ s1 X 8 := Nat.and_le_left
  have h2b : (s1 X 8 / 4) &&& rep 51 8 ≤ s1 X 8 / 4 := Nat.and_le_left
  have h2 : s2 (s1 X 8) 8 < 2 ^ 63 := by
    show (s1 X 8 &&& rep 51 8) + ((s1 X 8 / 4) &&& rep 51 8) < 2 ^ 63
    omega
  obtain ⟨k1, -⟩ := steps_pc 8 X (by omega)
  have h3 : s3 (s2 (s1 X 8) 8) 8 = oct (cB8 X) := by rw [k1, pc_oct]
  have b0 := cB8_le X 0; have b1' := cB8_le X 1; have b2' := cB8_le X 2; have b3' := cB8_le X 3; have b4 := cB8_le X 4; have b5 := cB8_le X 5; have b6 := cB8_le X 6; have b7 := cB8_le X 7
  obtain ⟨Z, hZ⟩ : ∃ Z, Z = oct (cB8 X) := ⟨_, rfl⟩
  have hZb : Z < 2 ^ 60 := by
    rw [hZ]
    show cB8 X 0 + 256 * cB8 X 1 + 65536 * cB8 X 2 + 16777216 * cB8 X 3 + 4294967296 * cB8 X 4 + 1099511627776 * cB8 X 5 + 281474976710656 * cB8 X 6 + 72057594037927936 * cB8 X 7 < 2 ^ 60
    omega
  rw [← hZ] at h3
  have e1 : lN X - (((lN X).toUInt64 >>> ((1 : Int32).toInt64.toUInt64 &&& Int64.toUInt64 63)).toInt64 &&& 6148914691236517205) = lN (s1 X 8) := by
    rw [lN_shr (k := 1) (by omega) (by omega) (by decide +kernel), m55, lN_and, lN_sub (by show (X / 2 ^ 1) &&& rep 85 8 ≤ X; exact h1')]
    rfl
  have e2 : (lN (s1 X 8) &&& 3689348814741910323) + (((lN (s1 X 8)).toUInt64 >>> ((2 : Int32).toInt64.toUInt64 &&& Int64.toUInt64 63)).toInt64 &&& 3689348814741910323) = lN (s2 (s1 X 8) 8) := by
    rw [lN_shr (k := 2) (by omega) (by omega) (by decide +kernel), m33, lN_and, lN_and, lN_add]
    rfl
  have e3 : (lN (s2 (s1 X 8) 8) + ((lN (s2 (s1 X 8) 8)).toUInt64 >>> ((4 : Int32).toInt64.toUInt64 &&& Int64.toUInt64 63)).toInt64) &&& 1085102592571150095 = lN Z := by
    rw [lN_shr (k := 4) (by omega) (by omega) (by decide +kernel), m0f, lN_add, lN_and, ← h3]
    rfl
  have e4 : lN Z + ((lN Z).toUInt64 >>> ((8 : Int32).toInt64.toUInt64 &&& Int64.toUInt64 63)).toInt64 = lN (Z + Z / 256) := by
    rw [lN_shr (k := 8) (by omega) (by omega) (by decide +kernel), lN_add]
  have e5 : lN (Z + Z / 256) + ((lN (Z + Z / 256)).toUInt64 >>> ((16 : Int32).toInt64.toUInt64 &&& Int64.toUInt64 63)).toInt64 = lN ((Z + Z / 256) + (Z + Z / 256) / 65536) := by
    rw [lN_shr (k := 16) (by omega) (by omega) (by decide +kernel), lN_add]
  have e6 : lN ((Z + Z / 256) + (Z + Z / 256) / 65536) + ((lN ((Z + Z / 256) + (Z + Z / 256) / 65536)).toUInt64 >>> ((32 : Int32).toInt64.toUInt64 &&& Int64.toUInt64 63)).toInt64 = lN ((Z + Z / 256) + (Z + Z / 256) / 65536 + ((Z + Z / 256) + (Z + Z / 256) / 65536) / 4294967296) := by
    rw [lN_shr (k := 32) (by omega) (by omega) (by decide +kernel), lN_add]
  unfold f_java_lang_Long_bitCount
  rw [e1, e2, e3, e4, e5, e6, lN_i, show (127 : Int32) = nI 127 from rfl, nI_and, show (127 : Nat) = 2 ^ 7 - 1 from rfl, Nat.and_two_pow_sub_one_eq_mod, show (2 : Nat) ^ 7 = 128 from rfl, addup (cB8_le X) hZ, ← csum_8, csum_cnt]
