/-! ===== layer 2: bits of small numbers ===== -/
theorem nI_bv (a : Nat) : (nI a).toBitVec = BitVec.ofNat 32 a := rfl
theorem nI_or (a b : Nat) : nI a ||| nI b = nI (a ||| b) := by
  apply Int32.toBitVec_inj.mp
  rw [Int32.toBitVec_or, nI_bv, nI_bv, nI_bv, BitVec.ofNat_or]
theorem nI_and (a b : Nat) : nI a &&& nI b = nI (a &&& b) := by
  apply Int32.toBitVec_inj.mp
  rw [Int32.toBitVec_and, nI_bv, nI_bv, nI_bv, BitVec.ofNat_and]
theorem shl_all : ∀ t : Fin 31, (1 : Int32) <<< (nI t.1 &&& 31) = nI (2 ^ t.1) := by decide +kernel
theorem nI_shl {t : Nat} (h : t < 31) : (1 : Int32) <<< (nI t &&& 31) = nI (2 ^ t) := shl_all ⟨t, h⟩
theorem shr_all : ∀ t : Fin 31, ((nI t.1 &&& 31).toBitVec).smod 32 = BitVec.ofNat 32 t.1 := by decide +kernel
theorem nI_shr {a t : Nat} (ha : a < 2147483648) (h : t < 31) : nI a >>> (nI t &&& 31) = nI (a >>> t) := by
  apply Int32.toBitVec_inj.mp
  rw [Int32.toBitVec_shiftRight, shr_all ⟨t, h⟩, nI_bv, nI_bv, BitVec.sshiftRight', BitVec.toNat_ofNat, Nat.mod_eq_of_lt (show t < 2 ^ 32 by omega)]
  have hm : (BitVec.ofNat 32 a).msb = false := by
    rw [BitVec.msb_eq_decide, BitVec.toNat_ofNat, Nat.mod_eq_of_lt (show a < 2 ^ 32 by omega)]
    exact decide_eq_false (by omega)
  rw [BitVec.sshiftRight_eq_of_msb_false hm]
  apply BitVec.eq_of_toNat_eq
  rw [BitVec.toNat_ushiftRight, BitVec.toNat_ofNat, BitVec.toNat_ofNat, Nat.mod_eq_of_lt (show a < 2 ^ 32 by omega), Nat.mod_eq_of_lt]
  have := Nat.shiftRight_le a t
  omega
theorem nI_bit {a t : Nat} (ha : a < 2147483648) (h : t < 31) : (nI a >>> (nI t &&& 31)) &&& 1 = if a.testBit t then 1 else 0 := by
  rw [nI_shr ha h, show (1 : Int32) = nI 1 from rfl, nI_and, Nat.and_one_is_mod, Nat.shiftRight_eq_div_pow, ← Nat.toNat_testBit]
  cases a.testBit t <;> rfl
theorem bit_1 {a t : Nat} (ha : a < 2147483648) (h : t < 31) : (nI a >>> (nI t &&& 31)) &&& 1 = 1 ↔ a.testBit t = true := by
  rw [nI_bit ha h]
  cases a.testBit t
  · exact ⟨fun z => absurd z (by decide), fun z => absurd z (by decide)⟩
  · exact ⟨fun _ => rfl, fun _ => rfl⟩
theorem bit_0 {a t : Nat} (ha : a < 2147483648) (h : t < 31) : (nI a >>> (nI t &&& 31)) &&& 1 = 0 ↔ a.testBit t = false := by
  rw [nI_bit ha h]
  cases a.testBit t
  · exact ⟨fun _ => rfl, fun _ => rfl⟩
  · exact ⟨fun z => absurd z (by decide), fun z => absurd z (by decide)⟩
theorem or_lt {a b k : Nat} (h1 : a < 2 ^ k) (h2 : b < 2 ^ k) : a ||| b < 2 ^ k := Nat.or_lt_two_pow h1 h2
