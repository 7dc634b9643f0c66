/-! TEXT: the bytes of a word -/
theorem byte_all : ∀ b : BitVec 8, Int32.ofBitVec (b.setWidth 32) = zI (b.toNat : Int) ∧ vp_nar .byte (Int32.ofBitVec (b.signExtend 32)) = zI (sgb (b.toNat : Int)) := by decide +kernel
theorem byte_low (w : BitVec 32) : w &&& 255#32 = (w.setWidth 8).setWidth 32 := by
  apply BitVec.eq_of_toNat_eq
  rw [BitVec.toNat_and, BitVec.toNat_setWidth, BitVec.toNat_setWidth]
  have := Nat.and_two_pow_sub_one_eq_mod w.toNat 8
  have e : (255#32).toNat = 2 ^ 8 - 1 := rfl
  rw [e, this]
  omega
