/-! by hand: bytes of a long; feed -/
theorem wc_c : ∀ k, k < 64 → ((nI k).toInt64 &&& 63) = lN k := by decide +kernel
theorem wc_cu : ∀ k, k < 64 → ((nI k).toInt64.toUInt64 &&& Int64.toUInt64 63) = UInt64.ofNat k := by decide +kernel
theorem wc_sm : ∀ k, k < 64 → (BitVec.ofNat 64 k).smod 64 = BitVec.ofNat 64 k := by decide +kernel
def byt (b : Int64) (k : Nat) : Nat := b.toBitVec.toNat / 2 ^ (8 * k) % 256
theorem byt_lt (b : Int64) (k : Nat) : byt b k < 256 := Nat.mod_lt _ (by omega)
theorem bit255 (j : Nat) (hj : j < 32) : (255 : BitVec 32).getLsbD j = decide (j < 8) := by
  have : ∀ j, j < 32 → (255 : BitVec 32).getLsbD j = decide (j < 8) := by decide +kernel
  exact this j hj
theorem bit255l (j : Nat) (hj : j < 64) : (255 : BitVec 64).getLsbD j = decide (j < 8) := by
  have : ∀ j, j < 64 → (255 : BitVec 64).getLsbD j = decide (j < 8) := by decide +kernel
  exact this j hj
theorem bit_byt (b : Int64) (k j : Nat) (hj : j < 32) : (nI (byt b k)).toBitVec.getLsbD j = (decide (j < 8) && b.toBitVec.getLsbD (8 * k + j)) := by
  show (BitVec.ofNat 32 (byt b k)).getLsbD j = _
  rw [BitVec.getLsbD_ofNat]
  unfold byt
  rw [show (256 : Nat) = 2 ^ 8 from rfl, Nat.testBit_mod_two_pow, Nat.testBit_div_two_pow]
  simp [hj, BitVec.getLsbD, Nat.add_comm]
theorem byt_c (b : Int64) (k : Nat) (hk : k < 8) : (((b.toUInt64 >>> ((8 * nI k).toInt64.toUInt64 &&& Int64.toUInt64 63)).toInt64).toInt32) &&& 255 = nI (byt b k) := by
  rw [show (8 : Int32) = nI 8 from rfl, pk_mul, wc_cu _ (by omega)]
  apply Int32.toBitVec_inj.mp
  apply BitVec.eq_of_getLsbD_eq
  intro j hj
  rw [bit_byt b k j hj, Int32.toBitVec_and, BitVec.getLsbD_and, show (255 : Int32).toBitVec = 255 from rfl, bit255 j hj, Int64.toBitVec_toInt32, UInt64.toBitVec_toInt64, UInt64.toBitVec_shiftRight]
  have e : (UInt64.ofNat (8 * k)).toBitVec = BitVec.ofNat 64 (8 * k) := rfl
  have hm : (BitVec.ofNat 64 (8 * k) % 64).toNat = 8 * k := by
    rw [BitVec.toNat_umod, BitVec.toNat_ofNat]
    show 8 * k % 2 ^ 64 % 64 = _
    omega
  rw [e, BitVec.getLsbD_signExtend, BitVec.ushiftRight_eq', hm, BitVec.getLsbD_ushiftRight]
  have h2 : b.toUInt64.toBitVec = b.toBitVec := rfl
  rw [h2]
  have hj64 : j < 64 := by omega
  simp only [hj, hj64, decide_true, Bool.true_and, if_true]
  exact Bool.and_comm _ _
theorem byt_m (b : Int64) (k : Nat) (hk : k < 8) : ((b >>> ((8 * nI k).toInt64 &&& 63)) &&& 255).toInt32 = nI (byt b k) := by
  rw [show (8 : Int32) = nI 8 from rfl, pk_mul, wc_c _ (by omega)]
  apply Int32.toBitVec_inj.mp
  apply BitVec.eq_of_getLsbD_eq
  intro j hj
  have hj64 : j < 64 := by omega
  rw [bit_byt b k j hj, Int64.toBitVec_toInt32, Int64.toBitVec_and, Int64.toBitVec_shiftRight]
  have e : (lN (8 * k)).toBitVec = BitVec.ofNat 64 (8 * k) := rfl
  have hm : (BitVec.ofNat 64 (8 * k)).toNat = 8 * k := by
    rw [BitVec.toNat_ofNat]
    omega
  rw [e, wc_sm _ (by omega), BitVec.getLsbD_signExtend, BitVec.getLsbD_and, BitVec.sshiftRight_eq', hm, BitVec.getLsbD_sshiftRight, show (255 : Int64).toBitVec = 255 from rfl, bit255l j hj64]
  by_cases h8 : j < 8
  · have h3 : 8 * k + j < 64 := by omega
    simp [hj, hj64, h8, h3, show ¬ 64 ≤ j by omega]
  · simp [hj, hj64, h8]
