-- pairs: feed
def byV (v : Int32) (s : Nat) : Int32 := nI (v.toBitVec.toNat / 2 ^ s % 256)
theorem mod_dn (n s : Nat) (hs : s ≤ 24) : (((n : Int) - 4294967296) / (2 ^ s : Nat) % 256) = ((n / 2 ^ s % 256 : Nat) : Int) := by
  have h1 : (4294967296 : Int) = ((2 ^ (32 - s) : Nat) : Int) * ((2 ^ s : Nat) : Int) := by
    rw [← Int.natCast_mul, ← Nat.pow_add, show 32 - s + s = 32 by omega]; rfl
  have h2 : ((n : Int) - 4294967296) / ((2 ^ s : Nat) : Int) = ((n / 2 ^ s : Nat) : Int) - ((2 ^ (32 - s) : Nat) : Int) := by
    rw [h1, Int.sub_ediv_of_dvd _ (Int.dvd_mul_left _ _), Int.mul_ediv_cancel _ (by have := Nat.two_pow_pos s; omega), Int.natCast_ediv]
  have h3 : ((2 ^ (32 - s) : Nat) : Int) % 256 = 0 := by
    have : (2 ^ (32 - s) : Nat) = 2 ^ (24 - s) * 256 := by rw [show (256 : Nat) = 2 ^ 8 from rfl, ← Nat.pow_add]; congr 1; omega
    rw [this]; omega
  have h4 : (((2 ^ s : Nat)) : Int) = (2 ^ s : Nat) := rfl
  rw [h2]
  omega
theorem by_u {v s : Int32} {k : Nat} (hs : ((s.toUInt32 &&& Int32.toUInt32 31).toBitVec % 32).toNat = k) : (v.toUInt32 >>> (s.toUInt32 &&& Int32.toUInt32 31)).toInt32 &&& 255 = byV v k := by
  rw [pk_and _ 8 (by decide), pk_ushr v s k hs]; rfl
theorem by_s {v s : Int32} {k : Nat} (hk : k ≤ 24) (hs : (s.toBitVec.smod 32).toNat = k) : v >>> s &&& 255 = byV v k := by
  rw [pk_and _ 8 (by decide)]
  unfold byV
  congr 1
  have h := pk_shr v s k hs
  have h1 : (v >>> s).toInt = (v >>> s).toBitVec.toInt := rfl
  have h2 : v.toInt = v.toBitVec.toInt := rfl
  rw [h1, h2, BitVec.toInt_eq_toNat_cond, BitVec.toInt_eq_toNat_cond, Int.shiftRight_eq_div_pow] at h
  have l1 := (v >>> s).toBitVec.isLt
  have l2 := v.toBitVec.isLt
  have hm := mod_dn v.toBitVec.toNat k hk
  have hp : ((2 ^ k : Nat) : Int) = 2 ^ k := by simp
  have key : ((v >>> s).toBitVec.toNat : Int) % 256 = ((v.toBitVec.toNat / 2 ^ k % 256 : Nat) : Int) := by
    have hc : ((v.toBitVec.toNat : Int) / ((2 ^ k : Nat) : Int)) % 256 = ((v.toBitVec.toNat / 2 ^ k % 256 : Nat) : Int) := by
      rw [← Int.natCast_ediv]; omega
    split at h <;> split at h
    · rw [h]; exact hc
    · rw [show ((2 ^ 32 : Nat) : Int) = 4294967296 from rfl] at h
      rw [h]; exact hm
    · rw [show ((2 ^ 32 : Nat) : Int) = 4294967296 from rfl] at h
      have : (((v >>> s).toBitVec.toNat : Int) - 4294967296) % 256 = ((v >>> s).toBitVec.toNat : Int) % 256 := by omega
      rw [← this, h]; exact hc
    · rw [show ((2 ^ 32 : Nat) : Int) = 4294967296 from rfl] at h
      have : (((v >>> s).toBitVec.toNat : Int) - 4294967296) % 256 = ((v >>> s).toBitVec.toNat : Int) % 256 := by omega
      rw [← this, h]; exact hm
  have : ((((v >>> s).toBitVec.toNat % 256 : Nat)) : Int) = ((v.toBitVec.toNat / 2 ^ k % 256 : Nat) : Int) := by rw [← key]; omega
  show (v >>> s).toBitVec.toNat % 2 ^ 8 = _
  exact_mod_cast this
