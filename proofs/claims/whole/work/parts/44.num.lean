-- numbers: what fits
theorem tI_rng (x : Int32) : -2147483648 ≤ x.toInt ∧ x.toInt < 2147483648 := ⟨by have := x.minValue_le_toInt; simpa using this, by have := x.toInt_lt; simpa using this⟩
theorem bm_id {n : Int} (h1 : -2147483648 ≤ n) (h2 : n < 2147483648) : n.bmod (2 ^ 32) = n := Int.bmod_eq_of_le (by simpa using h1) (by simpa using h2)
theorem tI_add {x y : Int32} (h1 : -2147483648 ≤ x.toInt + y.toInt) (h2 : x.toInt + y.toInt < 2147483648) : (x + y).toInt = x.toInt + y.toInt := by rw [Int32.toInt_add]; exact bm_id h1 h2
theorem tI_sub {x y : Int32} (h1 : -2147483648 ≤ x.toInt - y.toInt) (h2 : x.toInt - y.toInt < 2147483648) : (x - y).toInt = x.toInt - y.toInt := by rw [Int32.toInt_sub]; exact bm_id h1 h2
theorem tI_mul {x y : Int32} (h1 : -2147483648 ≤ x.toInt * y.toInt) (h2 : x.toInt * y.toInt < 2147483648) : (x * y).toInt = x.toInt * y.toInt := by rw [Int32.toInt_mul]; exact bm_id h1 h2
theorem tI_neg {x : Int32} (h1 : -2147483648 < x.toInt) : (-x).toInt = -x.toInt := by rw [Int32.toInt_neg]; have := tI_rng x; exact bm_id (by omega) (by omega)
theorem tI_lt {x y : Int32} : x < y ↔ x.toInt < y.toInt := Int32.lt_iff_toInt_lt
theorem tI_le {x y : Int32} : x ≤ y ↔ x.toInt ≤ y.toInt := Int32.le_iff_toInt_le
theorem tI_eq {x y : Int32} : x = y ↔ x.toInt = y.toInt := Int32.toInt_inj.symm
theorem tdiv_rng {a b : Int} (hb : 0 < b) : -(a.natAbs : Int) ≤ a.tdiv b ∧ a.tdiv b ≤ a.natAbs := by
  have h := Int.natAbs_tdiv_le_natAbs a b
  omega
theorem tI_div {x y : Int32} (hy : 0 < y) : (x / y).toInt = x.toInt.tdiv y.toInt := by
  have hr := tI_rng x
  have hy' : 0 < y.toInt := tI_lt.mp hy
  rw [Int32.toInt_div]
  rcases (show y.toInt = 1 ∨ 2 ≤ y.toInt by omega) with e | e
  · rw [e, Int.tdiv_one]; exact bm_id hr.1 hr.2
  · have h3 := Int.natAbs_tdiv_le_natAbs x.toInt y.toInt
    have h4 := Int.mul_tdiv_add_tmod x.toInt y.toInt
    have h5 := Int.tmod_lt_of_pos x.toInt hy'
    have h6 := Int.lt_tmod_of_pos x.toInt hy'
    rcases Int.lt_or_le x.toInt 0 with q | q
    · have h7 : x.toInt.tdiv y.toInt ≤ 0 := by
        have := Int.tdiv_nonneg (a := -x.toInt) (b := y.toInt) (by omega) (by omega)
        rw [Int.neg_tdiv] at this; omega
      exact bm_id (by omega) (by omega)
    · have h7 : 0 ≤ x.toInt.tdiv y.toInt := Int.tdiv_nonneg q (by omega)
      exact bm_id (by omega) (by omega)
theorem tI_rm {x y : Int32} (hy : 0 < y) : (rm x y).toInt = x.toInt.tmod y.toInt := by
  have hr := tI_rng x
  have hy' : 0 < y.toInt := tI_lt.mp hy
  have h4 := Int.mul_tdiv_add_tmod x.toInt y.toInt
  have h5 := Int.tmod_lt_of_pos x.toInt hy'
  have h6 := Int.lt_tmod_of_pos x.toInt hy'
  have hyr := tI_rng y
  have e : (x / y * y).toInt = x.toInt.tdiv y.toInt * y.toInt := by
    rw [Int32.toInt_mul, tI_div hy]
    refine bm_id ?_ ?_
    · rcases Int.lt_or_le x.toInt 0 with q | q
      · have h8 : x.toInt.tmod y.toInt ≤ 0 := by
          have := Int.tmod_nonneg (a := -x.toInt) y.toInt (by omega)
          rw [Int.neg_tmod] at this; omega
        rw [Int.mul_comm]; omega
      · have := Int.mul_nonneg (Int.tdiv_nonneg q (show 0 ≤ y.toInt by omega)) (show 0 ≤ y.toInt by omega); omega
    · rcases Int.lt_or_le x.toInt 0 with q | q
      · have h8 : x.toInt.tmod y.toInt ≤ 0 := by
          have := Int.tmod_nonneg (a := -x.toInt) y.toInt (by omega)
          rw [Int.neg_tmod] at this; omega
        rw [Int.mul_comm]; omega
      · have h8 := Int.tmod_nonneg (a := x.toInt) y.toInt q
        rw [Int.mul_comm]; omega
  unfold rm
  rw [tI_sub, e]
  · rw [Int.mul_comm]; omega
  · rw [e, Int.mul_comm]; omega
  · rw [e, Int.mul_comm]; omega
theorem rm_pos {x y : Int32} (hy : 0 < y) (hx : 0 ≤ x.toInt) : 0 ≤ (rm x y).toInt ∧ (rm x y).toInt < y.toInt := by
  rw [tI_rm hy]
  exact ⟨Int.tmod_nonneg _ hx, Int.tmod_lt_of_pos _ (tI_lt.mp hy)⟩
theorem rm_neg {x y : Int32} (hy : 0 < y) (hx : x.toInt < 0) : (rm x y).toInt ≤ 0 ∧ -y.toInt < (rm x y).toInt := by
  rw [tI_rm hy]
  have := Int.tmod_nonneg (a := -x.toInt) y.toInt (by omega)
  rw [Int.neg_tmod] at this
  exact ⟨by omega, Int.lt_tmod_of_pos _ (tI_lt.mp hy)⟩
theorem xor_neg {x y : Int32} (hy : 0 < y) : x ^^^ y < 0 ↔ x < 0 := by
  have key : ∀ z : Int32, z < 0 ↔ z.toBitVec.msb = true := by
    intro z
    rw [tI_lt, BitVec.msb_eq_toInt, decide_eq_true_eq]
    rfl
  have hy' : y.toBitVec.msb = false := by
    cases h : y.toBitVec.msb
    · rfl
    · have := tI_lt.mp ((key y).mpr h); have h2 := tI_lt.mp hy
      have e0 : (0 : Int32).toInt = 0 := rfl
      rw [e0] at this h2; omega
  rw [key, key, Int32.toBitVec_xor, BitVec.msb_xor, hy', Bool.xor_false]
theorem fm_eq {x y : Int32} (hy : 0 < y) : fmV x y = yardP x y := by
  unfold fmV yardP
  have e0 : (0 : Int32).toInt = 0 := rfl
  by_cases hx : x < 0
  · rw [if_pos ((xor_neg hy).mpr hx)]
    have := rm_neg hy (tI_lt.mp hx)
    by_cases hr : rm x y = 0
    · rw [if_pos hr, if_neg (by rw [hr]; decide)]
    · rw [if_neg hr, if_pos ?_]
      rw [tI_lt, e0]
      have : ¬ (rm x y).toInt = 0 := fun q => hr (tI_eq.mpr q)
      omega
  · rw [if_neg (fun q => hx ((xor_neg hy).mp q))]
    have h1 : 0 ≤ x.toInt := by rw [tI_lt, e0] at hx; omega
    have := rm_pos hy h1
    rw [if_neg (by rw [tI_lt, e0]; omega)]
theorem yard_rng {x y : Int32} (hy : 0 < y) : 0 ≤ (yardP x y).toInt ∧ (yardP x y).toInt < y.toInt ∧ ∃ q : Int, x.toInt = q * y.toInt + (yardP x y).toInt := by
  have e0 : (0 : Int32).toInt = 0 := rfl
  have hy' : 0 < y.toInt := tI_lt.mp hy
  have hyr := tI_rng y
  have h4 := Int.mul_tdiv_add_tmod x.toInt y.toInt
  have er := tI_rm (x := x) hy
  unfold yardP
  by_cases hr : rm x y < 0
  · rw [if_pos hr]
    rw [tI_lt, e0] at hr
    have h6 : -y.toInt < (rm x y).toInt := by
      rw [er]; exact Int.lt_tmod_of_pos _ hy'
    rw [tI_add (by omega) (by omega)]
    refine ⟨by omega, by omega, x.toInt.tdiv y.toInt - 1, ?_⟩
    rw [Int.sub_mul, Int.mul_comm, er]; omega
  · rw [if_neg hr]
    rw [tI_lt, e0] at hr
    have h6 : (rm x y).toInt < y.toInt := by
      rw [er]; exact Int.tmod_lt_of_pos _ hy'
    refine ⟨by omega, h6, x.toInt.tdiv y.toInt, ?_⟩
    rw [Int.mul_comm, er]; omega
/-- laps as whole numbers -/
theorem laps_int {x y : Int32} (hy : 0 < y) (hx : -1000000000 ≤ x.toInt) (hy2 : y.toInt ≤ 1000000) : (lapsP x y).toInt * y.toInt + (yardP x y).toInt = x.toInt := by
  obtain ⟨h1, h2, q, hq⟩ := yard_rng (x := x) hy
  have hxr := tI_rng x
  have hy' : 0 < y.toInt := tI_lt.mp hy
  unfold lapsP
  have es : (x - yardP x y).toInt = q * y.toInt := by rw [tI_sub (by omega) (by omega)]; omega
  rw [tI_div hy, es, Int.mul_tdiv_cancel _ (by omega)]
  omega
theorem fd_eq {x y : Int32} (hy : 0 < y) (hx : -1000000000 ≤ x.toInt) (hy2 : y.toInt ≤ 1000000) : fdV x y = lapsP x y := by
  have e0 : (0 : Int32).toInt = 0 := rfl
  have e1 : (1 : Int32).toInt = 1 := rfl
  have hl := laps_int hy hx hy2
  obtain ⟨h1, h2, _⟩ := yard_rng (x := x) hy
  have hy' : 0 < y.toInt := tI_lt.mp hy
  have h4 := Int.mul_tdiv_add_tmod x.toInt y.toInt
  have h5 := Int.tmod_lt_of_pos x.toInt hy'
  have h6 := Int.lt_tmod_of_pos x.toInt hy'
  have er := tI_rm (x := x) hy
  have ed := tI_div (x := x) hy
  have hdr := tI_rng (x / y)
  have uniq : ∀ a b r s : Int, a * y.toInt + r = b * y.toInt + s → 0 ≤ r → r < y.toInt → 0 ≤ s → s < y.toInt → a = b := by
    intro a b r s h a1 a2 a3 a4
    rcases Int.lt_trichotomy a b with q | q | q
    · have : (a + 1) * y.toInt ≤ b * y.toInt := Int.mul_le_mul_of_nonneg_right (by omega) (by omega)
      rw [Int.add_mul] at this; omega
    · exact q
    · have : (b + 1) * y.toInt ≤ a * y.toInt := Int.mul_le_mul_of_nonneg_right (by omega) (by omega)
      rw [Int.add_mul] at this; omega
  have zero : x / y * y = x ↔ x.toInt.tmod y.toInt = 0 := by
    rw [← er, ← e0, ← tI_eq]
    unfold rm
    constructor
    · intro q; rw [q]; exact Int32.sub_self x
    · intro q; have h := Int32.sub_add_cancel x (x / y * y); rw [q, Int32.zero_add] at h; exact h
  rw [tI_eq]
  unfold fdV
  by_cases hxn : x < 0
  · rw [if_pos ((xor_neg hy).mpr hxn)]
    have h7 := rm_neg hy (tI_lt.mp hxn)
    rw [er] at h7
    by_cases hz : x / y * y = x
    · rw [if_pos hz, ed]
      have z := zero.mp hz
      refine uniq _ _ 0 (yardP x y).toInt ?_ (by omega) hy' h1 h2
      rw [Int.mul_comm]; omega
    · rw [if_neg hz]
      have z : ¬ x.toInt.tmod y.toInt = 0 := fun q => hz (zero.mpr q)
      have hxn' := tI_lt.mp hxn
      rw [e0] at hxn'
      have h8 : x.toInt.tdiv y.toInt ≤ 0 := by
        have := Int.tdiv_nonneg (a := -x.toInt) (b := y.toInt) (by omega) (by omega)
        rw [Int.neg_tdiv] at this; omega
      have h9 := Int.natAbs_tdiv_le_natAbs x.toInt y.toInt
      rw [tI_sub (by rw [ed, e1]; omega) (by rw [ed, e1]; omega), ed, e1]
      refine uniq _ _ (x.toInt.tmod y.toInt + y.toInt) (yardP x y).toInt ?_ (by omega) (by omega) h1 h2
      rw [Int.sub_mul, Int.mul_comm]; omega
  · rw [if_neg (fun q => hxn ((xor_neg hy).mp q)), ed]
    have h7 : 0 ≤ x.toInt := by rw [tI_lt, e0] at hxn; omega
    have h8 := Int.tmod_nonneg (a := x.toInt) y.toInt h7
    refine uniq _ _ (x.toInt.tmod y.toInt) (yardP x y).toInt ?_ h8 h5 h1 h2
    rw [Int.mul_comm]; omega
