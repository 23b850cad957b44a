-- rules for one event of a walk, with the numbers in their plain form
theorem neB {a : Nat} (h : Nat.beq a 0 = false) : ¬ a = 0 := fun e => by rw [e] at h; cases h
def vpB (i : Int32) (n : Nat) : Bool := decide (0 ≤ i.toInt) && decide (i.toInt < n)
theorem vinB {i : Int32} {n : Nat} (h : vpB i n = true) : vp_in i n := by
  unfold vpB at h
  simp only [Bool.and_eq_true, decide_eq_true_eq] at h
  exact vp_in_iff.mpr h
theorem vinN {k n : Nat} (h : k < n) (hn : Nat.blt n 2147483648 = true) : vp_in (nI k) n := by
  have h2 : n < 2147483648 := by simpa using hn
  exact vp_in_nI h (by omega)
theorem vinK {i : Int32} {k n : Nat} (e : i = nI k) (h : k < n) (hn : Nat.blt n 2147483648 = true) : vp_in i n := by rw [e]; exact vinN h hn
theorem clK {i : Int32} {k : Nat} (e : i = nI k) (h : k < 2 ^ 31) : i.toNatClampNeg = k := by rw [e]; exact nI_clamp h
theorem leB {a n : Nat} (h : Nat.ble a n = true) : a ≤ n := Nat.le_of_ble_eq_true h
theorem ifT {c A B : Prop} [Decidable c] (h : c) (a : A) : if c then A else B := by rw [if_pos h]; exact a
theorem ifF {c A B : Prop} [Decidable c] (h : ¬ c) (b : B) : if c then A else B := by rw [if_neg h]; exact b
theorem qif {Q : Qt} {S : Shp} {mem : Mem} {c : Prop} [Decidable c] {a b : Int32} (h : Q (some (.int (if c then a else b))) S mem) : (c → Q (some (.int a)) S mem) ∧ (¬ c → Q (some (.int b)) S mem) :=
  ⟨fun q => by rw [if_pos q] at h; exact h, fun q => by rw [if_neg q] at h; exact h⟩
theorem add_m1 (x : Int32) : x + (-1) = x - 1 := by rw [Int32.sub_eq_add_neg]
def mr (m : Mem) (a : Nat) (f : Nat → Int32) : Mem := fun b => if b = a then f else m b
theorem mr_at {m : Mem} {a : Nat} {f : Nat → Int32} : mr m a f a = f := if_pos rfl
theorem mr_ne {m : Mem} {a b : Nat} {f : Nat → Int32} (h : b ≠ a) : mr m a f b = m b := if_neg h
theorem mr_mr {m : Mem} {a : Nat} {f g : Nat → Int32} : mr (mr m a f) a g = mr m a g := by
  funext b
  by_cases h : b = a
  · subst h; rw [mr_at, mr_at]
  · rw [mr_ne h, mr_ne h, mr_ne h]
theorem mu_mr {m : Mem} {a i : Nat} {v : Int32} : mu m a i v = mr m a (upd (m a) i v) := by
  funext b
  by_cases h : b = a
  · subst h; rw [mr_at, mu_upd]
  · rw [mr_ne h, mu_row h]
theorem mu_mr' {m : Mem} {a i : Nat} {v : Int32} {f : Nat → Int32} : mu (mr m a f) a i v = mr m a (upd f i v) := by rw [mu_mr, mr_mr, mr_at]
theorem mr_self {m : Mem} {a : Nat} : mr m a (m a) = m := by
  funext b
  by_cases h : b = a
  · subst h; rw [mr_at]
  · rw [mr_ne h]
def cpRow (f g : Nat → Int32) (i : Nat) : Nat → Int32 := fun k => if k < i then f k else g k
theorem cpRow_0 {f g : Nat → Int32} : cpRow f g 0 = g := by funext k; exact if_neg (Nat.not_lt_zero k)
theorem cpRow_s {f g : Nat → Int32} {i : Nat} : upd (cpRow f g i) i (f i) = cpRow f g (i + 1) := by
  funext k
  unfold upd cpRow
  by_cases h : k = i
  · subst h; simp
  · by_cases h2 : k < i
    · rw [if_neg h, if_pos h2, if_pos (by omega)]
    · rw [if_neg h, if_neg h2, if_neg (by omega)]
theorem Fr.mr {l : List Nat} {m m' : Mem} {a : Nat} {f : Nat → Int32} (h : Fr l m m') (ha : a ∈ l) : Fr l m (mr m' a f) := fun b hb => (mr_ne (fun e => hb (by rw [e]; exact ha))).trans (h b hb)
theorem ix3 {a b : Nat} (t w : Nat) : (nI a + nI b * nI t + nI w : Int32) = nI (a + b * t + w) := by rw [pk_mul, nI_add, nI_add]
theorem ix2 {a b : Nat} (t : Nat) : (nI a + nI b * nI t : Int32) = nI (a + b * t) := by rw [pk_mul, nI_add]
theorem ix_bad {v : Int32} {n : Nat} (hn : n < 2 ^ 30) : (v < 0 ∨ nI n ≤ v) ↔ (v < 0 ∨ nI n - 1 < v) := by
  have e1 : (nI n - 1).toInt = (n : Int) - 1 := pk_sub_toInt (a := n) (b := 1) hn (by omega)
  rw [Int32.le_iff_toInt_le, Int32.lt_iff_toInt_lt (x := nI n - 1), e1, nI_toInt (by omega)]
  constructor
  · rintro (q | q)
    · exact Or.inl q
    · exact Or.inr (by omega)
  · rintro (q | q)
    · exact Or.inl q
    · exact Or.inr (by omega)
theorem ix_good {v : Int32} {n : Nat} (hn : n < 2 ^ 30) (h1 : 0 ≤ v) (h2 : v ≤ nI n - 1) : ∃ k, k < n ∧ v = nI k := by
  have e1 : (nI n - 1).toInt = (n : Int) - 1 := pk_sub_toInt (a := n) (b := 1) hn (by omega)
  obtain ⟨k, hk, rfl⟩ := nI_of (x := v) (Int32.not_lt.mpr h1)
  rw [Int32.le_iff_toInt_le, e1, nI_toInt hk] at h2
  exact ⟨k, by omega, rfl⟩
theorem rb_a {L a n : Nat} (h1 : (S0 L).2.1 a = 20) (h2 : Nat.blt a 161 = true) (h3 : (S0 L).2.2.1 a = n) : (S0 L).2.1 a = 20 ∧ a < (S0 L).1 ∧ (S0 L).2.2.1 a = n := ⟨h1, ltB h2, h3⟩
/-- the reference's array now, and others of it -/
theorem Rnow {L : Nat} : (S0 L).2.1 140 = 20 ∧ 140 < (S0 L).1 ∧ (S0 L).2.2.1 140 = 1464 := ⟨rfl, ltB rfl, rfl⟩
theorem Rstk {L : Nat} : (S0 L).2.1 150 = 20 ∧ 150 < (S0 L).1 ∧ (S0 L).2.2.1 150 = 96 := ⟨rfl, ltB rfl, rfl⟩
theorem Rfac {L : Nat} : (S0 L).2.1 151 = 20 ∧ 151 < (S0 L).1 ∧ (S0 L).2.2.1 151 = 4 := ⟨rfl, ltB rfl, rfl⟩
theorem Rbef {L : Nat} : (S0 L).2.1 143 = 20 ∧ 143 < (S0 L).1 ∧ (S0 L).2.2.1 143 = 92 := ⟨rfl, ltB rfl, rfl⟩
