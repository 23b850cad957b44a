-- pairs: paced
def offN (v y : Int32) : Nat := if v = NONEv then 0 else (v.toInt - y.toInt).natAbs
def offS (A C : Nat → Int32) (t : Nat) : Nat → Nat
  | 0 => 0
  | k + 1 => offS A C t k + offN (C k) (yardA (goesA k A) t)
theorem offN_le {v y : Int32} (hv : okPl v) (hy : 0 ≤ y.toInt ∧ y.toInt < 1000) : offN v y ≤ 200000 := by
  unfold offN
  split
  · omega
  · rename_i q
    rcases hv with e | e
    · exact absurd e q
    · omega
theorem offS_le {A C : Nat → Int32} {t n : Nat} (hC : ∀ j, j < n → okPl (C j)) (hy : ∀ k, 0 ≤ (yardA (goesA k A) t).toInt ∧ (yardA (goesA k A) t).toInt < 1000) : ∀ k, k ≤ n → offS A C t k ≤ 200000 * k
  | 0, _ => Nat.le_refl _
  | k + 1, hk => by
    have a := offS_le hC hy k (by omega)
    have b := offN_le (hC k (by omega)) (hy k)
    show offS A C t k + _ ≤ _
    omega
theorem abs_off {v y : Int32} (hv : okPl v) (hn : ¬ v = NONEv) (hy : 0 ≤ y.toInt ∧ y.toInt < 1000) : absV (y - v) = nI (offN v y) := by
  unfold offN
  rw [if_neg hn]
  rcases hv with e | e
  · exact absurd e hn
  have e1 : (y - v).toInt = y.toInt - v.toInt := tI_sub (by omega) (by omega)
  have e0 : (0 : Int32).toInt = 0 := rfl
  rw [tI_eq, nI_toInt (by omega)]
  unfold absV
  by_cases q : y - v < 0
  · rw [if_pos q]
    rw [tI_lt, e1, e0] at q
    rw [tI_neg (by omega), e1]; omega
  · rw [if_neg q]
    rw [tI_lt, e1, e0] at q
    rw [e1]; omega
theorem bm64 {x : Int} (h1 : -9223372036854775808 ≤ x) (h2 : x < 9223372036854775808) : x.bmod (2 ^ 64) = x := by
  rw [Int.bmod_eq_of_le] <;> omega
theorem L_toInt {s : Nat} (h : s < 2 ^ 31) : (nI s).toInt64.toInt = s := by rw [Int32.toInt_toInt64, nI_toInt h]
theorem L_add {s c : Nat} {x : Int64} (h : s + c < 2 ^ 31) (hx : x.toInt = c) : (nI s).toInt64 + x = (nI (s + c)).toInt64 := by
  rw [← Int64.toInt_inj, Int64.toInt_add, hx, L_toInt (by omega), L_toInt h, bm64 (by omega) (by omega)]; rfl
theorem L_sub {x y : Int32} : (x.toInt64 - y.toInt64).toInt = x.toInt - y.toInt := by
  have := tI_rng x
  have := tI_rng y
  rw [Int64.toInt_sub, Int32.toInt_toInt64, Int32.toInt_toInt64, bm64 (by omega) (by omega)]
theorem L_neg {x : Int64} (h : -9223372036854775808 < x.toInt) : (-x).toInt = -x.toInt := by
  have h2 : x.toInt < 9223372036854775808 := by have := x.toInt_lt; simpa using this
  rw [Int64.toInt_neg, bm64 (by omega) (by omega)]
theorem cmpL {x y : Int64} : lg_cmp x y < 0 ↔ x.toInt < y.toInt := by
  have h := lg_cmp_ge x y
  rw [Int64.le_iff_toInt_le] at h
  have e : lg_cmp x y < 0 ↔ ¬ 0 ≤ lg_cmp x y := Int32.not_le.symm
  rw [e, h]; omega
def bst (f : Nat → Nat) : Nat → Nat
  | 0 => 0
  | k + 1 => if f (k + 1) < f (bst f k) then k + 1 else bst f k
theorem bst_le (f : Nat → Nat) : ∀ k, bst f k ≤ k
  | 0 => Nat.le_refl _
  | k + 1 => by
    have := bst_le f k
    show (if f (k + 1) < f (bst f k) then k + 1 else bst f k) ≤ k + 1
    split <;> omega
theorem yard_k {A : Nat → Int32} {t : Nat} (hn : ntA A ≤ 8) (hw : 10 ≤ (A 3).toInt ∧ (A 3).toInt ≤ 999) : ∀ k, 0 ≤ (yardA (goesA k A) t).toInt ∧ (yardA (goesA k A) t).toInt < 1000 := fun k => by
  have e : goesA k A 3 = A 3 := goes_out (by omega) (by omega) (by omega) k hn
  unfold yardA
  rw [e]
  have hp : (0 : Int32) < A 3 := by rw [tI_lt]; show (0 : Int) < _; omega
  obtain ⟨h1, h2, _⟩ := yard_rng (x := goesA k A (44 + 6 * t + 2)) hp
  omega
theorem Tr.put {m m1 : Mem} {G : Nat → Int32} {i : Nat} {v : Int32} (h : Tr m m1 G) (hi : i < 92) : Tr m (mu m1 140 i v) (upd G i v) := by
  obtain ⟨a, b, c, e⟩ := h
  refine ⟨a.mu (by simp), by rw [mu_upd, b], fun j hj => ?_, fun j hj => ?_⟩
  · rw [mu_row (by decide)]; exact c j hj
  · rw [pk_un (by omega)]; exact e j hj
theorem r_offBy {d L nt nx i t p n : Nat} {m3 m4 : Mem} {Q : Qt} {C : Nat → Int32} (hT : Tr m3 m4 (m3 140)) (h1 : m3 140 1 = nI nt) (h8 : nt ≤ 8) (h7 : m3 140 7 = nI nx) (h14 : nx ≤ 14) (hX : TX (m3 140) nx) (ht : t < nt) (hi : i < 4) (hn : n ≤ 24) (hz : m3 153 i = nI n) (hC : ∀ j, j < 24 → m3 154 (24 * i + j) = C j ∧ okPl (C j)) (hw : 10 ≤ (m3 140 3).toInt ∧ (m3 140 3).toInt ≤ 999) (hQ : ∀ m5, Tr m3 m5 (m3 140) → Q (some (.long (nI (offS (upd (m3 140) (44 + 6 * t + 1) (nI p)) C t n)).toInt64)) (S0 L) m5) : Mc (d + 8) 159 [.ref 139, .int (nI i), .int (nI t), .int (nI p)] (S0 L) m4 Q := by
  generalize hA : upd (m3 140) (44 + 6 * t + 1) (nI p) = A at hQ
  have hA1 : A 1 = nI nt := by rw [← hA, pk_un (by omega)]; exact h1
  have hA7 : A 7 = nI nx := by rw [← hA, pk_un (by omega)]; exact h7
  have hA3 : A 3 = m3 140 3 := by rw [← hA, pk_un (by omega)]
  have hnt : ntA A = nt := nt_of hA1 h8
  have hy := yard_k (t := t) (A := A) (by rw [hnt]; exact h8) (by rw [hA3]; exact hw)
  have hle := offS_le (A := A) (t := t) (n := n) (fun j hj => (hC j (by omega)).2) hy
  refine Mc_wp (cut1 13) t159 rfl rfl rfl 60 ?_
  refine ⟨⟨rfl, ltB rfl⟩, r_put (w := 1) (by omega) (by omega) ?_⟩
  have hT0 : Tr m3 (mu m4 140 (44 + 6 * t + 1) (nI p)) A := by rw [← hA]; exact hT.put (by omega)
  have ei : nI i = nI i := rfl
  have loop : ∀ j k, k + j = n → ∀ m5 x7 x8, Tr m3 m5 (goesA k A) → Xs (d + 8) 159 13 [some (.ref 139), some (.int (nI i)), some (.int (nI t)), some (.int (nI p)), some (.long (nI (offS A C t k)).toInt64), none, some (.int (nI k)), x7, x8, none] [] (S0 L) (0, 0) m5 Q := by
    intro j
    induction j with
    | zero =>
      intro k hk m5 x7 x8 hT5
      have hk : k = n := by omega
      subst hk
      have e153 : m5 153 = m3 153 := hT5.1 153 (by simp)
      refine Xs_wp (cut1 13) t159 60 ?_
      refine ⟨⟨rfl, ltB rfl, neB rfl⟩, ?_⟩
      rw [rf_sizes]
      refine ⟨⟨rfl, ltB rfl, vinK ei (show i < 4 by omega) rfl⟩, ?_⟩
      rw [clK ei (show i < 2 ^ 31 by omega)]
      rw [e153, hz]
      refine ifI (fun z => absurd z (nI_nlt (Nat.le_refl _) (by omega))) (fun _ => ?_)
      exact ⟨⟨rfl, ltB rfl⟩, hT5.back (fun m6 hT6 => hQ m6 hT6)⟩
    | succ j ih =>
      intro k hk m5 x7 x8 hT5
      have e153 : m5 153 = m3 153 := hT5.1 153 (by simp)
      have e154 : m5 154 = m3 154 := hT5.1 154 (by simp)
      have ex : (24 * nI i + nI k : Int32) = nI (24 * i + k) := by rw [show (24 : Int32) = nI 24 from rfl, pk_mul, nI_add]
      obtain ⟨c1, c2⟩ := hC k (by omega)
      have g3 : goesA k A 3 = A 3 := goes_out (by omega) (by omega) (by omega) k (by rw [hnt]; exact h8)
      have g1 : goesA k A 1 = nI nt := by rw [goes_out (by omega) (by omega) (by omega) k (by rw [hnt]; exact h8)]; exact hA1
      have g7 : goesA k A 7 = nI nx := by rw [goes_out (by omega) (by omega) (by omega) k (by rw [hnt]; exact h8)]; exact hA7
      have hk1 := hle (k + 1) (by omega)
      refine Xs_wp (cut1 13) t159 60 ?_
      refine ⟨⟨rfl, ltB rfl, neB rfl⟩, ?_⟩
      rw [rf_sizes]
      refine ⟨⟨rfl, ltB rfl, vinK ei (show i < 4 by omega) rfl⟩, ?_⟩
      rw [clK ei (show i < 2 ^ 31 by omega)]
      rw [e153, hz]
      refine ifI (fun _ => ?_) (fun z => absurd (nI_lt (by omega) (by omega)) z)
      refine ⟨⟨rfl, ltB rfl, neB rfl⟩, ?_⟩
      rw [rf_cells]
      refine ⟨⟨rfl, ltB rfl, vinK ex (show 24 * i + k < 96 by omega) rfl⟩, ?_⟩
      rw [clK ex (show 24 * i + k < 2 ^ 31 by omega)]
      rw [e154, c1]
      refine ⟨⟨rfl, ltB rfl⟩, r_yardOf (by omega) (by rw [hT5.2.1, g3, hA3]; intro z; rw [z] at hw; exact absurd hw.1 (by decide)) ?_⟩
      rw [hT5.2.1]
      have cont : ∀ m6, Tr m3 m6 (dayA (goesA k A)) → ∀ x : Int64, x.toInt = (offN (C k) (yardA (goesA k A) t) : Int) → ∀ y8 : Option Value, Xs (d + 8) 159 13 [some (.ref 139), some (.int (nI i)), some (.int (nI t)), some (.int (nI p)), some (.long ((nI (offS A C t k)).toInt64 + x)), none, some (.int (nI k + 1)), some (.int (C k)), y8, none] [] (S0 L) (0, 0) m6 Q := fun m6 hT6 x hx y8 => by
        rw [gs_day k] at hT6
        rw [L_add (c := offN (C k) (yardA (goesA k A) t)) (by have : offS A C t (k + 1) = offS A C t k + offN (C k) (yardA (goesA k A) t) := rfl; omega) hx]
        have := ih (k + 1) (by omega) m6 (some (.int (C k))) y8 hT6
        rw [← nI_1] at this
        exact this
      have hs := L_sub (x := C k) (y := yardA (goesA k A) t)
      have e0 : (0 : Int64).toInt = 0 := rfl
      refine ifI (fun q => ?_) (fun q => ?_)
      · refine ⟨⟨rfl, ltB rfl⟩, hT5.day g1 h8 g7 h14 (hT5.tx hX) (fun m6 hT6 => cont m6 hT6 0 ?_ _)⟩
        have q : C k = NONEv := q
        unfold offN; rw [if_pos q]; rfl
      · have q : ¬ C k = NONEv := q
        refine ifI (fun q2 => ?_) (fun q2 => ?_)
        · refine ⟨⟨rfl, ltB rfl⟩, hT5.day g1 h8 g7 h14 (hT5.tx hX) (fun m6 hT6 => cont m6 hT6 _ ?_ _)⟩
          rw [cmpL, hs, e0] at q2
          have r1 := tI_rng (C k)
          have r2 := hy k
          unfold offN
          rw [if_neg q, L_neg (by rw [hs]; omega), hs]; omega
        · refine ⟨⟨rfl, ltB rfl⟩, hT5.day g1 h8 g7 h14 (hT5.tx hX) (fun m6 hT6 => cont m6 hT6 _ ?_ _)⟩
          rw [cmpL, hs, e0] at q2
          unfold offN
          rw [if_neg q, hs]; omega
  exact loop n 0 (by omega) _ none none hT0
