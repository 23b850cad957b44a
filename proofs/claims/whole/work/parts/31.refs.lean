-- the reference, its small methods
theorem rf_now {L : Nat} : (S0 L).2.2.2 139 0 - 1 = 140 := rfl
theorem rf_image {L : Nat} : (S0 L).2.2.2 139 1 - 1 = 141 := rfl
theorem rf_aside {L : Nat} : (S0 L).2.2.2 139 2 - 1 = 142 := rfl
theorem rf_before {L : Nat} : (S0 L).2.2.2 139 4 - 1 = 143 := rfl
theorem rf_tape {L : Nat} : (S0 L).2.2.2 139 5 - 1 = 144 := rfl
theorem rf_keys {L : Nat} : (S0 L).2.2.2 139 13 - 1 = 145 := rfl
theorem rf_keyAt {L : Nat} : (S0 L).2.2.2 139 14 - 1 = 146 := rfl
theorem rf_code {L : Nat} : (S0 L).2.2.2 139 15 - 1 = 147 := rfl
theorem rf_waits {L : Nat} : (S0 L).2.2.2 139 18 - 1 = 148 := rfl
theorem rf_tested {L : Nat} : (S0 L).2.2.2 139 20 - 1 = 149 := rfl
theorem rf_stack {L : Nat} : (S0 L).2.2.2 139 21 - 1 = 150 := rfl
theorem rf_facts {L : Nat} : (S0 L).2.2.2 139 22 - 1 = 151 := rfl
theorem rf_sorts {L : Nat} : (S0 L).2.2.2 139 23 - 1 = 152 := rfl
theorem rf_sizes {L : Nat} : (S0 L).2.2.2 139 24 - 1 = 153 := rfl
theorem rf_cells {L : Nat} : (S0 L).2.2.2 139 25 - 1 = 154 := rfl
theorem rf_holds {L : Nat} : (S0 L).2.2.2 139 26 - 1 = 155 := rfl
theorem rf_holdsA {L : Nat} : (S0 L).2.2.2 139 27 - 1 = 156 := rfl
theorem rf_holdsB {L : Nat} : (S0 L).2.2.2 139 28 - 1 = 157 := rfl
theorem rf_heldCells {L : Nat} : (S0 L).2.2.2 139 29 - 1 = 158 := rfl
theorem rf_moved {L : Nat} : (S0 L).2.2.2 139 30 - 1 = 159 := rfl
theorem rf_tells {L : Nat} : (S0 L).2.2.2 139 31 - 1 = 160 := rfl
theorem lc0 : Int32.toNatClampNeg 0 = 0 := rfl
theorem lc1 : Int32.toNatClampNeg 1 = 1 := rfl
theorem lc2 : Int32.toNatClampNeg 2 = 2 := rfl
theorem lc3 : Int32.toNatClampNeg 3 = 3 := rfl
theorem lc4 : Int32.toNatClampNeg 4 = 4 := rfl
theorem lc5 : Int32.toNatClampNeg 5 = 5 := rfl
theorem lc6 : Int32.toNatClampNeg 6 = 6 := rfl
theorem lc7 : Int32.toNatClampNeg 7 = 7 := rfl
theorem lc8 : Int32.toNatClampNeg 8 = 8 := rfl
theorem lc9 : Int32.toNatClampNeg 9 = 9 := rfl
theorem lc10 : Int32.toNatClampNeg 10 = 10 := rfl
theorem lc11 : Int32.toNatClampNeg 11 = 11 := rfl
theorem r_in {d : Nat} {S : Shp} {mem : Mem} {Q : Qt} {v a b : Int32} (h1 : a ≤ v → v ≤ b → Q (some (.int 1)) S mem) (h0 : (v < a ∨ b < v) → Q (some (.int 0)) S mem) : Mc (d + 1) 108 [.int v, .int a, .int b] S mem Q := by
  refine Mc_wp nocut t108 rfl rfl rfl 30 ?_
  refine ifI (fun q1 => ?_) (fun q1 => ?_)
  · exact ⟨Or.inl rfl, h0 (Or.inl q1)⟩
  · refine ifI (fun q2 => ?_) (fun q2 => ?_)
    · exact ⟨Or.inl rfl, h0 (Or.inr q2)⟩
    · exact ⟨Or.inr rfl, h1 (Int32.not_lt.mp q1) (Int32.not_lt.mp q2)⟩
theorem r_within {d : Nat} {S : Shp} {mem : Mem} {Q : Qt} {v a b : Int32} (h : Q (some (.int (clamp v a b))) S mem) : Mc (d + 1) 109 [.int v, .int a, .int b] S mem Q := by
  refine Mc_wp nocut t109 rfl rfl rfl 30 ?_
  unfold clamp at h
  refine ifI (fun q1 => ?_) (fun q1 => ?_)
  · rw [if_pos q1] at h; exact h
  · rw [if_neg q1] at h
    refine ifI (fun q2 => ?_) (fun q2 => ?_)
    · rw [if_pos q2] at h; exact h
    · rw [if_neg q2] at h; exact h
theorem r_told0 {d : Nat} {S : Shp} {mem : Mem} {Q : Qt} {v : Int32} (h : Q (some (.int (tol v))) S mem) : Mc (d + 1) 111 [.int v] S mem Q := by
  refine Mc_wp nocut t111 rfl rfl rfl 30 ?_
  unfold tol at h
  refine ifI (fun q1 => ?_) (fun q1 => ?_)
  · rw [if_pos q1] at h; exact h
  · rw [if_neg q1] at h; exact h
theorem r_copyAll {d L : Nat} {mem : Mem} {Q : Qt} {a b : Nat} (ha : a = 140 ∨ a = 141 ∨ a = 142) (hb : b = 140 ∨ b = 141 ∨ b = 142) (hab : a ≠ b) (h : Q none (S0 L) (mr mem b (cpRow (mem a) (mem b) 1464))) : Mc (d + 1) 110 [.ref a, .ref b] (S0 L) mem Q := by
  have hla : (S0 L).2.1 a = 20 ∧ a < (S0 L).1 ∧ (S0 L).2.2.1 a = 1464 := by rcases ha with rfl | rfl | rfl <;> exact ⟨rfl, ltB rfl, rfl⟩
  have hlb : (S0 L).2.1 b = 20 ∧ b < (S0 L).1 ∧ (S0 L).2.2.1 b = 1464 := by rcases hb with rfl | rfl | rfl <;> exact ⟨rfl, ltB rfl, rfl⟩
  have loop : ∀ n i, i + n = 1464 → Xs (d + 1) 110 2 [some (.ref a), some (.ref b), some (.int (nI i))] [] (S0 L) (0, 0) (mr mem b (cpRow (mem a) (mem b) i)) Q := by
    intro n
    induction n with
    | zero =>
      intro i hi
      have hi : i = 1464 := by omega
      subst hi
      refine Xs_wp (cut1 2) t110 30 ?_
      exact h
    | succ n ih =>
      intro i hi
      refine Xs_wp (cut1 2) t110 30 ?_
      refine ifI (fun _ => ?_) (fun q => absurd (nI_lt (a := i) (b := 1464) (by omega) (by decide)) q)
      refine ⟨⟨hla.1, hla.2.1, by rw [hla.2.2]; exact vinN (by omega) rfl⟩, ?_⟩
      refine ⟨⟨hlb.1, hlb.2.1, by rw [hlb.2.2]; exact vinN (by omega) rfl⟩, ?_⟩
      rw [nI_clamp (by omega), mr_ne hab, mu_mr', cpRow_s]
      have := ih (i + 1) (by omega)
      rw [← nI_1] at this
      exact this
  refine Mc_wp (cut1 2) t110 rfl rfl rfl 30 ?_
  have := loop 1464 0 rfl
  rw [cpRow_0, mr_self] at this
  exact this
theorem r_isTurtle {d L : Nat} {mem : Mem} {Q : Qt} {v : Int32} {n : Nat} (hn : mem 140 1 = nI n) (hn8 : n ≤ 8) (h1 : ∀ k, k < n → v = nI k → Q (some (.int 1)) (S0 L) mem) (h0 : (v < 0 ∨ nI n ≤ v) → Q (some (.int 0)) (S0 L) mem) : Mc (d + 2) 112 [.ref 139, .int v] (S0 L) mem Q := by
  refine Mc_wp nocut t112 rfl rfl rfl 30 ?_
  refine ⟨⟨rfl, ltB rfl, neB rfl⟩, ?_⟩
  refine ⟨⟨rfl, ltB rfl, vinB rfl⟩, ?_⟩
  refine r_in (fun q1 q2 => ⟨Or.inr rfl, ?_⟩) (fun q => ⟨Or.inl rfl, ?_⟩)
  · have q3 : v ≤ mem 140 1 - 1 := q2
    rw [hn] at q3
    obtain ⟨k, hk, e⟩ := ix_good (by omega) q1 q3
    exact h1 k hk e
  · have q3 : v < 0 ∨ mem 140 1 - 1 < v := q
    rw [hn] at q3
    exact h0 ((ix_bad (by omega)).mpr q3)
theorem r_isWager {d L : Nat} {mem : Mem} {Q : Qt} {v : Int32} {n : Nat} (hn : mem 140 6 = nI n) (hn8 : n ≤ 12) (h1 : ∀ k, k < n → v = nI k → Q (some (.int 1)) (S0 L) mem) (h0 : (v < 0 ∨ nI n ≤ v) → Q (some (.int 0)) (S0 L) mem) : Mc (d + 2) 113 [.ref 139, .int v] (S0 L) mem Q := by
  refine Mc_wp nocut t113 rfl rfl rfl 30 ?_
  refine ⟨⟨rfl, ltB rfl, neB rfl⟩, ?_⟩
  refine ⟨⟨rfl, ltB rfl, vinB rfl⟩, ?_⟩
  refine r_in (fun q1 q2 => ⟨Or.inr rfl, ?_⟩) (fun q => ⟨Or.inl rfl, ?_⟩)
  · have q3 : v ≤ mem 140 6 - 1 := q2
    rw [hn] at q3
    obtain ⟨k, hk, e⟩ := ix_good (by omega) q1 q3
    exact h1 k hk e
  · have q3 : v < 0 ∨ mem 140 6 - 1 < v := q
    rw [hn] at q3
    exact h0 ((ix_bad (by omega)).mpr q3)
theorem r_of {d L : Nat} {mem : Mem} {Q : Qt} {t w : Nat} (ht : t < 8) (hw : w < 6) (h : Q (some (.int (mem 140 (44 + 6 * t + w)))) (S0 L) mem) : Mc (d + 1) 114 [.ref 139, .int (nI t), .int (nI w)] (S0 L) mem Q := by
  have e : (44 + 6 * nI t + nI w : Int32) = nI (44 + 6 * t + w) := ix3 (a := 44) (b := 6) t w
  refine Mc_wp nocut t114 rfl rfl rfl 30 ?_
  refine ⟨⟨rfl, ltB rfl, neB rfl⟩, ?_⟩
  refine ⟨⟨rfl, ltB rfl, ?_⟩, ?_⟩
  · rw [e]; exact vinN (n := 1464) (by omega) rfl
  · rw [e, nI_clamp (by omega)]; exact h
theorem r_put {d L : Nat} {mem : Mem} {Q : Qt} {t w : Nat} {v : Int32} (ht : t < 8) (hw : w < 6) (h : Q none (S0 L) (mu mem 140 (44 + 6 * t + w) v)) : Mc (d + 1) 115 [.ref 139, .int (nI t), .int (nI w), .int v] (S0 L) mem Q := by
  have e : (44 + 6 * nI t + nI w : Int32) = nI (44 + 6 * t + w) := ix3 (a := 44) (b := 6) t w
  refine Mc_wp nocut t115 rfl rfl rfl 30 ?_
  refine ⟨⟨rfl, ltB rfl, neB rfl⟩, ?_⟩
  refine ⟨⟨rfl, ltB rfl, ?_⟩, ?_⟩
  · rw [e]; exact vinN (n := 1464) (by omega) rfl
  · rw [e, nI_clamp (by omega)]; exact h
theorem r_becomes {d L : Nat} {mem : Mem} {Q : Qt} {i : Nat} {v : Int32} (hi : i < 1464) (h : Q (some (.int (mem 140 i))) (S0 L) (mu mem 140 i v)) : Mc (d + 1) 116 [.ref 139, .int (nI i), .int v] (S0 L) mem Q := by
  refine Mc_wp nocut t116 rfl rfl rfl 30 ?_
  refine ⟨⟨rfl, ltB rfl, neB rfl⟩, ?_⟩
  refine ⟨⟨rfl, ltB rfl, vinN (n := 1464) hi rfl⟩, ?_⟩
  refine ⟨⟨rfl, ltB rfl, neB rfl⟩, ?_⟩
  refine ⟨⟨rfl, ltB rfl, vinN (n := 1464) hi rfl⟩, ?_⟩
  rw [nI_clamp (by omega)]
  exact h
theorem r_comes {d L : Nat} {mem : Mem} {Q : Qt} {t : Nat} {kind pace : Int32} (hn : mem 140 1 = nI t) (ht : t < 8) (h : Q (some (.int (nI t))) (S0 L) (mr mem 140 (comesA (mem 140) t kind pace))) : Mc (d + 2) 117 [.ref 139, .int kind, .int pace] (S0 L) mem Q := by
  refine Mc_wp nocut t117 rfl rfl rfl 100 ?_
  refine ⟨⟨rfl, ltB rfl, neB rfl⟩, ?_⟩
  refine ⟨⟨rfl, ltB rfl, vinB rfl⟩, ?_⟩
  have e1 : mem ((S0 L).2.2.2 139 0 - 1) (Int32.toNatClampNeg 1) = nI t := hn
  rw [e1]
  refine ⟨⟨rfl, ltB rfl⟩, r_put (w := 2) ht (by omega) ?_⟩
  refine ⟨⟨rfl, ltB rfl⟩, r_put (w := 3) ht (by omega) ?_⟩
  refine ⟨⟨rfl, ltB rfl⟩, r_put (w := 4) ht (by omega) ?_⟩
  refine ⟨⟨rfl, ltB rfl⟩, r_put (w := 5) ht (by omega) ?_⟩
  refine ⟨⟨rfl, ltB rfl⟩, r_put (w := 0) ht (by omega) ?_⟩
  refine ⟨⟨rfl, ltB rfl⟩, r_put (w := 1) ht (by omega) ?_⟩
  refine ⟨⟨rfl, ltB rfl, neB rfl⟩, ?_⟩
  refine ⟨⟨rfl, ltB rfl, vinB rfl⟩, ?_⟩
  refine ⟨⟨rfl, ltB rfl, vinB rfl⟩, ?_⟩
  have e2 : (upd (upd (upd (upd (upd (upd (mem 140) (44 + 6 * t + 2) 0) (44 + 6 * t + 3) 0) (44 + 6 * t + 4) 0) (44 + 6 * t + 5) 0) (44 + 6 * t + 0) kind) (44 + 6 * t + 1) pace) 1 = nI t := by
    rw [pk_un (by omega), pk_un (by omega), pk_un (by omega), pk_un (by omega), pk_un (by omega), pk_un (by omega), hn]
  simp only [rf_now, lc1, mu_mr, mr_mr, mr_at, e2, nI_1]
  exact h
