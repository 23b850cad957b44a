-- the class: its small methods
def minV (a b : Int32) : Int32 := if b < a then b else a
def maxV (a b : Int32) : Int32 := if a < b then b else a
theorem c_min {d : Nat} {S : Shp} {mem : Mem} {Q : Qt} {a b : Int32} (h : Q (some (.int (minV a b))) S mem) : Mc (d + 1) 202 [.int a, .int b] S mem Q := by
  refine Mc_wp nocut t202 rfl rfl rfl 30 ?_
  obtain ⟨h1, h2⟩ := qif h
  exact ifI (fun q => h1 q) (fun q => h2 q)
theorem c_max {d : Nat} {S : Shp} {mem : Mem} {Q : Qt} {a b : Int32} (h : Q (some (.int (maxV a b))) S mem) : Mc (d + 1) 201 [.int a, .int b] S mem Q := by
  refine Mc_wp nocut t201 rfl rfl rfl 30 ?_
  obtain ⟨h1, h2⟩ := qif h
  exact ifI (fun q => h1 q) (fun q => h2 q)
def absV (a : Int32) : Int32 := if a < 0 then -a else a
theorem c_abs {d : Nat} {S : Shp} {mem : Mem} {Q : Qt} {a : Int32} (h : Q (some (.int (absV a))) S mem) : Mc (d + 1) 200 [.int a] S mem Q := by
  refine Mc_wp nocut t200 rfl rfl rfl 30 ?_
  obtain ⟨h1, h2⟩ := qif h
  exact ifI (fun q => h1 q) (fun q => h2 q)
def fmV (x y : Int32) : Int32 := if x ^^^ y < 0 then (if rm x y = 0 then rm x y else rm x y + y) else rm x y
def fdV (x y : Int32) : Int32 := if x ^^^ y < 0 then (if x / y * y = x then x / y else x / y - 1) else x / y
theorem c_floorMod {d : Nat} {S : Shp} {mem : Mem} {Q : Qt} {x y : Int32} (hy : ¬ y = 0) (h : Q (some (.int (fmV x y))) S mem) : Mc (d + 1) 199 [.int x, .int y] S mem Q := by
  refine Mc_wp nocut t199 rfl rfl rfl 30 ?_
  refine ⟨hy, ?_⟩
  unfold fmV rm at h
  obtain ⟨h1, h2⟩ := qif h
  refine ifI (fun q => ?_) (fun q => h2 q)
  obtain ⟨h3, h4⟩ := qif (h1 q)
  exact ifI (fun z => h3 z) (fun z => h4 z)
theorem c_floorDiv {d : Nat} {S : Shp} {mem : Mem} {Q : Qt} {x y : Int32} (hy : ¬ y = 0) (h : Q (some (.int (fdV x y))) S mem) : Mc (d + 1) 198 [.int x, .int y] S mem Q := by
  refine Mc_wp nocut t198 rfl rfl rfl 30 ?_
  refine ⟨hy, ?_⟩
  unfold fdV at h
  obtain ⟨h1, h2⟩ := qif h
  refine ifI (fun q => ?_) (fun q => h2 q)
  obtain ⟨h3, h4⟩ := qif (h1 q)
  exact ifI (fun z => h3 z) (fun z => h4 z)
theorem c_held {d : Nat} {S : Shp} {mem : Mem} {Q : Qt} {v a : Int32} (h : Q (some (.int (maxV 0 (minV v a)))) S mem) : Mc (d + 2) 103 [.int v, .int a] S mem Q := by
  refine Mc_wp nocut t103 rfl rfl rfl 30 ?_
  refine c_min ?_
  refine c_max ?_
  exact h
theorem held_clamp {v a : Int32} (ha : 0 ≤ a) : maxV 0 (minV v a) = clamp v 0 a := by
  unfold maxV minV clamp
  have h0 : (0 : Int32).toInt = 0 := rfl
  rw [Int32.le_iff_toInt_le, h0] at ha
  by_cases h1 : a < v
  · rw [if_pos h1]
    have h1' := Int32.lt_iff_toInt_lt.mp h1
    by_cases h2 : 0 < a
    · rw [if_pos h2]
      have h2' := Int32.lt_iff_toInt_lt.mp h2
      rw [h0] at h2'
      rw [if_neg (by rw [Int32.lt_iff_toInt_lt, h0]; omega)]
    · rw [if_neg h2]
      have h2' : ¬ (0 : Int32).toInt < a.toInt := fun q => h2 (Int32.lt_iff_toInt_lt.mpr q)
      rw [h0] at h2'
      have e : a = 0 := by rw [← Int32.toInt_inj, h0]; omega
      rw [if_neg (by rw [Int32.lt_iff_toInt_lt, h0]; omega), e]
  · rw [if_neg h1]
    by_cases h2 : 0 < v
    · rw [if_pos h2]
      have h2' := Int32.lt_iff_toInt_lt.mp h2
      rw [h0] at h2'
      rw [if_neg (by rw [Int32.lt_iff_toInt_lt, h0]; omega)]
    · rw [if_neg h2]
      by_cases h3 : v < 0
      · rw [if_pos h3]
      · rw [if_neg h3]
        have h2' : ¬ (0 : Int32).toInt < v.toInt := fun q => h2 (Int32.lt_iff_toInt_lt.mpr q)
        have h3' : ¬ v.toInt < (0 : Int32).toInt := fun q => h3 (Int32.lt_iff_toInt_lt.mpr q)
        rw [h0] at h2' h3'
        rw [← Int32.toInt_inj, h0]; omega
theorem ge0 (x : Int32) : ¬ x < 0 ↔ 0 ≤ x := Int32.not_lt
/-- within(v, 0, n - 1) -/
theorem ix_split {v b : Int32} {n : Nat} (hb : b = nI n) (h1 : 0 ≤ v) (h2 : v ≤ b) : ∃ k, k < n + 1 ∧ v = nI k := by
  subst hb
  obtain ⟨k, hk, rfl⟩ := nI_of (x := v) (Int32.not_lt.mpr h1)
  refine ⟨k, ?_, rfl⟩
  by_cases hn : n < 2 ^ 31
  · have := (nI_leI hk hn).mp h2; omega
  · omega
theorem c_isKind {d : Nat} {S : Shp} {mem : Mem} {Q : Qt} {v : Int32} (h1 : 0 ≤ v → v ≤ 5 → Q (some (.int 1)) S mem) (h0 : (v < 0 ∨ 5 < v) → Q (some (.int 0)) S mem) : Mc (d + 2) 104 [.int v] S mem Q := by
  refine Mc_wp nocut t104 rfl rfl rfl 30 ?_
  exact c_within (fun q1 q2 => ⟨Or.inr rfl, h1 q1 q2⟩) (fun q => ⟨Or.inl rfl, h0 q⟩)
theorem c_isOwner {d : Nat} {S : Shp} {mem : Mem} {Q : Qt} {v : Int32} (h1 : 0 ≤ v → v ≤ 7 → Q (some (.int 1)) S mem) (h0 : (v < 0 ∨ 7 < v) → Q (some (.int 0)) S mem) : Mc (d + 2) 105 [.int v] S mem Q := by
  refine Mc_wp nocut t105 rfl rfl rfl 30 ?_
  exact c_within (fun q1 q2 => ⟨Or.inr rfl, h1 q1 q2⟩) (fun q => ⟨Or.inl rfl, h0 q⟩)
theorem c_isSheet {d : Nat} {S : Shp} {mem : Mem} {Q : Qt} {v : Int32} (h1 : 0 ≤ v → v ≤ 3 → Q (some (.int 1)) S mem) (h0 : (v < 0 ∨ 3 < v) → Q (some (.int 0)) S mem) : Mc (d + 2) 106 [.int v] S mem Q := by
  refine Mc_wp nocut t106 rfl rfl rfl 30 ?_
  exact c_within (fun q1 q2 => ⟨Or.inr rfl, h1 q1 q2⟩) (fun q => ⟨Or.inl rfl, h0 q⟩)
theorem c_isSlot {d : Nat} {S : Shp} {mem : Mem} {Q : Qt} {v : Int32} (h1 : 0 ≤ v → v ≤ 4 → Q (some (.int 1)) S mem) (h0 : (v < 0 ∨ 4 < v) → Q (some (.int 0)) S mem) : Mc (d + 2) 107 [.int v] S mem Q := by
  refine Mc_wp nocut t107 rfl rfl rfl 30 ?_
  exact c_within (fun q1 q2 => ⟨Or.inr rfl, h1 q1 q2⟩) (fun q => ⟨Or.inl rfl, h0 q⟩)
-- turtles and wagers, cell by cell
def tuC (L c : Nat) : Prop := (S0 L).2.1 c = 6 ∧ c < (S0 L).1
def waC (L c : Nat) : Prop := (S0 L).2.1 c = 7 ∧ c < (S0 L).1
def hatchM (m : Mem) (c : Nat) (k p : Int32) : Mem := mu (mu (mu (mu (mu (mu m c 0 k) c 1 p) c 2 0) c 3 0) c 4 0) c 5 0
theorem c_hatch {d L : Nat} {mem : Mem} {Q : Qt} {c : Nat} {k p : Int32} (hc : tuC L c) (h : Q none (S0 L) (hatchM mem c k p)) : Mc (d + 1) 48 [.ref c, .int k, .int p] (S0 L) mem Q := by
  refine Mc_wp nocut t48 rfl rfl rfl 60 ?_
  refine ⟨hc, ?_⟩
  refine ⟨hc, ?_⟩
  refine ⟨hc, ?_⟩
  refine ⟨hc, ?_⟩
  refine ⟨⟨hc.1, hc.2, Or.inl rfl⟩, ?_⟩
  refine ⟨⟨hc.1, hc.2, Or.inl rfl⟩, ?_⟩
  exact h
/-- cell c becomes as cell e in its first n places -/
def cpC (m : Mem) (c e n : Nat) : Mem := mr m c (cpRow (m e) (m c) n)
theorem cpC_s {m : Mem} {c e n : Nat} (h : e ≠ c) : mu (cpC m c e n) c n (cpC m c e n e n) = cpC m c e (n + 1) := by
  unfold cpC
  rw [mr_ne h, mu_mr', cpRow_s]
theorem cpC_0 {m : Mem} {c e : Nat} : cpC m c e 0 = m := by unfold cpC; rw [cpRow_0, mr_self]
theorem c_tbecome {d L : Nat} {mem : Mem} {Q : Qt} {c e : Nat} (hc : tuC L c) (he : tuC L e) (hne : e ≠ c) (h4 : mem e 4 = 0 ∨ mem e 4 = 1) (h5 : mem e 5 = 0 ∨ mem e 5 = 1) (h : Q none (S0 L) (cpC mem c e 6)) : Mc (d + 1) 49 [.ref c, .ref e] (S0 L) mem Q := by
  have key : ∀ n, mu (cpC mem c e n) c n (cpC mem c e n e n) = cpC mem c e (n + 1) := fun n => cpC_s hne
  have k0 : mu mem c 0 (mem e 0) = cpC mem c e 1 := by have := key 0; rw [cpC_0] at this; exact this
  have row : ∀ n, cpC mem c e n e = mem e := fun n => by unfold cpC; exact mr_ne hne
  refine Mc_wp nocut t49 rfl rfl rfl 60 ?_
  refine ⟨he, ?_⟩
  refine ⟨hc, ?_⟩
  rw [k0]
  refine ⟨he, ?_⟩
  refine ⟨hc, ?_⟩
  rw [key 1]
  refine ⟨he, ?_⟩
  refine ⟨hc, ?_⟩
  rw [key 2]
  refine ⟨he, ?_⟩
  refine ⟨hc, ?_⟩
  rw [key 3]
  refine ⟨he, ?_⟩
  refine ⟨⟨hc.1, hc.2, by rw [row]; exact h4⟩, ?_⟩
  rw [key 4]
  refine ⟨he, ?_⟩
  refine ⟨⟨hc.1, hc.2, by rw [row]; exact h5⟩, ?_⟩
  rw [key 5]
  exact h
theorem c_wbecome {d L : Nat} {mem : Mem} {Q : Qt} {c e : Nat} (hc : waC L c) (he : waC L e) (hne : e ≠ c) (h : Q none (S0 L) (cpC mem c e 3)) : Mc (d + 1) 53 [.ref c, .ref e] (S0 L) mem Q := by
  have key : ∀ n, mu (cpC mem c e n) c n (cpC mem c e n e n) = cpC mem c e (n + 1) := fun n => cpC_s hne
  have k0 : mu mem c 0 (mem e 0) = cpC mem c e 1 := by have := key 0; rw [cpC_0] at this; exact this
  refine Mc_wp nocut t53 rfl rfl rfl 60 ?_
  refine ⟨he, ?_⟩
  refine ⟨hc, ?_⟩
  rw [k0]
  refine ⟨he, ?_⟩
  refine ⟨hc, ?_⟩
  rw [key 1]
  refine ⟨he, ?_⟩
  refine ⟨hc, ?_⟩
  rw [key 2]
  exact h
theorem c_worth {d L : Nat} {mem : Mem} {Q : Qt} {c : Nat} (hc : tuC L c) (h : Q (some (.int (worthV (mem c 0) (mem c 1)))) (S0 L) mem) : Mc (d + 1) 51 [.ref c] (S0 L) mem Q := by
  refine Mc_wp nocut t51 rfl rfl rfl 60 ?_
  refine ⟨hc, ?_⟩
  unfold worthV at h
  obtain ⟨h1, h⟩ := qif h
  refine ifI (fun q => ⟨hc, h1 q⟩) (fun q => ?_)
  obtain ⟨h2, h⟩ := qif (h q)
  refine ifI (fun q => ⟨hc, h2 q⟩) (fun q => ?_)
  obtain ⟨h3, h⟩ := qif (h q)
  refine ifI (fun q => ⟨hc, h3 q⟩) (fun q => ?_)
  obtain ⟨h4, h⟩ := qif (h q)
  refine ifI (fun q => ⟨hc, ?_⟩) (fun q => ?_)
  · have e : (42 : Int32) - mem c 1 = 50 - mem c 1 - 8 := by
      rw [show (42 : Int32) = 50 - 8 from rfl]
      simp only [Int32.sub_eq_add_neg, Int32.add_assoc]
      rw [Int32.add_comm (-8)]
    have := h4 q
    rw [e] at this
    exact this
  obtain ⟨h5, h⟩ := qif (h q)
  refine ifI (fun q => h5 q) (fun q => ⟨hc, h q⟩)
/-- is kind k one of kind w, or under it -/
def undV (k w : Int32) : Bool := decide (w = 0) || decide (k = w) || (decide (w = 1) && decide (k = 3)) || (decide (w = 2) && decide (k = 4))
theorem c_isOfS {d L : Nat} {mem : Mem} {Q : Qt} {c k w i : Nat} (hk6 : k < 6) (hi : i < 6) (h1 : nI k = nI w → Q (some (.int 1)) (S0 L) mem) (h0 : ¬ nI k = nI w → Xs (d + 3) 50 7 [some (.ref c), some (.int (nI w)), some (.int (abv k)), some (.int (nI i + 1))] [] (S0 L) (0, 0) mem Q) :
    Xs (d + 3) 50 7 [some (.ref c), some (.int (nI w)), some (.int (nI k)), some (.int (nI i))] [] (S0 L) (0, 0) mem Q := by
  refine Xs_wp (cut1 7) t50 60 ?_
  refine ifI (fun _ => ?_) (fun q => absurd (nI_lt (a := i) (b := 6) (by omega) (by decide)) q)
  refine c_isKind (fun q1 q2 => ?_) (fun q => ?_)
  · refine ifI (fun z => ?_) (fun z => ?_)
    · exact ⟨Or.inr rfl, h1 z⟩
    · refine ⟨vinN (n := 6) (by omega) rfl, ?_⟩
      rw [nI_clamp (by omega)]
      exact h0 z
  · rcases q with q | q
    · exact absurd q (nI_pos (by omega))
    · exact absurd q (nI_nlt (a := 5) (b := k) (by omega) (by omega))
theorem c_isOfE {d L : Nat} {mem : Mem} {Q : Qt} {c w i : Nat} (hi : i < 6) (h0 : Q (some (.int 0)) (S0 L) mem) : Xs (d + 3) 50 7 [some (.ref c), some (.int (nI w)), some (.int (-1)), some (.int (nI i))] [] (S0 L) (0, 0) mem Q := by
  refine Xs_wp (cut1 7) t50 60 ?_
  refine ifI (fun _ => ?_) (fun q => absurd (nI_lt (a := i) (b := 6) (by omega) (by decide)) q)
  refine c_isKind (fun q1 q2 => absurd q1 (by decide)) (fun q => ?_)
  exact ⟨Or.inl rfl, h0⟩
theorem und_eq : ∀ k w, k < 6 → w < 6 → (undV (nI k) (nI w) = true ↔ (k = w ∨ w = 0 ∨ (k = 3 ∧ w = 1) ∨ (k = 4 ∧ w = 2))) := by
  intro k w hk hw
  unfold undV
  rcases (show k = 0 ∨ k = 1 ∨ k = 2 ∨ k = 3 ∨ k = 4 ∨ k = 5 by omega) with rfl | rfl | rfl | rfl | rfl | rfl <;>
  rcases (show w = 0 ∨ w = 1 ∨ w = 2 ∨ w = 3 ∨ w = 4 ∨ w = 5 by omega) with rfl | rfl | rfl | rfl | rfl | rfl <;> decide
theorem c_isOf {d L : Nat} {mem : Mem} {Q : Qt} {c k w : Nat} (hc : tuC L c) (hk : mem c 0 = nI k) (hk6 : k < 6) (hw6 : w < 6) (h1 : undV (nI k) (nI w) = true → Q (some (.int 1)) (S0 L) mem) (h0 : ¬ undV (nI k) (nI w) = true → Q (some (.int 0)) (S0 L) mem) : Mc (d + 3) 50 [.ref c, .int (nI w)] (S0 L) mem Q := by
  rw [und_eq k w hk6 hw6] at h1 h0
  refine Mc_wp (cut1 7) t50 rfl rfl rfl 60 ?_
  refine ⟨hc, ?_⟩
  rw [hk]
  have ne : ∀ {a : Nat}, a < 6 → ¬ nI a = nI w → ¬ a = w := fun ha q e => q (by rw [e])
  have eq' : ∀ {a : Nat}, a < 6 → nI a = nI w → a = w := fun ha q => (nI_eq (by omega) (by omega)).mp q
  have z0 : ∀ i, i < 5 → (w = 0 → Q (some (.int 1)) (S0 L) mem) → (¬ w = 0 → Q (some (.int 0)) (S0 L) mem) → Xs (d + 3) 50 7 [some (.ref c), some (.int (nI w)), some (.int 0), some (.int (nI i))] [] (S0 L) (0, 0) mem Q := by
    intro i hi a b
    refine c_isOfS (k := 0) (by omega) (by omega) (fun q => a (eq' (by omega) q).symm) (fun q => ?_)
    rw [nI_1]
    exact c_isOfE (by omega) (b (fun e => ne (by omega) q e.symm))
  have z1 : ∀ k1 i, (k1 = 1 ∨ k1 = 2 ∨ k1 = 5) → i < 4 → (w = k1 ∨ w = 0 → Q (some (.int 1)) (S0 L) mem) → (¬ (w = k1 ∨ w = 0) → Q (some (.int 0)) (S0 L) mem) → Xs (d + 3) 50 7 [some (.ref c), some (.int (nI w)), some (.int (nI k1)), some (.int (nI i))] [] (S0 L) (0, 0) mem Q := by
    intro k1 i hk1 hi a b
    refine c_isOfS (k := k1) (by omega) (by omega) (fun q => a (Or.inl (eq' (by omega) q).symm)) (fun q => ?_)
    have hne := ne (by omega) q
    have e : abv k1 = 0 := by rcases hk1 with rfl | rfl | rfl <;> rfl
    rw [nI_1, e]
    exact z0 _ (by omega) (fun e => a (Or.inr e)) (fun e => b (by omega))
  rcases (show k = 0 ∨ k = 1 ∨ k = 2 ∨ k = 5 ∨ k = 3 ∨ k = 4 by omega) with rfl | rfl | rfl | rfl | rfl | rfl
  · exact z0 0 (by omega) (fun e => h1 (by omega)) (fun e => h0 (by omega))
  · exact z1 1 0 (by omega) (by omega) (fun e => h1 (by omega)) (fun e => h0 (by omega))
  · exact z1 2 0 (by omega) (by omega) (fun e => h1 (by omega)) (fun e => h0 (by omega))
  · exact z1 5 0 (by omega) (by omega) (fun e => h1 (by omega)) (fun e => h0 (by omega))
  · refine c_isOfS (k := 3) (i := 0) (by omega) (by omega) (fun q => h1 (Or.inl (eq' (by omega) q))) (fun q => ?_)
    have hne := ne (by omega) q
    exact z1 1 1 (by omega) (by omega) (fun e => h1 (by omega)) (fun e => h0 (by omega))
  · refine c_isOfS (k := 4) (i := 0) (by omega) (by omega) (fun q => h1 (Or.inl (eq' (by omega) q))) (fun q => ?_)
    have hne := ne (by omega) q
    exact z1 2 1 (by omega) (by omega) (fun e => h1 (by omega)) (fun e => h0 (by omega))
theorem r_isUnder {d : Nat} {S : Shp} {mem : Mem} {Q : Qt} {k w : Int32} (h1 : undV k w = true → Q (some (.int 1)) S mem) (h0 : ¬ undV k w = true → Q (some (.int 0)) S mem) : Mc (d + 1) 125 [.int k, .int w] S mem Q := by
  have u : undV k w = true ↔ (w = 0 ∨ k = w ∨ (w = 1 ∧ k = 3) ∨ (w = 2 ∧ k = 4)) := by
    unfold undV
    simp only [Bool.or_eq_true, Bool.and_eq_true, decide_eq_true_eq, or_assoc]
  rw [u] at h1 h0
  have t1 : ∀ {A : Prop}, A → A := fun h => h
  refine Mc_wp nocut t125 rfl rfl rfl 60 ?_
  have y : (w = 0 ∨ k = w ∨ (w = 1 ∧ k = 3) ∨ (w = 2 ∧ k = 4)) → ((1 : Int32) = 0 ∨ (1 : Int32) = 1) ∧ Q (some (.int 1)) S mem := fun q => ⟨Or.inr rfl, h1 q⟩
  have n : ¬ (w = 0 ∨ k = w ∨ (w = 1 ∧ k = 3) ∨ (w = 2 ∧ k = 4)) → ((0 : Int32) = 0 ∨ (0 : Int32) = 1) ∧ Q (some (.int 0)) S mem := fun q => ⟨Or.inl rfl, h0 q⟩
  refine ifI (fun q => y (Or.inl q)) (fun q1 => ?_)
  refine ifI (fun q => y (Or.inr (Or.inl q))) (fun q2 => ?_)
  have last : ¬ (w = 1 ∧ k = 3) → if w = 2 then (if k = 4 then ((1 : Int32) = 0 ∨ (1 : Int32) = 1) ∧ Q (some (.int 1)) S mem else ((0 : Int32) = 0 ∨ (0 : Int32) = 1) ∧ Q (some (.int 0)) S mem) else ((0 : Int32) = 0 ∨ (0 : Int32) = 1) ∧ Q (some (.int 0)) S mem := by
    intro q3
    refine ifI (fun q4 => ?_) (fun q4 => n (by rintro (q | q | q | q); exact q1 q; exact q2 q; exact q3 q; exact q4 q.1))
    refine ifI (fun q5 => y (Or.inr (Or.inr (Or.inr ⟨q4, q5⟩)))) (fun q5 => n (by rintro (q | q | q | q); exact q1 q; exact q2 q; exact q3 q; exact q5 q.2))
  refine ifI (fun q3 => ?_) (fun q3 => ?_)
  · refine ifI (fun q => y (Or.inr (Or.inr (Or.inl ⟨q3, q⟩)))) (fun q4 => ?_)
    exact last (fun q => q4 q.2)
  · exact last (fun q => q3 q.1)
