-- the class: texts worked out
theorem tx_cl : ∀ x, x < 15 → CLy (5 + 2 * x) = 5 ∧ CLy (6 + 2 * x) = 20 ∧ LNz (6 + 2 * x) = 96 ∧ RFy (5 + 2 * x) 0 = 7 + 2 * x ∧ RFy 2 x = 6 + 2 * x := by decide
theorem txC {L x : Nat} (h : x < 15) : (S0 L).2.1 (5 + 2 * x) = 5 ∧ 5 + 2 * x < (S0 L).1 := ⟨(tx_cl x h).1, show 5 + 2 * x < 161 by omega⟩
theorem txR {L x : Nat} (h : x < 15) : (S0 L).2.1 (5 + 2 * x) = 5 ∧ 5 + 2 * x < (S0 L).1 ∧ ¬ (S0 L).2.2.2 (5 + 2 * x) 0 = 0 := ⟨(tx_cl x h).1, show 5 + 2 * x < 161 by omega, by rw [show (S0 L).2.2.2 (5 + 2 * x) 0 = RFy (5 + 2 * x) 0 from rfl, (tx_cl x h).2.2.2.1]; omega⟩
theorem txV {L x : Nat} (h : x < 15) : (S0 L).2.2.2 (5 + 2 * x) 0 - 1 = 6 + 2 * x := by rw [show (S0 L).2.2.2 (5 + 2 * x) 0 = RFy (5 + 2 * x) 0 from rfl, (tx_cl x h).2.2.2.1]; omega
theorem txA {L x k : Nat} {i : Int32} (h : x < 15) (e : i = nI k) (hk : k < 96) : (S0 L).2.1 (6 + 2 * x) = 20 ∧ 6 + 2 * x < (S0 L).1 ∧ vp_in i ((S0 L).2.2.1 (6 + 2 * x)) := by
  refine ⟨(tx_cl x h).2.1, show 6 + 2 * x < 161 by omega, ?_⟩
  have e1 : (S0 L).2.2.1 (6 + 2 * x) = LNy L (6 + 2 * x) := rfl
  have e2 : LNy L (6 + 2 * x) = LNz (6 + 2 * x) := by
    unfold LNy
    have : Nat.beq (6 + 2 * x) 900 = false := by
      cases hq : Nat.beq (6 + 2 * x) 900
      · rfl
      · have := Nat.eq_of_beq_eq_true hq; omega
    rw [this]; rfl
  rw [e1, e2, (tx_cl x h).2.2.1]
  exact vinK e hk rfl
def trS (s : Int32) : Int32 := if s = 124 then -1 else if s = 38 then -2 else if s = 60 then -3 else if s = 61 then -4 else if s = 62 then -5 else if s = 43 then -6 else if s = 45 then -7 else if s = 42 then -8 else -9
def trC (c : Int32) : Int32 := if c < 10100 then c else if c = 10133 then -10 else trS (c - 10100)
theorem c_joined {d : Nat} {S : Shp} {mem : Mem} {Q : Qt} {s a b : Int32} (h : Q (some (.int (twoV (trS s) a b))) S mem) : Mc (d + 1) 2 [.int s, .int a, .int b] S mem Q := by
  refine Mc_wp nocut t2 rfl rfl rfl 60 ?_
  have key : ∀ {c : Int32} {r : Int32}, s = c → twoV (trS c) a b = r → Q (some (.int r)) S mem := fun e1 e2 => by rw [← e2, ← e1]; exact h
  refine ifI (fun q => ?_) (fun q2 => ?_)
  · refine ifI (fun z => ?_) (fun z => ?_)
    · exact key (c := 38) q (if_pos z)
    · refine ifI (fun y => ?_) (fun y => ?_)
      · exact key (c := 38) q ((if_neg z).trans (if_pos y))
      · exact key (c := 38) q ((if_neg z).trans (if_neg y))
  refine ifI (fun q => ?_) (fun q8 => ?_)
  · exact key (c := 42) q rfl
  refine ifI (fun q => ?_) (fun q6 => ?_)
  · exact key (c := 43) q rfl
  refine ifI (fun q => ?_) (fun q7 => ?_)
  · exact key (c := 45) q rfl
  refine ifI (fun q => ?_) (fun q3 => ?_)
  · refine ifI (fun z => ?_) (fun z => ?_)
    · exact key (c := 60) q (if_pos z)
    · exact key (c := 60) q (if_neg z)
  refine ifI (fun q => ?_) (fun q4 => ?_)
  · refine ifI (fun z => ?_) (fun z => ?_)
    · exact key (c := 61) q (if_pos z)
    · exact key (c := 61) q (if_neg z)
  refine ifI (fun q => ?_) (fun q5 => ?_)
  · refine ifI (fun z => ?_) (fun z => ?_)
    · exact key (c := 62) q (if_pos z)
    · exact key (c := 62) q (if_neg z)
  refine ifI (fun q => ?_) (fun q1 => ?_)
  · refine ifI (fun z => ?_) (fun z => ?_)
    · refine ifI (fun y => ?_) (fun y => ?_)
      · exact key (c := 124) q ((if_pos z).trans (if_pos y))
      · exact key (c := 124) q ((if_pos z).trans (if_neg y))
    · exact key (c := 124) q (if_neg z)
  have e9 : twoV (trS s) a b = if b = 0 then 0 else a / b := by
    unfold trS
    rw [if_neg (show ¬ s = 124 from q1), if_neg (show ¬ s = 38 from q2), if_neg (show ¬ s = 60 from q3), if_neg (show ¬ s = 61 from q4), if_neg (show ¬ s = 62 from q5), if_neg (show ¬ s = 43 from q6), if_neg (show ¬ s = 45 from q7), if_neg (show ¬ s = 42 from q8)]
    rfl
  rw [e9] at h
  obtain ⟨h1, h2⟩ := qif h
  refine ifI (fun z => h1 z) (fun z => ?_)
  exact ⟨z, h2 z⟩
theorem rowOf_ix {x : Nat} (hx : x < 15) : maxV 0 (minV (nI x) 14) = nI x := by
  revert x; decide
theorem c_rowOf {d L : Nat} {mem : Mem} {Q : Qt} {x : Nat} (hx : x < 15) (h : Q (some (.ref (5 + 2 * x))) (S0 L) mem) : Mc (d + 2) 0 [.ref 1, .int (nI x)] (S0 L) mem Q := by
  refine Mc_wp nocut t0 rfl rfl rfl 60 ?_
  refine ⟨⟨rfl, ltB rfl, neB rfl⟩, ?_⟩
  refine c_min ?_
  refine c_max ?_
  rw [rowOf_ix hx]
  refine ⟨⟨leB rfl, ltB rfl, vinN (n := 15) hx rfl, ?_⟩, ?_⟩
  · rw [nI_clamp (by omega)]
    show ¬ RFy 2 x = 0
    rw [(tx_cl x hx).2.2.2.2]; omega
  · rw [nI_clamp (by omega)]
    have e : (S0 L).2.2.2 2 x - 1 = 5 + 2 * x := by
      show RFy 2 x - 1 = _
      rw [(tx_cl x hx).2.2.2.2]; omega
    show Q (some (.ref ((S0 L).2.2.2 2 x - 1))) (S0 L) mem
    rw [e]; exact h
