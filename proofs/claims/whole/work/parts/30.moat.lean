def drawN (z : Int32) : Int32 := z * 1103515245 + 12345
def drawV (z : Int32) : Int32 := ((drawN z).toUInt32 >>> ((8 : Int32).toUInt32 &&& Int32.toUInt32 31)).toInt32
theorem c_draw {d L : Nat} {mem : Mem} {Q : Qt} {b : Nat} (hb : MB b) (h : Q (some (.int (drawV (mem b 11)))) (S0 L) (mu mem b 11 (drawN (mem b 11)))) : Mc (d + 1) 8 [.ref b] (S0 L) mem Q := by
  rcases hb with rfl | rfl | rfl
  all_goals
    refine Mc_wp nocut t8 rfl rfl rfl 30 ?_
    refine ⟨⟨rfl, ltB rfl⟩, ?_⟩
    refine ⟨⟨rfl, ltB rfl⟩, ?_⟩
    refine ⟨⟨rfl, ltB rfl⟩, ?_⟩
    rw [mu_at]
    exact h
theorem c_ahead0 {d L : Nat} {mem : Mem} {Q : Qt} {b : Nat} (hb : MB b) (h : Q (some (.int (drawV (mem b 11)))) (S0 L) (mu mem b 11 (drawN (mem b 11)))) : Mc (d + 1) 8 [.ref b] (S0 L) mem Q := by
  rcases hb with rfl | rfl | rfl
  · refine Mc_wp nocut t8 rfl rfl rfl 30 ?_
    refine ⟨⟨rfl, ltB rfl⟩, ?_⟩
    trace_state
    refine ⟨⟨rfl, ltB rfl⟩, ?_⟩
    trace_state
    sorry
  all_goals sorry
