-- the reference: turtles, texts worked out, days
theorem r_yardOf {d L : Nat} {mem : Mem} {Q : Qt} {t : Nat} (ht : t < 8) (hm : ¬ mem 140 3 = 0) (h : Q (some (.int (yardA (mem 140) t))) (S0 L) mem) : Mc (d + 2) 119 [.ref 139, .int (nI t)] (S0 L) mem Q := by
  refine Mc_wp nocut t119 rfl rfl rfl 60 ?_
  refine ⟨⟨rfl, ltB rfl⟩, r_of (w := 2) ht (by omega) ?_⟩
  refine ⟨⟨rfl, ltB rfl, neB rfl⟩, ?_⟩
  rw [rf_now]
  refine ⟨⟨rfl, ltB rfl, vinB rfl⟩, ?_⟩
  rw [lc3]
  refine ⟨hm, ?_⟩
  obtain ⟨h1, h2⟩ := qif h
  refine ifI (fun q => ?_) (fun q => ?_)
  · refine ⟨⟨rfl, ltB rfl, neB rfl⟩, ?_⟩
    refine ⟨⟨rfl, ltB rfl, vinB rfl⟩, ?_⟩
    exact h1 q
  · exact h2 q
theorem r_lapsOf {d L : Nat} {mem : Mem} {Q : Qt} {t : Nat} (ht : t < 8) (hm : ¬ mem 140 3 = 0) (h : Q (some (.int (lapsA (mem 140) t))) (S0 L) mem) : Mc (d + 3) 120 [.ref 139, .int (nI t)] (S0 L) mem Q := by
  refine Mc_wp nocut t120 rfl rfl rfl 60 ?_
  refine ⟨⟨rfl, ltB rfl⟩, r_of (w := 2) ht (by omega) ?_⟩
  refine ⟨⟨rfl, ltB rfl⟩, r_yardOf ht hm ?_⟩
  refine ⟨⟨rfl, ltB rfl, neB rfl⟩, ?_⟩
  rw [rf_now]
  refine ⟨⟨rfl, ltB rfl, vinB rfl⟩, ?_⟩
  rw [lc3]
  exact ⟨hm, h⟩
theorem r_worthOf {d L : Nat} {mem : Mem} {Q : Qt} {t : Nat} (ht : t < 8) (h : Q (some (.int (worthV (mem 140 (44 + 6 * t + 0)) (mem 140 (44 + 6 * t + 1))))) (S0 L) mem) : Mc (d + 2) 121 [.ref 139, .int (nI t)] (S0 L) mem Q := by
  refine Mc_wp nocut t121 rfl rfl rfl 60 ?_
  refine ⟨⟨rfl, ltB rfl⟩, r_of (w := 1) ht (by omega) ?_⟩
  refine ⟨⟨rfl, ltB rfl⟩, r_of (w := 0) ht (by omega) ?_⟩
  unfold worthV at h
  obtain ⟨h1, h⟩ := qif h
  refine ifI (fun q => h1 q) (fun q => ?_)
  replace h := h q
  obtain ⟨h1, h⟩ := qif h
  refine ifI (fun q => h1 q) (fun q => ?_)
  replace h := h q
  obtain ⟨h1, h⟩ := qif h
  refine ifI (fun q => h1 q) (fun q => ?_)
  replace h := h q
  obtain ⟨h1, h⟩ := qif h
  refine ifI (fun q => h1 q) (fun q => ?_)
  replace h := h q
  obtain ⟨h1, h⟩ := qif h
  refine ifI (fun q => h1 q) (fun q => ?_)
  replace h := h q
  exact h
theorem r_draw {d L : Nat} {mem : Mem} {Q : Qt} (h : Q (some (.int (drawV (mem 140 0)))) (S0 L) (mr mem 140 (drawA (mem 140)))) : Mc (d + 1) 133 [.ref 139] (S0 L) mem Q := by
  refine Mc_wp nocut t133 rfl rfl rfl 60 ?_
  refine ⟨⟨rfl, ltB rfl, neB rfl⟩, ?_⟩
  refine ⟨⟨rfl, ltB rfl, neB rfl⟩, ?_⟩
  refine ⟨⟨rfl, ltB rfl, vinB rfl⟩, ?_⟩
  refine ⟨⟨rfl, ltB rfl, vinB rfl⟩, ?_⟩
  refine ⟨⟨rfl, ltB rfl, neB rfl⟩, ?_⟩
  refine ⟨⟨rfl, ltB rfl, vinB rfl⟩, ?_⟩
  unfold drawA at h
  simp only [rf_now, lc0, mu_mr, mr_at, pk_us]
  exact h
theorem nI_neg1 : (-1 : Int32) < 0 := by decide
theorem r_counts {d L : Nat} {mem : Mem} {Q : Qt} {key : Int32} {n : Nat} (hn : mem 140 7 = nI n) (hn14 : n ≤ 14) (h : Q (some (.int (opI (cntO (mem 140) key n)))) (S0 L) mem) : Mc (d + 1) 177 [.ref 139, .int key] (S0 L) mem Q := by
  have loop : ∀ k x, x = nI k - 1 → k ≤ 14 → Q (some (.int (opI (cntO (mem 140) key k)))) (S0 L) mem → Xs (d + 1) 177 10 [some (.ref 139), some (.int key), some (.int x)] [] (S0 L) (0, 0) mem Q := by
    intro k
    induction k with
    | zero =>
      intro x hx _ hq
      subst hx
      refine Xs_wp (cut1 10) t177 60 ?_
      exact hq
    | succ k ih =>
      intro x hx hk hq
      have hx : x = nI k := by rw [hx, nI_pred]
      subst hx
      refine Xs_wp (cut1 10) t177 60 ?_
      refine ifI (fun q => absurd q (nI_pos (by omega))) (fun _ => ?_)
      have e : (92 + 2 * nI k : Int32) = nI (92 + 2 * k) := ix2 (a := 92) (b := 2) k
      refine ⟨⟨rfl, ltB rfl, neB rfl⟩, ?_⟩
      rw [rf_now]
      refine ⟨⟨rfl, ltB rfl, vinK e (show 92 + 2 * k < 1464 by omega) rfl⟩, ?_⟩
      rw [clK e (show 92 + 2 * k < 2 ^ 31 by omega)]
      refine ⟨by decide, ?_⟩
      unfold cntO at hq
      refine ifI (fun q => ?_) (fun q => ?_)
      · rw [if_pos q] at hq
        exact hq
      · rw [if_neg q] at hq
        have := ih (nI k + (-1)) (add_m1 _) (by omega) hq
        exact this
  refine Mc_wp (cut1 10) t177 rfl rfl rfl 60 ?_
  refine ⟨⟨rfl, ltB rfl, neB rfl⟩, ?_⟩
  refine ⟨⟨rfl, ltB rfl, vinB rfl⟩, ?_⟩
  have := loop n (nI n - 1) rfl hn14 h
  rw [← hn] at this
  exact this

theorem r_two {d : Nat} {S : Shp} {mem : Mem} {Q : Qt} {s a b : Int32} (h : Q (some (.int (twoV s a b))) S mem) : Mc (d + 1) 179 [.int s, .int a, .int b] S mem Q := by
  refine Mc_wp nocut t179 rfl rfl rfl 60 ?_
  have key : ∀ {c : Int32} {r : Int32}, s = c → twoV c a b = r → Q (some (.int r)) S mem := fun e1 e2 => by rw [← e2, ← e1]; exact h
  refine ifI (fun q => ?_) (fun q8 => ?_)
  · exact key (c := -8) q rfl
  refine ifI (fun q => ?_) (fun q7 => ?_)
  · exact key (c := -7) q rfl
  refine ifI (fun q => ?_) (fun q6 => ?_)
  · exact key (c := -6) q rfl
  refine ifI (fun q => ?_) (fun q5 => ?_)
  · refine ifI (fun z => ?_) (fun z => ?_)
    · exact key (c := -5) q (if_pos z)
    · exact key (c := -5) q (if_neg z)
  refine ifI (fun q => ?_) (fun q4 => ?_)
  · refine ifI (fun z => ?_) (fun z => ?_)
    · exact key (c := -4) q (if_pos z)
    · exact key (c := -4) q (if_neg z)
  refine ifI (fun q => ?_) (fun q3 => ?_)
  · refine ifI (fun z => ?_) (fun z => ?_)
    · exact key (c := -3) q (if_pos z)
    · exact key (c := -3) q (if_neg z)
  refine ifI (fun q => ?_) (fun q2 => ?_)
  · refine ifI (fun z => ?_) (fun z => ?_)
    · exact key (c := -2) q (if_pos z)
    · refine ifI (fun y => ?_) (fun y => ?_)
      · exact key (c := -2) q ((if_neg z).trans (if_pos y))
      · exact key (c := -2) q ((if_neg z).trans (if_neg y))
  refine ifI (fun q => ?_) (fun q1 => ?_)
  · refine ifI (fun z => ?_) (fun z => ?_)
    · refine ifI (fun y => ?_) (fun y => ?_)
      · exact key (c := -1) q ((if_pos z).trans (if_pos y))
      · exact key (c := -1) q ((if_pos z).trans (if_neg y))
    · exact key (c := -1) q (if_neg z)
  have e9 : twoV s a b = if b = 0 then 0 else a / b := by
    unfold twoV
    rw [if_neg (show ¬ s = -1 from q1), if_neg (show ¬ s = -2 from q2), if_neg (show ¬ s = -3 from q3), if_neg (show ¬ s = -4 from q4), if_neg (show ¬ s = -5 from q5), if_neg (show ¬ s = -6 from q6), if_neg (show ¬ s = -7 from q7), if_neg (show ¬ s = -8 from q8)]
  rw [e9] at h
  obtain ⟨h1, h2⟩ := qif h
  refine ifI (fun z => h1 z) (fun z => ?_)
  exact ⟨z, h2 z⟩
