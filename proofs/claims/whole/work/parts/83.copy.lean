-- pairs: copy
theorem pr_copy {scr : Nat → Int32} {L d k : Nat} {m : Mem} {v p w q y : Int32} (h : Sim scr k m) : Pair scr L (d + 20) 91 187 [.int v, .int p, .int w, .int q, .int y] k m := by
  intro Q hQ
  refine Mc_wp nocut t91 rfl rfl rfl 100 ?_
  by_cases qa : 0 ≤ v ∧ v ≤ 3
  rotate_left 1
  · refine c_sF qa ?_
    refine hQ _ m (fun Q' hQ' => ?_)
    refine Mc_wp nocut t187 rfl rfl rfl 60 ?_
    exact r_sF qa (hQ' m h.next)
  refine c_sT qa ?_
  by_cases qb : 0 ≤ w ∧ w ≤ 3
  rotate_left 1
  · refine c_sF qb ?_
    refine hQ _ m (fun Q' hQ' => ?_)
    refine Mc_wp nocut t187 rfl rfl rfl 60 ?_
    refine r_sT qa ?_
    exact r_sF qb (hQ' m h.next)
  refine c_sT qb ?_
  obtain ⟨a, ha, rfl⟩ := ix_split (b := 3) (n := 3) rfl qa.1 qa.2
  obtain ⟨b, hb, rfl⟩ := ix_split (b := 3) (n := 3) rfl qb.1 qb.2
  have ea : nI a = nI a := rfl
  have eb : nI b = nI b := rfl
  have hca : shC L (111 + 2 * a) := shI (by omega)
  have hcb : shC L (111 + 2 * b) := shI (by omega)
  obtain ⟨a0, a1, a2, ⟨na, hna, ena⟩, a3⟩ := h.2.2.1 a (by omega)
  obtain ⟨b0, b1, b2, ⟨nb, hnb, enb⟩, b3⟩ := h.2.2.1 b (by omega)
  have nn : ∀ s : Int32, ¬ s = -1 → (s = -1 ∨ s = 0 ∨ s = 1) → ¬ s < 0 := by
    intro s h1 h2
    rcases h2 with z | z | z
    · exact absurd z h1
    · rw [z]; decide
    · rw [z]; decide
  refine ⟨⟨rfl, ltB rfl, neB rfl⟩, ?_⟩
  rw [rf_csheets]
  refine ⟨sheK (by omega), ?_⟩
  rw [sheV (by omega)]
  refine ⟨⟨rfl, ltB rfl, neB rfl⟩, ?_⟩
  rw [rf_csheets]
  refine ⟨sheK (by omega), ?_⟩
  rw [sheV (by omega)]
  by_cases sa : m (111 + 2 * a) 0 = -1
  · refine ⟨shO hca, c_missT hca sa ?_⟩
    refine hQ _ m (fun Q' hQ' => ?_)
    refine Mc_wp nocut t187 rfl rfl rfl 60 ?_
    refine r_sT qa ?_
    refine r_sT qb ?_
    refine ⟨⟨rfl, ltB rfl, neB rfl⟩, ?_⟩
    rw [rf_sorts]
    refine ⟨⟨rfl, ltB rfl, vinK ea (show a < 4 by omega) rfl⟩, ?_⟩
    rw [clK ea (show a < 2 ^ 31 by omega)]
    rw [a0, sa]
    exact hQ' m h.next
  refine ⟨shO hca, c_missF hca sa ?_⟩
  have sa' := nn _ sa a2
  by_cases sb : m (111 + 2 * b) 0 = -1
  · refine ⟨shO hcb, c_missT hcb sb ?_⟩
    refine hQ _ m (fun Q' hQ' => ?_)
    refine Mc_wp nocut t187 rfl rfl rfl 60 ?_
    refine r_sT qa ?_
    refine r_sT qb ?_
    refine ⟨⟨rfl, ltB rfl, neB rfl⟩, ?_⟩
    rw [rf_sorts]
    refine ⟨⟨rfl, ltB rfl, vinK ea (show a < 4 by omega) rfl⟩, ?_⟩
    rw [clK ea (show a < 2 ^ 31 by omega)]
    rw [a0]
    refine ifI (fun z => absurd z sa') (fun _ => ?_)
    refine ⟨⟨rfl, ltB rfl, neB rfl⟩, ?_⟩
    rw [rf_sorts]
    refine ⟨⟨rfl, ltB rfl, vinK eb (show b < 4 by omega) rfl⟩, ?_⟩
    rw [clK eb (show b < 2 ^ 31 by omega)]
    rw [b0, sb]
    exact hQ' m h.next
  refine ⟨shO hcb, c_missF hcb sb ?_⟩
  have sb' := nn _ sb b2
  refine ⟨shO hca, ?_⟩
  refine ⟨shO hcb, ?_⟩
  -- the reference up to pc 56
  have ref : ∀ (V : Int32), m (111 + 2 * a) 0 = m (111 + 2 * b) 0 → (∀ Q' : Qt, Q' (some (.int V)) (S0 L) m → Xs (d + 20) 187 56 [some (.ref 139), some (.int (nI a)), some (.int p), some (.int (nI b)), some (.int q), some (.int y), none] [] (S0 L) (0, 0) m Q') → Q (some (.int V)) (S0 L) m := by
    intro V hss hX
    refine hQ V m (fun Q' hQ' => ?_)
    refine Mc_wp (cut1 56) t187 rfl rfl rfl 60 ?_
    refine r_sT qa ?_
    refine r_sT qb ?_
    refine ⟨⟨rfl, ltB rfl, neB rfl⟩, ?_⟩
    rw [rf_sorts]
    refine ⟨⟨rfl, ltB rfl, vinK ea (show a < 4 by omega) rfl⟩, ?_⟩
    rw [clK ea (show a < 2 ^ 31 by omega)]
    rw [a0]
    refine ifI (fun z => absurd z sa') (fun _ => ?_)
    refine ⟨⟨rfl, ltB rfl, neB rfl⟩, ?_⟩
    rw [rf_sorts]
    refine ⟨⟨rfl, ltB rfl, vinK eb (show b < 4 by omega) rfl⟩, ?_⟩
    rw [clK eb (show b < 2 ^ 31 by omega)]
    rw [b0]
    refine ifI (fun z => absurd z sb') (fun _ => ?_)
    refine ⟨⟨rfl, ltB rfl, neB rfl⟩, ?_⟩
    rw [rf_sorts]
    refine ⟨⟨rfl, ltB rfl, vinK ea (show a < 4 by omega) rfl⟩, ?_⟩
    rw [clK ea (show a < 2 ^ 31 by omega)]
    refine ⟨⟨rfl, ltB rfl, neB rfl⟩, ?_⟩
    rw [rf_sorts]
    refine ⟨⟨rfl, ltB rfl, vinK eb (show b < 4 by omega) rfl⟩, ?_⟩
    rw [clK eb (show b < 2 ^ 31 by omega)]
    rw [a0, b0]
    refine ifI (fun _ => ?_) (fun z => absurd hss z)
    exact hX Q' (hQ' m h.next)
  refine ifI (fun hss => ?_) (fun hss => ?_)
  rotate_left 1
  · refine hQ _ m (fun Q' hQ' => ?_)
    refine Mc_wp nocut t187 rfl rfl rfl 60 ?_
    refine r_sT qa ?_
    refine r_sT qb ?_
    refine ⟨⟨rfl, ltB rfl, neB rfl⟩, ?_⟩
    rw [rf_sorts]
    refine ⟨⟨rfl, ltB rfl, vinK ea (show a < 4 by omega) rfl⟩, ?_⟩
    rw [clK ea (show a < 2 ^ 31 by omega)]
    rw [a0]
    refine ifI (fun z => absurd z sa') (fun _ => ?_)
    refine ⟨⟨rfl, ltB rfl, neB rfl⟩, ?_⟩
    rw [rf_sorts]
    refine ⟨⟨rfl, ltB rfl, vinK eb (show b < 4 by omega) rfl⟩, ?_⟩
    rw [clK eb (show b < 2 ^ 31 by omega)]
    rw [b0]
    refine ifI (fun z => absurd z sb') (fun _ => ?_)
    refine ⟨⟨rfl, ltB rfl, neB rfl⟩, ?_⟩
    rw [rf_sorts]
    refine ⟨⟨rfl, ltB rfl, vinK ea (show a < 4 by omega) rfl⟩, ?_⟩
    rw [clK ea (show a < 2 ^ 31 by omega)]
    refine ⟨⟨rfl, ltB rfl, neB rfl⟩, ?_⟩
    rw [rf_sorts]
    refine ⟨⟨rfl, ltB rfl, vinK eb (show b < 4 by omega) rfl⟩, ?_⟩
    rw [clK eb (show b < 2 ^ 31 by omega)]
    rw [a0, b0]
    exact ifI (fun z => absurd z hss) (fun _ => hQ' m h.next)
  -- no row: the reference says so too
  have bad : (¬ rowOk p y na ∨ ¬ rowOk q y nb) → Q (some (.int (-1000000013))) (S0 L) m := by
    intro hbad
    refine ref _ hss (fun Q' hq' => ?_)
    refine Xs_wp nocut t187 60 ?_
    refine ifI (fun _ => hq') (fun z1 => ?_)
    refine ifI (fun _ => hq') (fun z2 => ?_)
    refine ifI (fun _ => hq') (fun z3 => ?_)
    refine ⟨⟨rfl, ltB rfl, neB rfl⟩, ?_⟩
    rw [rf_sizes]
    refine ⟨⟨rfl, ltB rfl, vinK ea (show a < 4 by omega) rfl⟩, ?_⟩
    rw [clK ea (show a < 2 ^ 31 by omega)]
    rw [a1, ena]
    refine ifI (fun _ => hq') (fun z4 => ?_)
    refine ⟨⟨rfl, ltB rfl, neB rfl⟩, ?_⟩
    rw [rf_sizes]
    refine ⟨⟨rfl, ltB rfl, vinK eb (show b < 4 by omega) rfl⟩, ?_⟩
    rw [clK eb (show b < 2 ^ 31 by omega)]
    rw [b1, enb]
    refine ifI (fun _ => hq') (fun z5 => ?_)
    exfalso
    rcases hbad with z | z
    · exact z ((rowOk_iff hna).mpr ⟨z1, z3, z4⟩)
    · exact z ((rowOk_iff hnb).mpr ⟨z2, z3, z5⟩)
  refine ⟨shO hca, c_hasRow hca ena hna (fun z1 => ?_) (fun z1 => bad (Or.inl z1))⟩
  refine ⟨shO hcb, c_hasRow hcb enb hnb (fun z2 => ?_) (fun z2 => bad (Or.inr z2))⟩
  obtain ⟨pp, yy, rfl, rfl, hp⟩ := z1
  obtain ⟨qq, yy', rfl, ey, hq⟩ := z2
  have eyy : yy = yy' := (nI_eq (by omega) (by omega)).mp ey
  subst eyy
  refine ⟨shK hca, ?_⟩
  rw [shV hca]
  refine ⟨shK hcb, ?_⟩
  rw [shV hcb]
  refine ⟨⟨hca.2.2.2.1, hcb.2.2.2.1, hca.2.2.2.2.1, hcb.2.2.2.2.1, nI_pos (by omega), nI_pos (by omega), nI_pos (by omega), ?_, ?_, leB rfl⟩, ?_⟩
  · rw [hca.2.2.2.2.2, nI_clamp (by omega), nI_clamp (by omega)]; omega
  · rw [hcb.2.2.2.2.2, nI_clamp (by omega), nI_clamp (by omega)]; omega
  · rw [nI_clamp (show pp < 2 ^ 31 by omega), nI_clamp (show qq < 2 ^ 31 by omega), nI_clamp (show yy < 2 ^ 31 by omega)]
    exact copy_r h (by omega) (by omega) hna hnb ena enb hp hq sa sb hss qa qb hQ
