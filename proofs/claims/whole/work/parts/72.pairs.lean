-- pairs: ask, item
theorem pr_ask {scr : Nat → Int32} {L d k : Nat} {m : Mem} {v w : Int32} (h : Sim scr k m) : Pair scr L (d + 20) 93 189 [.int v, .int w] k m := by
  intro Q hQ
  refine Mc_wp nocut t93 rfl rfl rfl 60 ?_
  by_cases q1 : 0 ≤ v ∧ v ≤ 4
  rotate_left 1
  · refine c_lF q1 ?_
    refine hQ _ m (fun Q' hQ' => ?_)
    refine Mc_wp nocut t189 rfl rfl rfl 60 ?_
    exact r_lF q1 (hQ' m h.next)
  refine c_lT q1 ?_
  by_cases q2 : 0 ≤ w ∧ w ≤ 5
  rotate_left 1
  · refine c_kF q2 ?_
    refine hQ _ m (fun Q' hQ' => ?_)
    refine Mc_wp nocut t189 rfl rfl rfl 60 ?_
    refine r_lT q1 ?_
    exact r_iF q2 (hQ' m h.next)
  refine c_kT q2 ?_
  obtain ⟨i, hi, rfl⟩ := ix_split (b := 4) (n := 4) rfl q1.1 q1.2
  obtain ⟨w', hw', rfl⟩ := ix_split (b := 5) (n := 5) rfl q2.1 q2.2
  have hL := h.2.2.2.1 i (by omega)
  have e0 := hL.1
  refine ⟨⟨rfl, ltB rfl, neB rfl⟩, ?_⟩
  rw [rf_cslots]
  refine ⟨sloK (by omega), ?_⟩
  rw [sloV (by omega)]
  refine ⟨sloC (by omega), ?_⟩
  have ei : nI i = nI i := rfl
  rcases hL.2 with q | ⟨q, ⟨kd, hkd, ekd⟩, ea, eb⟩ | ⟨q, _⟩ | ⟨q, _⟩
  · have q' : m (119 + 4 * i) 0 = 0 := e0.symm.trans q
    rw [q']
    refine ⟨sloC (by omega), c_finding (by omega) ?_⟩
    rw [if_pos q']
    refine hQ _ m (fun Q' hQ' => ?_)
    refine Mc_wp nocut t189 rfl rfl rfl 60 ?_
    refine r_lT q1 ?_
    refine r_iT q2 ?_
    refine ⟨⟨rfl, ltB rfl, neB rfl⟩, ?_⟩
    rw [rf_holds]
    refine ⟨⟨rfl, ltB rfl, vinK ei (show i < 5 by omega) rfl⟩, ?_⟩
    rw [clK ei (show i < 2 ^ 31 by omega)]
    rw [q]
    exact hQ' m h.next
  · have q' : m (119 + 4 * i) 0 = 1 := e0.symm.trans q
    rw [q']
    refine ⟨sloT (by omega), ?_⟩
    rw [sloTV (by omega)]
    refine ⟨sloTu (by omega), c_isOf (sloTu (by omega)) ekd hkd (by omega) (fun z => ?_) (fun z => ?_)⟩
    · refine ⟨sloT (by omega), ?_⟩
      rw [sloTV (by omega)]
      refine ⟨sloTu (by omega), c_worth (sloTu (by omega)) ?_⟩
      rw [← eb]
      refine hQ _ m (fun Q' hQ' => ?_)
      refine Mc_wp nocut t189 rfl rfl rfl 60 ?_
      refine r_lT q1 ?_
      refine r_iT q2 ?_
      refine ⟨⟨rfl, ltB rfl, neB rfl⟩, ?_⟩
      rw [rf_holds]
      refine ⟨⟨rfl, ltB rfl, vinK ei (show i < 5 by omega) rfl⟩, ?_⟩
      rw [clK ei (show i < 2 ^ 31 by omega)]
      rw [q]
      refine ⟨⟨rfl, ltB rfl, neB rfl⟩, ?_⟩
      rw [rf_holds]
      refine ⟨⟨rfl, ltB rfl, vinK ei (show i < 5 by omega) rfl⟩, ?_⟩
      rw [clK ei (show i < 2 ^ 31 by omega)]
      rw [q]
      refine ⟨⟨rfl, ltB rfl, neB rfl⟩, ?_⟩
      rw [rf_holdsA]
      refine ⟨⟨rfl, ltB rfl, vinK ei (show i < 5 by omega) rfl⟩, ?_⟩
      rw [clK ei (show i < 2 ^ 31 by omega)]
      rw [ea, ekd]
      refine r_isUnder (fun _ => ?_) (fun z' => absurd z z')
      refine ⟨⟨rfl, ltB rfl, neB rfl⟩, ?_⟩
      rw [rf_holdsB]
      refine ⟨⟨rfl, ltB rfl, vinK ei (show i < 5 by omega) rfl⟩, ?_⟩
      rw [clK ei (show i < 2 ^ 31 by omega)]
      exact hQ' m h.next
    · refine hQ _ m (fun Q' hQ' => ?_)
      refine Mc_wp nocut t189 rfl rfl rfl 60 ?_
      refine r_lT q1 ?_
      refine r_iT q2 ?_
      refine ⟨⟨rfl, ltB rfl, neB rfl⟩, ?_⟩
      rw [rf_holds]
      refine ⟨⟨rfl, ltB rfl, vinK ei (show i < 5 by omega) rfl⟩, ?_⟩
      rw [clK ei (show i < 2 ^ 31 by omega)]
      rw [q]
      refine ⟨⟨rfl, ltB rfl, neB rfl⟩, ?_⟩
      rw [rf_holds]
      refine ⟨⟨rfl, ltB rfl, vinK ei (show i < 5 by omega) rfl⟩, ?_⟩
      rw [clK ei (show i < 2 ^ 31 by omega)]
      rw [q]
      refine ⟨⟨rfl, ltB rfl, neB rfl⟩, ?_⟩
      rw [rf_holdsA]
      refine ⟨⟨rfl, ltB rfl, vinK ei (show i < 5 by omega) rfl⟩, ?_⟩
      rw [clK ei (show i < 2 ^ 31 by omega)]
      rw [ea, ekd]
      exact r_isUnder (fun z' => absurd z' z) (fun _ => hQ' m h.next)
  · have q' : m (119 + 4 * i) 0 = 2 := e0.symm.trans q
    rw [q']
    refine ⟨sloC (by omega), c_finding (by omega) ?_⟩
    rw [if_neg (by rw [q']; decide)]
    refine hQ _ m (fun Q' hQ' => ?_)
    refine Mc_wp nocut t189 rfl rfl rfl 60 ?_
    refine r_lT q1 ?_
    refine r_iT q2 ?_
    refine ⟨⟨rfl, ltB rfl, neB rfl⟩, ?_⟩
    rw [rf_holds]
    refine ⟨⟨rfl, ltB rfl, vinK ei (show i < 5 by omega) rfl⟩, ?_⟩
    rw [clK ei (show i < 2 ^ 31 by omega)]
    rw [q]
    refine ⟨⟨rfl, ltB rfl, neB rfl⟩, ?_⟩
    rw [rf_holds]
    refine ⟨⟨rfl, ltB rfl, vinK ei (show i < 5 by omega) rfl⟩, ?_⟩
    rw [clK ei (show i < 2 ^ 31 by omega)]
    rw [q]
    exact hQ' m h.next
  · have q' : m (119 + 4 * i) 0 = 3 := e0.symm.trans q
    rw [q']
    refine ⟨sloC (by omega), c_finding (by omega) ?_⟩
    rw [if_neg (by rw [q']; decide)]
    refine hQ _ m (fun Q' hQ' => ?_)
    refine Mc_wp nocut t189 rfl rfl rfl 60 ?_
    refine r_lT q1 ?_
    refine r_iT q2 ?_
    refine ⟨⟨rfl, ltB rfl, neB rfl⟩, ?_⟩
    rw [rf_holds]
    refine ⟨⟨rfl, ltB rfl, vinK ei (show i < 5 by omega) rfl⟩, ?_⟩
    rw [clK ei (show i < 2 ^ 31 by omega)]
    rw [q]
    refine ⟨⟨rfl, ltB rfl, neB rfl⟩, ?_⟩
    rw [rf_holds]
    refine ⟨⟨rfl, ltB rfl, vinK ei (show i < 5 by omega) rfl⟩, ?_⟩
    rw [clK ei (show i < 2 ^ 31 by omega)]
    rw [q]
    exact hQ' m h.next
theorem pr_item {scr : Nat → Int32} {L d k : Nat} {m : Mem} {v w : Int32} (h : Sim scr k m) : Pair scr L (d + 20) 94 190 [.int v, .int w] k m := by
  intro Q hQ
  refine Mc_wp nocut t94 rfl rfl rfl 60 ?_
  by_cases q1 : 0 ≤ v ∧ v ≤ 4
  rotate_left 1
  · refine c_lF q1 ?_
    refine hQ _ m (fun Q' hQ' => ?_)
    refine Mc_wp nocut t190 rfl rfl rfl 60 ?_
    exact r_lF q1 (hQ' m h.next)
  refine c_lT q1 ?_
  obtain ⟨i, hi, rfl⟩ := ix_split (b := 4) (n := 4) rfl q1.1 q1.2
  have hL := h.2.2.2.1 i (by omega)
  have e0 := hL.1
  refine ⟨⟨rfl, ltB rfl, neB rfl⟩, ?_⟩
  rw [rf_cslots]
  refine ⟨sloK (by omega), ?_⟩
  rw [sloV (by omega)]
  refine ⟨sloC (by omega), ?_⟩
  have ei : nI i = nI i := rfl
  rcases hL.2 with q | ⟨q, _⟩ | ⟨q, ⟨n, hn, en⟩, ea, ec⟩ | ⟨q, _⟩
  · have q' : m (119 + 4 * i) 0 = 0 := e0.symm.trans q
    rw [q']
    refine ⟨sloC (by omega), c_finding (by omega) ?_⟩
    rw [if_pos q']
    refine hQ _ m (fun Q' hQ' => ?_)
    refine Mc_wp nocut t190 rfl rfl rfl 60 ?_
    refine r_lT q1 ?_
    refine ⟨⟨rfl, ltB rfl, neB rfl⟩, ?_⟩
    rw [rf_holds]
    refine ⟨⟨rfl, ltB rfl, vinK ei (show i < 5 by omega) rfl⟩, ?_⟩
    rw [clK ei (show i < 2 ^ 31 by omega)]
    rw [q]
    exact hQ' m h.next
  · have q' : m (119 + 4 * i) 0 = 1 := e0.symm.trans q
    rw [q']
    refine ⟨sloC (by omega), c_finding (by omega) ?_⟩
    rw [if_neg (by rw [q']; decide)]
    refine hQ _ m (fun Q' hQ' => ?_)
    refine Mc_wp nocut t190 rfl rfl rfl 60 ?_
    refine r_lT q1 ?_
    refine ⟨⟨rfl, ltB rfl, neB rfl⟩, ?_⟩
    rw [rf_holds]
    refine ⟨⟨rfl, ltB rfl, vinK ei (show i < 5 by omega) rfl⟩, ?_⟩
    rw [clK ei (show i < 2 ^ 31 by omega)]
    rw [q]
    refine ⟨⟨rfl, ltB rfl, neB rfl⟩, ?_⟩
    rw [rf_holds]
    refine ⟨⟨rfl, ltB rfl, vinK ei (show i < 5 by omega) rfl⟩, ?_⟩
    rw [clK ei (show i < 2 ^ 31 by omega)]
    rw [q]
    exact hQ' m h.next
  · have q' : m (119 + 4 * i) 0 = 2 := e0.symm.trans q
    rw [q']
    have hc : shC L (121 + 4 * i) := slI (by omega)
    have ref : ∀ V : Int32, (∀ Q' : Qt, Q' (some (.int V)) (S0 L) m → Xs (d + 20) 190 35 [some (.ref 139), some (.int (nI i)), some (.int w), none] [] (S0 L) (0, 0) m Q') → Q (some (.int V)) (S0 L) m := by
      intro V hX
      refine hQ V m (fun Q' hQ' => ?_)
      refine Mc_wp (cut1 35) t190 rfl rfl rfl 60 ?_
      refine r_lT q1 ?_
      refine ⟨⟨rfl, ltB rfl, neB rfl⟩, ?_⟩
      rw [rf_holds]
      refine ⟨⟨rfl, ltB rfl, vinK ei (show i < 5 by omega) rfl⟩, ?_⟩
      rw [clK ei (show i < 2 ^ 31 by omega)]
      rw [q]
      refine ⟨⟨rfl, ltB rfl, neB rfl⟩, ?_⟩
      rw [rf_holds]
      refine ⟨⟨rfl, ltB rfl, vinK ei (show i < 5 by omega) rfl⟩, ?_⟩
      rw [clK ei (show i < 2 ^ 31 by omega)]
      rw [q]
      exact hX Q' (hQ' m h.next)
    refine ⟨sloS (by omega), ?_⟩
    rw [sloSV (by omega)]
    rcases num_or (n := n) w (by omega) with q2 | ⟨j, hj, rfl⟩
    · refine ⟨shO hc, c_placeF hc en hn q2 ?_⟩
      refine ref _ (fun Q' hq' => ?_)
      refine Xs_wp nocut t190 60 ?_
      refine ⟨⟨rfl, ltB rfl, neB rfl⟩, ?_⟩
      rw [rf_holdsA]
      refine ⟨⟨rfl, ltB rfl, vinK ei (show i < 5 by omega) rfl⟩, ?_⟩
      rw [clK ei (show i < 2 ^ 31 by omega)]
      rw [ea, en]
      exact r_iF (nn_bad (by omega) q2) hq'
    refine ⟨shO hc, c_placeT hc en hn hj ?_⟩
    refine ⟨sloS (by omega), ?_⟩
    rw [sloSV (by omega)]
    have ex : (24 * nI i + nI j : Int32) = nI (24 * i + j) := by rw [show (24 : Int32) = nI 24 from rfl, pk_mul, nI_add]
    refine ⟨shO hc, c_number hc en hn hj (fun z => ?_) (fun z => ?_)⟩
    · refine ⟨sloS (by omega), ?_⟩
      rw [sloSV (by omega)]
      refine ⟨shK hc, ?_⟩
      rw [shV hc]
      refine ⟨shP hc (rfl : nI j = nI j) (by omega), ?_⟩
      rw [nI_clamp (show j < 2 ^ 31 by omega)]
      refine ref _ (fun Q' hq' => ?_)
      refine Xs_wp nocut t190 60 ?_
      refine ⟨⟨rfl, ltB rfl, neB rfl⟩, ?_⟩
      rw [rf_holdsA]
      refine ⟨⟨rfl, ltB rfl, vinK ei (show i < 5 by omega) rfl⟩, ?_⟩
      rw [clK ei (show i < 2 ^ 31 by omega)]
      rw [ea, en]
      refine r_iT (nn_good (by omega) hj) ?_
      refine ⟨⟨rfl, ltB rfl, neB rfl⟩, ?_⟩
      rw [rf_heldCells]
      refine ⟨⟨rfl, ltB rfl, vinK ex (show 24 * i + j < 120 by omega) rfl⟩, ?_⟩
      rw [clK ex (show 24 * i + j < 2 ^ 31 by omega)]
      rw [ec j (by omega), show 122 + 4 * i = 121 + 4 * i + 1 by omega]
      exact ifI (fun z' => absurd z' z) (fun _ => hq')
    · refine ref _ (fun Q' hq' => ?_)
      refine Xs_wp nocut t190 60 ?_
      refine ⟨⟨rfl, ltB rfl, neB rfl⟩, ?_⟩
      rw [rf_holdsA]
      refine ⟨⟨rfl, ltB rfl, vinK ei (show i < 5 by omega) rfl⟩, ?_⟩
      rw [clK ei (show i < 2 ^ 31 by omega)]
      rw [ea, en]
      refine r_iT (nn_good (by omega) hj) ?_
      refine ⟨⟨rfl, ltB rfl, neB rfl⟩, ?_⟩
      rw [rf_heldCells]
      refine ⟨⟨rfl, ltB rfl, vinK ex (show 24 * i + j < 120 by omega) rfl⟩, ?_⟩
      rw [clK ex (show 24 * i + j < 2 ^ 31 by omega)]
      rw [ec j (by omega), show 122 + 4 * i = 121 + 4 * i + 1 by omega]
      exact ifI (fun _ => hq') (fun z' => absurd z z')
  · have q' : m (119 + 4 * i) 0 = 3 := e0.symm.trans q
    rw [q']
    refine ⟨sloC (by omega), c_finding (by omega) ?_⟩
    rw [if_neg (by rw [q']; decide)]
    refine hQ _ m (fun Q' hQ' => ?_)
    refine Mc_wp nocut t190 rfl rfl rfl 60 ?_
    refine r_lT q1 ?_
    refine ⟨⟨rfl, ltB rfl, neB rfl⟩, ?_⟩
    rw [rf_holds]
    refine ⟨⟨rfl, ltB rfl, vinK ei (show i < 5 by omega) rfl⟩, ?_⟩
    rw [clK ei (show i < 2 ^ 31 by omega)]
    rw [q]
    refine ⟨⟨rfl, ltB rfl, neB rfl⟩, ?_⟩
    rw [rf_holds]
    refine ⟨⟨rfl, ltB rfl, vinK ei (show i < 5 by omega) rfl⟩, ?_⟩
    rw [clK ei (show i < 2 ^ 31 by omega)]
    rw [q]
    exact hQ' m h.next
