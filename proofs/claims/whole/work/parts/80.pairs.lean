-- pairs: lay
theorem pr_lay {scr : Nat → Int32} {L d k : Nat} {m : Mem} {v w x : Int32} (h : Sim scr k m) : Pair scr L (d + 20) 92 188 [.int v, .int w, .int x] k m := by
  intro Q hQ
  obtain ⟨nt, nw, nx, hM, hI⟩ := h.1.1
  have hR := hM.1
  have hn8 := hR.2.2.1.1
  refine Mc_wp nocut t92 rfl rfl rfl 100 ?_
  by_cases q1 : 0 ≤ v ∧ v ≤ 4
  rotate_left 1
  · refine c_lF q1 ?_
    refine hQ _ m (fun Q' hQ' => ?_)
    refine Mc_wp nocut t188 rfl rfl rfl 60 ?_
    exact r_lF q1 (hQ' m h.next)
  refine c_lT q1 ?_
  by_cases q2 : 0 ≤ w ∧ w ≤ 3
  rotate_left 1
  · refine c_wF q2 ?_
    refine hQ _ m (fun Q' hQ' => ?_)
    refine Mc_wp nocut t188 rfl rfl rfl 60 ?_
    refine r_lT q1 ?_
    exact r_iF q2 (hQ' m h.next)
  refine c_wT q2 ?_
  obtain ⟨i, hi, rfl⟩ := ix_split (b := 4) (n := 4) rfl q1.1 q1.2
  obtain ⟨w, hw, rfl⟩ := ix_split (b := 3) (n := 3) rfl q2.1 q2.2
  have hL := h.2.2.2.1 i (by omega)
  rcases (show w = 0 ∨ w = 1 ∨ w = 2 ∨ w = 3 by omega) with rfl | rfl | rfl | rfl
  · refine ⟨⟨rfl, ltB rfl, neB rfl⟩, ?_⟩
    rw [rf_cslots]
    refine ⟨sloK (by omega), ?_⟩
    rw [sloV (by omega)]
    refine ⟨sloC (by omega), ?_⟩
    refine ⟨sloC (by omega), ?_⟩
    refine ⟨sloC (by omega), ?_⟩
    exact lay_n h (by omega) (Or.inl rfl) q1 hQ
  · refine ⟨⟨rfl, ltB rfl, neB rfl⟩, ?_⟩
    rw [rf_cnow]
    rcases num_or (n := nt) x (by omega) with q3 | ⟨t, ht, rfl⟩
    · refine ⟨moC mb35, c_hF mb35 hR.1.1 hn8 q3 ?_⟩
      refine hQ _ m (fun Q' hQ' => ?_)
      refine Mc_wp nocut t188 rfl rfl rfl 60 ?_
      refine r_lT q1 ?_
      refine r_iT q2 ?_
      exact ⟨⟨rfl, ltB rfl⟩, r_hF hR.2.1.1 hn8 q3 (hQ' m h.next)⟩
    refine ⟨moC mb35, c_hT mb35 hR.1.1 hn8 ht ?_⟩
    refine ⟨⟨rfl, ltB rfl, neB rfl⟩, ?_⟩
    rw [rf_cslots]
    refine ⟨sloK (by omega), ?_⟩
    rw [sloV (by omega)]
    refine ⟨sloC (by omega), ?_⟩
    refine ⟨sloC (by omega), ?_⟩
    refine ⟨sloT (by omega), ?_⟩
    rw [sloTV (by omega)]
    refine ⟨⟨rfl, ltB rfl, neB rfl⟩, ?_⟩
    rw [rf_cnow]
    refine ⟨moK1 mb35, ?_⟩
    rw [moV1 mb35]
    refine ⟨heK mb35 (rfl : nI t = nI t) (by omega), ?_⟩
    rw [heV mb35 (rfl : nI t = nI t) (show t < 8 by omega)]
    have hb := hM.2.2.2.2.1 t ht
    have r4 := hR.2.2.2.1 t
    refine ⟨sloTu (by omega), c_tbecome (sloTu (by omega)) (heC mb35 (by omega)) (by omega) (by rw [mu_row (by omega), r4 4 ht (by omega)]; exact hb.1) (by rw [mu_row (by omega), r4 5 ht (by omega)]; exact hb.2) ?_⟩
    exact lay_t h hM ht (by omega) q1 hQ
  · by_cases q3 : 0 ≤ x ∧ x ≤ 3
    rotate_left 1
    · refine c_sF q3 ?_
      refine hQ _ m (fun Q' hQ' => ?_)
      refine Mc_wp nocut t188 rfl rfl rfl 60 ?_
      refine r_lT q1 ?_
      refine r_iT q2 ?_
      exact r_sF q3 (hQ' m h.next)
    refine c_sT q3 ?_
    obtain ⟨s, hs, rfl⟩ := ix_split (b := 3) (n := 3) rfl q3.1 q3.2
    have hc : shC L (111 + 2 * s) := shI (by omega)
    have es : nI s = nI s := rfl
    obtain ⟨e0, e1, e2, ⟨n, hn, en⟩, e3⟩ := h.2.2.1 s (by omega)
    refine ⟨⟨rfl, ltB rfl, neB rfl⟩, ?_⟩
    rw [rf_csheets]
    refine ⟨sheK (by omega), ?_⟩
    rw [sheV (by omega)]
    by_cases s1 : m (111 + 2 * s) 0 = -1
    · refine ⟨shO hc, c_missT hc s1 ?_⟩
      refine hQ _ m (fun Q' hQ' => ?_)
      refine Mc_wp nocut t188 rfl rfl rfl 60 ?_
      refine r_lT q1 ?_
      refine r_iT q2 ?_
      refine r_sT q3 ?_
      refine ⟨⟨rfl, ltB rfl, neB rfl⟩, ?_⟩
      rw [rf_sorts]
      refine ⟨⟨rfl, ltB rfl, vinK es (show s < 4 by omega) rfl⟩, ?_⟩
      rw [clK es (show s < 2 ^ 31 by omega)]
      rw [e0, s1]
      exact hQ' m h.next
    refine ⟨shO hc, c_missF hc s1 ?_⟩
    refine ⟨⟨rfl, ltB rfl, neB rfl⟩, ?_⟩
    rw [rf_cslots]
    refine ⟨sloK (by omega), ?_⟩
    rw [sloV (by omega)]
    refine ⟨sloC (by omega), ?_⟩
    refine ⟨sloC (by omega), ?_⟩
    refine ⟨sloS (by omega), ?_⟩
    rw [sloSV (by omega)]
    refine ⟨⟨rfl, ltB rfl, neB rfl⟩, ?_⟩
    rw [rf_csheets]
    refine ⟨sheK (by omega), ?_⟩
    rw [sheV (by omega)]
    refine ⟨shO (slI (by omega)), c_sbecome (slI (by omega)) hc (by omega) (by omega) (by omega) (fun f hf => ?_)⟩
    rw [mu_row (show 111 + 2 * s ≠ 119 + 4 * i by omega)]
    exact lay_s h (by omega) (by omega) q1 q3 s1 (fun j hj => by rw [hf j hj, mu_row (by omega)]) hQ
  · refine ⟨⟨rfl, ltB rfl, neB rfl⟩, ?_⟩
    rw [rf_cslots]
    refine ⟨sloK (by omega), ?_⟩
    rw [sloV (by omega)]
    refine ⟨sloC (by omega), ?_⟩
    refine ⟨sloC (by omega), ?_⟩
    refine ⟨sloC (by omega), ?_⟩
    exact lay_n h (by omega) (Or.inr rfl) q1 hQ
