-- pairs: behind, meet
theorem pr_behind {scr : Nat → Int32} {L d k : Nat} {m : Mem} {v x w : Int32} (hk : k ≤ 1000) (h : Sim scr k m) : Pair scr L (d + 20) 73 152 [.int v, .int x, .int w] k m := by
  intro Q hQ
  obtain ⟨nt, nw, nx, hM, hI⟩ := h.1.1
  have hR := hM.1
  have hn8 := hR.2.2.1.1
  have hn12 := hR.2.2.1.2.1
  have hx14 := hR.2.2.1.2.2
  have hnt : ntA (m 140) = nt := nt_of hR.2.1.1 hn8
  refine Mc_wp nocut t73 rfl rfl rfl 60 ?_
  refine ⟨⟨rfl, ltB rfl, neB rfl⟩, ?_⟩
  rw [rf_cnow]
  rcases num_or (n := nt) v (by omega) with q1 | ⟨t, ht, rfl⟩
  · refine ⟨moC mb35, c_hF mb35 hR.1.1 hn8 q1 ?_⟩
    refine hQ _ m (fun Q' hQ' => ?_)
    refine Mc_wp nocut t152 rfl rfl rfl 60 ?_
    exact ⟨⟨rfl, ltB rfl⟩, r_hF hR.2.1.1 hn8 q1 (hQ' m h.next)⟩
  refine ⟨moC mb35, c_hT mb35 hR.1.1 hn8 ht ?_⟩
  by_cases q2 : 0 ≤ x ∧ x ≤ 300
  rotate_left 1
  · refine c_wF q2 ?_
    refine hQ _ m (fun Q' hQ' => ?_)
    refine Mc_wp nocut t152 rfl rfl rfl 60 ?_
    refine ⟨⟨rfl, ltB rfl⟩, r_hT hR.2.1.1 hn8 ht ?_⟩
    exact r_iF q2 (hQ' m h.next)
  refine c_wT q2 ?_
  by_cases q3 : 0 ≤ w ∧ w ≤ 10
  rotate_left 1
  · refine c_wF q3 ?_
    refine hQ _ m (fun Q' hQ' => ?_)
    refine Mc_wp nocut t152 rfl rfl rfl 60 ?_
    refine ⟨⟨rfl, ltB rfl⟩, r_hT hR.2.1.1 hn8 ht ?_⟩
    refine r_iT q2 ?_
    exact r_iF q3 (hQ' m h.next)
  refine c_wT q3 ?_
  obtain ⟨n, hn, rfl⟩ := ix_split (b := 300) (n := 300) rfl q2.1 q2.2
  obtain ⟨w, hw, rfl⟩ := ix_split (b := 10) (n := 10) rfl q3.1 q3.2
  refine ⟨⟨rfl, ltB rfl, neB rfl⟩, ?_⟩
  rw [rf_cthought]
  refine ⟨⟨rfl, ltB rfl, neB rfl⟩, ?_⟩
  rw [rf_cnow]
  refine ⟨moC mb83, Th.make mb35 (by decide) hM FrB.refl (fun m1 hC1 => ?_)⟩
  refine ⟨⟨rfl, ltB rfl, neB rfl⟩, ?_⟩
  rw [rf_cthought]
  refine ⟨moC mb83, hC1.days (by omega) (fun m2 hC => ?_)⟩
  have hc : tuC L (83 + 4 + t) := heC mb83 (by omega)
  have hRG := hC.2.1
  have hG3 : goesA n (m 140) 3 = m 140 3 := goes_out (by omega) (by omega) (by omega) n (by omega)
  have hy := hM.2.2.1.y
  have e140 := hC.e140
  have hwt := wt_goes hn8 n (B := bd k) (by have := bd_pos k; omega) (by have := bd_le hk; unfold bd at *; omega) hM.2.2.2.1 hnt
  have hpG : -1000000000 ≤ (goesA n (m 140) (44 + 6 * t + 2)).toInt := hwt.p ht (by have := bd_le hk; unfold bd at *; omega)
  have hntG : ntA (goesA n (m 140)) = nt := by rw [goes_nt (by omega)]; exact hnt
  obtain ⟨f, hf, ef⟩ := ah_some hntG (by omega)
  have hpos : ¬ opI (ahA (goesA n (m 140))) < 0 := by rw [ef]; exact opI_some (by omega)
  -- the reference, for an answer V
  have ref : ∀ (V : Int32) (m3 : Mem), (∀ r, ¬ scrap r → m3 r = m r) → (∀ (Q' : Qt) (m4 : Mem), Tr m3 m4 (goesA n (m 140)) → (∀ m5, Tr m3 m5 (goesA n (m 140)) → Xs (d + 20) 152 86 [some (.ref 139), some (.int (nI t)), some (.int (nI n)), some (.int (nI w)), none] [.int V] (S0 L) (0, 0) m5 Q') → Xs (d + 20) 152 41 [some (.ref 139), some (.int (nI t)), some (.int (nI n)), some (.int (nI w)), none] [] (S0 L) (0, 0) m4 Q') → Q (some (.int V)) (S0 L) m3 := by
    intro V m3 hs hX
    have s140 : m3 140 = m 140 := hs 140 (by unfold scrap; omega)
    refine hQ V m3 (fun Q' hQ' => ?_)
    refine Mc_wp (cut1 41) t152 rfl rfl rfl 60 ?_
    refine ⟨⟨rfl, ltB rfl⟩, r_hT (by rw [s140]; exact hR.2.1.1) hn8 ht ?_⟩
    refine r_iT q2 ?_
    refine r_iT q3 ?_
    refine ⟨⟨rfl, ltB rfl⟩, Tr.think (fun m4 hT4 => ?_)⟩
    rw [s140] at hT4
    refine ⟨⟨rfl, ltB rfl⟩, hT4.days (nt := nt) (nx := nx) (by omega) hR.2.1.1 hn8 hR.2.1.2.2 hx14 hM.2.1.tx (fun m5 hT5 => ?_)⟩
    refine hX Q' m5 hT5 (fun m6 hT6 => ?_)
    refine Xs_wp nocut t152 60 ?_
    refine ⟨⟨rfl, ltB rfl⟩, hT6.back (fun m7 hT7 => ?_)⟩
    refine hQ' m7 (sim_scrap h (fun r hr => ?_))
    by_cases e : r = 140
    · subst e; rw [hT7.2.1, s140]
    · rw [hT7.1 r (by simp; unfold scrap at hr; omega)]; exact hs r hr
  have hG1 : goesA n (m 140) 1 = nI nt := by rw [goes_out (by omega) (by omega) (by omega) n (by omega)]; exact hR.2.1.1
  have hG6 : goesA n (m 140) 6 = nI nw := by rw [goes_out (by omega) (by omega) (by omega) n (by omega)]; exact hR.2.1.2.1
  have hG7 : goesA n (m 140) 7 = nI nx := by rw [goes_out (by omega) (by omega) (by omega) n (by omega)]; exact hR.2.1.2.2
  by_cases w0 : w = 0
  · subst w0
    refine ⟨⟨rfl, ltB rfl, neB rfl⟩, ?_⟩
    rw [rf_cthought]
    refine ⟨moK1 mb83, ?_⟩
    rw [moV1 mb83]
    refine ⟨heK mb83 (rfl : nI t = nI t) (by omega), ?_⟩
    rw [heV mb83 (rfl : nI t = nI t) (show t < 8 by omega)]
    refine ⟨hc, ?_⟩
    rw [hRG.2.2.2.1 t 2 ht (by omega)]
    refine ref _ m2 hC.sc (fun Q' m4 hT4 next => ?_)
    refine Xs_wp (cut1 86) t152 60 ?_
    refine ⟨⟨rfl, ltB rfl⟩, r_of (w := 2) (by omega) (by omega) ?_⟩
    rw [hT4.2.1]
    exact next m4 hT4
  by_cases w1 : w = 1
  · subst w1
    refine ⟨⟨rfl, ltB rfl, neB rfl⟩, ?_⟩
    rw [rf_cthought]
    refine ⟨⟨rfl, ltB rfl, neB rfl⟩, ?_⟩
    rw [rf_cthought]
    refine ⟨moK1 mb83, ?_⟩
    rw [moV1 mb83]
    refine ⟨heK mb83 (rfl : nI t = nI t) (by omega), ?_⟩
    rw [heV mb83 (rfl : nI t = nI t) (show t < 8 by omega)]
    have h7 : m2 83 7 = m 140 3 := hRG.1.2.2.2.1.trans hG3
    refine ⟨moC mb83, c_lapsOf mb83 hc (by rw [h7]; exact hy.2.2) ?_⟩
    rw [h7, hRG.2.2.2.1 t 2 ht (by omega), fd_eq hy.1 hpG hy.2.1]
    refine ref _ m2 hC.sc (fun Q' m4 hT4 next => ?_)
    refine Xs_wp (cut1 86) t152 60 ?_
    refine ⟨⟨rfl, ltB rfl⟩, r_lapsOf (by omega) (by rw [hT4.2.1, hG3]; exact hy.2.2) ?_⟩
    have el : lapsA (m4 140) t = lapsP (goesA n (m 140) (44 + 6 * t + 2)) (m 140 3) := by rw [hT4.2.1]; unfold lapsA; rw [hG3]
    rw [el]
    exact next m4 hT4
  by_cases w2 : w = 2
  · subst w2
    refine ⟨⟨rfl, ltB rfl, neB rfl⟩, ?_⟩
    rw [rf_cthought]
    refine ⟨moC mb83, c_ahead mb83 hRG ?_⟩
    refine ref _ m2 hC.sc (fun Q' m4 hT4 next => ?_)
    refine Xs_wp (cut1 86) t152 60 ?_
    refine ⟨⟨rfl, ltB rfl⟩, r_ahead (nt := nt) (by rw [hT4.2.1]; exact hG1) hn8 ?_⟩
    rw [hT4.2.1]
    exact next m4 hT4
  have n0 : ¬ nI w = 0 := fun e => w0 ((nI_eq (b := 0) (by omega) (by omega)).mp e)
  have n1 : ¬ nI w = 1 := fun e => w1 ((nI_eq (b := 1) (by omega) (by omega)).mp e)
  have n2 : ¬ nI w = 2 := fun e => w2 ((nI_eq (b := 2) (by omega) (by omega)).mp e)
  refine ifI (fun e => absurd e n0) (fun _ => ?_)
  refine ifI (fun e => absurd e n1) (fun _ => ?_)
  refine ifI (fun e => absurd e n2) (fun _ => ?_)
  refine ⟨⟨rfl, ltB rfl, neB rfl⟩, ?_⟩
  rw [rf_cthought]
  refine ⟨⟨rfl, ltB rfl, neB rfl⟩, ?_⟩
  rw [rf_cthought]
  refine ⟨moC mb83, c_ahead mb83 hRG ?_⟩
  refine ⟨moC mb83, c_paidTo mb83 hRG hC.2.2.1 (ws_goes n hM.2.2.2.2.2 hn12 (by omega)) hpos (fun m3 hF3 => ?_)⟩
  refine ref _ m3 (fun r hr => by rw [hF3 r (by intro e; apply hr; unfold scrap; simp at e; omega)]; exact hC.sc r hr) (fun Q' m4 hT4 next => ?_)
  refine Xs_wp (cut1 86) t152 60 ?_
  refine ifI (fun e => absurd e n0) (fun _ => ?_)
  refine ifI (fun e => absurd e n1) (fun _ => ?_)
  refine ifI (fun e => absurd e n2) (fun _ => ?_)
  have s140 : m3 140 = m 140 := by rw [hF3 140 (by simp)]; exact e140
  refine ⟨⟨rfl, ltB rfl⟩, r_paidTo (nt := nt) (nw := nw) (nx := nx) hn8 hn12 hx14 (by rw [hT4.2.1]; exact hG1) (by rw [hT4.2.1]; exact hG6) (by rw [hT4.2.1]; exact hG7) (by rw [hT4.2.1]; exact hT4.tx (by rw [s140]; exact hM.2.1.tx)) (fun m5 hF5 => ?_)⟩
  rw [hT4.2.1]
  refine next m5 ⟨hT4.1.trans (hF5.mono (by simp)), by rw [hF5 140 (by simp)]; exact hT4.2.1, fun i hi => by rw [hF5 143 (by simp)]; exact hT4.2.2.1 i hi, hT4.2.2.2⟩
