-- pairs: toLaps
theorem gs_day : ∀ (g : Nat) (A : Nat → Int32), dayA (goesA g A) = goesA (g + 1) A
  | 0, _ => rfl
  | g + 1, A => gs_day g (dayA A)
theorem pr_toLaps {scr : Nat → Int32} {L d k : Nat} {m : Mem} {v : Int32} (hk : k ≤ 1000) (h : Sim scr k m) : Pair scr L (d + 20) 74 154 [.int v] k m := by
  intro Q hQ
  obtain ⟨nt, nw, nx, hM, hI⟩ := h.1.1
  have hR := hM.1
  have hn8 := hR.2.2.1.1
  have hx14 := hR.2.2.1.2.2
  have hnt : ntA (m 140) = nt := nt_of hR.2.1.1 hn8
  have hy := hM.2.2.1.y
  by_cases q1 : 0 ≤ v ∧ v ≤ 99
  rotate_left 1
  · refine Mc_wp nocut t74 rfl rfl rfl 60 ?_
    refine c_wF q1 ?_
    refine hQ _ m (fun Q' hQ' => ?_)
    refine Mc_wp nocut t154 rfl rfl rfl 60 ?_
    exact r_iF q1 (hQ' m h.next)
  have g3 : ∀ g, goesA g (m 140) 3 = m 140 3 := fun g => goes_out (by omega) (by omega) (by omega) g (by omega)
  have g1 : ∀ g, goesA g (m 140) 1 = nI nt := fun g => by rw [goes_out (by omega) (by omega) (by omega) g (by omega)]; exact hR.2.1.1
  have g7 : ∀ g, goesA g (m 140) 7 = nI nx := fun g => by rw [goes_out (by omega) (by omega) (by omega) g (by omega)]; exact hR.2.1.2.2
  have ref : ∀ (V : Int32) (g : Nat) (m3 : Mem), g ≤ 300 → (∀ r, ¬ scrap r → m3 r = m r) → (∀ i, i < g → fthO (goesA i (m 140)) v nt = none) → (g = 300 ∨ ∃ b, b < 8 ∧ fthO (goesA g (m 140)) v nt = some b) → V = tol (opI (fthO (goesA g (m 140)) v nt)) → Q (some (.int V)) (S0 L) m3 := by
    intro V g m3 hg hs hno hV eV
    have s140 : m3 140 = m 140 := hs 140 (by unfold scrap; omega)
    refine hQ V m3 (fun Q' hQ' => ?_)
    have fin : ∀ m4, Tr m3 m4 (m 140) → Q' (some (.int V)) (S0 L) m4 := by
      intro m7 hT7
      refine hQ' m7 (sim_scrap h (fun r hr => ?_))
      by_cases e : r = 140
      · subst e; rw [hT7.2.1]
      · rw [hT7.1 r (by simp; unfold scrap at hr; omega)]; exact hs r hr
    have exit : ∀ m4, Tr m3 m4 (goesA g (m 140)) → Xs (d + 20) 154 52 [some (.ref 139), some (.int v), some (.int (opI (fthO (goesA g (m 140)) v nt))), some (.int (nI g))] [] (S0 L) (0, 0) m4 Q' := by
      intro m4 hT4
      refine Xs_wp nocut t154 60 ?_
      refine ⟨⟨rfl, ltB rfl⟩, hT4.back (fun m5 hT5 => ?_)⟩
      rw [s140] at hT5
      refine r_told0 ?_
      rw [← eV]
      exact fin m5 hT5
    have loop : ∀ j i, i + j = g → ∀ m4, Tr m3 m4 (goesA i (m 140)) → Xs (d + 20) 154 25 [some (.ref 139), some (.int v), some (.int (opI (fthO (goesA i (m 140)) v nt))), some (.int (nI i))] [] (S0 L) (0, 0) m4 Q' := by
      intro j
      induction j with
      | zero =>
        intro i hi m4 hT4
        have hi : i = g := by omega
        subst hi
        refine Xs_wp (cut2 25 52) t154 60 ?_
        rcases hV with e | ⟨b, hb, e⟩
        · subst e
          exact exit m4 hT4
        · refine ifI (fun _ => ?_) (fun _ => exit m4 hT4)
          refine ifI (fun z => absurd z (by rw [e]; exact opI_some (by omega))) (fun _ => exit m4 hT4)
      | succ j ih =>
        intro i hi m4 hT4
        have hn := hno i (by omega)
        refine Xs_wp (cut2 25 52) t154 60 ?_
        refine ifI (fun _ => ?_) (fun z => absurd (nI_lt (a := i) (b := 300) (by omega) (by omega)) z)
        refine ifI (fun _ => ?_) (fun z => absurd (by rw [hn]; exact opI_none) z)
        refine ⟨⟨rfl, ltB rfl⟩, hT4.day (nt := nt) (nx := nx) (g1 i) hn8 (g7 i) hx14 (hT4.tx (by rw [s140]; exact hM.2.1.tx)) (fun m5 hT5 => ?_)⟩
        rw [gs_day i] at hT5
        refine ⟨⟨rfl, ltB rfl⟩, r_farthest (nt := nt) (by rw [hT5.2.1]; exact g1 _) hn8 (by rw [hT5.2.1, g3]; exact hy.2.2) ?_⟩
        rw [hT5.2.1]
        have := ih (i + 1) (by omega) m5 hT5
        rw [← nI_1] at this
        exact this
    refine Mc_wp (cut1 25) t154 rfl rfl rfl 60 ?_
    refine r_iT q1 ?_
    refine ⟨⟨rfl, ltB rfl⟩, Tr.think (fun m4 hT4 => ?_)⟩
    rw [s140] at hT4
    refine ⟨⟨rfl, ltB rfl⟩, r_farthest (nt := nt) (by rw [hT4.2.1]; exact g1 0) hn8 (by rw [hT4.2.1]; exact hy.2.2) ?_⟩
    rw [hT4.2.1]
    exact loop g 0 (by omega) m4 hT4
  refine Mc_wp (cut1 39) t74 rfl rfl rfl 60 ?_
  refine c_wT q1 ?_
  refine ⟨⟨rfl, ltB rfl, neB rfl⟩, ?_⟩
  rw [rf_cnow]
  refine ⟨moC mb35, ?_⟩
  rw [hR.1.1]
  by_cases q0 : nt = 0
  · subst q0
    exact ref _ 300 m (by omega) (fun _ _ => rfl) (fun _ _ => rfl) (Or.inl rfl) rfl
  refine ifI (fun e => absurd ((nI_eq (b := 0) (by omega) (by omega)).mp e) q0) (fun _ => ?_)
  refine ⟨⟨rfl, ltB rfl, neB rfl⟩, ?_⟩
  rw [rf_cthought]
  refine ⟨⟨rfl, ltB rfl, neB rfl⟩, ?_⟩
  rw [rf_cnow]
  refine ⟨moC mb83, Th.make mb35 (by decide) hM FrB.refl (fun m1 hC1 => ?_)⟩
  have hpth : ∀ g, g ≤ 301 → ∀ t, t < nt → -1000000000 ≤ (goesA g (m 140) (44 + 6 * t + 2)).toInt := fun g hg t ht => (wt_goes hn8 g (B := bd k) (by have := bd_pos k; omega) (by have := bd_le hk; unfold bd at *; omega) hM.2.2.2.1 hnt).p ht (by have := bd_le hk; unfold bd at *; omega)
  have hfa : ∀ g, g ≤ 301 → ∃ b, b < nt ∧ ahA (goesA g (m 140)) = some b ∧ fthO (goesA g (m 140)) v nt = if lapsA (goesA g (m 140)) b < v then none else some b := by
    intro g hg
    have hntG : ntA (goesA g (m 140)) = nt := by rw [goes_nt (by omega)]; exact hnt
    obtain ⟨b, hb, e⟩ := ah_some hntG (by omega)
    refine ⟨b, hb, e, ?_⟩
    rw [fth_ah (n := v) (N := nt) (by rw [g3]; exact hy.1) (by rw [g3]; exact hy.2.1) (hpth g hg) nt (Nat.le_refl _)]
    unfold ahA at e
    rw [hntG] at e
    rw [e]
  have loop : ∀ j i, i + j = 301 → ∀ m2 s3, Th nt nw nx m m2 (goesA i (m 140)) → (∀ x, x < i → fthO (goesA x (m 140)) v nt = none) → Xs (d + 20) 74 39 [some (.ref 0), some (.int v), some (.int (nI i)), s3] [] (S0 L) (0, 0) m2 Q := by
    intro j
    induction j with
    | zero =>
      intro i hi m2 s3 hC hno
      have hi : i = 301 := by omega
      subst hi
      refine Xs_wp (cut1 39) t74 60 ?_
      refine ref _ 300 m2 (by omega) hC.sc (fun x hx => hno x (by omega)) (Or.inl rfl) ?_
      rw [hno 300 (by omega)]; rfl
    | succ j ih =>
      intro i hi m2 s3 hC hno
      obtain ⟨b, hb, e, ef⟩ := hfa i (by omega)
      have h7 : m2 83 7 = m 140 3 := hC.2.1.1.2.2.2.1.trans (g3 i)
      refine Xs_wp (cut1 39) t74 60 ?_
      refine ifI (fun z => absurd z (nI_nlt (a := 300) (b := i) (by omega) (by omega))) (fun z => ?_)
      refine ⟨⟨rfl, ltB rfl, neB rfl⟩, ?_⟩
      rw [rf_cthought]
      refine ⟨moC mb83, c_ahead mb83 hC.2.1 ?_⟩
      rw [e]
      refine ⟨⟨rfl, ltB rfl, neB rfl⟩, ?_⟩
      rw [rf_cthought]
      refine ⟨moC mb83, c_hT (t := b) mb83 hC.2.1.1.1 hn8 hb ?_⟩
      refine ⟨⟨rfl, ltB rfl, neB rfl⟩, ?_⟩
      rw [rf_cthought]
      refine ⟨⟨rfl, ltB rfl, neB rfl⟩, ?_⟩
      rw [rf_cthought]
      refine ⟨moK1 mb83, ?_⟩
      rw [moV1 mb83]
      refine ⟨heK mb83 (rfl : opI (some b) = nI b) (by omega), ?_⟩
      rw [heV mb83 (rfl : opI (some b) = nI b) (show b < 8 by omega)]
      refine ⟨moC mb83, c_lapsOf mb83 (heC mb83 (by omega)) (by rw [h7]; exact hy.2.2) ?_⟩
      have el : fdV (m2 (83 + 4 + b) 2) (m2 83 7) = lapsA (goesA i (m 140)) b := by
        rw [h7, hC.2.1.2.2.2.1 b 2 hb (by omega), fd_eq hy.1 (hpth i (by omega) b hb) hy.2.1]; unfold lapsA; rw [g3]
      rw [el]
      refine ifI (fun q => ?_) (fun q => ?_)
      · rw [if_pos q] at ef
        refine ⟨⟨rfl, ltB rfl, neB rfl⟩, ?_⟩
        rw [rf_cthought]
        refine ⟨moC mb83, hC.day (fun m3 hC3 => ?_)⟩
        rw [gs_day i] at hC3
        have := ih (i + 1) (by omega) m3 (some (.int (opI (some b)))) hC3 (fun x hx => by
          by_cases e : x = i
          · subst e; exact ef
          · exact hno x (by omega))
        rw [← nI_1] at this
        exact this
      · rw [if_neg q] at ef
        refine ref _ i m2 (by omega) hC.sc hno (Or.inr ⟨b, by omega, ef⟩) ?_
        rw [ef, tol_some (by omega)]; rfl
  exact loop 301 0 (by omega) m1 none hC1 (fun x hx => absurd hx (by omega))
