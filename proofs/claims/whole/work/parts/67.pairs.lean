-- pairs: meet, toLaps
theorem laps_mono {x y z : Int32} (hz : 0 < z) (hx : -1000000000 ≤ x.toInt) (hy : -1000000000 ≤ y.toInt) (hz2 : z.toInt ≤ 1000000) (h : x.toInt ≤ y.toInt) : (lapsP x z).toInt ≤ (lapsP y z).toInt := by
  have h1 := laps_int hz hx hz2
  have h2 := laps_int hz hy hz2
  obtain ⟨a1, a2, _⟩ := yard_rng (x := x) hz
  obtain ⟨b1, b2, _⟩ := yard_rng (x := y) hz
  have hz' : 0 < z.toInt := tI_lt.mp hz
  rcases Int.lt_or_le (lapsP y z).toInt (lapsP x z).toInt with q | q
  · exfalso
    have : ((lapsP y z).toInt + 1) * z.toInt ≤ (lapsP x z).toInt * z.toInt := Int.mul_le_mul_of_nonneg_right (by omega) (by omega)
    rw [Int.add_mul] at this
    omega
  · exact q
theorem fth_ah {A : Nat → Int32} {n : Int32} {N : Nat} (hz : 0 < A 3) (hz2 : (A 3).toInt ≤ 1000000) (hp : ∀ t, t < N → -1000000000 ≤ (A (44 + 6 * t + 2)).toInt) : ∀ t, t ≤ N → fthO A n t = (match ahO A t with
    | none => none
    | some b => if lapsA A b < n then none else some b)
  | 0, _ => rfl
  | t + 1, ht => by
    have ih := fth_ah (n := n) hz hz2 hp t (by omega)
    have mono : ∀ a b, a < N → b < N → (A (44 + 6 * a + 2)).toInt ≤ (A (44 + 6 * b + 2)).toInt → (lapsA A a).toInt ≤ (lapsA A b).toInt := fun a b ha hb h => laps_mono hz (hp a ha) (hp b hb) hz2 h
    rw [fthO.eq_2, ahO.eq_2]
    cases ho : ahO A t with
    | none =>
      rw [ho] at ih
      dsimp only at ih ⊢
      rw [ih]
    | some b =>
      have hbt := ahO_lt ho
      rw [ho] at ih
      dsimp only at ih ⊢
      rw [ih]
      by_cases q1 : lapsA A b < n
      · rw [if_pos q1]
        by_cases q2 : lapsA A t < n
        · rw [if_pos q2]
          by_cases q3 : A (44 + 6 * b + 2) < A (44 + 6 * t + 2)
          · rw [if_pos q3]; dsimp only; rw [if_pos q2]
          · rw [if_neg q3]; dsimp only; rw [if_pos q1]
        · rw [if_neg q2]
          dsimp only
          have q3 : A (44 + 6 * b + 2) < A (44 + 6 * t + 2) := by
            rw [tI_lt] at q1 q2 ⊢
            rcases Int.lt_or_le (A (44 + 6 * b + 2)).toInt (A (44 + 6 * t + 2)).toInt with q | q
            · exact q
            · have := mono t b (by omega) (by omega) q; omega
          rw [if_pos q3]; dsimp only; rw [if_neg q2]
      · rw [if_neg q1]
        dsimp only
        by_cases q2 : lapsA A t < n
        · rw [if_pos q2]
          have q3 : ¬ A (44 + 6 * b + 2) < A (44 + 6 * t + 2) := by
            rw [tI_lt] at q1 q2 ⊢
            intro q
            have := mono b t (by omega) (by omega) (by omega); omega
          rw [if_neg q3]; dsimp only; rw [if_neg q1]
        · rw [if_neg q2]
          by_cases q3 : A (44 + 6 * b + 2) < A (44 + 6 * t + 2)
          · rw [if_pos q3]; dsimp only; rw [if_neg q2]
          · rw [if_neg q3]; dsimp only; rw [if_neg q1]
theorem pr_meet {scr : Nat → Int32} {L d k : Nat} {m : Mem} {v w : Int32} (h : Sim scr k m) : Pair scr L (d + 20) 75 155 [.int v, .int w] k m := by
  intro Q hQ
  obtain ⟨nt, nw, nx, hM, hI⟩ := h.1.1
  have hR := hM.1
  have hn8 := hR.2.2.1.1
  have hx14 := hR.2.2.1.2.2
  have hnt : ntA (m 140) = nt := nt_of hR.2.1.1 hn8
  have hy := hM.2.2.1.y
  refine Mc_wp (cut1 38) t75 rfl rfl rfl 60 ?_
  refine ⟨⟨rfl, ltB rfl, neB rfl⟩, ?_⟩
  rw [rf_cnow]
  rcases num_or (n := nt) v (by omega) with q1 | ⟨t, ht, rfl⟩
  · refine ⟨moC mb35, c_hF mb35 hR.1.1 hn8 q1 ?_⟩
    refine hQ _ m (fun Q' hQ' => ?_)
    refine Mc_wp nocut t155 rfl rfl rfl 60 ?_
    exact ⟨⟨rfl, ltB rfl⟩, r_hF hR.2.1.1 hn8 q1 (hQ' m h.next)⟩
  refine ⟨moC mb35, c_hT mb35 hR.1.1 hn8 ht ?_⟩
  refine ⟨⟨rfl, ltB rfl, neB rfl⟩, ?_⟩
  rw [rf_cnow]
  rcases num_or (n := nt) w (by omega) with q1 | ⟨u, hu, rfl⟩
  · refine ⟨moC mb35, c_hF mb35 hR.1.1 hn8 q1 ?_⟩
    refine hQ _ m (fun Q' hQ' => ?_)
    refine Mc_wp nocut t155 rfl rfl rfl 60 ?_
    refine ⟨⟨rfl, ltB rfl⟩, r_hT hR.2.1.1 hn8 ht ?_⟩
    exact ⟨⟨rfl, ltB rfl⟩, r_hF hR.2.1.1 hn8 q1 (hQ' m h.next)⟩
  refine ⟨moC mb35, c_hT mb35 hR.1.1 hn8 hu ?_⟩
  refine ⟨⟨rfl, ltB rfl, neB rfl⟩, ?_⟩
  rw [rf_cthought]
  refine ⟨⟨rfl, ltB rfl, neB rfl⟩, ?_⟩
  rw [rf_cnow]
  refine ⟨moC mb83, Th.make mb35 (by decide) hM FrB.refl (fun m1 hC1 => ?_)⟩
  have g3 : ∀ g, goesA g (m 140) 3 = m 140 3 := fun g => goes_out (by omega) (by omega) (by omega) g (by omega)
  have g1 : ∀ g, goesA g (m 140) 1 = nI nt := fun g => by rw [goes_out (by omega) (by omega) (by omega) g (by omega)]; exact hR.2.1.1
  have g7 : ∀ g, goesA g (m 140) 7 = nI nx := fun g => by rw [goes_out (by omega) (by omega) (by omega) g (by omega)]; exact hR.2.1.2.2
  have gs : ∀ g, dayA (goesA g (m 140)) = goesA (g + 1) (m 140) := by
    have : ∀ g A, dayA (goesA g A) = goesA (g + 1) A := by
      intro g
      induction g with
      | zero => intro A; rfl
      | succ g ih => intro A; exact ih (dayA A)
    exact fun g => this g _
  -- the reference: all the days before have been gone without meeting
  have ref : ∀ (V : Int32) (g : Nat) (m3 : Mem), g ≤ 301 → (∀ r, ¬ scrap r → m3 r = m r) → (∀ i, i < g → ¬ yardA (goesA i (m 140)) t = yardA (goesA i (m 140)) u) → (g = 301 ∧ V = NONEv ∨ g ≤ 300 ∧ V = nI g ∧ yardA (goesA g (m 140)) t = yardA (goesA g (m 140)) u) → Q (some (.int V)) (S0 L) m3 := by
    intro V g m3 hg hs hno hV
    have s140 : m3 140 = m 140 := hs 140 (by unfold scrap; omega)
    refine hQ V m3 (fun Q' hQ' => ?_)
    have fin : ∀ m4, Tr m3 m4 (m 140) → Q' (some (.int V)) (S0 L) m4 := by
      intro m7 hT7
      refine hQ' m7 (sim_scrap h (fun r hr => ?_))
      by_cases e : r = 140
      · subst e; rw [hT7.2.1]
      · rw [hT7.1 r (by simp; unfold scrap at hr; omega)]; exact hs r hr
    have loop : ∀ j i, i + j = g → ∀ m4, Tr m3 m4 (goesA i (m 140)) → Xs (d + 20) 155 25 [some (.ref 139), some (.int (nI t)), some (.int (nI u)), some (.int (nI i))] [] (S0 L) (0, 0) m4 Q' := by
      intro j
      induction j with
      | zero =>
        intro i hi m4 hT4
        have hi : i = g := by omega
        subst hi
        rcases hV with ⟨e, eV⟩ | ⟨e, eV, ey⟩
        · subst e
          refine Xs_wp (cut1 25) t155 60 ?_
          refine ⟨⟨rfl, ltB rfl⟩, hT4.back (fun m5 hT5 => ?_)⟩
          rw [s140] at hT5
          have := fin m5 hT5
          rw [eV] at this
          exact this
        · refine Xs_wp (cut1 25) t155 60 ?_
          refine ifI (fun z => absurd z (nI_nlt (a := 300) (b := i) (by omega) (by omega))) (fun z => ?_)
          refine ⟨⟨rfl, ltB rfl⟩, r_yardOf (by omega) (by rw [hT4.2.1, g3]; exact hy.2.2) ?_⟩
          refine ⟨⟨rfl, ltB rfl⟩, r_yardOf (by omega) (by rw [hT4.2.1, g3]; exact hy.2.2) ?_⟩
          rw [hT4.2.1]
          refine ifI (fun _ => ?_) (fun z => absurd ey z)
          refine ⟨⟨rfl, ltB rfl⟩, hT4.back (fun m5 hT5 => ?_)⟩
          rw [s140] at hT5
          have := fin m5 hT5
          rw [eV] at this
          exact ifI (fun z => absurd z (nI_nlt (a := 300) (b := i) (by omega) (by omega))) (fun _ => this)
      | succ j ih =>
        intro i hi m4 hT4
        refine Xs_wp (cut1 25) t155 60 ?_
        refine ifI (fun z => absurd z (nI_nlt (a := 300) (b := i) (by omega) (by omega))) (fun z => ?_)
        refine ⟨⟨rfl, ltB rfl⟩, r_yardOf (by omega) (by rw [hT4.2.1, g3]; exact hy.2.2) ?_⟩
        refine ⟨⟨rfl, ltB rfl⟩, r_yardOf (by omega) (by rw [hT4.2.1, g3]; exact hy.2.2) ?_⟩
        rw [hT4.2.1]
        refine ifI (fun z => absurd z (hno i (by omega))) (fun _ => ?_)
        refine ⟨⟨rfl, ltB rfl⟩, hT4.day (nt := nt) (nx := nx) (g1 i) hn8 (g7 i) hx14 (hT4.tx (by rw [s140]; exact hM.2.1.tx)) (fun m5 hT5 => ?_)⟩
        rw [gs i] at hT5
        have := ih (i + 1) (by omega) m5 hT5
        rw [← nI_1] at this
        exact this
    refine Mc_wp (cut1 25) t155 rfl rfl rfl 60 ?_
    refine ⟨⟨rfl, ltB rfl⟩, r_hT (by rw [s140]; exact hR.2.1.1) hn8 ht ?_⟩
    refine ⟨⟨rfl, ltB rfl⟩, r_hT (by rw [s140]; exact hR.2.1.1) hn8 hu ?_⟩
    refine ⟨⟨rfl, ltB rfl⟩, Tr.think (fun m4 hT4 => ?_)⟩
    rw [s140] at hT4
    exact loop g 0 (by omega) m4 hT4
  have loop : ∀ j i, i + j = 301 → ∀ m2, Th nt nw nx m m2 (goesA i (m 140)) → (∀ x, x < i → ¬ yardA (goesA x (m 140)) t = yardA (goesA x (m 140)) u) → Xs (d + 20) 75 38 [some (.ref 0), some (.int (nI t)), some (.int (nI u)), some (.int (nI i))] [] (S0 L) (0, 0) m2 Q := by
    intro j
    induction j with
    | zero =>
      intro i hi m2 hC hno
      have hi : i = 301 := by omega
      subst hi
      refine Xs_wp (cut1 38) t75 60 ?_
      exact ref _ 301 m2 (by omega) hC.sc hno (Or.inl ⟨rfl, rfl⟩)
    | succ j ih =>
      intro i hi m2 hC hno
      have h7 : m2 83 7 = m 140 3 := hC.2.1.1.2.2.2.1.trans (g3 i)
      have ya : ∀ a, a < nt → fmV (m2 (83 + 4 + a) 2) (m2 83 7) = yardA (goesA i (m 140)) a := fun a ha => by
        rw [h7, hC.2.1.2.2.2.1 a 2 ha (by omega), fm_eq hy.1]; unfold yardA; rw [g3]
      refine Xs_wp (cut1 38) t75 60 ?_
      refine ifI (fun z => absurd z (nI_nlt (a := 300) (b := i) (by omega) (by omega))) (fun z => ?_)
      refine ⟨⟨rfl, ltB rfl, neB rfl⟩, ?_⟩
      rw [rf_cthought]
      refine ⟨⟨rfl, ltB rfl, neB rfl⟩, ?_⟩
      rw [rf_cthought]
      refine ⟨moK1 mb83, ?_⟩
      rw [moV1 mb83]
      refine ⟨heK mb83 (rfl : nI t = nI t) (by omega), ?_⟩
      rw [heV mb83 (rfl : nI t = nI t) (show t < 8 by omega)]
      refine ⟨moC mb83, c_yardOf mb83 (heC mb83 (by omega)) (by rw [h7]; exact hy.2.2) ?_⟩
      rw [ya t ht]
      refine ⟨⟨rfl, ltB rfl, neB rfl⟩, ?_⟩
      rw [rf_cthought]
      refine ⟨⟨rfl, ltB rfl, neB rfl⟩, ?_⟩
      rw [rf_cthought]
      refine ⟨moK1 mb83, ?_⟩
      rw [moV1 mb83]
      refine ⟨heK mb83 (rfl : nI u = nI u) (by omega), ?_⟩
      rw [heV mb83 (rfl : nI u = nI u) (show u < 8 by omega)]
      refine ⟨moC mb83, c_yardOf mb83 (heC mb83 (by omega)) (by rw [h7]; exact hy.2.2) ?_⟩
      rw [ya u hu]
      refine ifI (fun q => ?_) (fun q => ?_)
      · exact ref _ i m2 (by omega) hC.sc hno (Or.inr ⟨by omega, rfl, q⟩)
      · refine ⟨⟨rfl, ltB rfl, neB rfl⟩, ?_⟩
        rw [rf_cthought]
        refine ⟨moC mb83, hC.day (fun m3 hC3 => ?_)⟩
        rw [gs i] at hC3
        have := ih (i + 1) (by omega) m3 hC3 (fun x hx => by
          by_cases e : x = i
          · subst e; exact q
          · exact hno x (by omega))
        rw [← nI_1] at this
        exact this
  exact loop 301 0 (by omega) m1 hC1 (fun x hx => absurd hx (by omega))
