-- pairs: text, the pair
theorem Sim.tx0 {scr : Nat → Int32} {k nt nw nx : Nat} {m m' : Mem} (h : Sim scr k m) (hM : Mo (bd k) 35 nt nw nx (m 140) m) (hI : m 0 4 = 0 ∨ (m 0 4 = 1 ∧ ∃ it iw ix, Mo (bd k) 59 it iw ix (m 141) m ∧ ix ≤ nx)) (hx : nx < 15)
    (hf : ∀ r, ¬ scrap r → r ≠ 0 → r ≠ 139 → r ≠ 5 + 2 * nx → r ≠ 6 + 2 * nx → r ≠ 161 → m' r = m r) (h0 : ∀ f, f ≠ 6 → m' 0 f = m 0 f) (h6 : m' 0 6 = 0) (h139 : ∀ f, f < 6 ∨ 19 < f → m' 139 f = m 139 f) (h1396 : m' 139 6 = 0) : Sim scr (k + 1) m' := by
  obtain ⟨a, b, c, d, e, f⟩ := h
  have rowx : ∀ x, x < nx → m' (5 + 2 * x) = m (5 + 2 * x) ∧ m' (6 + 2 * x) = m (6 + 2 * x) := fun x hx' => ⟨hf _ (by unfold scrap; omega) (by omega) (by omega) (by omega) (by omega) (by omega), hf _ (by unfold scrap; omega) (by omega) (by omega) (by omega) (by omega) (by omega)⟩
  have g : ∀ r, (35 ≤ r ∧ r ≤ 82) ∨ (107 ≤ r ∧ r ≤ 138) ∨ (140 ≤ r ∧ r ≤ 141) ∨ (144 ≤ r ∧ r ≤ 146) ∨ (152 ≤ r ∧ r ≤ 158) ∨ r = 160 ∨ r = 900 → m' r = m r := fun r hr => hf r (by unfold scrap; omega) (by omega) (by omega) (by omega) (by omega) (by omega)
  refine ⟨⟨⟨nt, nw, nx, ?_, ?_⟩, by rw [h0 4 (by decide), h139 3 (by omega)]; exact a.2⟩, ?_, c.fr (fun r q1 q2 => g r (by omega)) (g _ (by omega)) (g _ (by omega)) (g _ (by omega)), d.fr (fun r q1 q2 => g r (by omega)) (g _ (by omega)) (g _ (by omega)) (g _ (by omega)) (g _ (by omega)), e.fr (g _ (by omega)) (g _ (by omega)) (h0 10 (by decide)) (h139 32 (by omega)), f.fr (g _ (by omega)) (g _ (by omega)) (g _ (by omega))⟩
  · rw [g 140 (by omega)]
    have := hM.frx (m' := m') rowx (fun r q1 q2 => g r (by omega))
    exact ⟨this.1, this.2.1, this.2.2.mono bd_mono⟩
  · rw [h0 4 (by decide), g 141 (by omega)]
    rcases hI with q | ⟨q, it, iw, ix, hJ, hxx⟩
    · exact Or.inl q
    · refine Or.inr ⟨q, it, iw, ix, ?_, hxx⟩
      have := hJ.frx (m' := m') (fun x hx' => rowx x (by omega)) (fun r q1 q2 => g r (by omega))
      exact ⟨this.1, this.2.1, this.2.2.mono bd_mono⟩
  · refine ⟨⟨0, by omega, h6⟩, by rw [h6, h1396], fun i hi => ?_⟩
    rw [g 144 (by omega), g 107 (by omega)]; exact b.2.2 i hi
theorem Sim.tx1 {scr : Nat → Int32} {k nt nw nx key : Nat} {m m' : Mem} {cs : List Int32} (h : Sim scr k m) (hM : Mo (bd k) 35 nt nw nx (m 140) m) (hI : m 0 4 = 0 ∨ (m 0 4 = 1 ∧ ∃ it iw ix, Mo (bd k) 59 it iw ix (m 141) m ∧ ix ≤ nx)) (hx : nx < 14) (hkey : key < 3) (hl : cs.length ≤ 96) (hw : wfl (nmK key) 0 cs 1) (hT : TXT nx key cs m')
    (hf : ∀ r, ¬ scrap r → r ≠ 0 → r ≠ 139 → r ≠ 140 → r ≠ 35 → r ≠ 38 → r ≠ 5 + 2 * nx → r ≠ 6 + 2 * nx → r ≠ 161 → m' r = m r) (h0 : ∀ f, f ≠ 6 → m' 0 f = m 0 f) (h6 : m' 0 6 = 0) (h139 : ∀ f, f < 6 ∨ 19 < f → m' 139 f = m 139 f) (h1396 : m' 139 6 = 0)
    (h35 : ∀ f, f ≠ 6 → m' 35 f = m 35 f) (h356 : m' 35 6 = nI (nx + 1)) (h38 : ∀ j, j ≠ key → m' 38 j = m 38 j) (h38k : m' 38 key = nI nx)
    (g1 : ∀ i, i ≠ 7 → i ≠ 92 + 2 * nx → i ≠ 93 + 2 * nx → (i < 120 + 96 * nx ∨ 120 + 96 * nx + cs.length ≤ i) → m' 140 i = m 140 i) (g7 : m' 140 7 = nI (nx + 1)) (g2 : m' 140 (92 + 2 * nx) = nI (1000 * key + cs.length)) (g3 : m' 140 (93 + 2 * nx) = nI ((cs.map trC).countP (fun c => decide (¬ c < 0)))) (g4 : ∀ i, i < cs.length → m' 140 (120 + 96 * nx + i) = (cs.map trC).getD i 0) : Sim scr (k + 1) m' := by
  obtain ⟨a, b, c, d, e, f⟩ := h
  have rowx : ∀ x, x < nx → m' (5 + 2 * x) = m (5 + 2 * x) ∧ m' (6 + 2 * x) = m (6 + 2 * x) := fun x hx' => ⟨hf _ (by unfold scrap; omega) (by omega) (by omega) (by omega) (by omega) (by omega) (by omega) (by omega) (by omega), hf _ (by unfold scrap; omega) (by omega) (by omega) (by omega) (by omega) (by omega) (by omega) (by omega) (by omega)⟩
  have g : ∀ r, (36 ≤ r ∧ r ≤ 37) ∨ (39 ≤ r ∧ r ≤ 82) ∨ (107 ≤ r ∧ r ≤ 138) ∨ r = 141 ∨ (144 ≤ r ∧ r ≤ 146) ∨ (152 ≤ r ∧ r ≤ 158) ∨ r = 160 ∨ r = 900 → m' r = m r := fun r hr => hf r (by unfold scrap; omega) (by omega) (by omega) (by omega) (by omega) (by omega) (by omega) (by omega) (by omega)
  have low : ∀ i, i < 92 → i ≠ 7 → m' 140 i = m 140 i := fun i hi h7 => g1 i h7 (by omega) (by omega) (by omega)
  refine ⟨⟨⟨nt, nw, nx + 1, ?_, ?_⟩, by rw [h0 4 (by decide), h139 3 (by omega)]; exact a.2⟩, ?_, c.fr (fun r q1 q2 => g r (by omega)) (g _ (by omega)) (g _ (by omega)) (g _ (by omega)), d.fr (fun r q1 q2 => g r (by omega)) (g _ (by omega)) (g _ (by omega)) (g _ (by omega)) (g _ (by omega)), e.fr (g _ (by omega)) (g _ (by omega)) (h0 10 (by decide)) (h139 32 (by omega)), f.fr (g _ (by omega)) (g _ (by omega)) (g _ (by omega))⟩
  · obtain ⟨⟨m1, m2, m3, m4, m5, m6⟩, mT, mW⟩ := hM
    refine ⟨⟨?_, ?_, ⟨m3.1, m3.2.1, by omega⟩, fun t f' ht hf' => ?_, fun w f' hw' hf' => ?_, fun j hj => ?_⟩, ?_, ?_⟩
    · rw [h35 4 (by decide), h35 5 (by decide), h356, h35 7 (by decide), h35 8 (by decide), h35 9 (by decide), h35 10 (by decide), h35 11 (by decide), low 3 (by omega) (by omega), low 4 (by omega) (by omega), low 5 (by omega) (by omega), low 2 (by omega) (by omega), low 0 (by omega) (by omega)]
      exact ⟨m1.1, m1.2.1, rfl, m1.2.2.2⟩
    · rw [low 1 (by omega) (by omega), low 6 (by omega) (by omega), g7]
      exact ⟨m2.1, m2.2.1, rfl⟩
    · rw [g _ (by omega), low _ (by omega) (by omega)]; exact m4 t f' ht hf'
    · rw [g _ (by omega), low _ (by omega) (by omega)]; exact m5 w f' hw' hf'
    · have ek : m' 140 (92 + 2 * nx) / 1000 = nI key := by
        rw [g2, tI_eq, tI_div (by decide), nI_toInt (by omega), nI_toInt (by omega)]
        have e1 : (1000 : Int32).toInt = 1000 := rfl
        rw [e1, Int.tdiv_eq_ediv_of_nonneg (by omega)]; omega
      have ecn : cntO (m' 140) (nI j) nx = cntO (m 140) (nI j) nx := cntO_congr (fun x hx' => g1 _ (by omega) (by omega) (by omega) (by omega))
      show m' 38 j = tol (opI (if m' 140 (92 + 2 * nx) / 1000 = nI j then some nx else cntO (m' 140) (nI j) nx))
      rw [ek]
      by_cases q : j = key
      · subst q
        rw [if_pos rfl, tol_some (by omega)]; exact h38k
      · rw [if_neg (fun z => q ((nI_eq (by omega) (by omega)).mp z).symm), ecn, h38 j q]
        exact m6 j hj
    · exact (mT.frx rowx).more hkey hl hw hT g1 hx g2 g3 g4
    · obtain ⟨w1, w2, w3, w4⟩ := mW.mono (bd_mono (k := k))
      refine ⟨?_, fun t ht => ?_, fun t ht => ?_, fun w hw' => ?_⟩
      · unfold WR
        rw [low 3 (by omega) (by omega), low 4 (by omega) (by omega), low 5 (by omega) (by omega), low 2 (by omega) (by omega)]; exact w1
      · have := m3.1
        rw [low _ (by omega) (by omega), low _ (by omega) (by omega), low _ (by omega) (by omega), low _ (by omega) (by omega)]; exact w2 t ht
      · have := m3.1
        rw [low _ (by omega) (by omega), low _ (by omega) (by omega)]; exact w3 t ht
      · have := m3.2.1
        rw [low _ (by omega) (by omega)]; exact w4 w hw'
  · rw [h0 4 (by decide), g 141 (by omega)]
    rcases hI with q | ⟨q, it, iw, ix, hJ, hxx⟩
    · exact Or.inl q
    · refine Or.inr ⟨q, it, iw, ix, ?_, by omega⟩
      have := hJ.frx (m' := m') (fun x hx' => rowx x (by omega)) (fun r q1 q2 => g r (by omega))
      exact ⟨this.1, this.2.1, this.2.2.mono bd_mono⟩
  · refine ⟨⟨0, by omega, h6⟩, by rw [h6, h1396], fun i hi => ?_⟩
    rw [g 144 (by omega), g 107 (by omega)]; exact b.2.2 i hi
theorem c_fault2 {d L r n : Nat} {m : Mem} {Q : Qt} {T : Nat → Int32} (hr : r < 15) (hn : n ≤ 96) (hT : m 107 = T) (e1 : m 161 1 = nI n) (e4 : m 161 4 = 0) (e5 : m 161 5 = 0) (hF : ∀ p m', faultT T n p → Fr (FL r) m m' → Q (some (.int (nI p))) (SR L r) m') (hG : ∀ k cs m', goodT T n k cs → Fr (FL r) m m' → TXT r k cs m' → Q (some (.int (-1))) (SR L r) m') : Mc (d + 150) 25 [.ref 161] (SR L r) m Q :=
  c_fault hr hn hT e1 e4 e5 (fun m' hno hf => hF _ m' (Or.inl ⟨hno, rfl⟩) hf) (fun k p m' hk e hf => hF p m' (Or.inr (Or.inl ⟨k, hk, e⟩)) hf) (fun k y cs m' hk e h0 hf => hF y.st m' (Or.inr (Or.inr ⟨k, y, cs, hk, e, h0, rfl⟩)) hf) (fun k y cs m' hk e h0 hf ht => hG k cs m' ⟨hk, y, e, h0⟩ hf ht)
theorem s1T {L : Nat} : (newS (S0 L) 2 0).2.2.2 0 5 - 1 = 107 := rfl
theorem sr1 {L r : Nat} : (SR L r).2.2.2 0 1 - 1 = 35 := rfl
theorem sr38 {L r : Nat} : (SR L r).2.2.2 35 3 - 1 = 38 := rfl
theorem pr_text {scr : Nat → Int32} {L d k : Nat} {m : Mem} (h : Sim scr k m) : Pair scr L (d + 160) 222 175 [] k m := by
  intro Q hQ
  obtain ⟨⟨⟨nt, nw, nx, hM, hI⟩, hk⟩, ⟨⟨n, hn, en⟩, ew, ec⟩, hS, hL, hW, hC⟩ := id h
  have hR := hM.1
  have hx14 := hR.2.2.1.2.2
  have e7 : m 140 7 = nI nx := hR.2.1.2.2
  have e35 : m 35 6 = nI nx := hR.1.2.2.1
  refine Mc_trunc (r := nx) ?_
  refine Mc_wp nocut t222 rfl rfl rfl 100 ?_
  refine ⟨⟨rfl, ltB rfl⟩, ?_⟩
  rw [en]
  refine ⟨⟨rfl, ltB rfl⟩, ?_⟩
  refine ⟨⟨rfl, ltB rfl, neB rfl⟩, ?_⟩
  rw [rf_claws]
  refine ⟨⟨rfl, ltB rfl, neB rfl⟩, ?_⟩
  rw [rf_cnow]
  refine ⟨moC mb35, ?_⟩
  rw [mu_row (show (35 : Nat) ≠ 0 by decide), e35]
  refine ⟨⟨rfl, ltB rfl⟩, c_rowOf (by omega) ?_⟩
  refine ⟨⟨rfl, ltB rfl, ?_, rfl⟩, ?_⟩
  · show (true && (true && (Nat.blt (5 + 2 * nx) 161 && true))) = true
    have : Nat.blt (5 + 2 * nx) 161 = true := by simpa using (show 5 + 2 * nx < 161 by omega)
    rw [this]; rfl
  refine ⟨⟨rfl, ltB rfl, neB rfl⟩, ?_⟩
  rw [s1T]
  refine Mc_wp nocut t24 rfl rfl rfl 40 ?_
  refine ⟨⟨rfl, ltB rfl⟩, ?_⟩
  refine ⟨⟨rfl, ltB rfl, ltB rfl⟩, ?_⟩
  refine ⟨⟨rfl, ltB rfl⟩, ?_⟩
  refine ⟨⟨rfl, ltB rfl, show 5 + 2 * nx < 162 by omega⟩, ?_⟩
  generalize hm1' : mu (mu (mz (mu m 0 6 0) (S0 L).1) (S0 L).1 5 0) (S0 L).1 1 (nI n) = m1
  have hm1 : mu (mu (mz (mu m 0 6 0) 161) 161 5 0) 161 1 (nI n) = m1 := hm1'
  clear hm1'
  have x1 : ∀ r, r ≠ 161 → r ≠ 0 → m1 r = m r := fun r a b => by
    rw [← hm1, mu_row a, mu_row a]
    show mz (mu m 0 6 0) 161 r = m r
    funext i
    unfold mz
    rw [if_neg a, mu_row b]
  have x0 : ∀ f, f ≠ 6 → m1 0 f = m 0 f := fun f a => by
    rw [← hm1, mu_row (by decide), mu_row (by decide)]
    show mz (mu m 0 6 0) 161 0 f = _
    unfold mz
    rw [if_neg (by decide), mu_ne a]
  have x06 : m1 0 6 = 0 := by
    rw [← hm1, mu_row (by decide), mu_row (by decide)]
    show mz (mu m 0 6 0) 161 0 6 = _
    unfold mz
    rw [if_neg (by decide), mu_at]
  have y1 : m1 161 1 = nI n := by rw [← hm1, mu_at]
  have y4 : m1 161 4 = 0 := by
    rw [← hm1, mu_ne (by decide), mu_ne (by decide)]
    exact if_pos rfl
  have y5 : m1 161 5 = 0 := by rw [← hm1, mu_ne (by decide), mu_at]
  clear hm1
  have t107 : m1 107 = m 107 := x1 107 (by decide) (by decide)
  refine ⟨srO, c_fault2 (d := d + 9) (r := nx) (n := n) (T := m 107) (by omega) hn t107 y1 y4 y5 (fun p m2 hf hF2 => ?_) (fun ky cs m2 hg hF2 hT2 => ?_)⟩
  · have hp := fault_le hf
    refine ifI (fun z => absurd z (nI_pos (by omega))) (fun _ => ?_)
    refine ⟨⟨_, rfl⟩, rfl, ?_⟩
    refine hQ _ m2 (fun Q' hQ' => ?_)
    have z1 : ∀ r, r ≠ 161 → r ≠ 0 → r ≠ 5 + 2 * nx → r ≠ 6 + 2 * nx → m2 r = m r := fun r a b c e => by
      rw [hF2 r (by simp [FL]; omega)]; exact x1 r a b
    have z0 : m2 0 = m1 0 := hF2 0 (by simp [FL]; omega)
    have s0 : ∀ m3, FT m2 m3 → Sim scr (k + 1) m3 := fun m3 hF3 => by
      refine h.tx0 hM hI (by omega) (fun r a b c e f g => ?_) (fun f hf' => ?_) ?_ (fun f hf' => ?_) hF3.2.2
      · rw [hF3.1 r (by simp; unfold scrap at a; omega)]; exact z1 r g b e f
      · rw [hF3.1 0 (by simp), z0]; exact x0 f hf'
      · rw [hF3.1 0 (by simp), z0]; exact x06
      · rw [hF3.2.1 f hf', z1 139 (by decide) (by decide) (by omega) (by omega)]
    refine r_text (d := d + 155) (n := n) (nx := nx) (T := m 107) hn hx14 (by rw [z1 139 (by decide) (by decide) (by omega) (by omega), ew, en]) (fun i hi => by rw [z1 144 (by decide) (by decide) (by omega) (by omega)]; exact (ec i hi).1) (fun i hi => by rw [z1 145 (by decide) (by decide) (by omega) (by omega)]; exact hC.1 i hi) (fun i hi => by rw [z1 146 (by decide) (by decide) (by omega) (by omega)]; exact hC.2.1 i hi) (by rw [z1 140 (by decide) (by decide) (by omega) (by omega)]; exact e7) (fun p' m3 hf' hF3 => ?_) (fun k' cs' m3 hg' => absurd hg' (fun z => fault_good hf z)) (fun k' cs' m3 hg' => absurd hg' (fun z => fault_good hf z))
    rw [fault_one hf' hf]
    exact hQ' m3 (s0 m3 hF3)
  · obtain ⟨k3, c96, cw⟩ := good_wf hn hg
    have z1 : ∀ r, r ≠ 161 → r ≠ 0 → r ≠ 5 + 2 * nx → r ≠ 6 + 2 * nx → m2 r = m r := fun r a b c e => by
      rw [hF2 r (by simp [FL]; omega)]; exact x1 r a b
    have z0 : m2 0 = m1 0 := hF2 0 (by simp [FL]; omega)
    have z35 : m2 35 6 = nI nx := by rw [z1 35 (by decide) (by decide) (by omega) (by omega)]; exact e35
    refine ⟨⟨rfl, ltB rfl, neB rfl⟩, ?_⟩
    rw [sr1]
    refine ⟨⟨rfl, ltB rfl⟩, ?_⟩
    rw [z35]
    by_cases q : nx = 14
    · refine ifI (fun z => absurd z (nI_nlt (b := 14) (by omega) (by omega))) (fun _ => ?_)
      refine ⟨⟨_, rfl⟩, rfl, ?_⟩
      refine hQ _ m2 (fun Q' hQ' => ?_)
      refine r_text (d := d + 155) (n := n) (nx := nx) (T := m 107) hn hx14 (by rw [z1 139 (by decide) (by decide) (by omega) (by omega), ew, en]) (fun i hi => by rw [z1 144 (by decide) (by decide) (by omega) (by omega)]; exact (ec i hi).1) (fun i hi => by rw [z1 145 (by decide) (by decide) (by omega) (by omega)]; exact hC.1 i hi) (fun i hi => by rw [z1 146 (by decide) (by decide) (by omega) (by omega)]; exact hC.2.1 i hi) (by rw [z1 140 (by decide) (by decide) (by omega) (by omega)]; exact e7) (fun p' m3 hf' _ => absurd hg (fun z => fault_good hf' z)) (fun k' cs' m3 _ _ hF3 => ?_) (fun k' cs' m3 _ z => absurd z (by omega))
      refine hQ' m3 (h.tx0 hM hI (by omega) (fun r a b c e f g => ?_) (fun f hf' => ?_) ?_ (fun f hf' => ?_) hF3.2.2)
      · rw [hF3.1 r (by simp; unfold scrap at a; omega)]; exact z1 r g b e f
      · rw [hF3.1 0 (by simp), z0]; exact x0 f hf'
      · rw [hF3.1 0 (by simp), z0]; exact x06
      · rw [hF3.2.1 f hf', z1 139 (by decide) (by decide) (by omega) (by omega)]
    refine ifI (fun _ => ?_) (fun z => absurd (nI_lt (b := 14) (by omega) (by omega)) z)
    refine ⟨⟨rfl, ltB rfl, neB rfl⟩, ?_⟩
    rw [sr1]
    refine ⟨⟨rfl, ltB rfl, neB rfl⟩, ?_⟩
    rw [sr38]
    refine ⟨srX (by omega), ?_⟩
    rw [hT2.2.1]
    refine ⟨⟨rfl, ltB rfl, neB rfl⟩, ?_⟩
    rw [sr1]
    refine ⟨⟨rfl, ltB rfl⟩, ?_⟩
    rw [z35]
    refine ⟨⟨rfl, ltB rfl, vinK (rfl : nI ky = nI ky) (show ky < 3 by omega) rfl⟩, ?_⟩
    rw [clK (rfl : nI ky = nI ky) (by omega)]
    refine ⟨⟨rfl, ltB rfl, neB rfl⟩, ?_⟩
    rw [sr1]
    refine ⟨⟨rfl, ltB rfl⟩, ?_⟩
    rw [mu_row (show (35 : Nat) ≠ 38 by decide), z35]
    refine ⟨⟨rfl, ltB rfl⟩, ?_⟩
    rw [nI_1]
    refine ⟨⟨rfl, ltB rfl, neB rfl⟩, ?_⟩
    rw [sr1]
    refine ⟨⟨rfl, ltB rfl⟩, ?_⟩
    rw [mu_at]
    refine ⟨⟨_, rfl⟩, rfl, ?_⟩
    have es : (nI (nx + 1) - 1 : Int32) = nI nx := pk_sub (b := 1) (by omega)
    rw [es]
    generalize hm3 : mu (mu m2 38 ky (nI nx)) 35 6 (nI (nx + 1)) = m3
    have v1 : ∀ r, r ≠ 35 → r ≠ 38 → m3 r = m2 r := fun r a b => by rw [← hm3, mu_row a, mu_row b]
    have v35 : ∀ f, f ≠ 6 → m3 35 f = m2 35 f := fun f a => by rw [← hm3, mu_ne a, mu_row (by decide)]
    have v356 : m3 35 6 = nI (nx + 1) := by rw [← hm3, mu_at]
    have v38 : ∀ j, j ≠ ky → m3 38 j = m2 38 j := fun j a => by rw [← hm3, mu_row (by decide), mu_ne a]
    have v38k : m3 38 ky = nI nx := by rw [← hm3, mu_row (by decide), mu_at]
    clear hm3
    refine hQ _ m3 (fun Q' hQ' => ?_)
    have w1 : ∀ r, r ≠ 35 → r ≠ 38 → r ≠ 161 → r ≠ 0 → r ≠ 5 + 2 * nx → r ≠ 6 + 2 * nx → m3 r = m r := fun r a b c e f g => by rw [v1 r a b]; exact z1 r c e f g
    refine r_text (d := d + 155) (n := n) (nx := nx) (T := m 107) hn hx14 (by rw [w1 139 (by decide) (by decide) (by decide) (by decide) (by omega) (by omega), ew, en]) (fun i hi => by rw [w1 144 (by decide) (by decide) (by decide) (by decide) (by omega) (by omega)]; exact (ec i hi).1) (fun i hi => by rw [w1 145 (by decide) (by decide) (by decide) (by decide) (by omega) (by omega)]; exact hC.1 i hi) (fun i hi => by rw [w1 146 (by decide) (by decide) (by decide) (by decide) (by omega) (by omega)]; exact hC.2.1 i hi) (by rw [w1 140 (by decide) (by decide) (by decide) (by decide) (by omega) (by omega)]; exact e7) (fun p' m4 hf' _ => absurd hg (fun z => fault_good hf' z)) (fun k' cs' m4 _ z => absurd z q) (fun k' cs' m4 hg' _ hF4 j139 j6 j1 j7 j2 j3 j4 => ?_)
    obtain ⟨e1, e2⟩ := good_one hg' hg
    subst e1
    subst e2
    have w140 : m3 140 = m 140 := w1 140 (by decide) (by decide) (by decide) (by decide) (by omega) (by omega)
    have T4 : TXT nx k' cs' m4 := by
      have a := hF4 (5 + 2 * nx) (by simp; omega)
      have b := hF4 (6 + 2 * nx) (by simp; omega)
      unfold TXT
      rw [a, b, v1 (5 + 2 * nx) (by omega) (by omega), v1 (6 + 2 * nx) (by omega) (by omega)]
      exact hT2
    refine hQ' m4 (h.tx1 hM hI (by omega) k3 c96 cw T4 (fun r a b c e f g i j l => ?_) (fun f hf' => ?_) ?_ (fun f hf' => ?_) j6 (fun f hf' => ?_) ?_ (fun j hj => ?_) ?_ (fun i a b c e => by rw [j1 i a b c e, w140]) j7 j2 j3 j4)
    · rw [hF4 r (by simp; unfold scrap at a; omega)]; exact w1 r f g l b i j
    · rw [hF4 0 (by simp), v1 0 (by decide) (by decide), z0]; exact x0 f hf'
    · rw [hF4 0 (by simp), v1 0 (by decide) (by decide), z0]; exact x06
    · rw [j139 f hf', w1 139 (by decide) (by decide) (by decide) (by decide) (by omega) (by omega)]
    · rw [hF4 35 (by simp), v35 f hf', z1 35 (by decide) (by decide) (by omega) (by omega)]
    · rw [hF4 35 (by simp)]; exact v356
    · rw [hF4 38 (by simp), v38 j hj, z1 38 (by decide) (by decide) (by omega) (by omega)]
    · rw [hF4 38 (by simp)]; exact v38k
