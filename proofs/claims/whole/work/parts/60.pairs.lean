-- pairs: keep, back, count, tell, trim, why, textTold
theorem dpt_congr {c c' : Nat → Int32} : ∀ {n : Nat}, (∀ k, k < n → c' k = c k) → dpt c' n = dpt c n
  | 0, _ => rfl
  | n + 1, h => by
    unfold dpt
    rw [h n (by omega), dpt_congr (fun k hk => h k (by omega))]
theorem wfc_congr {c c' : Nat → Int32} {nm n : Nat} (h : ∀ k, k < n → c' k = c k) (hw : wfc c nm n) : wfc c' nm n := by
  obtain ⟨h1, h2, h3⟩ := hw
  refine ⟨h1, by rw [dpt_congr h]; exact h2, fun k hk => ?_⟩
  rw [h k hk, dpt_congr (fun i hi => h i (by omega))]
  exact h3 k hk
theorem RepT.cong {nx : Nat} {A B : Nat → Int32} {m : Mem} (hx : nx ≤ 14) (h : RepT nx A m) (hf : ∀ i, i < 1464 → B i = A i) : RepT nx B m := fun x hk => by
  obtain ⟨key, n, h1, h2, h3, h4, h5, h6, h7, h8, h9⟩ := h x hk
  have e : ∀ i, i < n → cdA B x i = cdA A x i := fun i hi => hf _ (by omega)
  exact ⟨key, n, h1, h2, by rw [hf _ (by omega)]; exact h3, wfc_congr e h4, h5, h6, by rw [hf _ (by omega)]; exact h7, fun i hi => by rw [e i hi]; exact h8 i hi, h9⟩
theorem RepM.cong {b nt nw nx : Nat} {A B : Nat → Int32} {m : Mem} (h : RepM b nt nw nx A m) (hf : ∀ i, i < 1464 → B i = A i) : RepM b nt nw nx B m := by
  obtain ⟨h1, h2, h3, h4, h5, h6⟩ := h
  refine ⟨?_, ?_, h3, fun t f ht hf' => ?_, fun t f ht hf' => ?_, fun k hk => ?_⟩
  · rw [hf 3 (by omega), hf 4 (by omega), hf 5 (by omega), hf 2 (by omega), hf 0 (by omega)]; exact h1
  · rw [hf 1 (by omega), hf 6 (by omega), hf 7 (by omega)]; exact h2
  · rw [hf _ (by omega)]; exact h4 t f ht hf'
  · rw [hf _ (by omega)]; exact h5 t f ht hf'
  · rw [cntO_congr (B := A) (fun k hk => hf _ (by omega))]; exact h6 k hk
theorem WA.cong {B0 : Int} {nt nw : Nat} {A B : Nat → Int32} (h8 : nt ≤ 8) (h12 : nw ≤ 12) (h : WA B0 nt nw A) (hf : ∀ i, i < 1464 → B i = A i) : WA B0 nt nw B := by
  obtain ⟨h1, h2, h3, h4⟩ := h
  refine ⟨?_, fun t ht => ?_, fun t ht => ?_, fun w hw' => ?_⟩
  · unfold WR
    rw [hf 2 (by omega), hf 3 (by omega), hf 4 (by omega), hf 5 (by omega)]; exact h1
  · rw [hf _ (by omega), hf _ (by omega), hf _ (by omega), hf _ (by omega)]; exact h2 t ht
  · rw [hf _ (by omega), hf _ (by omega)]; exact h3 t ht
  · rw [hf _ (by omega)]; exact h4 w hw'
theorem Mo.cong {B0 : Int} {b nt nw nx : Nat} {A B : Nat → Int32} {m : Mem} (h : Mo B0 b nt nw nx A m) (hf : ∀ i, i < 1464 → B i = A i) : Mo B0 b nt nw nx B m := ⟨h.1.cong hf, h.2.1.cong h.1.2.2.1.2.2 hf, h.2.2.cong h.1.2.2.1.1 h.1.2.2.1.2.1 hf⟩
/-- all but the moats -/
theorem Sim.rest {scr : Nat → Int32} {k : Nat} {m m' : Mem} (h : Sim scr k m) (hM : SimM (bd (k + 1)) m') (g : ∀ r, (107 ≤ r ∧ r ≤ 138) ∨ (144 ≤ r ∧ r ≤ 146) ∨ (152 ≤ r ∧ r ≤ 158) ∨ r = 160 ∨ r = 900 → m' r = m r) (g0 : m' 0 6 = m 0 6 ∧ m' 0 10 = m 0 10) (g1 : m' 139 6 = m 139 6 ∧ m' 139 32 = m 139 32) : Sim scr (k + 1) m' := by
  obtain ⟨_, b, c, d, e, f⟩ := h
  exact ⟨hM, b.fr (g _ (by omega)) (g _ (by omega)) g0.1 g1.1, c.fr (fun r q1 q2 => g r (by omega)) (g _ (by omega)) (g _ (by omega)) (g _ (by omega)), d.fr (fun r q1 q2 => g r (by omega)) (g _ (by omega)) (g _ (by omega)) (g _ (by omega)) (g _ (by omega)), e.fr (g _ (by omega)) (g _ (by omega)) g0.2 g1.2, f.fr (g _ (by omega)) (g _ (by omega)) (g _ (by omega))⟩
theorem pr_keep {scr : Nat → Int32} {L d k : Nat} {m : Mem} (h : Sim scr k m) : Pair scr L (d + 20) 99 195 [] k m := by
  intro Q hQ
  obtain ⟨nt, nw, nx, hM, hI⟩ := h.1.1
  have hR := hM.1
  refine Mc_wp nocut t99 rfl rfl rfl 60 ?_
  refine ⟨⟨rfl, ltB rfl, neB rfl⟩, ?_⟩
  rw [rf_cimage]
  refine ⟨⟨rfl, ltB rfl, neB rfl⟩, ?_⟩
  rw [rf_cnow]
  refine ⟨moC mb59, c_become mb59 mb35 (by decide) hR hM.2.2.2.2.1 (fun m1 hF hR1 => ?_)⟩
  have e140 : m1 140 = m 140 := hF 140 (by decide) (by decide) (by omega)
  have e35 : m1 35 = m 35 := hF 35 (by decide) (by decide) (by omega)
  refine ⟨⟨rfl, ltB rfl, Or.inr rfl⟩, ?_⟩
  refine ⟨⟨rfl, ltB rfl, neB rfl⟩, ?_⟩
  rw [rf_cnow]
  refine ⟨moC mb35, ?_⟩
  rw [mu_row (by decide), e35, hR.1.1]
  refine hQ _ _ (fun Q' hQ' => ?_)
  refine Mc_wp nocut t195 rfl rfl rfl 60 ?_
  refine ⟨⟨rfl, ltB rfl, neB rfl⟩, ?_⟩
  rw [rf_now]
  refine ⟨⟨rfl, ltB rfl, neB rfl⟩, ?_⟩
  rw [rf_image]
  refine r_copyAll (Or.inl rfl) (Or.inr (Or.inl rfl)) (by decide) ?_
  refine ⟨⟨rfl, ltB rfl, Or.inr rfl⟩, ?_⟩
  refine ⟨⟨rfl, ltB rfl, neB rfl⟩, ?_⟩
  rw [rf_now]
  refine ⟨⟨rfl, ltB rfl, vinB rfl⟩, ?_⟩
  rw [lc1]
  rw [mu_row (by decide), mr_ne (by decide), mu_row (by decide), e140, hR.2.1.1]
  refine hQ' _ (h.rest ?_ ?_ ?_ ?_)
  · have row : ∀ r, r ≠ 0 → r ≠ 139 → r ≠ 141 → (r < 59 ∨ 83 ≤ r) → r ≠ 3 → r ≠ 4 → mu (mr (mu m1 0 4 1) 141 (cpRow (m 140) (mu m1 0 4 1 141) 1464)) 139 3 1 r = m r := fun r a b c e f g => by
      rw [mu_row b, mr_ne c, mu_row a]; exact hF r f g e
    have hT1 : Mo (bd (k + 1)) 35 nt nw nx (m 140) (mu (mr (mu m1 0 4 1) 141 (cpRow (m 140) (mu m1 0 4 1 141) 1464)) 139 3 1) := by
      have := hM.fr (m' := mu (mr (mu m1 0 4 1) 141 (cpRow (m 140) (mu m1 0 4 1 141) 1464)) 139 3 1) (fun r q1 q2 => row r (by omega) (by omega) (by omega) (by omega) (by omega) (by omega)) (fun r q1 q2 => row r (by omega) (by omega) (by omega) (by omega) (by omega) (by omega))
      exact ⟨this.1, this.2.1, this.2.2.mono bd_mono⟩
    refine ⟨⟨nt, nw, nx, ?_, Or.inr ⟨?_, nt, nw, nx, ?_, Nat.le_refl _⟩⟩, ?_⟩
    · rw [row 140 (by omega) (by omega) (by omega) (by omega) (by omega) (by omega)]; exact hT1
    · rw [mu_row (by decide), mr_ne (by decide), mu_at]
    · refine Mo.cong (A := m 140) ⟨?_, hT1.2.1, hT1.2.2⟩ (fun i hi => ?_)
      · exact hR1.fr (fun r q1 q2 => by rw [mu_row (by omega), mr_ne (by omega), mu_row (by omega)])
      · rw [mu_row (by decide), mr_at]; exact if_pos hi
    · rw [mu_at, mu_row (by decide), mr_ne (by decide), mu_at]
  · intro r hr
    rw [mu_row (by omega), mr_ne (by omega), mu_row (by omega)]
    exact hF r (by omega) (by omega) (by omega)
  · rw [mu_row (by decide), mr_ne (by decide), mu_ne (by decide), mu_ne (by decide), hF 0 (by decide) (by decide) (by omega)]
    exact ⟨rfl, rfl⟩
  · rw [mu_ne (by decide), mu_ne (by decide), mr_ne (by decide), mu_row (by decide), hF 139 (by decide) (by decide) (by omega)]
    exact ⟨rfl, rfl⟩
theorem pr_back {scr : Nat → Int32} {L d k : Nat} {m : Mem} (h : Sim scr k m) : Pair scr L (d + 20) 100 196 [] k m := by
  intro Q hQ
  obtain ⟨⟨nt, nw, nx, hM, hI⟩, hk⟩ := h.1
  refine Mc_wp nocut t100 rfl rfl rfl 60 ?_
  refine ⟨⟨rfl, ltB rfl⟩, ?_⟩
  rcases hI with hI | ⟨hI, it, iw, ix, hJ, hx⟩
  · rw [hI]
    refine hQ _ m (fun Q' hQ' => ?_)
    refine Mc_wp nocut t196 rfl rfl rfl 60 ?_
    refine ⟨⟨rfl, ltB rfl⟩, ?_⟩
    rw [hk, hI]
    exact hQ' m h.next
  rw [hI]
  refine ⟨⟨rfl, ltB rfl, neB rfl⟩, ?_⟩
  rw [rf_cnow]
  refine ⟨⟨rfl, ltB rfl, neB rfl⟩, ?_⟩
  rw [rf_cimage]
  refine ⟨moC mb35, c_become mb35 mb59 (by decide) hJ.1 hJ.2.2.2.2.1 (fun m1 hF hR1 => ?_)⟩
  refine ⟨⟨rfl, ltB rfl, neB rfl⟩, ?_⟩
  rw [rf_cnow]
  refine ⟨moC mb35, ?_⟩
  rw [hR1.1.1]
  have e141 : m1 141 = m 141 := hF 141 (by decide) (by decide) (by omega)
  have e139 : m1 139 = m 139 := hF 139 (by decide) (by decide) (by omega)
  refine hQ _ m1 (fun Q' hQ' => ?_)
  refine Mc_wp nocut t196 rfl rfl rfl 60 ?_
  refine ⟨⟨rfl, ltB rfl⟩, ?_⟩
  rw [e139, hk, hI]
  refine ⟨⟨rfl, ltB rfl, neB rfl⟩, ?_⟩
  rw [rf_image]
  refine ⟨⟨rfl, ltB rfl, neB rfl⟩, ?_⟩
  rw [rf_now]
  refine r_copyAll (Or.inr (Or.inl rfl)) (Or.inl rfl) (by decide) ?_
  refine ⟨⟨rfl, ltB rfl, neB rfl⟩, ?_⟩
  rw [rf_now]
  refine ⟨⟨rfl, ltB rfl, vinB rfl⟩, ?_⟩
  rw [lc1]
  rw [mr_at, e141]
  have e1 : cpRow (m 141) (m1 140) 1464 1 = nI it := (if_pos (by decide)).trans hJ.1.2.1.1
  rw [e1]
  have row : ∀ r, r ≠ 140 → (r < 35 ∨ 59 ≤ r) → r ≠ 3 → r ≠ 4 → mr m1 140 (cpRow (m 141) (m1 140) 1464) r = m r := fun r a e f g => by
    rw [mr_ne a]; exact hF r f g e
  have hT1 : Mo (bd (k + 1)) 59 it iw ix (m 141) (mr m1 140 (cpRow (m 141) (m1 140) 1464)) := by
    have := hJ.fr (m' := mr m1 140 (cpRow (m 141) (m1 140) 1464)) (fun r q1 q2 => row r (by omega) (by omega) (by omega) (by omega)) (fun r q1 q2 => row r (by omega) (by omega) (by omega) (by omega))
    exact ⟨this.1, this.2.1, this.2.2.mono bd_mono⟩
  refine hQ' _ (h.rest ?_ ?_ ?_ ?_)
  · refine ⟨⟨it, iw, ix, ?_, Or.inr ⟨?_, it, iw, ix, ?_, Nat.le_refl _⟩⟩, ?_⟩
    · refine Mo.cong (A := m 141) ⟨?_, hT1.2.1, hT1.2.2⟩ (fun i hi => ?_)
      · exact hR1.fr (fun r q1 q2 => mr_ne (by omega))
      · rw [mr_at]; exact if_pos hi
    · rw [row 0 (by omega) (by omega) (by omega) (by omega)]; exact hI
    · rw [row 141 (by omega) (by omega) (by omega) (by omega)]; exact hT1
    · rw [row 139 (by omega) (by omega) (by omega) (by omega), row 0 (by omega) (by omega) (by omega) (by omega)]; exact hk
  · intro r hr
    exact row r (by omega) (by omega) (by omega) (by omega)
  · rw [row 0 (by omega) (by omega) (by omega) (by omega)]; exact ⟨rfl, rfl⟩
  · rw [row 139 (by omega) (by omega) (by omega) (by omega)]; exact ⟨rfl, rfl⟩
theorem pr_why {scr : Nat → Int32} {L d k : Nat} {m : Mem} {v : Int32} (h : Sim scr k m) : Pair scr L (d + 20) 85 178 [.int v] k m := by
  intro Q hQ
  obtain ⟨nt, nw, nx, hM, hI⟩ := h.1.1
  have hR := hM.1
  refine Mc_wp nocut t85 rfl rfl rfl 60 ?_
  by_cases q1 : 0 ≤ v ∧ v ≤ 2
  rotate_left 1
  · refine c_wF q1 ?_
    refine hQ _ m (fun Q' hQ' => ?_)
    refine Mc_wp nocut t178 rfl rfl rfl 60 ?_
    exact r_iF q1 (hQ' m h.next)
  refine c_wT q1 ?_
  obtain ⟨x, hx, rfl⟩ := ix_split (b := 2) (n := 2) rfl q1.1 q1.2
  refine ⟨⟨rfl, ltB rfl, neB rfl⟩, ?_⟩
  rw [rf_cnow]
  refine ⟨moK3 mb35, ?_⟩
  rw [moV3 mb35]
  refine ⟨coK mb35 (rfl : nI x = nI x) (by omega), ?_⟩
  rw [nI_clamp (by omega), hR.2.2.2.2.2 x (by omega)]
  refine hQ _ m (fun Q' hQ' => ?_)
  refine Mc_wp nocut t178 rfl rfl rfl 60 ?_
  refine r_iT q1 ?_
  refine ⟨⟨rfl, ltB rfl⟩, r_counts hR.2.1.2.2 hR.2.2.1.2.2 ?_⟩
  have hq := hQ' m h.next
  unfold tol at hq
  obtain ⟨h1, h2⟩ := qif hq
  exact ifI (fun z => h1 z) (fun z => h2 z)
theorem pr_textTold {scr : Nat → Int32} {L d k : Nat} {m : Mem} {v w : Int32} (h : Sim scr k m) : Pair scr L (d + 20) 84 176 [.int v, .int w] k m := by
  intro Q hQ
  obtain ⟨nt, nw, nx, hM, hI⟩ := h.1.1
  have hR := hM.1
  have hx14 := hR.2.2.1.2.2
  refine Mc_wp nocut t84 rfl rfl rfl 60 ?_
  refine ⟨⟨rfl, ltB rfl, neB rfl⟩, ?_⟩
  rw [rf_cnow]
  refine ⟨moC mb35, ?_⟩
  rw [hR.1.2.2.1]
  by_cases q1 : 0 ≤ v ∧ v ≤ nI nx - 1
  rotate_left 1
  · refine c_wF q1 ?_
    refine hQ _ m (fun Q' hQ' => ?_)
    refine Mc_wp nocut t176 rfl rfl rfl 60 ?_
    refine ⟨⟨rfl, ltB rfl, neB rfl⟩, ?_⟩
    rw [rf_now]
    refine ⟨⟨rfl, ltB rfl, vinB rfl⟩, ?_⟩
    rw [lc7]
    rw [hR.2.1.2.2]
    exact r_iF q1 (hQ' m h.next)
  refine c_wT q1 ?_
  obtain ⟨x, hx, rfl⟩ := ix_good (by omega) q1.1 q1.2
  obtain ⟨key, n, h1, h2, h3, h4, h5, h6, h7, h8, h9⟩ := hM.2.1 x hx
  by_cases w0 : w = 0
  · subst w0
    refine ⟨⟨rfl, ltB rfl, neB rfl⟩, ?_⟩
    rw [rf_claws]
    refine ⟨⟨rfl, ltB rfl⟩, c_rowOf (by omega) ?_⟩
    refine ⟨txC (by omega), ?_⟩
    rw [h6]
    refine hQ _ m (fun Q' hQ' => ?_)
    refine Mc_wp nocut t176 rfl rfl rfl 60 ?_
    refine ⟨⟨rfl, ltB rfl, neB rfl⟩, ?_⟩
    rw [rf_now]
    refine ⟨⟨rfl, ltB rfl, vinB rfl⟩, ?_⟩
    rw [lc7]
    rw [hR.2.1.2.2]
    refine r_iT q1 ?_
    refine r_iT (by decide) ?_
    have e : (92 + 2 * nI x : Int32) = nI (92 + 2 * x) := ix2 (a := 92) (b := 2) x
    refine ⟨⟨rfl, ltB rfl, neB rfl⟩, ?_⟩
    rw [rf_now]
    refine ⟨⟨rfl, ltB rfl, vinK e (show 92 + 2 * x < 1464 by omega) rfl⟩, ?_⟩
    rw [clK e (show 92 + 2 * x < 2 ^ 31 by omega)]
    refine ⟨by decide, ?_⟩
    have ed : m 140 (92 + 2 * x) / 1000 = nI key := by
      rw [h3, show (1000 : Int32) = nI 1000 from rfl, pk_div (by omega) (by omega) (by omega)]
      congr 1; omega
    rw [ed]
    exact hQ' m h.next
  refine ifI (fun z => absurd z w0) (fun _ => ?_)
  by_cases w1 : w = 1
  · subst w1
    refine ⟨⟨rfl, ltB rfl, neB rfl⟩, ?_⟩
    rw [rf_claws]
    refine ⟨⟨rfl, ltB rfl⟩, c_rowOf (by omega) ?_⟩
    refine ⟨txC (by omega), ?_⟩
    rw [h7]
    refine hQ _ m (fun Q' hQ' => ?_)
    refine Mc_wp nocut t176 rfl rfl rfl 60 ?_
    refine ⟨⟨rfl, ltB rfl, neB rfl⟩, ?_⟩
    rw [rf_now]
    refine ⟨⟨rfl, ltB rfl, vinB rfl⟩, ?_⟩
    rw [lc7]
    rw [hR.2.1.2.2]
    refine r_iT q1 ?_
    refine r_iT (by decide) ?_
    have e : (92 + 2 * nI x + 1 : Int32) = nI (92 + 2 * x + 1) := ix3 (a := 92) (b := 2) x 1
    refine ⟨⟨rfl, ltB rfl, neB rfl⟩, ?_⟩
    rw [rf_now]
    refine ⟨⟨rfl, ltB rfl, vinK e (show 92 + 2 * x + 1 < 1464 by omega) rfl⟩, ?_⟩
    rw [clK e (show 92 + 2 * x + 1 < 2 ^ 31 by omega)]
    exact hQ' m h.next
  refine ifI (fun z => absurd z w1) (fun _ => ?_)
  refine hQ _ m (fun Q' hQ' => ?_)
  refine Mc_wp nocut t176 rfl rfl rfl 60 ?_
  refine ⟨⟨rfl, ltB rfl, neB rfl⟩, ?_⟩
  rw [rf_now]
  refine ⟨⟨rfl, ltB rfl, vinB rfl⟩, ?_⟩
  rw [lc7]
  rw [hR.2.1.2.2]
  refine r_iT q1 ?_
  refine r_iF (fun q => ?_) (hQ' m h.next)
  obtain ⟨y, hy, rfl⟩ := ix_split (b := 1) (n := 1) rfl q.1 q.2
  rcases (show y = 0 ∨ y = 1 by omega) with rfl | rfl
  · exact w0 rfl
  · exact w1 rfl
