-- pairs: count, tell, trim, fine, inherit
theorem pr_count {scr : Nat → Int32} {L d k : Nat} {m : Mem} {v : Int32} (h : Sim scr k m) : Pair scr L (d + 20) 101 197 [.int v] k m := by
  intro Q hQ
  obtain ⟨nt, nw, nx, hM, hI⟩ := h.1.1
  have hR := hM.1
  have hn8 := hR.2.2.1.1
  refine Mc_wp nocut t101 rfl rfl rfl 60 ?_
  rcases num_or (n := 12) v (by omega) with q2 | ⟨w, hw, rfl⟩
  · have ne : ∀ c, c < 12 → ¬ v = nI c := fun c hc => nn q2 (by omega) hc
    refine ifI (fun e => absurd e (ne 0 (by omega))) (fun _ => ?_)
    refine ifI (fun e => absurd e (ne 1 (by omega))) (fun _ => ?_)
    refine ifI (fun e => absurd e (ne 2 (by omega))) (fun _ => ?_)
    refine ifI (fun e => absurd e (ne 3 (by omega))) (fun _ => ?_)
    refine ifI (fun e => absurd e (ne 4 (by omega))) (fun _ => ?_)
    refine ifI (fun e => absurd e (ne 5 (by omega))) (fun _ => ?_)
    refine ifI (fun e => absurd e (ne 6 (by omega))) (fun _ => ?_)
    refine ifI (fun e => absurd e (ne 7 (by omega))) (fun _ => ?_)
    refine ifI (fun e => absurd e (ne 8 (by omega))) (fun _ => ?_)
    refine ifI (fun e => absurd e (ne 9 (by omega))) (fun _ => ?_)
    refine ifI (fun e => absurd e (ne 10 (by omega))) (fun _ => ?_)
    refine ifI (fun e => absurd e (ne 11 (by omega))) (fun _ => ?_)
    refine hQ _ m (fun Q' hQ' => ?_)
    refine Mc_wp nocut t197 rfl rfl rfl 60 ?_
    refine ifI (fun e => absurd e (ne 0 (by omega))) (fun _ => ?_)
    refine ifI (fun e => absurd e (ne 1 (by omega))) (fun _ => ?_)
    refine ifI (fun e => absurd e (ne 2 (by omega))) (fun _ => ?_)
    refine ifI (fun e => absurd e (ne 3 (by omega))) (fun _ => ?_)
    refine ifI (fun e => absurd e (ne 4 (by omega))) (fun _ => ?_)
    refine ifI (fun e => absurd e (ne 5 (by omega))) (fun _ => ?_)
    refine ifI (fun e => absurd e (ne 6 (by omega))) (fun _ => ?_)
    refine ifI (fun e => absurd e (ne 7 (by omega))) (fun _ => ?_)
    refine ifI (fun e => absurd e (ne 8 (by omega))) (fun _ => ?_)
    refine ifI (fun e => absurd e (ne 9 (by omega))) (fun _ => ?_)
    refine ifI (fun e => absurd e (ne 10 (by omega))) (fun _ => ?_)
    refine ifI (fun e => absurd e (ne 11 (by omega))) (fun _ => ?_)
    exact hQ' m h.next
  obtain ⟨a4, a5, a6, a7, a8, a9, a10, a11⟩ := hR.1
  rcases (show w = 0 ∨ w = 1 ∨ w = 2 ∨ w = 3 ∨ w = 4 ∨ w = 5 ∨ w = 6 ∨ w = 7 ∨ w = 8 ∨ w = 9 ∨ w = 10 ∨ w = 11 by omega) with rfl | rfl | rfl | rfl | rfl | rfl | rfl | rfl | rfl | rfl | rfl | rfl
  · refine ⟨⟨rfl, ltB rfl, neB rfl⟩, ?_⟩
    rw [rf_cnow]
    refine ⟨moC mb35, ?_⟩
    rw [a4, ← hR.2.1.1]
    refine hQ _ m (fun Q' hQ' => ?_)
    refine Mc_wp nocut t197 rfl rfl rfl 60 ?_
    refine ⟨⟨rfl, ltB rfl, neB rfl⟩, ?_⟩
    rw [rf_now]
    refine ⟨⟨rfl, ltB rfl, vinB rfl⟩, ?_⟩
    rw [lc1]
    exact hQ' m h.next
  · refine ⟨⟨rfl, ltB rfl, neB rfl⟩, ?_⟩
    rw [rf_cnow]
    refine ⟨moC mb35, c_dead mb35 hR hM.2.2.2.2.1 ?_⟩
    refine hQ _ m (fun Q' hQ' => ?_)
    refine Mc_wp nocut t197 rfl rfl rfl 60 ?_
    exact ⟨⟨rfl, ltB rfl⟩, r_sumOf (w := 5) (by omega) hR.2.1.1 hn8 (hQ' m h.next)⟩
  · refine ⟨⟨rfl, ltB rfl, neB rfl⟩, ?_⟩
    rw [rf_cnow]
    refine ⟨moC mb35, ?_⟩
    rw [a10]
    refine hQ _ m (fun Q' hQ' => ?_)
    refine Mc_wp nocut t197 rfl rfl rfl 60 ?_
    refine ⟨⟨rfl, ltB rfl, neB rfl⟩, ?_⟩
    rw [rf_now]
    refine ⟨⟨rfl, ltB rfl, vinB rfl⟩, ?_⟩
    exact hQ' m h.next
  · refine ⟨⟨rfl, ltB rfl, neB rfl⟩, ?_⟩
    rw [rf_cnow]
    refine ⟨moC mb35, ?_⟩
    rw [a7]
    refine hQ _ m (fun Q' hQ' => ?_)
    refine Mc_wp nocut t197 rfl rfl rfl 60 ?_
    refine ⟨⟨rfl, ltB rfl, neB rfl⟩, ?_⟩
    rw [rf_now]
    refine ⟨⟨rfl, ltB rfl, vinB rfl⟩, ?_⟩
    exact hQ' m h.next
  · refine ⟨⟨rfl, ltB rfl, neB rfl⟩, ?_⟩
    rw [rf_cnow]
    refine ⟨moC mb35, ?_⟩
    rw [a8]
    refine hQ _ m (fun Q' hQ' => ?_)
    refine Mc_wp nocut t197 rfl rfl rfl 60 ?_
    refine ⟨⟨rfl, ltB rfl, neB rfl⟩, ?_⟩
    rw [rf_now]
    refine ⟨⟨rfl, ltB rfl, vinB rfl⟩, ?_⟩
    exact hQ' m h.next
  · refine ⟨⟨rfl, ltB rfl, neB rfl⟩, ?_⟩
    rw [rf_cnow]
    refine ⟨moC mb35, ?_⟩
    rw [a9]
    refine hQ _ m (fun Q' hQ' => ?_)
    refine Mc_wp nocut t197 rfl rfl rfl 60 ?_
    refine ⟨⟨rfl, ltB rfl, neB rfl⟩, ?_⟩
    rw [rf_now]
    refine ⟨⟨rfl, ltB rfl, vinB rfl⟩, ?_⟩
    exact hQ' m h.next
  · refine ⟨⟨rfl, ltB rfl, neB rfl⟩, ?_⟩
    rw [rf_cnow]
    refine ⟨moC mb35, ?_⟩
    rw [a5, ← hR.2.1.2.1]
    refine hQ _ m (fun Q' hQ' => ?_)
    refine Mc_wp nocut t197 rfl rfl rfl 60 ?_
    refine ⟨⟨rfl, ltB rfl, neB rfl⟩, ?_⟩
    rw [rf_now]
    refine ⟨⟨rfl, ltB rfl, vinB rfl⟩, ?_⟩
    exact hQ' m h.next
  · refine ⟨⟨rfl, ltB rfl, neB rfl⟩, ?_⟩
    rw [rf_cnow]
    refine ⟨moC mb35, c_paths mb35 hR ?_⟩
    refine hQ _ m (fun Q' hQ' => ?_)
    refine Mc_wp nocut t197 rfl rfl rfl 60 ?_
    exact ⟨⟨rfl, ltB rfl⟩, r_sumOf (w := 2) (by omega) hR.2.1.1 hn8 (hQ' m h.next)⟩
  · refine ⟨⟨rfl, ltB rfl, neB rfl⟩, ?_⟩
    rw [rf_cnow]
    refine ⟨moC mb35, ?_⟩
    rw [a6, ← hR.2.1.2.2]
    refine hQ _ m (fun Q' hQ' => ?_)
    refine Mc_wp nocut t197 rfl rfl rfl 60 ?_
    refine ⟨⟨rfl, ltB rfl, neB rfl⟩, ?_⟩
    rw [rf_now]
    refine ⟨⟨rfl, ltB rfl, vinB rfl⟩, ?_⟩
    rw [lc7]
    exact hQ' m h.next
  · refine ⟨⟨rfl, ltB rfl⟩, ?_⟩
    refine hQ _ m (fun Q' hQ' => ?_)
    refine Mc_wp nocut t197 rfl rfl rfl 60 ?_
    refine ⟨⟨rfl, ltB rfl⟩, ?_⟩
    rw [h.2.2.2.2.1.2.1]
    exact hQ' m h.next
  · refine ⟨⟨rfl, ltB rfl⟩, ?_⟩
    refine hQ _ m (fun Q' hQ' => ?_)
    refine Mc_wp nocut t197 rfl rfl rfl 60 ?_
    refine ⟨⟨rfl, ltB rfl⟩, ?_⟩
    rw [h.2.1.2.1]
    exact hQ' m h.next
  · refine ⟨⟨rfl, ltB rfl, neB rfl⟩, ?_⟩
    rw [rf_cnow]
    refine ⟨moC mb35, ?_⟩
    rw [a11]
    refine hQ _ m (fun Q' hQ' => ?_)
    refine Mc_wp nocut t197 rfl rfl rfl 60 ?_
    refine ⟨⟨rfl, ltB rfl, neB rfl⟩, ?_⟩
    rw [rf_now]
    refine ⟨⟨rfl, ltB rfl, vinB rfl⟩, ?_⟩
    rw [lc0]
    exact hQ' m h.next
theorem pr_tell {scr : Nat → Int32} {L d k : Nat} {m : Mem} {v : Int32} (h : Sim scr k m) : Pair scr L (d + 20) 96 192 [.int v] k m := by
  intro Q hQ
  obtain ⟨hA, hT, hS, hL, ⟨⟨n, hn, en⟩, ew, ec⟩, hC⟩ := h
  refine Mc_wp nocut t96 rfl rfl rfl 60 ?_
  refine ⟨⟨rfl, ltB rfl⟩, ?_⟩
  rw [en]
  by_cases q : n = 60
  · subst q
    refine hQ _ m (fun Q' hQ' => ?_)
    refine Mc_wp nocut t192 rfl rfl rfl 60 ?_
    refine ⟨⟨rfl, ltB rfl⟩, ?_⟩
    rw [ew, en]
    exact hQ' m (Sim.next ⟨hA, hT, hS, hL, ⟨⟨60, hn, en⟩, ew, ec⟩, hC⟩)
  refine ifI (fun _ => ?_) (fun z => absurd (nI_lt (a := n) (b := 60) (by omega) (by omega)) z)
  refine ⟨⟨rfl, ltB rfl, neB rfl⟩, ?_⟩
  rw [rf_cwaiting]
  refine ⟨⟨rfl, ltB rfl⟩, ?_⟩
  refine ⟨⟨rfl, ltB rfl, vinK en (show n < 60 by omega) rfl⟩, ?_⟩
  rw [clK en (show n < 2 ^ 31 by omega)]
  refine ⟨⟨rfl, ltB rfl⟩, ?_⟩
  refine ⟨⟨rfl, ltB rfl⟩, ?_⟩
  refine ⟨⟨rfl, ltB rfl⟩, ?_⟩
  rw [mu_at, mu_row (show (0 : Nat) ≠ 110 by decide), en, nI_1]
  refine hQ _ _ (fun Q' hQ' => ?_)
  refine Mc_wp nocut t192 rfl rfl rfl 60 ?_
  refine ⟨⟨rfl, ltB rfl⟩, ?_⟩
  have e1 : mu (mu m 110 n v) 0 10 (nI (n + 1)) 139 32 = nI n := by rw [mu_row (by decide), mu_row (by decide), ew, en]
  rw [e1]
  refine ifI (fun z => absurd ((nI_eq (b := 60) (by omega) (by omega)).mp z) q) (fun _ => ?_)
  refine ⟨⟨rfl, ltB rfl, neB rfl⟩, ?_⟩
  rw [rf_tells]
  refine ⟨⟨rfl, ltB rfl⟩, ?_⟩
  refine ⟨⟨rfl, ltB rfl, vinK e1 (show n < 60 by omega) rfl⟩, ?_⟩
  rw [clK e1 (show n < 2 ^ 31 by omega)]
  refine ⟨⟨rfl, ltB rfl⟩, ?_⟩
  refine ⟨⟨rfl, ltB rfl⟩, ?_⟩
  refine ⟨⟨rfl, ltB rfl⟩, ?_⟩
  rw [mu_at]
  have e2 : mu (mu (mu m 110 n v) 0 10 (nI (n + 1))) 160 n v 139 32 = nI n := by rw [mu_row (by decide)]; exact e1
  rw [e2, nI_1]
  have row : ∀ r, r ≠ 0 → r ≠ 110 → r ≠ 139 → r ≠ 160 → mu (mu (mu (mu m 110 n v) 0 10 (nI (n + 1))) 160 n v) 139 32 (nI (n + 1)) r = m r := fun r a b c e => by rw [mu_row c, mu_row e, mu_row a, mu_row b]
  have r0 : ∀ f, f ≠ 10 → mu (mu (mu (mu m 110 n v) 0 10 (nI (n + 1))) 160 n v) 139 32 (nI (n + 1)) 0 f = m 0 f := fun f hf => by rw [mu_row (by decide), mu_row (by decide), mu_ne hf, mu_row (by decide)]
  have r1 : ∀ f, f ≠ 32 → mu (mu (mu (mu m 110 n v) 0 10 (nI (n + 1))) 160 n v) 139 32 (nI (n + 1)) 139 f = m 139 f := fun f hf => by rw [mu_ne hf, mu_row (by decide), mu_row (by decide), mu_row (by decide)]
  refine hQ' _ ⟨(hA.mono bd_mono).fr (fun r q1 q2 => row r (by omega) (by omega) (by omega) (by omega)) (row _ (by decide) (by decide) (by decide) (by decide)) (row _ (by decide) (by decide) (by decide) (by decide)) (r0 4 (by decide)) (r1 3 (by decide)), hT.fr (row _ (by decide) (by decide) (by decide) (by decide)) (row _ (by decide) (by decide) (by decide) (by decide)) (r0 6 (by decide)) (r1 6 (by decide)), hS.fr (fun r q1 q2 => row r (by omega) (by omega) (by omega) (by omega)) (row _ (by decide) (by decide) (by decide) (by decide)) (row _ (by decide) (by decide) (by decide) (by decide)) (row _ (by decide) (by decide) (by decide) (by decide)), hL.fr (fun r q1 q2 => row r (by omega) (by omega) (by omega) (by omega)) (row _ (by decide) (by decide) (by decide) (by decide)) (row _ (by decide) (by decide) (by decide) (by decide)) (row _ (by decide) (by decide) (by decide) (by decide)) (row _ (by decide) (by decide) (by decide) (by decide)), ?_, hC.fr (row _ (by decide) (by decide) (by decide) (by decide)) (row _ (by decide) (by decide) (by decide) (by decide)) (row _ (by decide) (by decide) (by decide) (by decide))⟩
  refine ⟨⟨n + 1, by omega, ?_⟩, ?_, fun i hi => ?_⟩
  · rw [mu_row (by decide), mu_row (by decide), mu_at]
  · rw [mu_at, mu_row (by decide), mu_row (by decide), mu_at]
  · rw [mu_row (by decide), mu_row (show (110 : Nat) ≠ 139 by decide), mu_row (show (110 : Nat) ≠ 160 by decide), mu_row (show (110 : Nat) ≠ 0 by decide)]
    by_cases e : i = n
    · subst e; rw [mu_at, mu_at]
    · rw [mu_ne e, mu_ne e, mu_row (by decide), mu_row (by decide)]; exact ec i hi
theorem pr_trim {scr : Nat → Int32} {L d k : Nat} {m : Mem} {v : Int32} (h : Sim scr k m) : Pair scr L (d + 20) 83 163 [.int v] k m := by
  intro Q hQ
  obtain ⟨hA, ⟨⟨n, hn, en⟩, ew, ec⟩, hS, hL, hW, hC⟩ := id h
  refine Mc_wp nocut t83 rfl rfl rfl 60 ?_
  refine ⟨⟨rfl, ltB rfl⟩, ?_⟩
  by_cases q : 0 ≤ v ∧ v ≤ m 0 6
  rotate_left 1
  · refine c_wF q ?_
    refine hQ _ m (fun Q' hQ' => ?_)
    refine Mc_wp nocut t163 rfl rfl rfl 60 ?_
    refine ⟨⟨rfl, ltB rfl⟩, ?_⟩
    rw [ew]
    exact r_iF q (hQ' m h.next)
  refine c_wT q ?_
  refine ⟨⟨rfl, ltB rfl⟩, ?_⟩
  obtain ⟨x, hx, rfl⟩ := ix_split (b := m 0 6) (n := n) en q.1 q.2
  refine hQ _ _ (fun Q' hQ' => ?_)
  refine Mc_wp nocut t163 rfl rfl rfl 60 ?_
  refine ⟨⟨rfl, ltB rfl⟩, ?_⟩
  rw [mu_row (by decide), ew]
  refine r_iT q ?_
  refine ⟨⟨rfl, ltB rfl⟩, ?_⟩
  have row : ∀ r, r ≠ 0 → r ≠ 139 → mu (mu m 0 6 (nI x)) 139 6 (nI x) r = m r := fun r a c => by rw [mu_row c, mu_row a]
  have r0 : ∀ f, f ≠ 6 → mu (mu m 0 6 (nI x)) 139 6 (nI x) 0 f = m 0 f := fun f hf => by rw [mu_row (by decide), mu_ne hf]
  have r1 : ∀ f, f ≠ 6 → mu (mu m 0 6 (nI x)) 139 6 (nI x) 139 f = m 139 f := fun f hf => by rw [mu_ne hf, mu_row (by decide)]
  refine hQ' _ ⟨(hA.mono bd_mono).fr (fun r q1 q2 => row r (by omega) (by omega)) (row _ (by decide) (by decide)) (row _ (by decide) (by decide)) (r0 4 (by decide)) (r1 3 (by decide)), ?_, hS.fr (fun r q1 q2 => row r (by omega) (by omega)) (row _ (by decide) (by decide)) (row _ (by decide) (by decide)) (row _ (by decide) (by decide)), hL.fr (fun r q1 q2 => row r (by omega) (by omega)) (row _ (by decide) (by decide)) (row _ (by decide) (by decide)) (row _ (by decide) (by decide)) (row _ (by decide) (by decide)), hW.fr (row _ (by decide) (by decide)) (row _ (by decide) (by decide)) (r0 10 (by decide)) (r1 32 (by decide)), hC.fr (row _ (by decide) (by decide)) (row _ (by decide) (by decide)) (row _ (by decide) (by decide))⟩
  refine ⟨⟨x, by omega, ?_⟩, ?_, fun i hi => ?_⟩
  · rw [mu_row (by decide), mu_at]
  · rw [mu_at, mu_row (by decide), mu_at]
  · rw [row 144 (by decide) (by decide), row 107 (by decide) (by decide)]; exact ec i hi
theorem pr_fine {scr : Nat → Int32} {L d k : Nat} {m : Mem} {v : Int32} (hk : k ≤ 1000) (h : Sim scr k m) : Pair scr L (d + 20) 80 161 [.int v] k m := by
  intro Q hQ
  obtain ⟨nt, nw, nx, hM, hI⟩ := h.1.1
  have hR := hM.1
  have hn8 := hR.2.2.1.1
  have hx14 := hR.2.2.1.2.2
  refine Mc_wp nocut t80 rfl rfl rfl 60 ?_
  refine ⟨⟨rfl, ltB rfl, neB rfl⟩, ?_⟩
  rw [rf_cnow]
  rcases num_or (n := nt) v (by omega) with q1 | ⟨t, ht, rfl⟩
  · refine ⟨moC mb35, c_hF mb35 hR.1.1 hn8 q1 ?_⟩
    refine hQ _ m (fun Q' hQ' => ?_)
    refine Mc_wp nocut t161 rfl rfl rfl 60 ?_
    exact ⟨⟨rfl, ltB rfl⟩, r_hF hR.2.1.1 hn8 q1 (hQ' m h.next)⟩
  refine ⟨moC mb35, c_hT mb35 hR.1.1 hn8 ht ?_⟩
  refine ⟨⟨rfl, ltB rfl, neB rfl⟩, ?_⟩
  rw [rf_cnow]
  refine ⟨⟨rfl, ltB rfl, neB rfl⟩, ?_⟩
  rw [rf_cnow]
  refine ⟨moK1 mb35, ?_⟩
  rw [moV1 mb35]
  refine ⟨heK mb35 (rfl : nI t = nI t) (by omega), ?_⟩
  rw [heV mb35 (rfl : nI t = nI t) (show t < 8 by omega)]
  have hy := hM.2.2.1.y
  refine ⟨moC mb35, c_fineFor mb35 hR hM.2.1 ht hy.1 hy.2.1 (hM.2.2.2.1.p ht (bd_le hk)) (fun m1 hF => ?_)⟩
  have e140 : m1 140 = m 140 := hF 140 (by simp)
  have g1 : ∀ r, ¬ scrap r → m1 r = m r := fun r hr => hF r (by intro e; apply hr; unfold scrap; simp at e; omega)
  refine hQ _ m1 (fun Q' hQ' => ?_)
  unfold fineA at hQ'
  rw [nx_of hR.2.1.2.2 hx14] at hQ'
  refine Mc_wp nocut t161 rfl rfl rfl 60 ?_
  refine ⟨⟨rfl, ltB rfl⟩, r_hT (by rw [e140]; exact hR.2.1.1) hn8 ht ?_⟩
  refine ⟨⟨rfl, ltB rfl⟩, r_counts (n := nx) (by rw [e140]; exact hR.2.1.2.2) hx14 ?_⟩
  refine ⟨⟨rfl, ltB rfl, neB rfl⟩, ?_⟩
  rw [rf_facts]
  refine ⟨⟨rfl, ltB rfl⟩, r_lapsOf (by omega) (by rw [e140]; exact hy.2.2) ?_⟩
  refine ⟨⟨rfl, ltB rfl, vinB rfl⟩, ?_⟩
  rw [lc0]
  refine ⟨⟨rfl, ltB rfl, neB rfl⟩, ?_⟩
  rw [rf_facts]
  refine ⟨⟨rfl, ltB rfl⟩, r_of (w := 1) (by omega) (by omega) ?_⟩
  refine ⟨⟨rfl, ltB rfl, vinB rfl⟩, ?_⟩
  rw [lc1]
  rw [mu_row (show (140 : Nat) ≠ 151 by decide), e140]
  have e140' : mu (mu m1 151 0 (lapsA (m 140) t)) 151 1 (m 140 (44 + 6 * t + 1)) 140 = m 140 := by rw [mu_row (by decide), mu_row (by decide)]; exact e140
  have g2 : ∀ r, ¬ scrap r → mu (mu m1 151 0 (lapsA (m 140) t)) 151 1 (m 140 (44 + 6 * t + 1)) r = m r := fun r hr => by
    have : r ≠ 151 := fun e => hr (by unfold scrap; omega)
    rw [mu_row this, mu_row this]; exact g1 r hr
  cases hc : cntO (m 140) 2 nx with
  | none =>
    rw [hc] at hQ'
    dsimp only at hQ'
    refine ⟨⟨rfl, ltB rfl⟩, r_lapsOf (by omega) (by rw [e140']; exact hy.2.2) ?_⟩
    rw [e140']
    exact hQ' _ (sim_scrap h g2)
  | some x =>
    rw [hc] at hQ'
    dsimp only at hQ'
    obtain ⟨k1, n, k2, k3, k4, k5⟩ := TX_at (key := 2) hM.2.1.tx hc (by omega)
    refine ifI (fun q => absurd q (opI_some (by omega))) (fun _ => ?_)
    refine ⟨⟨rfl, ltB rfl⟩, r_worksOut (x := x) (n := n) (nm := 2) (by omega) (by rw [e140']; exact k3) (by rw [e140']; exact k5) (by omega) (fun st => ?_)⟩
    have e9 : woA (m 140) x (fa4 (lapsA (m 140) t) (m 140 (44 + 6 * t + 1)) 0 0) = evR (cdA (mu (mu m1 151 0 (lapsA (m 140) t)) 151 1 (m 140 (44 + 6 * t + 1)) 140) x) (mu (mu m1 151 0 (lapsA (m 140) t)) 151 1 (m 140 (44 + 6 * t + 1)) 151) n := by
      rw [e140']
      unfold woA
      rw [k4]
      refine evR_congr k5 (by decide) (fun i hi => ?_)
      have hi3 : i < 2 := hi
      rcases (show i = 0 ∨ i = 1 by omega) with rfl | rfl <;> rfl
    rw [e9] at hQ'
    refine hQ' _ (sim_scrap h (fun r hr => ?_))
    have : r ≠ 150 := fun e => hr (by unfold scrap; omega)
    rw [mr_ne this]; exact g2 r hr
