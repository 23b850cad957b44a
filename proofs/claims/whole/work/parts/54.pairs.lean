-- pairs: told, step, as
theorem WR.y {A : Nat → Int32} (h : WR A) : 0 < A 3 ∧ (A 3).toInt ≤ 1000000 ∧ ¬ A 3 = 0 := by
  have e0 : (0 : Int32).toInt = 0 := rfl
  refine ⟨tI_lt.mpr (by rw [e0]; have := h.1.1; omega), by have := h.1.2; omega, fun e => ?_⟩
  have := h.1.1
  rw [e, e0] at this; omega
theorem WT.p {B : Int} {nt t : Nat} {A : Nat → Int32} (h : WT B nt A) (ht : t < nt) (hB : B ≤ 1000000000) : -1000000000 ≤ (A (44 + 6 * t + 2)).toInt := by have := (h t ht).2.2.1.1; omega
def tellV (A : Nat → Int32) (t w : Nat) : Int32 := if w = 6 then lapsA A t else if w = 7 then yardA A t else if w = 8 then worthV (A (44 + 6 * t + 0)) (A (44 + 6 * t + 1)) else A (44 + 6 * t + w)
theorem c_told {L d : Nat} {B : Int} {mem : Mem} {Q : Qt} {nt nw nx t w : Nat} {A : Nat → Int32} (hM : Mo B 35 nt nw nx A mem) (hB : B ≤ 1000000000) (ht : t < nt) (hw : w < 9) (h : Q (some (.int (tellV A t w))) (S0 L) mem) : Mc (d + 5) 55 [.ref 0, .int (nI t), .int (nI w)] (S0 L) mem Q := by
  obtain ⟨hR, hT, hW⟩ := hM
  have hn8 := hR.2.2.1.1
  have hc : tuC L (35 + 4 + t) := heC mb35 (by omega)
  have hy := hW.1.y
  have h7 : mem 35 7 = A 3 := hR.1.2.2.2.1
  have hy0 : ¬ mem 35 7 = 0 := by rw [h7]; exact hy.2.2
  have hp := hW.2.1.p ht hB
  have r4 := fun f (hf : f < 6) => hR.2.2.2.1 t f ht hf
  have hb := hW.2.2.1 t ht
  have fld : ∀ f, f < 6 → tellV A t f = A (44 + 6 * t + f) := fun f hf => by
    unfold tellV
    rw [if_neg (by omega), if_neg (by omega), if_neg (by omega)]
  refine Mc_wp nocut t55 rfl rfl rfl 60 ?_
  refine ⟨⟨rfl, ltB rfl, neB rfl⟩, ?_⟩
  rw [rf_cnow]
  refine ⟨moC mb35, c_hT mb35 hR.1.1 hn8 ht ?_⟩
  refine ⟨⟨rfl, ltB rfl, neB rfl⟩, ?_⟩
  rw [rf_cnow]
  refine ⟨moK1 mb35, ?_⟩
  rw [moV1 mb35]
  refine ⟨heK mb35 (rfl : nI t = nI t) (by omega), ?_⟩
  rw [heV mb35 (rfl : nI t = nI t) (show t < 8 by omega)]
  rcases (show w = 0 ∨ w = 1 ∨ w = 2 ∨ w = 3 ∨ w = 4 ∨ w = 5 ∨ w = 6 ∨ w = 7 ∨ w = 8 by omega) with rfl | rfl | rfl | rfl | rfl | rfl | rfl | rfl | rfl
  · refine ⟨hc, ?_⟩
    rw [r4 0 (by omega)]; rw [fld 0 (by omega)] at h; exact h
  · refine ⟨hc, ?_⟩
    rw [r4 1 (by omega)]; rw [fld 1 (by omega)] at h; exact h
  · refine ⟨hc, ?_⟩
    rw [r4 2 (by omega)]; rw [fld 2 (by omega)] at h; exact h
  · refine ⟨hc, ?_⟩
    rw [r4 3 (by omega)]; rw [fld 3 (by omega)] at h; exact h
  · refine ⟨hc, ?_⟩
    rw [r4 4 (by omega)]; rw [fld 4 (by omega)] at h
    rcases hb.1 with e | e
    · rw [e]; rw [e] at h; exact h
    · rw [e]; rw [e] at h; exact h
  · refine ⟨hc, ?_⟩
    rw [r4 5 (by omega)]; rw [fld 5 (by omega)] at h
    rcases hb.2 with e | e
    · rw [e]; rw [e] at h; exact h
    · rw [e]; rw [e] at h; exact h
  · refine ⟨⟨rfl, ltB rfl, neB rfl⟩, ?_⟩
    rw [rf_cnow]
    refine ⟨moC mb35, c_lapsOf mb35 hc hy0 ?_⟩
    rw [h7, r4 2 (by omega), fd_eq hy.1 hp hy.2.1]; exact h
  · refine ⟨⟨rfl, ltB rfl, neB rfl⟩, ?_⟩
    rw [rf_cnow]
    refine ⟨moC mb35, c_yardOf mb35 hc hy0 ?_⟩
    rw [h7, r4 2 (by omega), fm_eq hy.1]; exact h
  · refine ⟨hc, c_worth hc ?_⟩
    rw [r4 0 (by omega), r4 1 (by omega)]; exact h
theorem nn {v : Int32} {n t : Nat} (h : nonum v n) (hn : n < 2 ^ 31) (ht : t < n) : ¬ v = nI t := fun e => nonum_not hn h ht e
theorem bd_le {k : Nat} (hk : k ≤ 1000) : bd k ≤ 1000000000 := by unfold bd; omega
theorem pr_told {scr : Nat → Int32} {L d k : Nat} {m : Mem} {v w : Int32} (hk : k ≤ 1000) (h : Sim scr k m) : Pair scr L (d + 20) 55 122 [.int v, .int w] k m := by
  intro Q hQ
  obtain ⟨nt, nw, nx, hM, hI⟩ := h.1.1
  have hR := hM.1
  have hn8 := hR.2.2.1.1
  rcases num_or (n := nt) v (by omega) with q1 | ⟨t, ht, rfl⟩
  · refine Mc_wp nocut t55 rfl rfl rfl 60 ?_
    refine ⟨⟨rfl, ltB rfl, neB rfl⟩, ?_⟩
    rw [rf_cnow]
    refine ⟨moC mb35, c_hF mb35 hR.1.1 hn8 q1 ?_⟩
    refine hQ _ m (fun Q' hQ' => ?_)
    refine Mc_wp nocut t122 rfl rfl rfl 60 ?_
    exact ⟨⟨rfl, ltB rfl⟩, r_hF hR.2.1.1 hn8 q1 (hQ' m h.next)⟩
  rcases num_or (n := 9) w (by omega) with q2 | ⟨w, hw, rfl⟩
  · have ne : ∀ c, c < 9 → ¬ w = nI c := fun c hc => nn q2 (by omega) hc
    refine Mc_wp nocut t55 rfl rfl rfl 60 ?_
    refine ⟨⟨rfl, ltB rfl, neB rfl⟩, ?_⟩
    rw [rf_cnow]
    refine ⟨moC mb35, c_hT mb35 hR.1.1 hn8 ht ?_⟩
    refine ⟨⟨rfl, ltB rfl, neB rfl⟩, ?_⟩
    rw [rf_cnow]
    refine ⟨moK1 mb35, ?_⟩
    rw [moV1 mb35]
    refine ⟨heK mb35 (rfl : nI t = nI t) (by omega), ?_⟩
    rw [heV mb35 (rfl : nI t = nI t) (show t < 8 by omega)]
    refine ifI (fun e => absurd e (ne 0 (by omega))) (fun _ => ?_)
    refine ifI (fun e => absurd e (ne 1 (by omega))) (fun _ => ?_)
    refine ifI (fun e => absurd e (ne 2 (by omega))) (fun _ => ?_)
    refine ifI (fun e => absurd e (ne 3 (by omega))) (fun _ => ?_)
    refine ifI (fun e => absurd e (ne 4 (by omega))) (fun _ => ?_)
    refine ifI (fun e => absurd e (ne 5 (by omega))) (fun _ => ?_)
    refine ifI (fun e => absurd e (ne 6 (by omega))) (fun _ => ?_)
    refine ifI (fun e => absurd e (ne 7 (by omega))) (fun _ => ?_)
    refine ifI (fun e => absurd e (ne 8 (by omega))) (fun _ => ?_)
    refine hQ _ m (fun Q' hQ' => ?_)
    refine Mc_wp nocut t122 rfl rfl rfl 60 ?_
    refine ⟨⟨rfl, ltB rfl⟩, r_hT hR.2.1.1 hn8 ht ?_⟩
    refine ifI (fun e => absurd e (ne 0 (by omega))) (fun _ => ?_)
    refine ifI (fun e => absurd e (ne 1 (by omega))) (fun _ => ?_)
    refine ifI (fun e => absurd e (ne 2 (by omega))) (fun _ => ?_)
    refine ifI (fun e => absurd e (ne 3 (by omega))) (fun _ => ?_)
    refine ifI (fun e => absurd e (ne 4 (by omega))) (fun _ => ?_)
    refine ifI (fun e => absurd e (ne 5 (by omega))) (fun _ => ?_)
    refine ifI (fun e => absurd e (ne 6 (by omega))) (fun _ => ?_)
    refine ifI (fun e => absurd e (ne 7 (by omega))) (fun _ => ?_)
    refine ifI (fun e => absurd e (ne 8 (by omega))) (fun _ => ?_)
    exact hQ' m h.next
  refine c_told hM (bd_le hk) ht hw ?_
  refine hQ _ m (fun Q' hQ' => ?_)
  have hq := hQ' m h.next
  have hy0 : ¬ m 140 3 = 0 := hM.2.2.1.y.2.2
  refine Mc_wp nocut t122 rfl rfl rfl 60 ?_
  refine ⟨⟨rfl, ltB rfl⟩, r_hT hR.2.1.1 hn8 ht ?_⟩
  rcases (show w = 0 ∨ w = 1 ∨ w = 2 ∨ w = 3 ∨ w = 4 ∨ w = 5 ∨ w = 6 ∨ w = 7 ∨ w = 8 by omega) with rfl | rfl | rfl | rfl | rfl | rfl | rfl | rfl | rfl
  · exact ⟨⟨rfl, ltB rfl⟩, r_of (w := 0) (by omega) (by omega) hq⟩
  · exact ⟨⟨rfl, ltB rfl⟩, r_of (w := 1) (by omega) (by omega) hq⟩
  · exact ⟨⟨rfl, ltB rfl⟩, r_of (w := 2) (by omega) (by omega) hq⟩
  · exact ⟨⟨rfl, ltB rfl⟩, r_of (w := 3) (by omega) (by omega) hq⟩
  · exact ⟨⟨rfl, ltB rfl⟩, r_of (w := 4) (by omega) (by omega) hq⟩
  · exact ⟨⟨rfl, ltB rfl⟩, r_of (w := 5) (by omega) (by omega) hq⟩
  · exact ⟨⟨rfl, ltB rfl⟩, r_lapsOf (by omega) hy0 hq⟩
  · exact ⟨⟨rfl, ltB rfl⟩, r_yardOf (by omega) hy0 hq⟩
  · exact ⟨⟨rfl, ltB rfl⟩, r_worthOf (by omega) hq⟩
theorem pr_step {scr : Nat → Int32} {L d k : Nat} {m : Mem} {v x : Int32} (h : Sim scr k m) : Pair scr L (d + 20) 56 124 [.int v, .int x] k m := by
  intro Q hQ
  obtain ⟨nt, nw, nx, hM, hI⟩ := h.1.1
  have hR := hM.1
  have hn8 := hR.2.2.1.1
  refine Mc_wp nocut t56 rfl rfl rfl 60 ?_
  refine ⟨⟨rfl, ltB rfl, neB rfl⟩, ?_⟩
  rw [rf_cnow]
  rcases num_or (n := nt) v (by omega) with q1 | ⟨t, ht, rfl⟩
  · refine ⟨moC mb35, c_hF mb35 hR.1.1 hn8 q1 ?_⟩
    refine hQ _ m (fun Q' hQ' => ?_)
    refine Mc_wp nocut t124 rfl rfl rfl 60 ?_
    exact ⟨⟨rfl, ltB rfl⟩, r_hF hR.2.1.1 hn8 q1 (hQ' m h.next)⟩
  refine ⟨moC mb35, c_hT mb35 hR.1.1 hn8 ht ?_⟩
  by_cases q2 : 0 ≤ x ∧ x ≤ 9
  rotate_left 1
  · refine c_wF q2 ?_
    refine hQ _ m (fun Q' hQ' => ?_)
    refine Mc_wp nocut t124 rfl rfl rfl 60 ?_
    refine ⟨⟨rfl, ltB rfl⟩, r_hT hR.2.1.1 hn8 ht ?_⟩
    exact r_iF q2 (hQ' m h.next)
  refine c_wT q2 ?_
  refine ⟨⟨rfl, ltB rfl, neB rfl⟩, ?_⟩
  rw [rf_cnow]
  refine ⟨⟨rfl, ltB rfl, neB rfl⟩, ?_⟩
  rw [rf_cnow]
  refine ⟨moK1 mb35, ?_⟩
  rw [moV1 mb35]
  refine ⟨heK mb35 (rfl : nI t = nI t) (by omega), ?_⟩
  rw [heV mb35 (rfl : nI t = nI t) (show t < 8 by omega)]
  refine ⟨moC mb35, c_stepOf mb35 hR hM.2.1 ht (fun m1 hF => ?_)⟩
  have g : ∀ r, ¬ scrap r → m1 r = m r := fun r hr => hF r (by intro e; apply hr; unfold scrap; simp at e; omega)
  have e140 : m1 140 = m 140 := hF 140 (by simp)
  refine hQ _ m1 (fun Q' hQ' => ?_)
  refine Mc_wp nocut t124 rfl rfl rfl 60 ?_
  refine ⟨⟨rfl, ltB rfl⟩, r_hT (by rw [e140]; exact hR.2.1.1) hn8 ht ?_⟩
  refine r_iT q2 ?_
  refine ⟨⟨rfl, ltB rfl⟩, r_stepBy (nx := nx) (by omega) (by rw [e140]; exact hR.2.1.2.2) hR.2.2.1.2.2 (by rw [e140]; exact hM.2.1.tx) (fun m2 hF2 => ?_)⟩
  rw [e140]
  refine hQ' m2 (sim_scrap h (fun r hr => ?_))
  rw [hF2 r (by intro e; apply hr; unfold scrap; simp at e; omega)]
  exact g r hr
theorem pr_as {scr : Nat → Int32} {L d k : Nat} {m : Mem} {v w : Int32} (h : Sim scr k m) : Pair scr L (d + 20) 57 126 [.int v, .int w] k m := by
  intro Q hQ
  obtain ⟨nt, nw, nx, hM, hI⟩ := h.1.1
  have hR := hM.1
  have hn8 := hR.2.2.1.1
  refine Mc_wp nocut t57 rfl rfl rfl 60 ?_
  refine ⟨⟨rfl, ltB rfl, neB rfl⟩, ?_⟩
  rw [rf_cnow]
  rcases num_or (n := nt) v (by omega) with q1 | ⟨t, ht, rfl⟩
  · refine ⟨moC mb35, c_hF mb35 hR.1.1 hn8 q1 ?_⟩
    refine hQ _ m (fun Q' hQ' => ?_)
    refine Mc_wp nocut t126 rfl rfl rfl 60 ?_
    exact ⟨⟨rfl, ltB rfl⟩, r_hF hR.2.1.1 hn8 q1 (hQ' m h.next)⟩
  refine ⟨moC mb35, c_hT mb35 hR.1.1 hn8 ht ?_⟩
  by_cases q2 : 0 ≤ w ∧ w ≤ 5
  rotate_left 1
  · refine c_kF q2 ?_
    refine hQ _ m (fun Q' hQ' => ?_)
    refine Mc_wp nocut t126 rfl rfl rfl 60 ?_
    refine ⟨⟨rfl, ltB rfl⟩, r_hT hR.2.1.1 hn8 ht ?_⟩
    exact r_iF q2 (hQ' m h.next)
  refine c_kT q2 ?_
  obtain ⟨w', hw', rfl⟩ := ix_split (b := 5) (n := 5) rfl q2.1 q2.2
  refine ⟨⟨rfl, ltB rfl, neB rfl⟩, ?_⟩
  rw [rf_cnow]
  refine ⟨moK1 mb35, ?_⟩
  rw [moV1 mb35]
  refine ⟨heK mb35 (rfl : nI t = nI t) (by omega), ?_⟩
  rw [heV mb35 (rfl : nI t = nI t) (show t < 8 by omega)]
  have hc : tuC L (35 + 4 + t) := heC mb35 (by omega)
  have hk0 := (hM.2.2.2.1 t ht).1
  have r4 := fun f (hf : f < 6) => hR.2.2.2.1 t f ht hf
  obtain ⟨kd, hkd, ekd⟩ := ix_split (v := m 140 (44 + 6 * t + 0)) (b := 5) (n := 5) rfl (tI_le.mpr hk0.1) (tI_le.mpr hk0.2)
  refine ⟨hc, c_isOf hc (by rw [r4 0 (by omega)]; exact ekd) (by omega) (by omega) (fun z => ?_) (fun z => ?_)⟩
  · refine ⟨hc, ?_⟩
    rw [r4 1 (by omega)]
    refine hQ _ m (fun Q' hQ' => ?_)
    refine Mc_wp nocut t126 rfl rfl rfl 60 ?_
    refine ⟨⟨rfl, ltB rfl⟩, r_hT hR.2.1.1 hn8 ht ?_⟩
    refine r_iT q2 ?_
    refine ⟨⟨rfl, ltB rfl⟩, r_of (w := 0) (by omega) (by omega) ?_⟩
    rw [ekd]
    refine r_isUnder (fun _ => ?_) (fun z' => absurd z z')
    exact ⟨⟨rfl, ltB rfl⟩, r_of (w := 1) (by omega) (by omega) (hQ' m h.next)⟩
  · refine hQ _ m (fun Q' hQ' => ?_)
    refine Mc_wp nocut t126 rfl rfl rfl 60 ?_
    refine ⟨⟨rfl, ltB rfl⟩, r_hT hR.2.1.1 hn8 ht ?_⟩
    refine r_iT q2 ?_
    refine ⟨⟨rfl, ltB rfl⟩, r_of (w := 0) (by omega) (by omega) ?_⟩
    rw [ekd]
    exact r_isUnder (fun z' => absurd z' z) (fun _ => hQ' m h.next)
