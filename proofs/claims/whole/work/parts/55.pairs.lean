-- pairs: turns, set, push, egg, rule, seed
def okF (B : Int) (f : Nat) (v : Int32) : Prop := (f = 0 → 0 ≤ v.toInt ∧ v.toInt ≤ 5) ∧ (f = 1 → 0 ≤ v.toInt ∧ v.toInt ≤ 20) ∧ (f = 2 → -B ≤ v.toInt ∧ v.toInt ≤ B) ∧ (f = 3 → 0 ≤ v.toInt ∧ v.toInt ≤ B) ∧ (f = 4 → v = 0 ∨ v = 1) ∧ (f = 5 → v = 0 ∨ v = 1)
theorem upd_at {A : Nat → Int32} {i j : Nat} {v : Int32} (h : j = i) : upd A i v j = v := by rw [h]; exact pk_us
theorem wa_tu {B : Int} {nt nw t f : Nat} {A : Nat → Int32} {v : Int32} (h : WA B nt nw A) (hf : f < 6) (hw : nw ≤ 12) (hv : okF B f v) : WA B nt nw (upd A (44 + 6 * t + f) v) := by
  obtain ⟨h1, h2, h3, h4⟩ := h
  obtain ⟨v0, v1, v2, v3, v4, v5⟩ := hv
  refine ⟨?_, fun u hu => ?_, fun u hu => ?_, fun w hw' => ?_⟩
  · unfold WR
    rw [pk_un (by omega), pk_un (by omega), pk_un (by omega), pk_un (by omega)]; exact h1
  · have := h2 u hu
    refine ⟨?_, ?_, ?_, ?_⟩
    · by_cases e : 44 + 6 * u + 0 = 44 + 6 * t + f
      · rw [upd_at e]; exact v0 (by omega)
      · rw [pk_un e]; exact this.1
    · by_cases e : 44 + 6 * u + 1 = 44 + 6 * t + f
      · rw [upd_at e]; exact v1 (by omega)
      · rw [pk_un e]; exact this.2.1
    · by_cases e : 44 + 6 * u + 2 = 44 + 6 * t + f
      · rw [upd_at e]; exact v2 (by omega)
      · rw [pk_un e]; exact this.2.2.1
    · by_cases e : 44 + 6 * u + 3 = 44 + 6 * t + f
      · rw [upd_at e]; exact v3 (by omega)
      · rw [pk_un e]; exact this.2.2.2
  · have := h3 u hu
    refine ⟨?_, ?_⟩
    · by_cases e : 44 + 6 * u + 4 = 44 + 6 * t + f
      · rw [upd_at e]; exact v4 (by omega)
      · rw [pk_un e]; exact this.1
    · by_cases e : 44 + 6 * u + 5 = 44 + 6 * t + f
      · rw [upd_at e]; exact v5 (by omega)
      · rw [pk_un e]; exact this.2
  · rw [pk_un (by omega)]; exact h4 w hw'
theorem wa_z {B : Int} {nt nw : Nat} {A : Nat → Int32} {v : Int32} (h : WA B nt nw A) : WA B nt nw (upd A 0 v) := by
  obtain ⟨h1, h2, h3, h4⟩ := h
  refine ⟨?_, fun u hu => ?_, fun u hu => ?_, fun w hw' => ?_⟩
  · unfold WR
    rw [pk_un (by omega), pk_un (by omega), pk_un (by omega), pk_un (by omega)]; exact h1
  · rw [pk_un (by omega), pk_un (by omega), pk_un (by omega), pk_un (by omega)]; exact h2 u hu
  · rw [pk_un (by omega), pk_un (by omega)]; exact h3 u hu
  · rw [pk_un (by omega)]; exact h4 w hw'
theorem wa_rule {B : Int} {nt nw j : Nat} {A : Nat → Int32} {v : Int32} (h : WA B nt nw A) (hv : (j = 3 ∧ 10 ≤ v.toInt ∧ v.toInt ≤ 999) ∨ (j = 4 ∧ 0 ≤ v.toInt ∧ v.toInt ≤ 99) ∨ (j = 5 ∧ 1 ≤ v.toInt ∧ v.toInt ≤ 9999) ∨ (j = 2 ∧ 0 ≤ v.toInt ∧ v.toInt ≤ 9999)) : WA B nt nw (upd A j v) := by
  obtain ⟨h1, h2, h3, h4⟩ := h
  refine ⟨?_, fun u hu => ?_, fun u hu => ?_, fun w hw' => ?_⟩
  · obtain ⟨a, b, c, e⟩ := h1
    rcases hv with ⟨rfl, hv⟩ | ⟨rfl, hv⟩ | ⟨rfl, hv⟩ | ⟨rfl, hv⟩
    · refine ⟨by rw [pk_us]; exact hv, by rw [pk_un (by omega)]; exact b, by rw [pk_un (by omega)]; exact c, by rw [pk_un (by omega)]; exact e⟩
    · refine ⟨by rw [pk_un (by omega)]; exact a, by rw [pk_us]; exact hv, by rw [pk_un (by omega)]; exact c, by rw [pk_un (by omega)]; exact e⟩
    · refine ⟨by rw [pk_un (by omega)]; exact a, by rw [pk_un (by omega)]; exact b, by rw [pk_us]; exact hv, by rw [pk_un (by omega)]; exact e⟩
    · refine ⟨by rw [pk_un (by omega)]; exact a, by rw [pk_un (by omega)]; exact b, by rw [pk_un (by omega)]; exact c, by rw [pk_us]; exact hv⟩
  · rw [pk_un (by omega), pk_un (by omega), pk_un (by omega), pk_un (by omega)]; exact h2 u hu
  · rw [pk_un (by omega), pk_un (by omega)]; exact h3 u hu
  · rw [pk_un (by omega)]; exact h4 w hw'
/-- one field of one turtle, in both -/
theorem Sim.tu {scr : Nat → Int32} {k nt nw nx t f : Nat} {m : Mem} {v : Int32} (h : Sim scr k m) (hM : Mo (bd k) 35 nt nw nx (m 140) m) (ht : t < nt) (hf : f < 6) (hv : okF (bd (k + 1)) f v) : Sim scr (k + 1) (mu (mu m (35 + 4 + t) f v) 140 (44 + 6 * t + f) v) := by
  have hn8 := hM.1.2.2.1.1
  have e140 : mu m (35 + 4 + t) f v 140 = m 140 := mu_row (by omega)
  refine h.now hM (nt' := nt) (nw' := nw) ?_ ?_ ?_ ?_
  · rw [mu_upd, e140]
    exact (hM.1.tu ht hf).fr (fun r q1 q2 => mu_row (by omega))
  · intro i hi
    rw [mu_upd, e140]; exact pk_un (by omega)
  · rw [mu_upd, e140]
    exact wa_tu (hM.2.2.mono bd_mono) hf hM.1.2.2.1.2.1 hv
  · intro r q1 q2 q3
    rw [mu_row q3, mu_row (by omega)]
theorem r_becomesE {d L : Nat} {mem : Mem} {Q : Qt} {i : Nat} {iv v : Int32} (e : iv = nI i) (hi : i < 1464) (h : Q (some (.int (mem 140 i))) (S0 L) (mu mem 140 i v)) : Mc (d + 1) 116 [.ref 139, .int iv, .int v] (S0 L) mem Q := by subst e; exact r_becomes hi h
theorem pr_turns {scr : Nat → Int32} {L d k : Nat} {m : Mem} {v w : Int32} (h : Sim scr k m) : Pair scr L (d + 20) 58 127 [.int v, .int w] k m := by
  intro Q hQ
  obtain ⟨nt, nw, nx, hM, hI⟩ := h.1.1
  have hR := hM.1
  have hn8 := hR.2.2.1.1
  refine Mc_wp nocut t58 rfl rfl rfl 60 ?_
  refine ⟨⟨rfl, ltB rfl, neB rfl⟩, ?_⟩
  rw [rf_cnow]
  rcases num_or (n := nt) v (by omega) with q1 | ⟨t, ht, rfl⟩
  · refine ⟨moC mb35, c_hF mb35 hR.1.1 hn8 q1 ?_⟩
    refine hQ _ m (fun Q' hQ' => ?_)
    refine Mc_wp nocut t127 rfl rfl rfl 60 ?_
    exact ⟨⟨rfl, ltB rfl⟩, r_hF hR.2.1.1 hn8 q1 (hQ' m h.next)⟩
  refine ⟨moC mb35, c_hT mb35 hR.1.1 hn8 ht ?_⟩
  by_cases q2 : 0 ≤ w ∧ w ≤ 5
  rotate_left 1
  · refine c_kF q2 ?_
    refine hQ _ m (fun Q' hQ' => ?_)
    refine Mc_wp nocut t127 rfl rfl rfl 60 ?_
    refine ⟨⟨rfl, ltB rfl⟩, r_hT hR.2.1.1 hn8 ht ?_⟩
    exact r_iF q2 (hQ' m h.next)
  refine c_kT q2 ?_
  refine ⟨⟨rfl, ltB rfl, neB rfl⟩, ?_⟩
  rw [rf_cnow]
  refine ⟨moK1 mb35, ?_⟩
  rw [moV1 mb35]
  refine ⟨heK mb35 (rfl : nI t = nI t) (by omega), ?_⟩
  rw [heV mb35 (rfl : nI t = nI t) (show t < 8 by omega)]
  have hc : tuC L (35 + 4 + t) := heC mb35 (by omega)
  refine ⟨hc, ?_⟩
  refine ⟨hc, ?_⟩
  rw [hR.2.2.2.1 t 0 ht (by omega)]
  have e140 : mu m (35 + 4 + t) 0 w 140 = m 140 := mu_row (by omega)
  refine hQ _ _ (fun Q' hQ' => ?_)
  refine Mc_wp nocut t127 rfl rfl rfl 60 ?_
  refine ⟨⟨rfl, ltB rfl⟩, r_hT (by rw [e140]; exact hR.2.1.1) hn8 ht ?_⟩
  refine r_iT q2 ?_
  have e : (44 + 6 * nI t : Int32) = nI (44 + 6 * t + 0) := ix2 (a := 44) (b := 6) t
  refine ⟨⟨rfl, ltB rfl⟩, r_becomesE e (by omega) ?_⟩
  rw [e140]
  exact hQ' _ (h.tu hM ht (by omega) ⟨fun _ => in_int q2, by omega, by omega, by omega, by omega, by omega⟩)
theorem pr_push {scr : Nat → Int32} {L d k : Nat} {m : Mem} {v w : Int32} (hk : k ≤ 1000) (h : Sim scr k m) : Pair scr L (d + 20) 61 130 [.int v, .int w] k m := by
  intro Q hQ
  obtain ⟨nt, nw, nx, hM, hI⟩ := h.1.1
  have hR := hM.1
  have hn8 := hR.2.2.1.1
  refine Mc_wp nocut t61 rfl rfl rfl 60 ?_
  refine ⟨⟨rfl, ltB rfl, neB rfl⟩, ?_⟩
  rw [rf_cnow]
  rcases num_or (n := nt) v (by omega) with q1 | ⟨t, ht, rfl⟩
  · refine ⟨moC mb35, c_hF mb35 hR.1.1 hn8 q1 ?_⟩
    refine hQ _ m (fun Q' hQ' => ?_)
    refine Mc_wp nocut t130 rfl rfl rfl 60 ?_
    exact ⟨⟨rfl, ltB rfl⟩, r_hF hR.2.1.1 hn8 q1 (hQ' m h.next)⟩
  refine ⟨moC mb35, c_hT mb35 hR.1.1 hn8 ht ?_⟩
  by_cases q2 : -99 ≤ w ∧ w ≤ 99
  rotate_left 1
  · refine c_wF q2 ?_
    refine hQ _ m (fun Q' hQ' => ?_)
    refine Mc_wp nocut t130 rfl rfl rfl 60 ?_
    refine ⟨⟨rfl, ltB rfl⟩, r_hT hR.2.1.1 hn8 ht ?_⟩
    exact r_iF q2 (hQ' m h.next)
  refine c_wT q2 ?_
  refine ⟨⟨rfl, ltB rfl, neB rfl⟩, ?_⟩
  rw [rf_cnow]
  refine ⟨moK1 mb35, ?_⟩
  rw [moV1 mb35]
  refine ⟨heK mb35 (rfl : nI t = nI t) (by omega), ?_⟩
  rw [heV mb35 (rfl : nI t = nI t) (show t < 8 by omega)]
  have hc : tuC L (35 + 4 + t) := heC mb35 (by omega)
  have hy := hM.2.2.1.y
  have h7 : m 35 7 = m 140 3 := hR.1.2.2.2.1
  refine ⟨hc, ?_⟩
  refine ⟨hc, ?_⟩
  rw [hR.2.2.2.1 t 2 ht (by omega)]
  have e140 : mu m (35 + 4 + t) 2 (m 140 (44 + 6 * t + 2) + w) 140 = m 140 := mu_row (by omega)
  have e35 : mu m (35 + 4 + t) 2 (m 140 (44 + 6 * t + 2) + w) 35 7 = m 140 3 := by rw [mu_row (by omega)]; exact h7
  refine ⟨⟨rfl, ltB rfl, neB rfl⟩, ?_⟩
  rw [rf_cnow]
  refine ⟨moC mb35, c_yardOf mb35 hc (by rw [e35]; exact hy.2.2) ?_⟩
  rw [e35, mu_at, fm_eq hy.1]
  refine hQ _ _ (fun Q' hQ' => ?_)
  refine Mc_wp nocut t130 rfl rfl rfl 60 ?_
  refine ⟨⟨rfl, ltB rfl⟩, r_hT (by rw [e140]; exact hR.2.1.1) hn8 ht ?_⟩
  refine r_iT q2 ?_
  refine ⟨⟨rfl, ltB rfl⟩, r_of (w := 2) (by omega) (by omega) ?_⟩
  refine ⟨⟨rfl, ltB rfl⟩, r_put (w := 2) (by omega) (by omega) ?_⟩
  rw [e140]
  refine ⟨⟨rfl, ltB rfl⟩, r_yardOf (by omega) (by rw [mu_ne (by omega), e140]; exact hy.2.2) ?_⟩
  have ey : yardA (mu (mu m (35 + 4 + t) 2 (m 140 (44 + 6 * t + 2) + w)) 140 (44 + 6 * t + 2) (m 140 (44 + 6 * t + 2) + w) 140) t = yardP (m 140 (44 + 6 * t + 2) + w) (m 140 3) := by
    unfold yardA
    rw [mu_at, mu_ne (by omega), e140]
  rw [ey]
  refine hQ' _ (h.tu hM ht (by omega) ⟨by omega, by omega, fun _ => ?_, by omega, by omega, by omega⟩)
  have hp := (hM.2.2.2.1 t ht).2.2.1
  have hb := bd_le hk
  have hw := in_int q2
  have e1 : (-99 : Int32).toInt = -99 := rfl
  have e2 : (99 : Int32).toInt = 99 := rfl
  rw [e1, e2] at hw
  have hb1 : bd (k + 1) = bd k + 40000 := by unfold bd; omega
  rw [tI_add (by omega) (by omega), hb1]; omega
theorem pr_egg {scr : Nat → Int32} {L d k : Nat} {m : Mem} {v w : Int32} (hk : k ≤ 1000) (h : Sim scr k m) : Pair scr L (d + 20) 62 131 [.int v, .int w] k m := by
  intro Q hQ
  obtain ⟨nt, nw, nx, hM, hI⟩ := h.1.1
  have hR := hM.1
  have hn8 := hR.2.2.1.1
  refine Mc_wp nocut t62 rfl rfl rfl 60 ?_
  refine ⟨⟨rfl, ltB rfl, neB rfl⟩, ?_⟩
  rw [rf_cnow]
  rcases num_or (n := nt) v (by omega) with q1 | ⟨t, ht, rfl⟩
  · refine ⟨moC mb35, c_hF mb35 hR.1.1 hn8 q1 ?_⟩
    refine hQ _ m (fun Q' hQ' => ?_)
    refine Mc_wp nocut t131 rfl rfl rfl 60 ?_
    exact ⟨⟨rfl, ltB rfl⟩, r_hF hR.2.1.1 hn8 q1 (hQ' m h.next)⟩
  refine ⟨moC mb35, c_hT mb35 hR.1.1 hn8 ht ?_⟩
  by_cases q2 : 0 ≤ w ∧ w ≤ 5
  rotate_left 1
  · refine c_kF q2 ?_
    refine hQ _ m (fun Q' hQ' => ?_)
    refine Mc_wp nocut t131 rfl rfl rfl 60 ?_
    refine ⟨⟨rfl, ltB rfl⟩, r_hT hR.2.1.1 hn8 ht ?_⟩
    exact r_iF q2 (hQ' m h.next)
  refine c_kT q2 ?_
  refine ⟨⟨rfl, ltB rfl, neB rfl⟩, ?_⟩
  rw [rf_cnow]
  refine ⟨moK1 mb35, ?_⟩
  rw [moV1 mb35]
  refine ⟨heK mb35 (rfl : nI t = nI t) (by omega), ?_⟩
  rw [heV mb35 (rfl : nI t = nI t) (show t < 8 by omega)]
  have hc : tuC L (35 + 4 + t) := heC mb35 (by omega)
  refine ⟨hc, ?_⟩
  rw [hR.2.2.2.1 t 5 ht (by omega)]
  refine ifI (fun z => ?_) (fun z => ?_)
  · refine hQ _ m (fun Q' hQ' => ?_)
    refine Mc_wp nocut t131 rfl rfl rfl 60 ?_
    refine ⟨⟨rfl, ltB rfl⟩, r_hT hR.2.1.1 hn8 ht ?_⟩
    refine r_iT q2 ?_
    refine ⟨⟨rfl, ltB rfl⟩, r_of (w := 5) (by omega) (by omega) ?_⟩
    exact ifI (fun _ => hQ' m h.next) (fun z' => absurd z z')
  have hy := hM.2.2.1.y
  have h7 : m 35 7 = m 140 3 := hR.1.2.2.2.1
  refine ⟨⟨hc.1, hc.2, Or.inl rfl⟩, ?_⟩
  refine ⟨hc, ?_⟩
  refine ⟨hc, ?_⟩
  refine ⟨⟨rfl, ltB rfl, neB rfl⟩, ?_⟩
  rw [rf_cnow]
  have rw3 : ∀ r, r ≠ 35 + 4 + t → mu (mu (mu m (35 + 4 + t) 5 0) (35 + 4 + t) 3 0) (35 + 4 + t) 0 w r = m r := fun r hr => by rw [mu_row hr, mu_row hr, mu_row hr]
  have e140 := rw3 140 (by omega)
  have e35 := rw3 35 (by omega)
  have p2 : mu (mu (mu m (35 + 4 + t) 5 0) (35 + 4 + t) 3 0) (35 + 4 + t) 0 w (35 + 4 + t) 2 = m 140 (44 + 6 * t + 2) := by
    rw [mu_ne (by omega), mu_ne (by omega), mu_ne (by omega)]; exact hR.2.2.2.1 t 2 ht (by omega)
  refine ⟨moC mb35, c_lapsOf mb35 hc (by rw [e35, h7]; exact hy.2.2) ?_⟩
  rw [e35, h7, p2, fd_eq hy.1 (hM.2.2.2.1.p ht (bd_le hk)) hy.2.1]
  refine hQ _ _ (fun Q' hQ' => ?_)
  refine Mc_wp nocut t131 rfl rfl rfl 60 ?_
  refine ⟨⟨rfl, ltB rfl⟩, r_hT (by rw [e140]; exact hR.2.1.1) hn8 ht ?_⟩
  refine r_iT q2 ?_
  refine ⟨⟨rfl, ltB rfl⟩, r_of (w := 5) (by omega) (by omega) ?_⟩
  rw [e140]
  refine ifI (fun z' => absurd z' z) (fun _ => ?_)
  refine ⟨⟨rfl, ltB rfl⟩, r_put (w := 5) (by omega) (by omega) ?_⟩
  refine ⟨⟨rfl, ltB rfl⟩, r_put (w := 3) (by omega) (by omega) ?_⟩
  refine ⟨⟨rfl, ltB rfl⟩, r_put (w := 0) (by omega) (by omega) ?_⟩
  have eA : mu (mu (mu (mu (mu (mu m (35 + 4 + t) 5 0) (35 + 4 + t) 3 0) (35 + 4 + t) 0 w) 140 (44 + 6 * t + 5) 0) 140 (44 + 6 * t + 3) 0) 140 (44 + 6 * t + 0) w 140 = upd (upd (upd (m 140) (44 + 6 * t + 5) 0) (44 + 6 * t + 3) 0) (44 + 6 * t + 0) w := by rw [mu_upd, mu_upd, mu_upd, e140]
  refine ⟨⟨rfl, ltB rfl⟩, r_lapsOf (by omega) (by rw [eA, pk_un (by omega), pk_un (by omega), pk_un (by omega)]; exact hy.2.2) ?_⟩
  have el : lapsA (mu (mu (mu (mu (mu (mu m (35 + 4 + t) 5 0) (35 + 4 + t) 3 0) (35 + 4 + t) 0 w) 140 (44 + 6 * t + 5) 0) 140 (44 + 6 * t + 3) 0) 140 (44 + 6 * t + 0) w 140) t = lapsP (m 140 (44 + 6 * t + 2)) (m 140 3) := by
    rw [eA]
    unfold lapsA
    rw [pk_un (by omega), pk_un (by omega), pk_un (by omega), pk_un (by omega), pk_un (by omega), pk_un (by omega)]
  rw [el]
  refine hQ' _ (h.now hM (nt' := nt) (nw' := nw) ?_ ?_ ?_ ?_)
  · rw [eA]
    exact (((hR.tu ht (by omega)).tu ht (by omega)).tu ht (by omega)).fr (fun r q1 q2 => by rw [mu_row (by omega), mu_row (by omega), mu_row (by omega)])
  · intro i hi
    rw [eA, pk_un (by omega), pk_un (by omega), pk_un (by omega)]
  · rw [eA]
    have hb := bd_pos (k + 1)
    have e0 : (0 : Int32).toInt = 0 := rfl
    refine wa_tu (wa_tu (wa_tu (hM.2.2.mono bd_mono) (by omega) hR.2.2.1.2.1 ⟨by omega, by omega, by omega, by omega, by omega, fun _ => Or.inl rfl⟩) (by omega) hR.2.2.1.2.1 ⟨by omega, by omega, by omega, fun _ => by rw [e0]; omega, by omega, by omega⟩) (by omega) hR.2.2.1.2.1 ⟨fun _ => in_int q2, by omega, by omega, by omega, by omega, by omega⟩
  · intro r q1 q2 q3
    rw [mu_row q3, mu_row q3, mu_row q3, rw3 r (by omega)]
