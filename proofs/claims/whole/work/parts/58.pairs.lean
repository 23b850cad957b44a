-- pairs: leads, days, pool, pays, wager, wagerTold, fine
theorem ah_none {A : Nat → Int32} : ∀ {n : Nat}, ahO A n = none ↔ n = 0
  | 0 => ⟨fun _ => rfl, fun _ => rfl⟩
  | n + 1 => by
    constructor
    · intro h
      unfold ahO at h
      cases hp : ahO A n with
      | none => rw [hp] at h; cases h
      | some c => rw [hp] at h; dsimp only at h; split at h <;> cases h
    · intro h; omega
theorem ah_some {A : Nat → Int32} {nt : Nat} (hn : ntA A = nt) (h : 0 < nt) : ∃ b, b < nt ∧ ahA A = some b := by
  unfold ahA
  rw [hn]
  cases hp : ahO A nt with
  | none => exact absurd (ah_none.mp hp) (by omega)
  | some b => exact ⟨b, ahO_lt hp, rfl⟩
theorem tol_ah {A : Nat → Int32} {nt : Nat} (hn : ntA A = nt) : tol (opI (ahA A)) = if nt = 0 then NONEv else opI (ahA A) := by
  by_cases h : nt = 0
  · rw [if_pos h]
    have : ahA A = none := by unfold ahA; rw [hn]; exact ah_none.mpr h
    rw [this]; rfl
  · rw [if_neg h]
    have h8 : ntA A ≤ 2 ^ 31 := by
      unfold ntA
      have := tI_rng (A 1)
      unfold Int32.toNatClampNeg
      omega
    obtain ⟨b, hb, e⟩ := ah_some hn (by omega)
    rw [e, tol_some (by omega)]; rfl
theorem c_leads {L d : Nat} {mem : Mem} {Q : Qt} {nt nw nx : Nat} {A : Nat → Int32} (hR : RepM 35 nt nw nx A mem) (h : Q (some (.int (tol (opI (ahA A))))) (S0 L) mem) : Mc (d + 2) 67 [.ref 0] (S0 L) mem Q := by
  have hn8 := hR.2.2.1.1
  rw [tol_ah (nt_of hR.2.1.1 hn8)] at h
  refine Mc_wp nocut t67 rfl rfl rfl 60 ?_
  refine ⟨⟨rfl, ltB rfl, neB rfl⟩, ?_⟩
  rw [rf_cnow]
  refine ⟨moC mb35, ?_⟩
  rw [hR.1.1]
  by_cases q : nt = 0
  · subst q
    exact h
  · rw [if_neg q] at h
    refine ifI (fun z => absurd ((nI_eq (b := 0) (by omega) (by omega)).mp z) q) (fun _ => ?_)
    refine ⟨⟨rfl, ltB rfl, neB rfl⟩, ?_⟩
    rw [rf_cnow]
    exact ⟨moC mb35, c_ahead mb35 hR h⟩
theorem pr_leads {scr : Nat → Int32} {L d k : Nat} {m : Mem} (h : Sim scr k m) : Pair scr L (d + 20) 67 140 [] k m := by
  intro Q hQ
  obtain ⟨nt, nw, nx, hM, hI⟩ := h.1.1
  have hR := hM.1
  have hn8 := hR.2.2.1.1
  refine c_leads hR ?_
  refine hQ _ m (fun Q' hQ' => ?_)
  refine Mc_wp nocut t140 rfl rfl rfl 60 ?_
  refine ⟨⟨rfl, ltB rfl⟩, r_ahead hR.2.1.1 hn8 ?_⟩
  exact r_told0 (hQ' m h.next)
theorem pr_days {scr : Nat → Int32} {L d k : Nat} {m : Mem} {v : Int32} (hk : k ≤ 1000) (h : Sim scr k m) : Pair scr L (d + 20) 66 139 [.int v] k m := by
  intro Q hQ
  obtain ⟨nt, nw, nx, hM, hI⟩ := h.1.1
  have hR := hM.1
  have hn8 := hR.2.2.1.1
  have hnt : ntA (m 140) = nt := nt_of hR.2.1.1 hn8
  refine Mc_wp nocut t66 rfl rfl rfl 60 ?_
  by_cases q1 : 1 ≤ v ∧ v ≤ 300
  rotate_left 1
  · refine c_wF q1 ?_
    refine hQ _ m (fun Q' hQ' => ?_)
    refine Mc_wp nocut t139 rfl rfl rfl 60 ?_
    exact r_iF q1 (hQ' m h.next)
  refine c_wT q1 ?_
  refine ⟨⟨rfl, ltB rfl, neB rfl⟩, ?_⟩
  rw [rf_cnow]
  refine ⟨⟨rfl, ltB rfl, neB rfl⟩, ?_⟩
  rw [rf_cnow]
  refine ⟨moC mb35, ?_⟩
  refine c_min ?_
  rw [hR.1.2.2.2.2.2.2.1]
  have hv := in_int q1
  have e1 : (1 : Int32).toInt = 1 := rfl
  have e3 : (300 : Int32).toInt = 300 := rfl
  have e9 : (9999 : Int32).toInt = 9999 := rfl
  have e0 : (0 : Int32).toInt = 0 := rfl
  rw [e1, e3] at hv
  have hd := hM.2.2.1.2.2.2
  have es : (9999 - m 140 2 : Int32).toInt = 9999 - (m 140 2).toInt := by rw [tI_sub (by rw [e9]; omega) (by rw [e9]; omega), e9]
  obtain ⟨n, hn, en⟩ : ∃ n : Nat, n ≤ 300 ∧ minV v (9999 - m 140 2) = nI n ∧ clamp (9999 - m 140 2) 0 v = nI n ∧ (m 140 2).toInt + n ≤ 9999 := by
    have hm : ∀ x : Int32, 0 ≤ x.toInt → ∃ n : Nat, x = nI n ∧ (n : Int) = x.toInt := fun x hx => by
      obtain ⟨j, hj, e⟩ := nI_of (x := x) (by rw [tI_lt, e0]; omega)
      exact ⟨j, e, by rw [e, nI_toInt hj]⟩
    by_cases q : 9999 - m 140 2 < v
    · obtain ⟨n, a, b⟩ := hm (9999 - m 140 2) (by omega)
      have q' := tI_lt.mp q
      refine ⟨n, by omega, ?_, ?_, by omega⟩
      · unfold minV; rw [if_pos q]; exact a
      · unfold clamp
        rw [if_neg (by rw [tI_lt, e0]; omega), if_neg (by rw [tI_lt]; omega)]; exact a
    · obtain ⟨n, a, b⟩ := hm v (by omega)
      rw [tI_lt] at q
      refine ⟨n, by omega, ?_, ?_, by omega⟩
      · unfold minV; rw [if_neg (by rw [tI_lt]; omega)]; exact a
      · unfold clamp
        rw [if_neg (by rw [tI_lt, e0]; omega)]
        by_cases q2 : v < 9999 - m 140 2
        · rw [if_pos q2]; exact a
        · rw [if_neg q2]
          have : (9999 - m 140 2 : Int32) = v := by rw [tI_eq]; rw [tI_lt] at q2; omega
          rw [this]; exact a
  rw [en.1]
  refine ⟨moC mb35, c_goDays mb35 hR hM.2.1 hM.2.2.2.2.1 (by omega) (fun m1 hF hR1 => ?_)⟩
  refine ⟨⟨rfl, ltB rfl⟩, c_leads hR1 ?_⟩
  have e140 : m1 140 = m 140 := hF 140 (by decide) (by decide) (by omega)
  refine hQ _ m1 (fun Q' hQ' => ?_)
  refine Mc_wp nocut t139 rfl rfl rfl 60 ?_
  refine r_iT q1 ?_
  refine ⟨⟨rfl, ltB rfl, neB rfl⟩, ?_⟩
  rw [rf_now]
  refine ⟨⟨rfl, ltB rfl, vinB rfl⟩, ?_⟩
  rw [lc2]
  rw [e140]
  refine r_within ?_
  rw [en.2.1]
  refine ⟨⟨rfl, ltB rfl⟩, r_goesOn (nt := nt) (nx := nx) hn8 hR.2.2.1.2.2 (by omega) (by rw [e140]; exact hR.2.1.1) (by rw [e140]; exact hR.2.1.2.2) (by rw [e140]; exact hM.2.1.tx) (fun m2 hF2 hm2 => ?_)⟩
  rw [e140] at hm2
  refine ⟨⟨rfl, ltB rfl⟩, r_ahead (nt := nt) (by rw [hm2, goes_out (by omega) (by omega) (by omega) n (by omega)]; exact hR.2.1.1) hn8 ?_⟩
  rw [hm2]
  refine r_told0 (hQ' m2 ?_)
  have hb := bd_le hk
  have hbp := bd_pos k
  refine h.now hM (nt' := nt) (nw' := nw) ?_ ?_ ?_ ?_
  · rw [hm2]; exact hR1.fr (fun r q1 q2 => hF2 r (by simp; omega))
  · intro i hi; rw [hm2, goes_out (by omega) (by omega) (by omega) n (by omega)]
  · rw [hm2]
    refine (wa_goes hn8 hR.2.2.1.2.1 (by omega) ?_ hM.2.2 hnt en.2.2).mono ?_
    · unfold bd; omega
    · unfold bd; omega
  · intro r q1 q2 q3
    rw [hF2 r (by intro e; apply q1; unfold scrap; simp at e; omega)]
    exact Fr_of_B hF r q1 q2
theorem pr_pool {scr : Nat → Int32} {L d k : Nat} {m : Mem} (h : Sim scr k m) : Pair scr L (d + 20) 71 146 [] k m := by
  intro Q hQ
  obtain ⟨nt, nw, nx, hM, hI⟩ := h.1.1
  have hR := hM.1
  refine Mc_wp nocut t71 rfl rfl rfl 60 ?_
  refine ⟨⟨rfl, ltB rfl, neB rfl⟩, ?_⟩
  rw [rf_cnow]
  refine ⟨moC mb35, c_stakesOfAll mb35 hR ?_⟩
  refine hQ _ m (fun Q' hQ' => ?_)
  refine Mc_wp nocut t146 rfl rfl rfl 60 ?_
  exact ⟨⟨rfl, ltB rfl⟩, r_stakes hR.2.1.2.1 hR.2.2.1.2.1 (hQ' m h.next)⟩
theorem pr_pays {scr : Nat → Int32} {L d k : Nat} {m : Mem} {v w : Int32} (h : Sim scr k m) : Pair scr L (d + 20) 72 148 [.int v, .int w] k m := by
  intro Q hQ
  obtain ⟨nt, nw, nx, hM, hI⟩ := h.1.1
  have hR := hM.1
  have hn8 := hR.2.2.1.1
  have hn12 := hR.2.2.1.2.1
  refine Mc_wp nocut t72 rfl rfl rfl 60 ?_
  refine ⟨⟨rfl, ltB rfl, neB rfl⟩, ?_⟩
  rw [rf_cnow]
  rcases num_or (n := nw) v (by omega) with q1 | ⟨u, hu, rfl⟩
  · refine ⟨moC mb35, c_gF mb35 hR.1.2.1 hn12 q1 ?_⟩
    refine hQ _ m (fun Q' hQ' => ?_)
    refine Mc_wp nocut t148 rfl rfl rfl 60 ?_
    exact ⟨⟨rfl, ltB rfl⟩, r_gF hR.2.1.2.1 hn12 q1 (hQ' m h.next)⟩
  refine ⟨moC mb35, c_gT mb35 hR.1.2.1 hn12 hu ?_⟩
  refine ⟨⟨rfl, ltB rfl, neB rfl⟩, ?_⟩
  rw [rf_cnow]
  rcases num_or (n := nt) w (by omega) with q2 | ⟨t, ht, rfl⟩
  · refine ⟨moC mb35, c_hF mb35 hR.1.1 hn8 q2 ?_⟩
    refine hQ _ m (fun Q' hQ' => ?_)
    refine Mc_wp nocut t148 rfl rfl rfl 60 ?_
    refine ⟨⟨rfl, ltB rfl⟩, r_gT hR.2.1.2.1 hn12 hu ?_⟩
    exact ⟨⟨rfl, ltB rfl⟩, r_hF hR.2.1.1 hn8 q2 (hQ' m h.next)⟩
  refine ⟨moC mb35, c_hT mb35 hR.1.1 hn8 ht ?_⟩
  refine ⟨⟨rfl, ltB rfl, neB rfl⟩, ?_⟩
  rw [rf_cnow]
  refine ⟨⟨rfl, ltB rfl, neB rfl⟩, ?_⟩
  rw [rf_cnow]
  refine ⟨moK2 mb35, ?_⟩
  rw [moV2 mb35]
  refine ⟨beK mb35 (rfl : nI u = nI u) (by omega), ?_⟩
  rw [beV mb35 (rfl : nI u = nI u) (show u < 12 by omega)]
  refine ⟨moC mb35, c_paidFor mb35 hR hM.2.1 hM.2.2.2.2.2 (nI_pos (by omega)) hu (fun m1 hF => ?_)⟩
  have e140 : m1 140 = m 140 := hF 140 (by simp)
  refine hQ _ m1 (fun Q' hQ' => ?_)
  refine Mc_wp nocut t148 rfl rfl rfl 60 ?_
  refine ⟨⟨rfl, ltB rfl⟩, r_gT (by rw [e140]; exact hR.2.1.2.1) hn12 hu ?_⟩
  refine ⟨⟨rfl, ltB rfl⟩, r_hT (by rw [e140]; exact hR.2.1.1) hn8 ht ?_⟩
  refine ⟨⟨rfl, ltB rfl⟩, r_paysFor (nw := nw) (nx := nx) (by omega) (by rw [e140]; exact hR.2.1.2.1) hn12 (by rw [e140]; exact hR.2.1.2.2) hR.2.2.1.2.2 (by rw [e140]; exact hM.2.1.tx) (fun m2 hF2 => ?_)⟩
  rw [e140]
  refine hQ' m2 (sim_scrap h (fun r hr => ?_))
  rw [hF2 r (by intro e; apply hr; unfold scrap; simp at e; omega), hF r (by intro e; apply hr; unfold scrap; simp at e; omega)]
theorem pr_wagerTold {scr : Nat → Int32} {L d k : Nat} {m : Mem} {v w : Int32} (h : Sim scr k m) : Pair scr L (d + 20) 69 143 [.int v, .int w] k m := by
  intro Q hQ
  obtain ⟨nt, nw, nx, hM, hI⟩ := h.1.1
  have hR := hM.1
  have hn12 := hR.2.2.1.2.1
  refine Mc_wp nocut t69 rfl rfl rfl 60 ?_
  refine ⟨⟨rfl, ltB rfl, neB rfl⟩, ?_⟩
  rw [rf_cnow]
  rcases num_or (n := nw) v (by omega) with q1 | ⟨u, hu, rfl⟩
  · refine ⟨moC mb35, c_gF mb35 hR.1.2.1 hn12 q1 ?_⟩
    refine hQ _ m (fun Q' hQ' => ?_)
    refine Mc_wp nocut t143 rfl rfl rfl 60 ?_
    exact ⟨⟨rfl, ltB rfl⟩, r_gF hR.2.1.2.1 hn12 q1 (hQ' m h.next)⟩
  refine ⟨moC mb35, c_gT mb35 hR.1.2.1 hn12 hu ?_⟩
  refine ⟨⟨rfl, ltB rfl, neB rfl⟩, ?_⟩
  rw [rf_cnow]
  refine ⟨moK2 mb35, ?_⟩
  rw [moV2 mb35]
  refine ⟨beK mb35 (rfl : nI u = nI u) (by omega), ?_⟩
  rw [beV mb35 (rfl : nI u = nI u) (show u < 12 by omega)]
  have hc : waC L (35 + 12 + u) := beC mb35 (by omega)
  by_cases q2 : 0 ≤ w ∧ w ≤ 2
  · obtain ⟨x, hx, rfl⟩ := ix_split (b := 2) (n := 2) rfl q2.1 q2.2
    have fin : Q (some (.int (m (35 + 12 + u) x))) (S0 L) m := by
      rw [hR.2.2.2.2.1 u x hu (by omega)]
      refine hQ _ m (fun Q' hQ' => ?_)
      refine Mc_wp nocut t143 rfl rfl rfl 60 ?_
      refine ⟨⟨rfl, ltB rfl⟩, r_gT hR.2.1.2.1 hn12 hu ?_⟩
      refine r_iT q2 ?_
      have e : (8 + 3 * nI u + nI x : Int32) = nI (8 + 3 * u + x) := ix3 (a := 8) (b := 3) u x
      refine ⟨⟨rfl, ltB rfl, neB rfl⟩, ?_⟩
      rw [rf_now]
      refine ⟨⟨rfl, ltB rfl, vinK e (show 8 + 3 * u + x < 1464 by omega) rfl⟩, ?_⟩
      rw [clK e (show 8 + 3 * u + x < 2 ^ 31 by omega)]
      exact hQ' m h.next
    rcases (show x = 0 ∨ x = 1 ∨ x = 2 by omega) with rfl | rfl | rfl
    · exact ⟨hc, fin⟩
    · exact ⟨hc, fin⟩
    · exact ⟨hc, fin⟩
  · refine ifI (fun e => absurd (by rw [show w = 0 from e]; decide) q2) (fun _ => ?_)
    refine ifI (fun e => absurd (by rw [show w = 1 from e]; decide) q2) (fun _ => ?_)
    refine ifI (fun e => absurd (by rw [show w = 2 from e]; decide) q2) (fun _ => ?_)
    refine hQ _ m (fun Q' hQ' => ?_)
    refine Mc_wp nocut t143 rfl rfl rfl 60 ?_
    refine ⟨⟨rfl, ltB rfl⟩, r_gT hR.2.1.2.1 hn12 hu ?_⟩
    exact r_iF q2 (hQ' m h.next)
