-- pairs: set, rule, seed
theorem pr_seed {scr : Nat → Int32} {L d k : Nat} {m : Mem} {v : Int32} (h : Sim scr k m) : Pair scr L (d + 20) 65 135 [.int v] k m := by
  intro Q hQ
  obtain ⟨nt, nw, nx, hM, hI⟩ := h.1.1
  have hR := hM.1
  refine Mc_wp nocut t65 rfl rfl rfl 60 ?_
  refine ⟨⟨rfl, ltB rfl, neB rfl⟩, ?_⟩
  rw [rf_cnow]
  refine ⟨moC mb35, ?_⟩
  refine ⟨⟨rfl, ltB rfl, neB rfl⟩, ?_⟩
  rw [rf_cnow]
  refine ⟨moC mb35, ?_⟩
  rw [hR.1.2.2.2.2.2.2.2]
  have e140 : mu m 35 11 v 140 = m 140 := mu_row (by omega)
  refine hQ _ _ (fun Q' hQ' => ?_)
  refine Mc_wp nocut t135 rfl rfl rfl 60 ?_
  refine ⟨⟨rfl, ltB rfl⟩, r_becomesE (i := 0) rfl (by omega) ?_⟩
  rw [e140]
  refine hQ' _ (h.now hM (nt' := nt) (nw' := nw) ?_ ?_ ?_ ?_)
  · rw [mu_upd, e140]; exact hR.z.fr (fun r q1 q2 => mu_row (by omega))
  · intro i hi; rw [mu_upd, e140]; exact pk_un (by omega)
  · rw [mu_upd, e140]; exact wa_z (hM.2.2.mono bd_mono)
  · intro r q1 q2 q3; rw [mu_row q3, mu_row (by omega)]
theorem Sim.rule {scr : Nat → Int32} {k nt nw nx i j : Nat} {m : Mem} {v : Int32} (hij : (i = 7 ∧ j = 3) ∨ (i = 8 ∧ j = 4) ∨ (i = 9 ∧ j = 5) ∨ (i = 10 ∧ j = 2)) (h : Sim scr k m) (hM : Mo (bd k) 35 nt nw nx (m 140) m) (hv : (j = 3 ∧ 10 ≤ v.toInt ∧ v.toInt ≤ 999) ∨ (j = 4 ∧ 0 ≤ v.toInt ∧ v.toInt ≤ 99) ∨ (j = 5 ∧ 1 ≤ v.toInt ∧ v.toInt ≤ 9999) ∨ (j = 2 ∧ 0 ≤ v.toInt ∧ v.toInt ≤ 9999)) : Sim scr (k + 1) (mu (mu m 35 i v) 140 j v) := by
  have e140 : mu m 35 i v 140 = m 140 := mu_row (by omega)
  refine h.now hM (nt' := nt) (nw' := nw) ?_ ?_ ?_ ?_
  · rw [mu_upd, e140]; exact (hM.1.rule hij).fr (fun r q1 q2 => mu_row (by omega))
  · intro i hi; rw [mu_upd, e140]; exact pk_un (by omega)
  · rw [mu_upd, e140]; exact wa_rule (hM.2.2.mono bd_mono) hv
  · intro r q1 q2 q3; rw [mu_row q3, mu_row (by omega)]
theorem i0 {v : Int32} : ¬ v = 0 → ¬ v = 1 → ¬ v = 2 → ¬ (0 ≤ v ∧ v ≤ 2) := fun h0 h1 h2 q => by
  obtain ⟨w, hw, rfl⟩ := ix_split (b := 2) (n := 2) rfl q.1 q.2
  rcases (show w = 0 ∨ w = 1 ∨ w = 2 by omega) with rfl | rfl | rfl
  · exact h0 rfl
  · exact h1 rfl
  · exact h2 rfl
theorem pr_rule {scr : Nat → Int32} {L d k : Nat} {m : Mem} {w v : Int32} (h : Sim scr k m) : Pair scr L (d + 20) 63 132 [.int w, .int v] k m := by
  intro Q hQ
  obtain ⟨nt, nw, nx, hM, hI⟩ := h.1.1
  have hR := hM.1
  refine Mc_wp nocut t63 rfl rfl rfl 60 ?_
  by_cases w0 : w = 0
  · subst w0
    by_cases q : 10 ≤ v ∧ v ≤ 999
    · refine c_wT q ?_
      refine ⟨⟨rfl, ltB rfl, neB rfl⟩, ?_⟩
      rw [rf_cnow]
      refine ⟨moC mb35, ?_⟩
      refine ⟨⟨rfl, ltB rfl, neB rfl⟩, ?_⟩
      rw [rf_cnow]
      refine ⟨moC mb35, ?_⟩
      rw [hR.1.2.2.2.1]
      have e140 : mu m 35 7 v 140 = m 140 := mu_row (by omega)
      refine hQ _ _ (fun Q' hQ' => ?_)
      refine Mc_wp nocut t132 rfl rfl rfl 60 ?_
      refine r_iT (by decide) ?_
      refine r_iT q ?_
      refine ⟨⟨rfl, ltB rfl⟩, r_becomesE (i := 3) rfl (by omega) ?_⟩
      rw [e140]
      exact hQ' _ (h.rule (by omega) hM (Or.inl ⟨rfl, in_int q⟩))
    · refine c_wF q ?_
      refine hQ _ m (fun Q' hQ' => ?_)
      refine Mc_wp nocut t132 rfl rfl rfl 60 ?_
      refine r_iT (by decide) ?_
      exact r_iF q (hQ' m h.next)
  refine ifI (fun z => absurd z w0) (fun _ => ?_)
  by_cases w1 : w = 1
  · subst w1
    by_cases q : 0 ≤ v ∧ v ≤ 99
    · refine c_wT q ?_
      refine ⟨⟨rfl, ltB rfl, neB rfl⟩, ?_⟩
      rw [rf_cnow]
      refine ⟨moC mb35, ?_⟩
      refine ⟨⟨rfl, ltB rfl, neB rfl⟩, ?_⟩
      rw [rf_cnow]
      refine ⟨moC mb35, ?_⟩
      rw [hR.1.2.2.2.2.1]
      have e140 : mu m 35 8 v 140 = m 140 := mu_row (by omega)
      refine hQ _ _ (fun Q' hQ' => ?_)
      refine Mc_wp nocut t132 rfl rfl rfl 60 ?_
      refine r_iT (by decide) ?_
      refine r_iT q ?_
      refine ⟨⟨rfl, ltB rfl⟩, r_becomesE (i := 4) rfl (by omega) ?_⟩
      rw [e140]
      exact hQ' _ (h.rule (by omega) hM (Or.inr (Or.inl ⟨rfl, in_int q⟩)))
    · refine c_wF q ?_
      refine hQ _ m (fun Q' hQ' => ?_)
      refine Mc_wp nocut t132 rfl rfl rfl 60 ?_
      refine r_iT (by decide) ?_
      exact r_iF q (hQ' m h.next)
  refine ifI (fun z => absurd z w1) (fun _ => ?_)
  by_cases w2 : w = 2
  · subst w2
    by_cases q : 1 ≤ v ∧ v ≤ 9999
    · refine c_wT q ?_
      refine ⟨⟨rfl, ltB rfl, neB rfl⟩, ?_⟩
      rw [rf_cnow]
      refine ⟨moC mb35, ?_⟩
      refine ⟨⟨rfl, ltB rfl, neB rfl⟩, ?_⟩
      rw [rf_cnow]
      refine ⟨moC mb35, ?_⟩
      rw [hR.1.2.2.2.2.2.1]
      have e140 : mu m 35 9 v 140 = m 140 := mu_row (by omega)
      refine hQ _ _ (fun Q' hQ' => ?_)
      refine Mc_wp nocut t132 rfl rfl rfl 60 ?_
      refine r_iT (by decide) ?_
      refine r_iT q ?_
      refine ⟨⟨rfl, ltB rfl⟩, r_becomesE (i := 5) rfl (by omega) ?_⟩
      rw [e140]
      exact hQ' _ (h.rule (by omega) hM (Or.inr (Or.inr (Or.inl ⟨rfl, in_int q⟩))))
    · refine c_wF q ?_
      refine hQ _ m (fun Q' hQ' => ?_)
      refine Mc_wp nocut t132 rfl rfl rfl 60 ?_
      refine r_iT (by decide) ?_
      exact r_iF q (hQ' m h.next)
  refine ifI (fun z => absurd z w2) (fun _ => ?_)
  refine hQ _ m (fun Q' hQ' => ?_)
  refine Mc_wp nocut t132 rfl rfl rfl 60 ?_
  exact r_iF (i0 w0 w1 w2) (hQ' m h.next)
/-- what may be set, and to what -/
def setLo (w : Nat) : Int32 := if w = 2 then -9999 else 0
def setHi (w : Nat) : Int32 := if w = 1 then 20 else if w = 2 then 9999 else if w = 3 then 9999 else 1
theorem c_setT {d : Nat} {S : Shp} {mem : Mem} {Q : Qt} {w : Nat} {v : Int32} (hw : 1 ≤ w ∧ w ≤ 5) (h : setLo w ≤ v ∧ v ≤ setHi w) (hQ : Q (some (.int 1)) S mem) : Mc (d + 2) 60 [.int (nI w), .int v] S mem Q := by
  refine Mc_wp nocut t60 rfl rfl rfl 30 ?_
  rcases (show w = 1 ∨ w = 2 ∨ w = 3 ∨ w = 4 ∨ w = 5 by omega) with rfl | rfl | rfl | rfl | rfl
  · exact c_wT h ⟨Or.inr rfl, hQ⟩
  · exact c_wT h ⟨Or.inr rfl, hQ⟩
  · exact c_wT h ⟨Or.inr rfl, hQ⟩
  · exact c_wT h ⟨Or.inr rfl, hQ⟩
  · exact c_wT h ⟨Or.inr rfl, hQ⟩
theorem c_setF {d : Nat} {S : Shp} {mem : Mem} {Q : Qt} {w : Nat} {v : Int32} (hw : 1 ≤ w ∧ w ≤ 5) (h : ¬ (setLo w ≤ v ∧ v ≤ setHi w)) (hQ : Q (some (.int 0)) S mem) : Mc (d + 2) 60 [.int (nI w), .int v] S mem Q := by
  refine Mc_wp nocut t60 rfl rfl rfl 30 ?_
  rcases (show w = 1 ∨ w = 2 ∨ w = 3 ∨ w = 4 ∨ w = 5 by omega) with rfl | rfl | rfl | rfl | rfl
  · exact c_wF h ⟨Or.inl rfl, hQ⟩
  · exact c_wF h ⟨Or.inl rfl, hQ⟩
  · exact c_wF h ⟨Or.inl rfl, hQ⟩
  · exact c_wF h ⟨Or.inl rfl, hQ⟩
  · exact c_wF h ⟨Or.inl rfl, hQ⟩
theorem c_setN {d : Nat} {S : Shp} {mem : Mem} {Q : Qt} {w v : Int32} (hw : ¬ (1 ≤ w ∧ w ≤ 5)) (hQ : Q (some (.int 0)) S mem) : Mc (d + 2) 60 [.int w, .int v] S mem Q := by
  refine Mc_wp nocut t60 rfl rfl rfl 30 ?_
  refine ifI (fun e => absurd (by rw [show w = 1 from e]; decide) hw) (fun _ => ?_)
  refine ifI (fun e => absurd (by rw [show w = 2 from e]; decide) hw) (fun _ => ?_)
  refine ifI (fun e => absurd (by rw [show w = 3 from e]; decide) hw) (fun _ => ?_)
  refine ifI (fun e => absurd (by rw [show w = 4 from e]; decide) hw) (fun _ => ?_)
  refine ifI (fun e => absurd (by rw [show w = 5 from e]; decide) hw) (fun _ => ?_)
  exact ⟨Or.inl rfl, hQ⟩
theorem r_mostOf {d : Nat} {S : Shp} {mem : Mem} {Q : Qt} {w : Nat} (hw : 1 ≤ w ∧ w ≤ 5) (hQ : Q (some (.int (setHi w))) S mem) : Mc (d + 1) 128 [.int (nI w)] S mem Q := by
  refine Mc_wp nocut t128 rfl rfl rfl 30 ?_
  rcases (show w = 1 ∨ w = 2 ∨ w = 3 ∨ w = 4 ∨ w = 5 by omega) with rfl | rfl | rfl | rfl | rfl
  · exact hQ
  · exact hQ
  · exact hQ
  · exact hQ
  · exact hQ
theorem set_ok {B : Int} {w : Nat} {v : Int32} (hB : 10000 ≤ B) (hw : 1 ≤ w ∧ w ≤ 5) (h : setLo w ≤ v ∧ v ≤ setHi w) : okF B w v := by
  have hi := in_int h
  rcases (show w = 1 ∨ w = 2 ∨ w = 3 ∨ w = 4 ∨ w = 5 by omega) with rfl | rfl | rfl | rfl | rfl
  · have e1 : (setLo 1).toInt = 0 := rfl
    have e2 : (setHi 1).toInt = 20 := rfl
    rw [e1, e2] at hi
    exact ⟨by omega, by omega, by omega, by omega, by omega, by omega⟩
  · have e1 : (setLo 2).toInt = -9999 := rfl
    have e2 : (setHi 2).toInt = 9999 := rfl
    rw [e1, e2] at hi
    exact ⟨by omega, by omega, by omega, by omega, by omega, by omega⟩
  · have e1 : (setLo 3).toInt = 0 := rfl
    have e2 : (setHi 3).toInt = 9999 := rfl
    rw [e1, e2] at hi
    exact ⟨by omega, by omega, by omega, by omega, by omega, by omega⟩
  · obtain ⟨x, hx, rfl⟩ := ix_split (b := setHi 4) (n := 1) rfl h.1 h.2
    refine ⟨by omega, by omega, by omega, by omega, fun _ => ?_, by omega⟩
    rcases (show x = 0 ∨ x = 1 by omega) with rfl | rfl
    · exact Or.inl rfl
    · exact Or.inr rfl
  · obtain ⟨x, hx, rfl⟩ := ix_split (b := setHi 5) (n := 1) rfl h.1 h.2
    refine ⟨by omega, by omega, by omega, by omega, by omega, fun _ => ?_⟩
    rcases (show x = 0 ∨ x = 1 by omega) with rfl | rfl
    · exact Or.inl rfl
    · exact Or.inr rfl
theorem pr_set {scr : Nat → Int32} {L d k : Nat} {m : Mem} {v w x : Int32} (hk : k ≤ 1000) (h : Sim scr k m) : Pair scr L (d + 20) 59 129 [.int v, .int w, .int x] k m := by
  intro Q hQ
  obtain ⟨nt, nw, nx, hM, hI⟩ := h.1.1
  have hR := hM.1
  have hn8 := hR.2.2.1.1
  refine Mc_wp nocut t59 rfl rfl rfl 60 ?_
  refine ⟨⟨rfl, ltB rfl, neB rfl⟩, ?_⟩
  rw [rf_cnow]
  rcases num_or (n := nt) v (by omega) with q1 | ⟨t, ht, rfl⟩
  · refine ⟨moC mb35, c_hF mb35 hR.1.1 hn8 q1 ?_⟩
    refine hQ _ m (fun Q' hQ' => ?_)
    refine Mc_wp nocut t129 rfl rfl rfl 60 ?_
    exact ⟨⟨rfl, ltB rfl⟩, r_hF hR.2.1.1 hn8 q1 (hQ' m h.next)⟩
  refine ⟨moC mb35, c_hT mb35 hR.1.1 hn8 ht ?_⟩
  by_cases q2 : 1 ≤ w ∧ w ≤ 5
  rotate_left 1
  · refine c_setN q2 ?_
    refine hQ _ m (fun Q' hQ' => ?_)
    refine Mc_wp nocut t129 rfl rfl rfl 60 ?_
    refine ⟨⟨rfl, ltB rfl⟩, r_hT hR.2.1.1 hn8 ht ?_⟩
    exact r_iF q2 (hQ' m h.next)
  have q20 : (0 : Int32) ≤ w := by
    have := in_int q2
    rw [tI_le]
    have e1 : (1 : Int32).toInt = 1 := rfl
    have e0 : (0 : Int32).toInt = 0 := rfl
    rw [e1] at this; rw [e0]; omega
  obtain ⟨w, hw6, rfl⟩ := ix_split (b := 5) (n := 5) rfl q20 q2.2
  have hw : 1 ≤ w ∧ w ≤ 5 := ⟨by
    by_cases e : w = 0
    · subst e; exact absurd q2.1 (by decide)
    · omega, by omega⟩
  by_cases q3 : setLo w ≤ x ∧ x ≤ setHi w
  rotate_left 1
  · refine c_setF hw q3 ?_
    refine hQ _ m (fun Q' hQ' => ?_)
    refine Mc_wp nocut t129 rfl rfl rfl 60 ?_
    refine ⟨⟨rfl, ltB rfl⟩, r_hT hR.2.1.1 hn8 ht ?_⟩
    refine r_iT q2 ?_
    have hn := hQ' m h.next
    rcases (show w = 1 ∨ w = 2 ∨ w = 3 ∨ w = 4 ∨ w = 5 by omega) with rfl | rfl | rfl | rfl | rfl
    · exact r_mostOf hw (r_iF q3 hn)
    · exact r_mostOf hw (r_iF q3 hn)
    · exact r_mostOf hw (r_iF q3 hn)
    · exact r_mostOf hw (r_iF q3 hn)
    · exact r_mostOf hw (r_iF q3 hn)
  refine c_setT hw q3 ?_
  refine ⟨⟨rfl, ltB rfl⟩, c_told hM (bd_le hk) ht (by omega) ?_⟩
  have et : tellV (m 140) t w = m 140 (44 + 6 * t + w) := by
    unfold tellV
    rw [if_neg (by omega), if_neg (by omega), if_neg (by omega)]
  rw [et]
  refine ⟨⟨rfl, ltB rfl, neB rfl⟩, ?_⟩
  rw [rf_cnow]
  refine ⟨moK1 mb35, ?_⟩
  rw [moV1 mb35]
  refine ⟨heK mb35 (rfl : nI t = nI t) (by omega), ?_⟩
  rw [heV mb35 (rfl : nI t = nI t) (show t < 8 by omega)]
  have hc : tuC L (35 + 4 + t) := heC mb35 (by omega)
  have e140 : mu m (35 + 4 + t) w x 140 = m 140 := mu_row (by omega)
  have ok := set_ok (bd_pos (k + 1)) hw q3
  have fin : Q (some (.int (m 140 (44 + 6 * t + w)))) (S0 L) (mu m (35 + 4 + t) w x) := by
    refine hQ _ _ (fun Q' hQ' => ?_)
    refine Mc_wp nocut t129 rfl rfl rfl 60 ?_
    refine ⟨⟨rfl, ltB rfl⟩, r_hT (by rw [e140]; exact hR.2.1.1) hn8 ht ?_⟩
    refine r_iT q2 ?_
    have e : (44 + 6 * nI t + nI w : Int32) = nI (44 + 6 * t + w) := ix3 (a := 44) (b := 6) t w
    have hn := hQ' _ (h.tu hM ht (by omega) ok)
    rcases (show w = 1 ∨ w = 2 ∨ w = 3 ∨ w = 4 ∨ w = 5 by omega) with rfl | rfl | rfl | rfl | rfl
    · refine r_mostOf hw (r_iT q3 ⟨⟨rfl, ltB rfl⟩, r_becomesE e (by omega) ?_⟩)
      rw [e140]; exact hn
    · refine r_mostOf hw (r_iT q3 ⟨⟨rfl, ltB rfl⟩, r_becomesE e (by omega) ?_⟩)
      rw [e140]; exact hn
    · refine r_mostOf hw (r_iT q3 ⟨⟨rfl, ltB rfl⟩, r_becomesE e (by omega) ?_⟩)
      rw [e140]; exact hn
    · refine r_mostOf hw (r_iT q3 ⟨⟨rfl, ltB rfl⟩, r_becomesE e (by omega) ?_⟩)
      rw [e140]; exact hn
    · refine r_mostOf hw (r_iT q3 ⟨⟨rfl, ltB rfl⟩, r_becomesE e (by omega) ?_⟩)
      rw [e140]; exact hn
  rcases (show w = 1 ∨ w = 2 ∨ w = 3 ∨ w = 4 ∨ w = 5 by omega) with rfl | rfl | rfl | rfl | rfl
  · exact ⟨hc, fin⟩
  · exact ⟨hc, fin⟩
  · exact ⟨hc, fin⟩
  · rcases ok.2.2.2.2.1 rfl with e | e
    · subst e
      exact ⟨⟨hc.1, hc.2, Or.inl rfl⟩, fin⟩
    · subst e
      exact ⟨⟨hc.1, hc.2, Or.inr rfl⟩, fin⟩
  · rcases ok.2.2.2.2.2 rfl with e | e
    · subst e
      exact ⟨⟨hc.1, hc.2, Or.inl rfl⟩, fin⟩
    · subst e
      exact ⟨⟨hc.1, hc.2, Or.inr rfl⟩, fin⟩
