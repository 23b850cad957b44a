-- pairs: turtle, told, step, as, turns
theorem Fr_of_B {m m1 : Mem} (h : FrB 35 m m1) : ∀ r, ¬ scrap r → (r < 35 ∨ 58 < r) → m1 r = m r := fun r h1 h2 => h r (by intro e; apply h1; unfold scrap; omega) (by intro e; apply h1; unfold scrap; omega) (by omega)
theorem wa_comes {B : Int} {nt nw : Nat} {A : Nat → Int32} {k p : Int32} (hB : 0 ≤ B) (hn : nt < 8) (h : WA B nt nw A) (hw : nw ≤ 12) (hk : 0 ≤ k.toInt ∧ k.toInt ≤ 5) (hp : 0 ≤ p.toInt ∧ p.toInt ≤ 20) : WA B (nt + 1) nw (comesA A nt k p) := by
  obtain ⟨h1, h2, h3, h4⟩ := h
  have out : ∀ i, i ≠ 1 → (i < 44 + 6 * nt ∨ 44 + 6 * nt + 6 ≤ i) → comesA A nt k p i = A i := fun i h1 hi => by
    unfold comesA
    rw [pk_un h1, pk_un (by omega), pk_un (by omega), pk_un (by omega), pk_un (by omega), pk_un (by omega), pk_un (by omega)]
  have at0 : comesA A nt k p (44 + 6 * nt + 0) = k := by unfold comesA; rw [pk_un (by omega), pk_un (by omega), pk_us]
  have at1 : comesA A nt k p (44 + 6 * nt + 1) = p := by unfold comesA; rw [pk_un (by omega), pk_us]
  have at2 : comesA A nt k p (44 + 6 * nt + 2) = 0 := by unfold comesA; rw [pk_un (by omega), pk_un (by omega), pk_un (by omega), pk_un (by omega), pk_un (by omega), pk_un (by omega), pk_us]
  have at3 : comesA A nt k p (44 + 6 * nt + 3) = 0 := by unfold comesA; rw [pk_un (by omega), pk_un (by omega), pk_un (by omega), pk_un (by omega), pk_un (by omega), pk_us]
  have at4 : comesA A nt k p (44 + 6 * nt + 4) = 0 := by unfold comesA; rw [pk_un (by omega), pk_un (by omega), pk_un (by omega), pk_un (by omega), pk_us]
  have at5 : comesA A nt k p (44 + 6 * nt + 5) = 0 := by unfold comesA; rw [pk_un (by omega), pk_un (by omega), pk_un (by omega), pk_us]
  refine ⟨?_, fun t ht => ?_, fun t ht => ?_, fun w hw' => ?_⟩
  · unfold WR
    rw [out 2 (by omega) (by omega), out 3 (by omega) (by omega), out 4 (by omega) (by omega), out 5 (by omega) (by omega)]; exact h1
  · by_cases e : t = nt
    · subst e
      rw [at0, at1, at2, at3]
      have e0 : (0 : Int32).toInt = 0 := rfl
      rw [e0]; omega
    · rw [out _ (by omega) (by omega), out _ (by omega) (by omega), out _ (by omega) (by omega), out _ (by omega) (by omega)]; exact h2 t (by omega)
  · by_cases e : t = nt
    · subst e
      rw [at4, at5]; exact ⟨Or.inl rfl, Or.inl rfl⟩
    · rw [out _ (by omega) (by omega), out _ (by omega) (by omega)]; exact h3 t (by omega)
  · rw [out _ (by omega) (by omega)]; exact h4 w hw'
theorem in_int {v a b : Int32} (h : a ≤ v ∧ v ≤ b) : a.toInt ≤ v.toInt ∧ v.toInt ≤ b.toInt := ⟨tI_le.mp h.1, tI_le.mp h.2⟩
theorem bd_pos (k : Nat) : 10000 ≤ bd k := by unfold bd; omega
theorem pr_turtle {scr : Nat → Int32} {L d k : Nat} {m : Mem} {kind pace : Int32} (h : Sim scr k m) : Pair scr L (d + 20) 54 118 [.int kind, .int pace] k m := by
  intro Q hQ
  obtain ⟨nt, nw, nx, hM, hI⟩ := h.1.1
  obtain ⟨hR, hT, hW⟩ := hM
  have hn8 := hR.2.2.1.1
  refine Mc_wp nocut t54 rfl rfl rfl 60 ?_
  by_cases q1 : 0 ≤ kind ∧ kind ≤ 5
  rotate_left 1
  · refine c_kF q1 ?_
    refine hQ _ m (fun Q' hQ' => ?_)
    refine Mc_wp nocut t118 rfl rfl rfl 60 ?_
    exact r_iF q1 (hQ' m h.next)
  refine c_kT q1 ?_
  by_cases q2 : 0 ≤ pace ∧ pace ≤ 20
  rotate_left 1
  · refine c_wF q2 ?_
    refine hQ _ m (fun Q' hQ' => ?_)
    refine Mc_wp nocut t118 rfl rfl rfl 60 ?_
    refine r_iT q1 ?_
    exact r_iF q2 (hQ' m h.next)
  refine c_wT q2 ?_
  refine ⟨⟨rfl, ltB rfl, neB rfl⟩, ?_⟩
  rw [rf_cnow]
  refine ⟨⟨rfl, ltB rfl⟩, ?_⟩
  rw [hR.1.1]
  by_cases q3 : nt = 8
  · subst q3
    refine hQ _ m (fun Q' hQ' => ?_)
    refine Mc_wp nocut t118 rfl rfl rfl 60 ?_
    refine r_iT q1 ?_
    refine r_iT q2 ?_
    refine ⟨⟨rfl, ltB rfl, neB rfl⟩, ?_⟩
    rw [rf_now]
    refine ⟨⟨rfl, ltB rfl, vinB rfl⟩, ?_⟩
    rw [lc1]
    rw [hR.2.1.1]
    exact hQ' m h.next
  refine ifI (fun _ => ?_) (fun z => absurd (nI_lt (a := nt) (b := 8) (by omega) (by omega)) z)
  refine ⟨⟨rfl, ltB rfl, neB rfl⟩, ?_⟩
  rw [rf_cnow]
  refine ⟨moC mb35, c_addTurtle mb35 hR (by omega) (fun m1 hF hR1 => ?_)⟩
  have e140 : m1 140 = m 140 := hF 140 (by decide) (by decide) (by omega)
  refine hQ _ m1 (fun Q' hQ' => ?_)
  refine Mc_wp nocut t118 rfl rfl rfl 60 ?_
  refine r_iT q1 ?_
  refine r_iT q2 ?_
  refine ⟨⟨rfl, ltB rfl, neB rfl⟩, ?_⟩
  rw [rf_now]
  refine ⟨⟨rfl, ltB rfl, vinB rfl⟩, ?_⟩
  rw [lc1]
  rw [e140, hR.2.1.1]
  refine ifI (fun z => absurd ((nI_eq (b := 8) (by omega) (by omega)).mp z) q3) (fun _ => ?_)
  refine ⟨⟨rfl, ltB rfl⟩, r_comes (t := nt) (by rw [e140]; exact hR.2.1.1) (by omega) ?_⟩
  refine hQ' _ ?_
  rw [e140]
  refine h.now ⟨hR, hT, hW⟩ (nt' := nt + 1) (nw' := nw) ?_ ?_ ?_ ?_
  · rw [mr_at]; exact hR1.fr (fun r q1 q2 => mr_ne (by omega))
  · intro i hi
    rw [mr_at]
    unfold comesA
    rw [pk_un (by omega), pk_un (by omega), pk_un (by omega), pk_un (by omega), pk_un (by omega), pk_un (by omega), pk_un (by omega)]
  · rw [mr_at]
    exact wa_comes (by have := bd_pos (k + 1); omega) (by omega) (hW.mono bd_mono) hR.2.2.1.2.1 (in_int q1) (in_int q2)
  · intro r q1 q2 q3
    rw [mr_ne q3]; exact Fr_of_B hF r q1 q2
