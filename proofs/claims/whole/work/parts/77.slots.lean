-- pairs: lay
/-- only slot i has changed, in both -/
theorem Sim.slot {scr : Nat → Int32} {k i : Nat} {m m' : Mem} (h : Sim scr k m) (hi : i < 5) (hf : ∀ r, (r < 119 + 4 * i ∨ 122 + 4 * i < r) → r ≠ 155 → r ≠ 156 → r ≠ 157 → r ≠ 158 → ¬ scrap r → m' r = m r)
    (h155 : ∀ j, j < 5 → j ≠ i → m' 155 j = m 155 j ∧ m' 156 j = m 156 j ∧ m' 157 j = m 157 j) (h158 : ∀ j x, j < 5 → j ≠ i → x < 24 → m' 158 (24 * j + x) = m 158 (24 * j + x))
    (new : m' 155 i = m' (119 + 4 * i) 0 ∧ (m' 155 i = 0 ∨ (m' 155 i = 1 ∧ (∃ k, k < 6 ∧ m' (120 + 4 * i) 0 = nI k) ∧ m' 156 i = m' (120 + 4 * i) 0 ∧ m' 157 i = worthV (m' (120 + 4 * i) 0) (m' (120 + 4 * i) 1))
      ∨ (m' 155 i = 2 ∧ (∃ n, n ≤ 24 ∧ m' (121 + 4 * i) 1 = nI n) ∧ m' 156 i = m' (121 + 4 * i) 1 ∧ ∀ j, j < 24 → m' 158 (24 * i + j) = m' (122 + 4 * i) j) ∨ (m' 155 i = 3 ∧ m' 156 i = m' (119 + 4 * i) 3))) : Sim scr (k + 1) m' := by
  obtain ⟨a, b, c, d, e, f⟩ := h
  have g : ∀ r, (5 ≤ r ∧ r ≤ 82) ∨ (107 ≤ r ∧ r ≤ 118) ∨ (139 ≤ r ∧ r ≤ 141) ∨ (144 ≤ r ∧ r ≤ 146) ∨ (152 ≤ r ∧ r ≤ 154) ∨ r = 0 ∨ r = 160 ∨ r = 900 → m' r = m r := fun r hr => hf r (by omega) (by omega) (by omega) (by omega) (by omega) (by unfold scrap; omega)
  refine ⟨(a.fr (fun r q1 q2 => g r (by omega)) (g _ (by omega)) (g _ (by omega)) (by rw [g 0 (by omega)]) (by rw [g 139 (by omega)])).mono bd_mono, b.fr (g _ (by omega)) (g _ (by omega)) (by rw [g 0 (by omega)]) (by rw [g 139 (by omega)]), c.fr (fun r q1 q2 => g r (by omega)) (g _ (by omega)) (g _ (by omega)) (g _ (by omega)), fun j hj => ?_, e.fr (g _ (by omega)) (g _ (by omega)) (by rw [g 0 (by omega)]) (by rw [g 139 (by omega)]), f.fr (g _ (by omega)) (g _ (by omega)) (g _ (by omega))⟩
  by_cases q : j = i
  · subst q; exact new
  · have d' := d j hj
    have r : ∀ x, x < 4 → m' (119 + 4 * j + x) = m (119 + 4 * j + x) := fun x hx => hf _ (by omega) (by omega) (by omega) (by omega) (by omega) (by unfold scrap; omega)
    have r0 := r 0 (by omega)
    have r1 := r 1 (by omega)
    have r2 := r 2 (by omega)
    have r3 := r 3 (by omega)
    rw [show 119 + 4 * j + 0 = 119 + 4 * j by omega] at r0
    rw [show 119 + 4 * j + 1 = 120 + 4 * j by omega] at r1
    rw [show 119 + 4 * j + 2 = 121 + 4 * j by omega] at r2
    rw [show 119 + 4 * j + 3 = 122 + 4 * j by omega] at r3
    obtain ⟨x1, x2, x3⟩ := h155 j hj q
    rw [r0, r1, r2, r3, x1, x2, x3]
    refine ⟨d'.1, ?_⟩
    rcases d'.2 with z | z | z | z
    · exact Or.inl z
    · exact Or.inr (Or.inl z)
    · exact Or.inr (Or.inr (Or.inl ⟨z.1, z.2.1, z.2.2.1, fun y hy => by rw [h158 j y hj q hy]; exact z.2.2.2 y hy⟩))
    · exact Or.inr (Or.inr (Or.inr z))
theorem c_sbecome {d L c e : Nat} {mem : Mem} {Q : Qt} (hc : shC L c) (he : shC L e) (hn1 : e ≠ c) (hn2 : e ≠ c + 1) (hn3 : c ≠ e + 1) (h : ∀ f : Nat → Int32, (∀ j, j < 24 → f j = mem (e + 1) j) → Q none (S0 L) (mr (mu (mu mem c 0 (mem e 0)) c 1 (mem e 1)) (c + 1) f)) : Mc (d + 1) 38 [.ref c, .ref e] (S0 L) mem Q := by
  refine Mc_wp nocut t38 rfl rfl rfl 60 ?_
  refine ⟨shO he, ?_⟩
  refine ⟨shO hc, ?_⟩
  refine ⟨shO he, ?_⟩
  refine ⟨shO hc, ?_⟩
  rw [mu_row hn1]
  refine ⟨shK he, ?_⟩
  rw [shV he]
  refine ⟨shK hc, ?_⟩
  rw [shV hc]
  refine ⟨⟨he.2.2.2.1, hc.2.2.2.1, he.2.2.2.2.1, hc.2.2.2.2.1, by decide, by decide, by decide, ?_, ?_, leB rfl⟩, ?_⟩
  · rw [he.2.2.2.2.2]; exact leB rfl
  · rw [hc.2.2.2.2.2]; exact leB rfl
  · refine h (va_cpy (mu (mu mem c 0 (mem e 0)) c 1 (mem e 1) (e + 1)) (mu (mu mem c 0 (mem e 0)) c 1 (mem e 1) (c + 1)) 0 0 24) (fun j hj => ?_)
    rw [pk_cpy_in (by omega) (by omega), mu_row (by omega), mu_row (by omega)]
    congr 1; omega
