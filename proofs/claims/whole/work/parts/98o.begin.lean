-- the world at the start of the calls
def ini (scr : Nat → Int32) : Mem := fun a i => if a = 900 then scr i else 0
def beg (scr : Nat → Int32) : Mem := rmM (tbM (ini scr))
theorem rmM_row {m : Mem} {r : Nat} (h : r ≠ 140) (h1 : r ≠ 145) (h2 : r ≠ 146) (h3 : r ≠ 152) : rmM m r = m r := by
  unfold rmM
  rw [mu_row h, mu_row h, mu_row h, mu_row h, mu_row h3, mu_row h3, mu_row h3, mu_row h3, mu_row h2, mu_row h2, mu_row h2, mu_row h2, mu_row h1, mu_row h1, mu_row h1, mu_row h1, mu_row h1, mu_row h1, mu_row h1, mu_row h1, mu_row h1, mu_row h1, mu_row h1]
theorem tbM_row {m : Mem} {r : Nat} (h1 : ∀ i, i < 4 → r ≠ 111 + 2 * i) (h2 : ∀ i, i < 5 → r ≠ 121 + 4 * i) (h : r ≠ 35 ∧ r ≠ 38 ∧ r ≠ 59 ∧ r ≠ 62 ∧ r ≠ 83 ∧ r ≠ 86) : tbM m r = m r := by
  unfold tbM
  rw [slM_row 5 h2, shM_row 4 h1, moM_row h.2.2.2.2.1 h.2.2.2.2.2, moM_row h.2.2.1 h.2.2.2.1, moM_row h.1 h.2.1]
theorem beg_0 {scr : Nat → Int32} {r : Nat} (h : r = 0 ∨ r = 107 ∨ r = 110 ∨ (112 ≤ r ∧ r ≤ 120 ∧ r ≠ 113 ∧ r ≠ 115 ∧ r ≠ 117) ∨ r = 123 ∨ r = 127 ∨ r = 131 ∨ r = 135 ∨ r = 139 ∨ r = 141 ∨ r = 144 ∨ (153 ≤ r ∧ r ≤ 160)) (i : Nat) : beg scr r i = 0 := by
  unfold beg
  rw [rmM_row (by omega) (by omega) (by omega) (by omega), tbM_row (fun i hi => by omega) (fun i hi => by omega) (by omega)]
  exact if_neg (by omega)
theorem beg_35 {scr : Nat → Int32} : beg scr 35 = moM 35 (ini scr) 35 ∧ beg scr 38 = moM 35 (ini scr) 38 := by
  unfold beg tbM
  refine ⟨?_, ?_⟩
  · rw [rmM_row (by omega) (by omega) (by omega) (by omega), slM_row 5 (fun i hi => by omega), shM_row 4 (fun i hi => by omega), moM_row (by omega) (by omega), moM_row (by omega) (by omega)]
  · rw [rmM_row (by omega) (by omega) (by omega) (by omega), slM_row 5 (fun i hi => by omega), shM_row 4 (fun i hi => by omega), moM_row (by omega) (by omega), moM_row (by omega) (by omega)]
theorem beg_sh {scr : Nat → Int32} {j f : Nat} (hj : j < 4) : beg scr (111 + 2 * j) f = if f = 0 then -1 else 0 := by
  unfold beg tbM
  rw [rmM_row (by omega) (by omega) (by omega) (by omega), slM_row 5 (fun i hi => by omega), shM_at 4 hj, moM_row (by omega) (by omega), moM_row (by omega) (by omega), moM_row (by omega) (by omega)]
  by_cases q : f = 0
  · rw [if_pos q, if_pos q]
  · rw [if_neg q, if_neg q]; exact if_neg (by omega)
theorem beg_140 {scr : Nat → Int32} : beg scr 140 0 = 1 ∧ beg scr 140 1 = 0 ∧ beg scr 140 2 = 0 ∧ beg scr 140 3 = 100 ∧ beg scr 140 4 = 10 ∧ beg scr 140 5 = 5000 ∧ beg scr 140 6 = 0 ∧ beg scr 140 7 = 0 := ⟨rfl, rfl, rfl, rfl, rfl, rfl, rfl, rfl⟩
theorem sim0 {scr : Nat → Int32} : Sim scr 0 (beg scr) := by
  obtain ⟨a0, a1, a2, a3, a4, a5, a6, a7⟩ := beg_140 (scr := scr)
  have z := @beg_0 scr
  refine ⟨⟨⟨0, 0, 0, ⟨⟨?_, ⟨a1, a6, a7⟩, ⟨by omega, by omega, by omega⟩, fun t f ht => absurd ht (by omega), fun t f ht => absurd ht (by omega), fun k hk => ?_⟩, fun x hx => absurd hx (by omega), ?_, fun t ht => absurd ht (by omega), fun t ht => absurd ht (by omega), fun t ht => absurd ht (by omega)⟩, Or.inl (z (by omega) 4)⟩, by rw [z (r := 139) (by omega), z (r := 0) (by omega)]⟩, ⟨⟨0, by omega, z (by omega) 6⟩, by rw [z (r := 139) (by omega), z (r := 0) (by omega)], fun i hi => ⟨by rw [z (r := 144) (by omega), z (r := 107) (by omega)], 0, by omega, z (by omega) i⟩⟩, fun i hi => ⟨?_, ?_, ?_, ?_, fun j hj => ⟨?_, ?_⟩⟩, fun i hi => ⟨?_, Or.inl ?_⟩, ⟨⟨0, by omega, z (by omega) 10⟩, by rw [z (r := 139) (by omega), z (r := 0) (by omega)], fun i hi => by rw [z (r := 160) (by omega), z (r := 110) (by omega)]⟩, fun i hi => ?_, fun i hi => ?_, ?_⟩
  · rw [beg_35.1, a0, a2, a3, a4, a5]
    exact ⟨rfl, rfl, rfl, rfl, rfl, rfl, rfl, rfl⟩
  · rw [beg_35.2]
    have : k = 0 ∨ k = 1 ∨ k = 2 := by omega
    rcases this with rfl | rfl | rfl <;> rfl
  · unfold WR
    rw [a2, a3, a4, a5]
    decide
  · rw [beg_sh hi, if_pos rfl]
    have : i = 0 ∨ i = 1 ∨ i = 2 ∨ i = 3 := by omega
    rcases this with rfl | rfl | rfl | rfl <;> rfl
  · rw [beg_sh hi, if_neg (by decide)]; exact z (by omega) i
  · rw [beg_sh hi, if_pos rfl]; exact Or.inl rfl
  · exact ⟨0, by omega, by rw [beg_sh hi, if_neg (by decide)]; rfl⟩
  · rw [z (r := 154) (by omega), z (r := 112 + 2 * i) (by omega)]
  · rw [z (r := 112 + 2 * i) (by omega)]; exact Or.inr (by decide)
  · rw [z (r := 155) (by omega), z (r := 119 + 4 * i) (by omega)]
  · exact z (by omega) i
  · have : i = 0 ∨ i = 1 ∨ i = 2 ∨ i = 3 ∨ i = 4 ∨ i = 5 ∨ i = 6 ∨ i = 7 ∨ i = 8 ∨ i = 9 ∨ i = 10 := by omega
    rcases this with rfl | rfl | rfl | rfl | rfl | rfl | rfl | rfl | rfl | rfl | rfl <;> rfl
  · have : i = 0 ∨ i = 1 ∨ i = 2 ∨ i = 3 := by omega
    rcases this with rfl | rfl | rfl | rfl <;> rfl
  · unfold beg
    rw [rmM_row (by omega) (by omega) (by omega) (by omega), tbM_row (fun i hi => by omega) (fun i hi => by omega) (by omega)]
    funext i
    exact if_pos rfl
