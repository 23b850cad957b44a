-- pairs: copy
theorem copy_r {scr : Nat → Int32} {L d k a b p q y na nb : Nat} {m : Mem} {Q : Qt} (h : Sim scr k m) (ha : a < 4) (hb : b < 4) (hna : na ≤ 24) (hnb : nb ≤ 24) (ena : m (111 + 2 * a) 1 = nI na) (enb : m (111 + 2 * b) 1 = nI nb) (hp : p + y ≤ na) (hq : q + y ≤ nb)
    (hsa : ¬ m (111 + 2 * a) 0 = -1) (hsb : ¬ m (111 + 2 * b) 0 = -1) (hss : m (111 + 2 * a) 0 = m (111 + 2 * b) 0) (qa : 0 ≤ nI a ∧ nI a ≤ 3) (qb : 0 ≤ nI b ∧ nI b ≤ 3)
    (hQ : ∀ r m1, (∀ Q' : Qt, (∀ m2, Sim scr (k + 1) m2 → Q' (some (.int r)) (S0 L) m2) → Mc (d + 20) 187 [.ref 139, .int (nI a), .int (nI p), .int (nI b), .int (nI q), .int (nI y)] (S0 L) m1 Q') → Q (some (.int r)) (S0 L) m1) : Q (some (.int (nI y))) (S0 L) (mr m (111 + 2 * b + 1) (va_cpy (m (111 + 2 * a + 1)) (m (111 + 2 * b + 1)) p q y)) := by
  have ea : nI a = nI a := rfl
  have eb : nI b = nI b := rfl
  obtain ⟨a0, a1, a2, _, a3⟩ := h.2.2.1 a ha
  obtain ⟨b0, b1, b2, _, b3⟩ := h.2.2.1 b hb
  have nn : ∀ s : Int32, ¬ s = -1 → (s = -1 ∨ s = 0 ∨ s = 1) → ¬ s < 0 := by
    intro s h1 h2
    rcases h2 with z | z | z
    · exact absurd z h1
    · rw [z]; decide
    · rw [z]; decide
  have sa := nn _ hsa a2
  have sb := nn _ hsb b2
  have row : ∀ r, r ≠ 112 + 2 * b → mr m (111 + 2 * b + 1) (va_cpy (m (111 + 2 * a + 1)) (m (111 + 2 * b + 1)) p q y) r = m r := fun r hr => mr_ne (by omega)
  have plc : mr m (111 + 2 * b + 1) (va_cpy (m (111 + 2 * a + 1)) (m (111 + 2 * b + 1)) p q y) (112 + 2 * b) = va_cpy (m (112 + 2 * a)) (m (112 + 2 * b)) p q y := by
    rw [show 112 + 2 * b = 111 + 2 * b + 1 by omega, show 112 + 2 * a = 111 + 2 * a + 1 by omega, mr_at]
  generalize mr m (111 + 2 * b + 1) (va_cpy (m (111 + 2 * a + 1)) (m (111 + 2 * b + 1)) p q y) = m1 at row plc ⊢
  refine hQ _ m1 (fun Q' hQ' => ?_)
  have fin : ∀ m4, (∀ r, r ≠ 154 → r ≠ 159 → m4 r = m1 r) → (∀ z, z < y → m4 154 (24 * b + q + z) = m 154 (24 * a + p + z)) → (∀ z, (z < 24 * b + q ∨ 24 * b + q + y ≤ z) → m4 154 z = m 154 z) → Q' (some (.int (nI y))) (S0 L) m4 := by
    intro m4 h1 h2 h3
    have r4 : ∀ r, r ≠ 154 → r ≠ 159 → r ≠ 112 + 2 * b → m4 r = m r := fun r x1 x2 x3 => by rw [h1 r x1 x2, row r x3]
    refine hQ' m4 (h.sheet (i := b) hb ?_ ?_ ?_ ?_ ?_)
    · intro r x1 x2 x3 x4 x5 x6
      exact r4 r x5 (fun e => x6 (by unfold scrap; omega)) x2
    · intro j hj ne; rw [r4 152 (by decide) (by decide) (by omega)]
    · intro j hj ne; rw [r4 153 (by decide) (by decide) (by omega)]
    · intro j z hj ne hz; exact h3 _ (by omega)
    · rw [r4 152 (by decide) (by decide) (by omega), r4 153 (by decide) (by decide) (by omega), r4 (111 + 2 * b) (by omega) (by omega) (by omega), h1 (112 + 2 * b) (by omega) (by omega), plc]
      refine ⟨b0, b1, b2, ⟨nb, hnb, enb⟩, fun z hz => ?_⟩
      by_cases zz : q ≤ z ∧ z < q + y
      · rw [pk_cpy_in zz.1 zz.2]
        have := h2 (z - q) (by omega)
        rw [show 24 * b + q + (z - q) = 24 * b + z by omega, show 24 * a + p + (z - q) = 24 * a + (p + (z - q)) by omega] at this
        have a4 := a3 (p + (z - q)) (by omega)
        rw [this]
        exact a4
      · rw [pk_cpy_out (by omega), h3 _ (by omega)]
        exact b3 z hz
  have loop2 : ∀ j x, x + j = y → ∀ m4, (∀ r, r ≠ 154 → r ≠ 159 → m4 r = m1 r) → (∀ z, z < y → m4 159 z = m 154 (24 * a + p + z)) → (∀ z, z < x → m4 154 (24 * b + q + z) = m 154 (24 * a + p + z)) → (∀ z, (z < 24 * b + q ∨ 24 * b + q + x ≤ z) → m4 154 z = m 154 z) →
      Xs (d + 20) 187 140 [some (.ref 139), some (.int (nI a)), some (.int (nI p)), some (.int (nI b)), some (.int (nI q)), some (.int (nI y)), some (.int (nI x))] [] (S0 L) (0, 0) m4 Q' := by
    intro j
    induction j with
    | zero =>
      intro x hx m4 h1 h2 h3 h4
      have hx : x = y := by omega
      subst hx
      refine Xs_wp (cut1 140) t187 60 ?_
      refine ifI (fun z => absurd z (nI_nlt (Nat.le_refl _) (by omega))) (fun _ => ?_)
      exact fin m4 h1 h3 h4
    | succ j ih =>
      intro x hx m4 h1 h2 h3 h4
      have ex : (24 * nI b + nI q + nI x : Int32) = nI (24 * b + q + x) := by rw [show (24 : Int32) = nI 24 from rfl, pk_mul, nI_add, nI_add]
      have e1 : nI x = nI x := rfl
      refine Xs_wp (cut1 140) t187 60 ?_
      refine ifI (fun _ => ?_) (fun z => absurd (nI_lt (by omega) (by omega)) z)
      refine ⟨⟨rfl, ltB rfl, neB rfl⟩, ?_⟩
      rw [rf_cells]
      refine ⟨⟨rfl, ltB rfl, neB rfl⟩, ?_⟩
      rw [rf_moved]
      refine ⟨⟨rfl, ltB rfl, vinK e1 (show x < 24 by omega) rfl⟩, ?_⟩
      rw [clK e1 (show x < 2 ^ 31 by omega)]
      refine ⟨⟨rfl, ltB rfl, vinK ex (show 24 * b + q + x < 96 by omega) rfl⟩, ?_⟩
      rw [clK ex (show 24 * b + q + x < 2 ^ 31 by omega)]
      rw [h2 x (by omega)]
      have := ih (x + 1) (by omega) (mu m4 154 (24 * b + q + x) (m 154 (24 * a + p + x))) (fun r y1 y2 => by rw [mu_row y1]; exact h1 r y1 y2) (fun z hz => by rw [mu_row (by decide)]; exact h2 z hz) (fun z hz => by
        by_cases e : z = x
        · subst e; exact mu_at
        · rw [mu_ne (by omega)]; exact h3 z (by omega)) (fun z hz => by rw [mu_ne (by omega)]; exact h4 z (by omega))
      rw [← nI_1] at this
      exact this
  have loop1 : ∀ j x, x + j = y → ∀ m4, (∀ r, r ≠ 159 → m4 r = m1 r) → (∀ z, z < x → m4 159 z = m 154 (24 * a + p + z)) →
      Xs (d + 20) 187 103 [some (.ref 139), some (.int (nI a)), some (.int (nI p)), some (.int (nI b)), some (.int (nI q)), some (.int (nI y)), some (.int (nI x))] [] (S0 L) (0, 0) m4 Q' := by
    intro j
    induction j with
    | zero =>
      intro x hx m4 h1 h2
      have hx : x = y := by omega
      subst hx
      refine Xs_wp (cut2 103 140) t187 60 ?_
      refine ifI (fun z => absurd z (nI_nlt (Nat.le_refl _) (by omega))) (fun _ => ?_)
      exact loop2 x 0 (by omega) m4 (fun r y1 y2 => h1 r y2) h2 (fun z hz => absurd hz (by omega)) (fun z hz => by rw [h1 154 (by decide), row 154 (by omega)])
    | succ j ih =>
      intro x hx m4 h1 h2
      have ex : (24 * nI a + nI p + nI x : Int32) = nI (24 * a + p + x) := by rw [show (24 : Int32) = nI 24 from rfl, pk_mul, nI_add, nI_add]
      have e1 : nI x = nI x := rfl
      refine Xs_wp (cut2 103 140) t187 60 ?_
      refine ifI (fun _ => ?_) (fun z => absurd (nI_lt (by omega) (by omega)) z)
      refine ⟨⟨rfl, ltB rfl, neB rfl⟩, ?_⟩
      rw [rf_moved]
      refine ⟨⟨rfl, ltB rfl, neB rfl⟩, ?_⟩
      rw [rf_cells]
      refine ⟨⟨rfl, ltB rfl, vinK ex (show 24 * a + p + x < 96 by omega) rfl⟩, ?_⟩
      rw [clK ex (show 24 * a + p + x < 2 ^ 31 by omega)]
      refine ⟨⟨rfl, ltB rfl, vinK e1 (show x < 24 by omega) rfl⟩, ?_⟩
      rw [clK e1 (show x < 2 ^ 31 by omega)]
      rw [h1 154 (by decide), row 154 (by omega)]
      have := ih (x + 1) (by omega) (mu m4 159 x (m 154 (24 * a + p + x))) (fun r y1 => by rw [mu_row y1]; exact h1 r y1) (fun z hz => by
        by_cases e : z = x
        · subst e; exact mu_at
        · rw [mu_ne e]; exact h2 z (by omega))
      rw [← nI_1] at this
      exact this
  refine Mc_wp (cut1 103) t187 rfl rfl rfl 100 ?_
  refine r_sT qa ?_
  refine r_sT qb ?_
  refine ⟨⟨rfl, ltB rfl, neB rfl⟩, ?_⟩
  rw [rf_sorts]
  refine ⟨⟨rfl, ltB rfl, vinK ea (show a < 4 by omega) rfl⟩, ?_⟩
  rw [clK ea (show a < 2 ^ 31 by omega)]
  rw [row 152 (by omega), a0]
  refine ifI (fun z => absurd z sa) (fun _ => ?_)
  refine ⟨⟨rfl, ltB rfl, neB rfl⟩, ?_⟩
  rw [rf_sorts]
  refine ⟨⟨rfl, ltB rfl, vinK eb (show b < 4 by omega) rfl⟩, ?_⟩
  rw [clK eb (show b < 2 ^ 31 by omega)]
  rw [row 152 (by omega), b0]
  refine ifI (fun z => absurd z sb) (fun _ => ?_)
  refine ⟨⟨rfl, ltB rfl, neB rfl⟩, ?_⟩
  rw [rf_sorts]
  refine ⟨⟨rfl, ltB rfl, vinK ea (show a < 4 by omega) rfl⟩, ?_⟩
  rw [clK ea (show a < 2 ^ 31 by omega)]
  refine ⟨⟨rfl, ltB rfl, neB rfl⟩, ?_⟩
  rw [rf_sorts]
  refine ⟨⟨rfl, ltB rfl, vinK eb (show b < 4 by omega) rfl⟩, ?_⟩
  rw [clK eb (show b < 2 ^ 31 by omega)]
  rw [row 152 (by omega), a0, b0]
  refine ifI (fun _ => ?_) (fun z => absurd hss z)
  refine ifI (fun z => absurd z (nI_pos (by omega))) (fun _ => ?_)
  refine ifI (fun z => absurd z (nI_pos (by omega))) (fun _ => ?_)
  refine ifI (fun z => absurd z (nI_pos (by omega))) (fun _ => ?_)
  refine ⟨⟨rfl, ltB rfl, neB rfl⟩, ?_⟩
  rw [rf_sizes]
  refine ⟨⟨rfl, ltB rfl, vinK ea (show a < 4 by omega) rfl⟩, ?_⟩
  rw [clK ea (show a < 2 ^ 31 by omega)]
  rw [row 153 (by omega), a1, ena]
  refine ifI (fun z => absurd z ((rowOk_iff hna).mp ⟨p, y, rfl, rfl, hp⟩).2.2) (fun _ => ?_)
  refine ⟨⟨rfl, ltB rfl, neB rfl⟩, ?_⟩
  rw [rf_sizes]
  refine ⟨⟨rfl, ltB rfl, vinK eb (show b < 4 by omega) rfl⟩, ?_⟩
  rw [clK eb (show b < 2 ^ 31 by omega)]
  rw [row 153 (by omega), b1, enb]
  refine ifI (fun z => absurd z ((rowOk_iff hnb).mp ⟨q, y, rfl, rfl, hq⟩).2.2) (fun _ => ?_)
  exact loop1 y 0 (by omega) m1 (fun r _ => rfl) (fun z hz => absurd hz (by omega))
