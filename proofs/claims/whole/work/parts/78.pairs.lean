-- pairs: lay
theorem lay_n {scr : Nat → Int32} {L d k i : Nat} {m : Mem} {Q : Qt} {x th : Int32} (h : Sim scr k m) (hi : i < 5) (hth : th = 0 ∨ th = 3) (q1 : 0 ≤ nI i ∧ nI i ≤ 4)
    (hQ : ∀ r m1, (∀ Q' : Qt, (∀ m2, Sim scr (k + 1) m2 → Q' (some (.int r)) (S0 L) m2) → Mc (d + 20) 188 [.ref 139, .int (nI i), .int th, .int x] (S0 L) m1 Q') → Q (some (.int r)) (S0 L) m1) : Q (some (.int (m (119 + 4 * i) 0))) (S0 L) (mu (mu m (119 + 4 * i) 0 th) (119 + 4 * i) 3 x) := by
  have ei : nI i = nI i := rfl
  have hL := h.2.2.2.1 i hi
  have th01 : 0 ≤ th ∧ th ≤ 3 := by rcases hth with rfl | rfl <;> decide
  have n1 : ¬ th = 1 := by rcases hth with rfl | rfl <;> decide
  have n2 : ¬ th = 2 := by rcases hth with rfl | rfl <;> decide
  refine hQ _ _ (fun Q' hQ' => ?_)
  refine Mc_wp nocut t188 rfl rfl rfl 100 ?_
  refine r_lT q1 ?_
  refine r_iT th01 ?_
  refine ifI (fun z => absurd z n1) (fun _ => ?_)
  refine ifI (fun z => absurd z n2) (fun _ => ?_)
  refine ifI (fun z => absurd z n2) (fun _ => ?_)
  refine ⟨⟨rfl, ltB rfl, neB rfl⟩, ?_⟩
  rw [rf_holds]
  refine ⟨⟨rfl, ltB rfl, vinK ei (show i < 5 by omega) rfl⟩, ?_⟩
  rw [clK ei (show i < 2 ^ 31 by omega)]
  refine ⟨⟨rfl, ltB rfl, neB rfl⟩, ?_⟩
  rw [rf_holds]
  refine ⟨⟨rfl, ltB rfl, vinK ei (show i < 5 by omega) rfl⟩, ?_⟩
  rw [clK ei (show i < 2 ^ 31 by omega)]
  refine ⟨⟨rfl, ltB rfl, neB rfl⟩, ?_⟩
  rw [rf_holdsA]
  refine ifI (fun z => absurd z n1) (fun _ => ?_)
  refine ifI (fun z => absurd z n2) (fun _ => ?_)
  refine ⟨⟨rfl, ltB rfl, vinK ei (show i < 5 by omega) rfl⟩, ?_⟩
  rw [clK ei (show i < 2 ^ 31 by omega)]
  refine ⟨⟨rfl, ltB rfl, neB rfl⟩, ?_⟩
  rw [rf_holdsB]
  refine ifI (fun z => absurd z n1) (fun _ => ?_)
  refine ⟨⟨rfl, ltB rfl, vinK ei (show i < 5 by omega) rfl⟩, ?_⟩
  rw [clK ei (show i < 2 ^ 31 by omega)]
  refine ifI (fun z => absurd z n2) (fun _ => ?_)
  rw [mu_row (show (155 : Nat) ≠ 119 + 4 * i by omega), mu_row (show (155 : Nat) ≠ 119 + 4 * i by omega), hL.1]
  refine hQ' _ (h.slot (i := i) hi ?_ ?_ ?_ ?_)
  · intro r a1 a2 a3 a4 a5 a6
    rw [mu_row a4, mu_row a3, mu_row a2, mu_row (by omega), mu_row (by omega)]
  · intro j hj ne
    refine ⟨?_, ?_, ?_⟩
    · rw [mu_row (by decide), mu_row (by decide), mu_ne ne, mu_row (by omega), mu_row (by omega)]
    · rw [mu_row (by decide), mu_ne ne, mu_row (by decide), mu_row (by omega), mu_row (by omega)]
    · rw [mu_ne ne, mu_row (by decide), mu_row (by decide), mu_row (by omega), mu_row (by omega)]
  · intro j y hj ne hy
    rw [mu_row (by decide), mu_row (by decide), mu_row (by decide), mu_row (by omega), mu_row (by omega)]
  · have a155 : mu (mu (mu (mu (mu m (119 + 4 * i) 0 th) (119 + 4 * i) 3 x) 155 i th) 156 i x) 157 i 0 155 i = th := by rw [mu_row (by decide), mu_row (by decide), mu_at]
    have a156 : mu (mu (mu (mu (mu m (119 + 4 * i) 0 th) (119 + 4 * i) 3 x) 155 i th) 156 i x) 157 i 0 156 i = x := by rw [mu_row (by decide), mu_at]
    have a0 : mu (mu (mu (mu (mu m (119 + 4 * i) 0 th) (119 + 4 * i) 3 x) 155 i th) 156 i x) 157 i 0 (119 + 4 * i) 0 = th := by rw [mu_row (by omega), mu_row (by omega), mu_row (by omega), mu_ne (by decide), mu_at]
    have a3 : mu (mu (mu (mu (mu m (119 + 4 * i) 0 th) (119 + 4 * i) 3 x) 155 i th) 156 i x) 157 i 0 (119 + 4 * i) 3 = x := by rw [mu_row (by omega), mu_row (by omega), mu_row (by omega), mu_at]
    rw [a155, a156, a0, a3]
    refine ⟨rfl, ?_⟩
    rcases hth with z | z
    · exact Or.inl z
    · exact Or.inr (Or.inr (Or.inr ⟨z, rfl⟩))
theorem lay_t {scr : Nat → Int32} {L d k i t nt nw nx : Nat} {m : Mem} {Q : Qt} (h : Sim scr k m) (hM : Mo (bd k) 35 nt nw nx (m 140) m) (ht : t < nt) (hi : i < 5) (q1 : 0 ≤ nI i ∧ nI i ≤ 4)
    (hQ : ∀ r m1, (∀ Q' : Qt, (∀ m2, Sim scr (k + 1) m2 → Q' (some (.int r)) (S0 L) m2) → Mc (d + 20) 188 [.ref 139, .int (nI i), .int 1, .int (nI t)] (S0 L) m1 Q') → Q (some (.int r)) (S0 L) m1) : Q (some (.int (m (119 + 4 * i) 0))) (S0 L) (cpC (mu m (119 + 4 * i) 0 1) (120 + 4 * i) (35 + 4 + t) 6) := by
  have ei : nI i = nI i := rfl
  have hR := hM.1
  have hn8 := hR.2.2.1.1
  have hL := h.2.2.2.1 i hi
  have row : ∀ r, r ≠ 119 + 4 * i → r ≠ 120 + 4 * i → cpC (mu m (119 + 4 * i) 0 1) (120 + 4 * i) (35 + 4 + t) 6 r = m r := fun r a b => by unfold cpC; rw [mr_ne b, mu_row a]
  have fld : ∀ f, f < 6 → cpC (mu m (119 + 4 * i) 0 1) (120 + 4 * i) (35 + 4 + t) 6 (120 + 4 * i) f = m 140 (44 + 6 * t + f) := fun f hf => by
    unfold cpC
    rw [mr_at]
    unfold cpRow
    rw [if_pos hf, mu_row (by omega)]; exact hR.2.2.2.1 t f ht hf
  have c0 : cpC (mu m (119 + 4 * i) 0 1) (120 + 4 * i) (35 + 4 + t) 6 (119 + 4 * i) 0 = 1 := by unfold cpC; rw [mr_ne (by omega), mu_at]
  have e140 := row 140 (by omega) (by omega)
  have hk0 := (hM.2.2.2.1 t ht).1
  obtain ⟨kd, hkd, ekd⟩ := ix_split (v := m 140 (44 + 6 * t + 0)) (b := 5) (n := 5) rfl (tI_le.mpr hk0.1) (tI_le.mpr hk0.2)
  generalize hm1 : cpC (mu m (119 + 4 * i) 0 1) (120 + 4 * i) (35 + 4 + t) 6 = m1 at row fld c0 e140
  refine hQ _ _ (fun Q' hQ' => ?_)
  refine Mc_wp nocut t188 rfl rfl rfl 100 ?_
  refine r_lT q1 ?_
  refine r_iT (by decide) ?_
  refine ⟨⟨rfl, ltB rfl⟩, r_hT (by rw [e140]; exact hR.2.1.1) hn8 ht ?_⟩
  refine ⟨⟨rfl, ltB rfl, neB rfl⟩, ?_⟩
  rw [rf_holds]
  refine ⟨⟨rfl, ltB rfl, vinK ei (show i < 5 by omega) rfl⟩, ?_⟩
  rw [clK ei (show i < 2 ^ 31 by omega)]
  refine ⟨⟨rfl, ltB rfl, neB rfl⟩, ?_⟩
  rw [rf_holds]
  refine ⟨⟨rfl, ltB rfl, vinK ei (show i < 5 by omega) rfl⟩, ?_⟩
  rw [clK ei (show i < 2 ^ 31 by omega)]
  refine ⟨⟨rfl, ltB rfl, neB rfl⟩, ?_⟩
  rw [rf_holdsA]
  refine ⟨⟨rfl, ltB rfl⟩, r_of (w := 0) (by omega) (by omega) ?_⟩
  refine ⟨⟨rfl, ltB rfl, vinK ei (show i < 5 by omega) rfl⟩, ?_⟩
  rw [clK ei (show i < 2 ^ 31 by omega)]
  refine ⟨⟨rfl, ltB rfl, neB rfl⟩, ?_⟩
  rw [rf_holdsB]
  refine ⟨⟨rfl, ltB rfl⟩, r_worthOf (by omega) ?_⟩
  refine ⟨⟨rfl, ltB rfl, vinK ei (show i < 5 by omega) rfl⟩, ?_⟩
  rw [clK ei (show i < 2 ^ 31 by omega)]
  rw [mu_row (show (140 : Nat) ≠ 155 by decide), mu_row (show (140 : Nat) ≠ 156 by decide), mu_row (show (140 : Nat) ≠ 155 by decide), e140, row 155 (by omega) (by omega), hL.1]
  refine hQ' _ (h.slot (i := i) hi ?_ ?_ ?_ ?_)
  · intro r a1 a2 a3 a4 a5 a6
    rw [mu_row a4, mu_row a3, mu_row a2]; exact row r (by omega) (by omega)
  · intro j hj ne
    refine ⟨?_, ?_, ?_⟩
    · rw [mu_row (by decide), mu_row (by decide), mu_ne ne, row 155 (by omega) (by omega)]
    · rw [mu_row (by decide), mu_ne ne, mu_row (by decide), row 156 (by omega) (by omega)]
    · rw [mu_ne ne, mu_row (by decide), mu_row (by decide), row 157 (by omega) (by omega)]
  · intro j y hj ne hy
    rw [mu_row (by decide), mu_row (by decide), mu_row (by decide), row 158 (by omega) (by omega)]
  · rw [mu_row (show (155 : Nat) ≠ 157 by decide), mu_row (show (155 : Nat) ≠ 156 by decide), mu_at, mu_row (show 119 + 4 * i ≠ 157 by omega), mu_row (show 119 + 4 * i ≠ 156 by omega), mu_row (show 119 + 4 * i ≠ 155 by omega), c0]
    refine ⟨rfl, Or.inr (Or.inl ⟨rfl, ?_, ?_, ?_⟩)⟩
    · rw [mu_row (by omega), mu_row (by omega), mu_row (by omega), fld 0 (by omega)]; exact ⟨kd, hkd, ekd⟩
    · rw [mu_row (by decide), mu_at, mu_row (by omega), mu_row (by omega), mu_row (by omega), fld 0 (by omega)]
    · rw [mu_at, mu_row (by omega), mu_row (by omega), mu_row (by omega), fld 0 (by omega), fld 1 (by omega)]
