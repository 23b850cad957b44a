-- pairs: lay, a sheet
theorem lay_s {scr : Nat → Int32} {L d k i s : Nat} {m : Mem} {Q : Qt} {f : Nat → Int32} (h : Sim scr k m) (hs : s < 4) (hi : i < 5) (q1 : 0 ≤ nI i ∧ nI i ≤ 4) (q2 : 0 ≤ nI s ∧ nI s ≤ 3) (hms : ¬ m (111 + 2 * s) 0 = -1) (hf : ∀ j, j < 24 → f j = m (111 + 2 * s + 1) j)
    (hQ : ∀ r m1, (∀ Q' : Qt, (∀ m2, Sim scr (k + 1) m2 → Q' (some (.int r)) (S0 L) m2) → Mc (d + 20) 188 [.ref 139, .int (nI i), .int 2, .int (nI s)] (S0 L) m1 Q') → Q (some (.int r)) (S0 L) m1) : Q (some (.int (m (119 + 4 * i) 0))) (S0 L) (mr (mu (mu (mu m (119 + 4 * i) 0 2) (121 + 4 * i) 0 (m (111 + 2 * s) 0)) (121 + 4 * i) 1 (m (111 + 2 * s) 1)) (121 + 4 * i + 1) f) := by
  have ei : nI i = nI i := rfl
  have es : nI s = nI s := rfl
  have hL := h.2.2.2.1 i hi
  obtain ⟨e0, e1, e2, ⟨n, hn, en⟩, e3⟩ := h.2.2.1 s hs
  have s0 : ¬ m (111 + 2 * s) 0 < 0 := by
    rcases e2 with z | z | z
    · exact absurd z hms
    · rw [z]; decide
    · rw [z]; decide
  have row : ∀ r, r ≠ 119 + 4 * i → r ≠ 121 + 4 * i → r ≠ 122 + 4 * i → mr (mu (mu (mu m (119 + 4 * i) 0 2) (121 + 4 * i) 0 (m (111 + 2 * s) 0)) (121 + 4 * i) 1 (m (111 + 2 * s) 1)) (121 + 4 * i + 1) f r = m r := fun r a b c => by rw [mr_ne (by omega), mu_row b, mu_row b, mu_row a]
  have c0 : mr (mu (mu (mu m (119 + 4 * i) 0 2) (121 + 4 * i) 0 (m (111 + 2 * s) 0)) (121 + 4 * i) 1 (m (111 + 2 * s) 1)) (121 + 4 * i + 1) f (119 + 4 * i) 0 = 2 := by rw [mr_ne (by omega), mu_row (by omega), mu_row (by omega), mu_at]
  have c1 : mr (mu (mu (mu m (119 + 4 * i) 0 2) (121 + 4 * i) 0 (m (111 + 2 * s) 0)) (121 + 4 * i) 1 (m (111 + 2 * s) 1)) (121 + 4 * i + 1) f (121 + 4 * i) 1 = nI n := by rw [mr_ne (by omega), mu_at, en]
  have c2 : mr (mu (mu (mu m (119 + 4 * i) 0 2) (121 + 4 * i) 0 (m (111 + 2 * s) 0)) (121 + 4 * i) 1 (m (111 + 2 * s) 1)) (121 + 4 * i + 1) f (122 + 4 * i) = f := by rw [show 122 + 4 * i = 121 + 4 * i + 1 by omega, mr_at]
  generalize mr (mu (mu (mu m (119 + 4 * i) 0 2) (121 + 4 * i) 0 (m (111 + 2 * s) 0)) (121 + 4 * i) 1 (m (111 + 2 * s) 1)) (121 + 4 * i + 1) f = m1 at row c0 c1 c2 ⊢
  refine hQ _ m1 (fun Q' hQ' => ?_)
  have loop : ∀ j x, x + j = 24 → ∀ m4, (∀ r, r ≠ 155 → r ≠ 156 → r ≠ 157 → r ≠ 158 → m4 r = m1 r) → m4 155 = upd (m 155) i 2 → m4 156 = upd (m 156) i (nI n) → m4 157 = upd (m 157) i 0 → (∀ y, y < x → m4 158 (24 * i + y) = f y) → (∀ y, (y < 24 * i ∨ 24 * i + 24 ≤ y) → m4 158 y = m 158 y) →
      Xs (d + 20) 188 134 [some (.ref 139), some (.int (nI i)), some (.int 2), some (.int (nI s)), some (.int (m (119 + 4 * i) 0)), some (.int (nI x))] [] (S0 L) (0, 0) m4 Q' := by
    intro j
    induction j with
    | zero =>
      intro x hx m4 h1 h155 h156 h157 h2 h3
      have hx : x = 24 := by omega
      subst hx
      refine Xs_wp (cut1 134) t188 60 ?_
      refine hQ' _ (h.slot (i := i) hi ?_ ?_ ?_ ?_)
      · intro r a1 a2 a3 a4 a5 a6
        rw [h1 r a2 a3 a4 a5]; exact row r (by omega) (by omega) (by omega)
      · intro j hj ne
        rw [h155, h156, h157, pk_un ne, pk_un ne, pk_un ne]; exact ⟨rfl, rfl, rfl⟩
      · intro j y hj ne hy
        exact h3 _ (by omega)
      · rw [h155, h156, h1 (119 + 4 * i) (by omega) (by omega) (by omega) (by omega), h1 (121 + 4 * i) (by omega) (by omega) (by omega) (by omega), h1 (122 + 4 * i) (by omega) (by omega) (by omega) (by omega), pk_us, pk_us, c0, c1, c2]
        exact ⟨rfl, Or.inr (Or.inr (Or.inl ⟨rfl, ⟨n, hn, rfl⟩, rfl, h2⟩))⟩
    | succ j ih =>
      intro x hx m4 h1 h155 h156 h157 h2 h3
      have ex : (24 * nI i + nI x : Int32) = nI (24 * i + x) := by rw [show (24 : Int32) = nI 24 from rfl, pk_mul, nI_add]
      have ey : (24 * nI s + nI x : Int32) = nI (24 * s + x) := by rw [show (24 : Int32) = nI 24 from rfl, pk_mul, nI_add]
      refine Xs_wp (cut1 134) t188 60 ?_
      refine ifI (fun _ => ?_) (fun z => absurd (nI_lt (a := x) (b := 24) (by omega) (by omega)) z)
      refine ⟨⟨rfl, ltB rfl, neB rfl⟩, ?_⟩
      rw [rf_heldCells]
      refine ⟨⟨rfl, ltB rfl, neB rfl⟩, ?_⟩
      rw [rf_cells]
      refine ⟨⟨rfl, ltB rfl, vinK ey (show 24 * s + x < 96 by omega) rfl⟩, ?_⟩
      rw [clK ey (show 24 * s + x < 2 ^ 31 by omega)]
      refine ⟨⟨rfl, ltB rfl, vinK ex (show 24 * i + x < 120 by omega) rfl⟩, ?_⟩
      rw [clK ex (show 24 * i + x < 2 ^ 31 by omega)]
      have ev : m4 154 (24 * s + x) = f x := by rw [h1 154 (by decide) (by decide) (by decide) (by decide), row 154 (by omega) (by omega) (by omega), (e3 x (by omega)).1, hf x (by omega), show 112 + 2 * s = 111 + 2 * s + 1 by omega]
      rw [ev]
      have := ih (x + 1) (by omega) (mu m4 158 (24 * i + x) (f x)) (fun r a b c e => by rw [mu_row e]; exact h1 r a b c e) (by rw [mu_row (by decide)]; exact h155) (by rw [mu_row (by decide)]; exact h156) (by rw [mu_row (by decide)]; exact h157) (fun y hy => by
        by_cases e : y = x
        · subst e; exact mu_at
        · rw [mu_ne (by omega)]; exact h2 y (by omega)) (fun y hy => by rw [mu_ne (by omega)]; exact h3 y hy)
      rw [← nI_1] at this
      exact this
  refine Mc_wp (cut1 134) t188 rfl rfl rfl 100 ?_
  refine r_lT q1 ?_
  refine r_iT (by decide) ?_
  refine r_sT q2 ?_
  refine ⟨⟨rfl, ltB rfl, neB rfl⟩, ?_⟩
  rw [rf_sorts]
  refine ⟨⟨rfl, ltB rfl, vinK es (show s < 4 by omega) rfl⟩, ?_⟩
  rw [clK es (show s < 2 ^ 31 by omega)]
  rw [row 152 (by omega) (by omega) (by omega), e0]
  refine ifI (fun z => absurd z s0) (fun _ => ?_)
  refine ⟨⟨rfl, ltB rfl, neB rfl⟩, ?_⟩
  rw [rf_holds]
  refine ⟨⟨rfl, ltB rfl, vinK ei (show i < 5 by omega) rfl⟩, ?_⟩
  rw [clK ei (show i < 2 ^ 31 by omega)]
  refine ⟨⟨rfl, ltB rfl, neB rfl⟩, ?_⟩
  rw [rf_holds]
  refine ⟨⟨rfl, ltB rfl, vinK ei (show i < 5 by omega) rfl⟩, ?_⟩
  rw [clK ei (show i < 2 ^ 31 by omega)]
  refine ⟨⟨rfl, ltB rfl, neB rfl⟩, ?_⟩
  rw [rf_holdsA]
  refine ⟨⟨rfl, ltB rfl, neB rfl⟩, ?_⟩
  rw [rf_sizes]
  refine ⟨⟨rfl, ltB rfl, vinK es (show s < 4 by omega) rfl⟩, ?_⟩
  rw [clK es (show s < 2 ^ 31 by omega)]
  refine ⟨⟨rfl, ltB rfl, vinK ei (show i < 5 by omega) rfl⟩, ?_⟩
  rw [clK ei (show i < 2 ^ 31 by omega)]
  refine ⟨⟨rfl, ltB rfl, neB rfl⟩, ?_⟩
  rw [rf_holdsB]
  refine ⟨⟨rfl, ltB rfl, vinK ei (show i < 5 by omega) rfl⟩, ?_⟩
  rw [clK ei (show i < 2 ^ 31 by omega)]
  rw [row 155 (by omega) (by omega) (by omega), hL.1, mu_row (show (153 : Nat) ≠ 155 by decide), row 153 (by omega) (by omega) (by omega), e1, en]
  refine loop 24 0 (by omega) _ (fun r a b c e => by rw [mu_row c, mu_row b, mu_row a]) ?_ ?_ ?_ (fun y hy => absurd hy (by omega)) (fun y hy => by rw [mu_row (by decide), mu_row (by decide), mu_row (by decide), row 158 (by omega) (by omega) (by omega)])
  · rw [mu_row (by decide), mu_row (by decide), mu_upd, row 155 (by omega) (by omega) (by omega)]
  · rw [mu_row (by decide), mu_upd, mu_row (by decide), row 156 (by omega) (by omega) (by omega)]
  · rw [mu_upd, mu_row (by decide), mu_row (by decide), row 157 (by omega) (by omega) (by omega)]
