-- pairs: sheet, mark
/-- only sheet i has changed, in both -/
theorem Sim.sheet {scr : Nat → Int32} {k i : Nat} {m m' : Mem} (h : Sim scr k m) (hi : i < 4) (hf : ∀ r, r ≠ 111 + 2 * i → r ≠ 112 + 2 * i → r ≠ 152 → r ≠ 153 → r ≠ 154 → ¬ scrap r → m' r = m r)
    (h152 : ∀ j, j < 4 → j ≠ i → m' 152 j = m 152 j) (h153 : ∀ j, j < 4 → j ≠ i → m' 153 j = m 153 j) (h154 : ∀ j x, j < 4 → j ≠ i → x < 24 → m' 154 (24 * j + x) = m 154 (24 * j + x))
    (new : m' 152 i = m' (111 + 2 * i) 0 ∧ m' 153 i = m' (111 + 2 * i) 1 ∧ (m' (111 + 2 * i) 0 = -1 ∨ m' (111 + 2 * i) 0 = 0 ∨ m' (111 + 2 * i) 0 = 1) ∧ (∃ n, n ≤ 24 ∧ m' (111 + 2 * i) 1 = nI n) ∧ ∀ j, j < 24 → m' 154 (24 * i + j) = m' (112 + 2 * i) j ∧ okPl (m' (112 + 2 * i) j)) : Sim scr (k + 1) m' := by
  obtain ⟨a, b, c, d, e, f⟩ := h
  have g : ∀ r, (5 ≤ r ∧ r ≤ 82) ∨ (107 ≤ r ∧ r ≤ 110) ∨ (119 ≤ r ∧ r ≤ 141) ∨ (144 ≤ r ∧ r ≤ 146) ∨ (155 ≤ r ∧ r ≤ 158) ∨ r = 0 ∨ r = 160 ∨ r = 900 → m' r = m r := fun r hr => hf r (by omega) (by omega) (by omega) (by omega) (by omega) (by unfold scrap; omega)
  refine ⟨(a.fr (fun r q1 q2 => g r (by omega)) (g _ (by omega)) (g _ (by omega)) (by rw [g 0 (by omega)]) (by rw [g 139 (by omega)])).mono bd_mono, b.fr (g _ (by omega)) (g _ (by omega)) (by rw [g 0 (by omega)]) (by rw [g 139 (by omega)]), fun j hj => ?_, d.fr (fun r q1 q2 => g r (by omega)) (g _ (by omega)) (g _ (by omega)) (g _ (by omega)) (g _ (by omega)), e.fr (g _ (by omega)) (g _ (by omega)) (by rw [g 0 (by omega)]) (by rw [g 139 (by omega)]), f.fr (g _ (by omega)) (g _ (by omega)) (g _ (by omega))⟩
  by_cases q : j = i
  · subst q; exact new
  · have c' := c j hj
    rw [hf (111 + 2 * j) (by omega) (by omega) (by omega) (by omega) (by omega) (by unfold scrap; omega), hf (112 + 2 * j) (by omega) (by omega) (by omega) (by omega) (by omega) (by unfold scrap; omega), h152 j hj q, h153 j hj q]
    exact ⟨c'.1, c'.2.1, c'.2.2.1, c'.2.2.2.1, fun x hx => by rw [h154 j x hj q hx]; exact c'.2.2.2.2 x hx⟩
theorem c_clear {d L c : Nat} {mem : Mem} {Q : Qt} {s n : Int32} (hc : shC L c) (h : ∀ f : Nat → Int32, (∀ j, j < 24 → f j = 0) → Q none (S0 L) (mr (mu (mu mem c 0 s) c 1 n) (c + 1) f)) : Mc (d + 1) 37 [.ref c, .int s, .int n] (S0 L) mem Q := by
  have loop : ∀ j i, i + j = 24 → ∀ f : Nat → Int32, (∀ x, x < i → f x = 0) → Xs (d + 1) 37 12 [some (.ref c), some (.int s), some (.int n), some (.int (nI i))] [] (S0 L) (0, 0) (mr (mu (mu mem c 0 s) c 1 n) (c + 1) f) Q := by
    intro j
    induction j with
    | zero =>
      intro i hi f hf
      have hi : i = 24 := by omega
      subst hi
      refine Xs_wp (cut1 12) t37 60 ?_
      exact h f hf
    | succ j ih =>
      intro i hi f hf
      refine Xs_wp (cut1 12) t37 60 ?_
      refine ifI (fun _ => ?_) (fun z => absurd (nI_lt (a := i) (b := 24) (by omega) (by omega)) z)
      refine ⟨shK hc, ?_⟩
      rw [shV hc]
      refine ⟨shP hc (rfl : nI i = nI i) (by omega), ?_⟩
      rw [nI_clamp (by omega), mu_mr']
      have := ih (i + 1) (by omega) (upd f i 0) (fun x hx => by
        by_cases e : x = i
        · subst e; exact pk_us
        · rw [pk_un e]; exact hf x (by omega))
      rw [← nI_1] at this
      exact this
  refine Mc_wp (cut1 12) t37 rfl rfl rfl 60 ?_
  refine ⟨shO hc, ?_⟩
  refine ⟨shO hc, ?_⟩
  have := loop 24 0 (by omega) (mu (mu mem c 0 s) c 1 n (c + 1)) (fun x hx => absurd hx (by omega))
  rw [mr_self] at this
  exact this
theorem pr_sheet {scr : Nat → Int32} {L d k : Nat} {m : Mem} {v s n : Int32} (h : Sim scr k m) : Pair scr L (d + 20) 86 183 [.int v, .int s, .int n] k m := by
  intro Q hQ
  refine Mc_wp nocut t86 rfl rfl rfl 60 ?_
  by_cases q1 : 0 ≤ v ∧ v ≤ 3
  rotate_left 1
  · refine c_sF q1 ?_
    refine hQ _ m (fun Q' hQ' => ?_)
    refine Mc_wp nocut t183 rfl rfl rfl 60 ?_
    exact r_sF q1 (hQ' m h.next)
  refine c_sT q1 ?_
  by_cases q2 : -1 ≤ s ∧ s ≤ 1
  rotate_left 1
  · refine c_wF q2 ?_
    refine hQ _ m (fun Q' hQ' => ?_)
    refine Mc_wp nocut t183 rfl rfl rfl 60 ?_
    refine r_sT q1 ?_
    exact r_iF q2 (hQ' m h.next)
  refine c_wT q2 ?_
  obtain ⟨i, hi, rfl⟩ := ix_split (b := 3) (n := 3) rfl q1.1 q1.2
  have hc : shC L (111 + 2 * i) := shI (by omega)
  have ei : nI i = nI i := rfl
  -- both cleared, from the reference's pc 40 on
  have ref : ∀ (sz : Nat) (f : Nat → Int32) (Q' : Qt), sz ≤ 24 → (∀ j, j < 24 → f j = 0) → (s = -1 ∨ s = 0 ∨ s = 1) → (if s < 0 then (0 : Int32) else n) = nI sz → (∀ m2, Sim scr (k + 1) m2 → Q' (some (.int (nI sz))) (S0 L) m2) →
      Xs (d + 20) 183 40 [some (.ref 139), some (.int (nI i)), some (.int s), some (.int n), none] [] (S0 L) (0, 0) (mr (mu (mu m (111 + 2 * i) 0 s) (111 + 2 * i) 1 (nI sz)) (111 + 2 * i + 1) f) Q' := by
    intro sz f Q' hsz hf hs hn hQ'
    have rl : ∀ j x, x + j = 24 → ∀ m4, (∀ r, r ≠ 154 → m4 r = mu (mu (mr (mu (mu m (111 + 2 * i) 0 s) (111 + 2 * i) 1 (nI sz)) (111 + 2 * i + 1) f) 152 i s) 153 i (nI sz) r) → (∀ y, y < x → m4 154 (24 * i + y) = 0) → (∀ y, (y < 24 * i ∨ 24 * i + 24 ≤ y) → m4 154 y = m 154 y) →
        Xs (d + 20) 183 65 [some (.ref 139), some (.int (nI i)), some (.int s), some (.int n), some (.int (nI x))] [] (S0 L) (0, 0) m4 Q' := by
      intro j
      induction j with
      | zero =>
        intro x hx m4 h1 h2 h3
        have hx : x = 24 := by omega
        subst hx
        refine Xs_wp (cut1 65) t183 60 ?_
        refine ⟨⟨rfl, ltB rfl, neB rfl⟩, ?_⟩
        rw [rf_sizes]
        refine ⟨⟨rfl, ltB rfl, vinK ei (show i < 4 by omega) rfl⟩, ?_⟩
        rw [clK ei (show i < 2 ^ 31 by omega)]
        have e153 : m4 153 i = nI sz := by rw [h1 153 (by decide), mu_at]
        rw [e153]
        refine hQ' _ (h.sheet (i := i) (by omega) ?_ ?_ ?_ ?_ ?_)
        · intro r a1 a2 a3 a4 a5 a6
          rw [h1 r a5, mu_row a4, mu_row a3, mr_ne (by omega), mu_row a1, mu_row a1]
        · intro y hy ne
          rw [h1 152 (by decide), mu_row (by decide), mu_ne ne, mr_ne (by omega), mu_row (by omega), mu_row (by omega)]
        · intro y hy ne
          rw [h1 153 (by decide), mu_ne ne, mu_row (by decide), mr_ne (by omega), mu_row (by omega), mu_row (by omega)]
        · intro y z hy ne hz
          exact h3 _ (by omega)
        · have c0 : m4 (111 + 2 * i) 0 = s := by rw [h1 _ (by omega), mu_row (by omega), mu_row (by omega), mr_ne (by omega), mu_ne (by decide), mu_at]
          have c1 : m4 (111 + 2 * i) 1 = nI sz := by rw [h1 _ (by omega), mu_row (by omega), mu_row (by omega), mr_ne (by omega), mu_at]
          have c2 : m4 (112 + 2 * i) = f := by rw [h1 _ (by omega), mu_row (by omega), mu_row (by omega), show 112 + 2 * i = 111 + 2 * i + 1 by omega, mr_at]
          refine ⟨?_, ?_, ?_, ?_, ?_⟩
          · rw [c0, h1 152 (by decide), mu_row (by decide), mu_at]
          · rw [c1, e153]
          · rw [c0]; exact hs
          · rw [c1]; exact ⟨sz, hsz, rfl⟩
          · intro y hy
            rw [c2, hf y hy, h2 y hy]
            exact ⟨rfl, Or.inr ⟨by decide, by decide⟩⟩
      | succ j ih =>
        intro x hx m4 h1 h2 h3
        have ex : (24 * nI i + nI x : Int32) = nI (24 * i + x) := by rw [show (24 : Int32) = nI 24 from rfl, pk_mul, nI_add]
        refine Xs_wp (cut1 65) t183 60 ?_
        refine ifI (fun _ => ?_) (fun z => absurd (nI_lt (a := x) (b := 24) (by omega) (by omega)) z)
        refine ⟨⟨rfl, ltB rfl, neB rfl⟩, ?_⟩
        rw [rf_cells]
        refine ⟨⟨rfl, ltB rfl, vinK ex (show 24 * i + x < 96 by omega) rfl⟩, ?_⟩
        rw [clK ex (show 24 * i + x < 2 ^ 31 by omega)]
        have := ih (x + 1) (by omega) (mu m4 154 (24 * i + x) 0) (fun r hr => by rw [mu_row hr]; exact h1 r hr) (fun y hy => by
          by_cases e : y = x
          · subst e; exact mu_at
          · rw [mu_ne (by omega)]; exact h2 y (by omega)) (fun y hy => by rw [mu_ne (by omega)]; exact h3 y hy)
        rw [← nI_1] at this
        exact this
    have fin : ∀ z : Int32, z = nI sz → Xs (d + 20) 183 65 [some (.ref 139), some (.int (nI i)), some (.int s), some (.int n), some (.int 0)] [] (S0 L) (0, 0) (mu (mu (mr (mu (mu m (111 + 2 * i) 0 s) (111 + 2 * i) 1 (nI sz)) (111 + 2 * i + 1) f) 152 i s) 153 i z) Q' := by
      intro z hz
      subst hz
      exact rl 24 0 (by omega) _ (fun r hr => rfl) (fun y hy => absurd hy (by omega)) (fun y hy => by rw [mu_row (by decide), mu_row (by decide), mr_ne (by omega), mu_row (by omega), mu_row (by omega)])
    refine Xs_wp (cut1 65) t183 60 ?_
    refine ⟨⟨rfl, ltB rfl, neB rfl⟩, ?_⟩
    rw [rf_sorts]
    refine ⟨⟨rfl, ltB rfl, vinK ei (show i < 4 by omega) rfl⟩, ?_⟩
    rw [clK ei (show i < 2 ^ 31 by omega)]
    refine ⟨⟨rfl, ltB rfl, neB rfl⟩, ?_⟩
    rw [rf_sizes]
    refine ifI (fun z => ?_) (fun z => ?_)
    · refine ⟨⟨rfl, ltB rfl, vinK ei (show i < 4 by omega) rfl⟩, ?_⟩
      rw [clK ei (show i < 2 ^ 31 by omega)]
      rw [if_pos z] at hn
      exact fin _ hn
    · refine ⟨⟨rfl, ltB rfl, vinK ei (show i < 4 by omega) rfl⟩, ?_⟩
      rw [clK ei (show i < 2 ^ 31 by omega)]
      rw [if_neg z] at hn
      exact fin _ hn
  by_cases s1 : s = -1
  · subst s1
    refine ⟨⟨rfl, ltB rfl, neB rfl⟩, ?_⟩
    rw [rf_csheets]
    refine ⟨sheK (by omega), ?_⟩
    rw [sheV (by omega)]
    refine ⟨shO hc, c_clear hc (fun f hf => ?_)⟩
    refine hQ _ _ (fun Q' hQ' => ?_)
    refine Mc_wp (cut1 40) t183 rfl rfl rfl 60 ?_
    refine r_sT q1 ?_
    refine r_iT q2 ?_
    exact ref 0 f Q' (by omega) hf (Or.inl rfl) rfl hQ'
  refine ifI (fun z => absurd z s1) (fun _ => ?_)
  have hs : s = 0 ∨ s = 1 := by
    have := in_int q2
    have e1 : (-1 : Int32).toInt = -1 := rfl
    have e2 : (1 : Int32).toInt = 1 := rfl
    have e0 : (0 : Int32).toInt = 0 := rfl
    rw [e1, e2] at this
    rw [tI_eq, e1] at s1
    rw [tI_eq, tI_eq, e0, e2]; omega
  have hs0 : ¬ s < 0 := by rcases hs with rfl | rfl <;> decide
  by_cases n1 : 24 < n
  · refine ifI (fun _ => ?_) (fun z => absurd n1 z)
    refine hQ _ m (fun Q' hQ' => ?_)
    refine Mc_wp nocut t183 rfl rfl rfl 60 ?_
    refine r_sT q1 ?_
    refine r_iT q2 ?_
    refine ifI (fun z => absurd z hs0) (fun _ => ?_)
    exact ifI (fun _ => hQ' m h.next) (fun z => absurd n1 z)
  refine ifI (fun z => absurd z n1) (fun _ => ?_)
  by_cases n2 : n < 0
  · refine ifI (fun _ => ?_) (fun z => absurd n2 z)
    refine hQ _ m (fun Q' hQ' => ?_)
    refine Mc_wp nocut t183 rfl rfl rfl 60 ?_
    refine r_sT q1 ?_
    refine r_iT q2 ?_
    refine ifI (fun z => absurd z hs0) (fun _ => ?_)
    refine ifI (fun z => absurd z n1) (fun _ => ?_)
    refine ifI (fun z => absurd z hs0) (fun _ => ?_)
    exact ifI (fun _ => hQ' m h.next) (fun z => absurd n2 z)
  refine ifI (fun z => absurd z n2) (fun _ => ?_)
  obtain ⟨sz, hsz, rfl⟩ := ix_split (v := n) (b := 24) (n := 24) rfl (Int32.not_lt.mp n2) (Int32.not_lt.mp n1)
  refine ⟨⟨rfl, ltB rfl, neB rfl⟩, ?_⟩
  rw [rf_csheets]
  refine ⟨sheK (by omega), ?_⟩
  rw [sheV (by omega)]
  refine ⟨shO hc, c_clear hc (fun f hf => ?_)⟩
  refine hQ _ _ (fun Q' hQ' => ?_)
  refine Mc_wp (cut1 40) t183 rfl rfl rfl 60 ?_
  refine r_sT q1 ?_
  refine r_iT q2 ?_
  refine ifI (fun z => absurd z hs0) (fun _ => ?_)
  refine ifI (fun z => absurd z n1) (fun _ => ?_)
  refine ifI (fun z => absurd z hs0) (fun _ => ?_)
  refine ifI (fun z => absurd z n2) (fun _ => ?_)
  exact ref sz f Q' (by omega) hf (Or.inr hs) (by rw [if_neg hs0]) hQ'
