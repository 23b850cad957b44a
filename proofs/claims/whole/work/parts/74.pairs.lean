-- pairs: mark
theorem short_rng (v : Int32) : -99999 ≤ (v.toInt16.toInt32).toInt ∧ (v.toInt16.toInt32).toInt ≤ 99999 := by
  have h1 := v.toInt16.minValue_le_toInt
  have h2 := v.toInt16.toInt_lt
  rw [Int16.toInt_toInt32]
  have e : (Int16.minValue).toInt = -32768 := rfl
  omega
theorem pr_mark {scr : Nat → Int32} {L d k : Nat} {m : Mem} {v w x : Int32} (h : Sim scr k m) : Pair scr L (d + 20) 87 184 [.int v, .int w, .int x] k m := by
  intro Q hQ
  refine Mc_wp (cut1 90) t87 rfl rfl rfl 60 ?_
  by_cases q1 : 0 ≤ v ∧ v ≤ 3
  rotate_left 1
  · refine c_sF q1 ?_
    refine hQ _ m (fun Q' hQ' => ?_)
    refine Mc_wp nocut t184 rfl rfl rfl 60 ?_
    exact r_sF q1 (hQ' m h.next)
  refine c_sT q1 ?_
  obtain ⟨i, hi, rfl⟩ := ix_split (b := 3) (n := 3) rfl q1.1 q1.2
  have hc : shC L (111 + 2 * i) := shI (by omega)
  have ei : nI i = nI i := rfl
  obtain ⟨e0, e1, e2, ⟨n, hn, en⟩, e3⟩ := h.2.2.1 i (by omega)
  refine ⟨⟨rfl, ltB rfl, neB rfl⟩, ?_⟩
  rw [rf_csheets]
  refine ⟨sheK (by omega), ?_⟩
  rw [sheV (by omega)]
  by_cases s1 : m (111 + 2 * i) 0 = -1
  · refine ⟨shO hc, c_missT hc s1 ?_⟩
    refine hQ _ m (fun Q' hQ' => ?_)
    refine Mc_wp nocut t184 rfl rfl rfl 60 ?_
    refine r_sT q1 ?_
    refine ⟨⟨rfl, ltB rfl, neB rfl⟩, ?_⟩
    rw [rf_sorts]
    refine ⟨⟨rfl, ltB rfl, vinK ei (show i < 4 by omega) rfl⟩, ?_⟩
    rw [clK ei (show i < 2 ^ 31 by omega)]
    rw [e0, s1]
    exact hQ' m h.next
  refine ⟨shO hc, c_missF hc s1 ?_⟩
  have s01 : m (111 + 2 * i) 0 = 0 ∨ m (111 + 2 * i) 0 = 1 := by
    rcases e2 with z | z | z
    · exact absurd z s1
    · exact Or.inl z
    · exact Or.inr z
  have s0 : ¬ m (111 + 2 * i) 0 < 0 := by rcases s01 with z | z <;> (rw [z]; decide)
  rcases num_or (n := n) w (by omega) with q2 | ⟨j, hj, rfl⟩
  · refine ⟨shO hc, c_placeF hc en hn q2 ?_⟩
    refine hQ _ m (fun Q' hQ' => ?_)
    refine Mc_wp nocut t184 rfl rfl rfl 60 ?_
    refine r_sT q1 ?_
    refine ⟨⟨rfl, ltB rfl, neB rfl⟩, ?_⟩
    rw [rf_sorts]
    refine ⟨⟨rfl, ltB rfl, vinK ei (show i < 4 by omega) rfl⟩, ?_⟩
    rw [clK ei (show i < 2 ^ 31 by omega)]
    rw [e0]
    refine ifI (fun z => absurd z s0) (fun _ => ?_)
    refine ⟨⟨rfl, ltB rfl, neB rfl⟩, ?_⟩
    rw [rf_sizes]
    refine ⟨⟨rfl, ltB rfl, vinK ei (show i < 4 by omega) rfl⟩, ?_⟩
    rw [clK ei (show i < 2 ^ 31 by omega)]
    rw [e1, en]
    exact r_iF (nn_bad (by omega) q2) (hQ' m h.next)
  refine ⟨shO hc, c_placeT hc en hn hj ?_⟩
  refine ⟨shO hc, ?_⟩
  have ex : (24 * nI i + nI j : Int32) = nI (24 * i + j) := by rw [show (24 : Int32) = nI 24 from rfl, pk_mul, nI_add]
  -- the reference up to pc 41
  have ref : ∀ (V : Int32) (m3 : Mem), (∀ r, r ≠ 112 + 2 * i → m3 r = m r) → (∀ Q' : Qt, (∀ m2, Sim scr (k + 1) m2 → Q' (some (.int V)) (S0 L) m2) → Xs (d + 20) 184 41 [some (.ref 139), some (.int (nI i)), some (.int (nI j)), some (.int x)] [] (S0 L) (0, 0) m3 Q') → Q (some (.int V)) (S0 L) m3 := by
    intro V m3 hr hX
    refine hQ V m3 (fun Q' hQ' => ?_)
    refine Mc_wp (cut1 41) t184 rfl rfl rfl 60 ?_
    refine r_sT q1 ?_
    refine ⟨⟨rfl, ltB rfl, neB rfl⟩, ?_⟩
    rw [rf_sorts]
    refine ⟨⟨rfl, ltB rfl, vinK ei (show i < 4 by omega) rfl⟩, ?_⟩
    rw [clK ei (show i < 2 ^ 31 by omega)]
    rw [hr 152 (by omega), e0]
    refine ifI (fun z => absurd z s0) (fun _ => ?_)
    refine ⟨⟨rfl, ltB rfl, neB rfl⟩, ?_⟩
    rw [rf_sizes]
    refine ⟨⟨rfl, ltB rfl, vinK ei (show i < 4 by omega) rfl⟩, ?_⟩
    rw [clK ei (show i < 2 ^ 31 by omega)]
    rw [hr 153 (by omega), e1, en]
    exact r_iT (nn_good (by omega) hj) (hX Q' hQ')
  -- the mark is made
  have fin : ∀ z : Int32, okPl z → (∀ Q' : Qt, (Xs (d + 20) 184 116 [some (.ref 139), some (.int (nI i)), some (.int (nI j)), some (.int x)] [] (S0 L) (0, 0) (mu (mu m (111 + 2 * i + 1) j z) 154 (24 * i + j) z) Q') → Xs (d + 20) 184 41 [some (.ref 139), some (.int (nI i)), some (.int (nI j)), some (.int x)] [] (S0 L) (0, 0) (mu m (111 + 2 * i + 1) j z) Q') → Q (some (.int 1)) (S0 L) (mu m (111 + 2 * i + 1) j z) := by
    intro z hz hX
    refine ref 1 _ (fun r hr => mu_row (by omega)) (fun Q' hQ' => hX Q' ?_)
    refine Xs_wp nocut t184 60 ?_
    refine hQ' _ (h.sheet (i := i) (by omega) ?_ ?_ ?_ ?_ ?_)
    · intro r a1 a2 a3 a4 a5 a6
      rw [mu_row a5, mu_row (by omega)]
    · intro y hy ne
      rw [mu_row (by decide), mu_row (by omega)]
    · intro y hy ne
      rw [mu_row (by decide), mu_row (by omega)]
    · intro y u hy ne hu
      rw [mu_ne (by omega), mu_row (by omega)]
    · rw [mu_row (show (152 : Nat) ≠ 154 by decide), mu_row (show (152 : Nat) ≠ 111 + 2 * i + 1 by omega), mu_row (show (153 : Nat) ≠ 154 by decide), mu_row (show (153 : Nat) ≠ 111 + 2 * i + 1 by omega), mu_row (show 111 + 2 * i ≠ 154 by omega), mu_row (show 111 + 2 * i ≠ 111 + 2 * i + 1 by omega), mu_row (show 112 + 2 * i ≠ 154 by omega)]
      refine ⟨e0, e1, e2, ⟨n, hn, en⟩, fun y hy => ?_⟩
      rw [show 112 + 2 * i = 111 + 2 * i + 1 by omega]
      by_cases ey : y = j
      · subst ey; rw [mu_at, mu_at]; exact ⟨rfl, hz⟩
      · rw [mu_ne ey, mu_ne (by omega), mu_row (by omega)]
        have := e3 y hy
        rw [show 112 + 2 * i = 111 + 2 * i + 1 by omega] at this
        exact this
  rcases s01 with sv | sv
  · rw [sv]
    by_cases xn : x = NONEv
    · subst xn
      refine ref _ m (fun _ _ => rfl) (fun Q' hQ' => ?_)
      refine Xs_wp nocut t184 60 ?_
      refine ⟨⟨rfl, ltB rfl, neB rfl⟩, ?_⟩
      rw [rf_sorts]
      refine ⟨⟨rfl, ltB rfl, vinK ei (show i < 4 by omega) rfl⟩, ?_⟩
      rw [clK ei (show i < 2 ^ 31 by omega)]
      rw [e0, sv]
      exact hQ' m h.next
    refine ifI (fun z => absurd z xn) (fun _ => ?_)
    refine ⟨shO hc, ?_⟩
    rw [sv]
    refine Xs_wp nocut t87 60 ?_
    refine ⟨shK hc, ?_⟩
    rw [shV hc]
    refine ⟨shO hc, ?_⟩
    rw [sv]
    refine ⟨shP hc (rfl : nI j = nI j) (by omega), ?_⟩
    rw [nI_clamp (show j < 2 ^ 31 by omega)]
    refine fin _ (Or.inr (short_rng x)) (fun Q' next => ?_)
    have r152 : ∀ z, mu m (111 + 2 * i + 1) j z 152 i = 0 := fun z => by rw [mu_row (by omega), e0, sv]
    refine Xs_wp (cut1 116) t184 60 ?_
    refine ⟨⟨rfl, ltB rfl, neB rfl⟩, ?_⟩
    rw [rf_sorts]
    refine ⟨⟨rfl, ltB rfl, vinK ei (show i < 4 by omega) rfl⟩, ?_⟩
    rw [clK ei (show i < 2 ^ 31 by omega)]
    rw [r152]
    refine ifI (fun z => absurd z xn) (fun _ => ?_)
    refine ⟨⟨rfl, ltB rfl, neB rfl⟩, ?_⟩
    rw [rf_sorts]
    refine ⟨⟨rfl, ltB rfl, vinK ei (show i < 4 by omega) rfl⟩, ?_⟩
    rw [clK ei (show i < 2 ^ 31 by omega)]
    rw [r152]
    refine ⟨⟨rfl, ltB rfl, neB rfl⟩, ?_⟩
    rw [rf_cells]
    refine ⟨⟨rfl, ltB rfl, neB rfl⟩, ?_⟩
    rw [rf_sorts]
    refine ⟨⟨rfl, ltB rfl, vinK ei (show i < 4 by omega) rfl⟩, ?_⟩
    rw [clK ei (show i < 2 ^ 31 by omega)]
    rw [r152]
    refine ⟨⟨rfl, ltB rfl, vinK ex (show 24 * i + j < 96 by omega) rfl⟩, ?_⟩
    rw [clK ex (show 24 * i + j < 2 ^ 31 by omega)]
    exact next
  · rw [sv]
    refine ⟨shO hc, ?_⟩
    rw [sv]
    have r152 : ∀ z, mu m (111 + 2 * i + 1) j z 152 i = 1 := fun z => by rw [mu_row (by omega), e0, sv]
    have put : okPl x → (x = NONEv ∨ ¬ x = NONEv ∧ (-99999 ≤ x ∧ x ≤ 99999)) → Q (some (.int 1)) (S0 L) (mu m (111 + 2 * i + 1) j x) := by
      intro hx hor
      refine fin x hx (fun Q' next => ?_)
      have tail : Xs (d + 20) 184 90 [some (.ref 139), some (.int (nI i)), some (.int (nI j)), some (.int x)] [] (S0 L) (0, 0) (mu m (111 + 2 * i + 1) j x) Q' := by
        refine Xs_wp (cut1 116) t184 60 ?_
        refine ⟨⟨rfl, ltB rfl, neB rfl⟩, ?_⟩
        rw [rf_cells]
        refine ⟨⟨rfl, ltB rfl, neB rfl⟩, ?_⟩
        rw [rf_sorts]
        refine ⟨⟨rfl, ltB rfl, vinK ei (show i < 4 by omega) rfl⟩, ?_⟩
        rw [clK ei (show i < 2 ^ 31 by omega)]
        rw [r152]
        refine ⟨⟨rfl, ltB rfl, vinK ex (show 24 * i + j < 96 by omega) rfl⟩, ?_⟩
        rw [clK ex (show 24 * i + j < 2 ^ 31 by omega)]
        exact next
      refine Xs_wp (cut1 90) t184 60 ?_
      refine ⟨⟨rfl, ltB rfl, neB rfl⟩, ?_⟩
      rw [rf_sorts]
      refine ⟨⟨rfl, ltB rfl, vinK ei (show i < 4 by omega) rfl⟩, ?_⟩
      rw [clK ei (show i < 2 ^ 31 by omega)]
      rw [r152]
      refine ⟨⟨rfl, ltB rfl, neB rfl⟩, ?_⟩
      rw [rf_sorts]
      refine ⟨⟨rfl, ltB rfl, vinK ei (show i < 4 by omega) rfl⟩, ?_⟩
      rw [clK ei (show i < 2 ^ 31 by omega)]
      rw [r152]
      rcases hor with z | ⟨z, zz⟩
      · refine ifI (fun _ => tail) (fun y => absurd z y)
      · refine ifI (fun _ => tail) (fun y => ?_)
        exact r_iT zz tail
    have cput : okPl x → (x = NONEv ∨ ¬ x = NONEv ∧ (-99999 ≤ x ∧ x ≤ 99999)) → Xs (d + 20) 87 90 [some (.ref 0), some (.int (nI i)), some (.int (nI j)), some (.int x), some (.ref (111 + 2 * i))] [] (S0 L) (0, 0) m Q := by
      intro hx hor
      refine Xs_wp nocut t87 60 ?_
      refine ⟨shK hc, ?_⟩
      rw [shV hc]
      refine ⟨shO hc, ?_⟩
      rw [sv]
      refine ⟨shP hc (rfl : nI j = nI j) (by omega), ?_⟩
      rw [nI_clamp (show j < 2 ^ 31 by omega)]
      exact put hx hor
    by_cases xn : x = NONEv
    · exact ifI (fun z => cput (Or.inl z) (Or.inl z)) (fun z => absurd xn z)
    refine ifI (fun z => absurd z xn) (fun _ => ?_)
    by_cases zz : -99999 ≤ x ∧ x ≤ 99999
    · refine c_wT zz ?_
      have hi := in_int zz
      exact cput (Or.inr hi) (Or.inr ⟨xn, zz⟩)
    · refine c_wF zz ?_
      refine ref _ m (fun _ _ => rfl) (fun Q' hQ' => ?_)
      refine Xs_wp nocut t184 60 ?_
      refine ⟨⟨rfl, ltB rfl, neB rfl⟩, ?_⟩
      rw [rf_sorts]
      refine ⟨⟨rfl, ltB rfl, vinK ei (show i < 4 by omega) rfl⟩, ?_⟩
      rw [clK ei (show i < 2 ^ 31 by omega)]
      rw [e0, sv]
      refine ⟨⟨rfl, ltB rfl, neB rfl⟩, ?_⟩
      rw [rf_sorts]
      refine ⟨⟨rfl, ltB rfl, vinK ei (show i < 4 by omega) rfl⟩, ?_⟩
      rw [clK ei (show i < 2 ^ 31 by omega)]
      rw [e0, sv]
      refine ifI (fun z => absurd z xn) (fun _ => ?_)
      exact r_iF zz (hQ' m h.next)
