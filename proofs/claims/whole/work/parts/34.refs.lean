-- the texts that stand in the array are well formed
def TX (A : Nat → Int32) (nx : Nat) : Prop := ∀ k, k < nx → ∃ key n, key < 3 ∧ n ≤ 96 ∧ A (92 + 2 * k) = nI (1000 * key + n) ∧ wfc (cdA A k) (nmK key) n
theorem cntO_some {A : Nat → Int32} {key : Int32} : ∀ {n k : Nat}, cntO A key n = some k → k < n ∧ A (92 + 2 * k) / 1000 = key
  | 0, _, h => by cases h
  | n + 1, k, h => by
    unfold cntO at h
    by_cases q : A (92 + 2 * n) / 1000 = key
    · rw [if_pos q] at h
      cases h
      exact ⟨by omega, q⟩
    · rw [if_neg q] at h
      have := cntO_some h
      exact ⟨by omega, this.2⟩
theorem cntO_congr {A B : Nat → Int32} {key : Int32} : ∀ {n : Nat}, (∀ k, k < n → A (92 + 2 * k) = B (92 + 2 * k)) → cntO A key n = cntO B key n
  | 0, _ => rfl
  | n + 1, h => by
    unfold cntO
    rw [h n (by omega), cntO_congr (fun k hk => h k (by omega))]
theorem TX_at {A : Nat → Int32} {nx k key : Nat} (h : TX A nx) (hc : cntO A (nI key) nx = some k) (hk3 : key < 3) : k < nx ∧ ∃ n, n ≤ 96 ∧ rm (A (92 + 2 * k)) 1000 = nI n ∧ lenA A k = n ∧ wfc (cdA A k) (nmK key) n := by
  obtain ⟨h1, h2⟩ := cntO_some hc
  obtain ⟨key', n, h3, h4, h5, h6⟩ := h k h1
  have e1 : A (92 + 2 * k) / 1000 = nI key' := by
    rw [h5, show (1000 : Int32) = nI 1000 from rfl, pk_div (by omega) (by omega) (by omega)]
    congr 1
    omega
  have e2 : key' = key := (nI_eq (by omega) (by omega)).mp (e1.symm.trans h2)
  subst e2
  have e3 : rm (A (92 + 2 * k)) 1000 = nI n := by
    unfold rm
    rw [h5, show (1000 : Int32) = nI 1000 from rfl, pk_rem (by omega) (by omega) (by omega)]
    congr 1
    omega
  refine ⟨h1, n, h4, e3, ?_, h6⟩
  unfold lenA
  rw [e3, nI_clamp (by omega)]
theorem nx_of {A : Nat → Int32} {n : Nat} (h : A 7 = nI n) (hn : n ≤ 14) : nxA A = n := by unfold nxA; rw [h, nI_clamp (by omega)]
theorem nt_of {A : Nat → Int32} {n : Nat} (h : A 1 = nI n) (hn : n ≤ 8) : ntA A = n := by unfold ntA; rw [h, nI_clamp (by omega)]
theorem nw_of {A : Nat → Int32} {n : Nat} (h : A 6 = nI n) (hn : n ≤ 12) : nwA A = n := by unfold nwA; rw [h, nI_clamp (by omega)]
theorem evR_congr {c fa fb : Nat → Int32} {nm n : Nat} (hw : wfc c nm n) (h4 : nm ≤ 4) (hf : ∀ i, i < nm → fa i = fb i) : evR c fa n = evR c fb n := by
  unfold evR
  rw [evL_congr hf n (fun k hk => (hw.2.2 k hk).2) h4]
theorem opI_none : opI none < 0 := by decide
theorem opI_some {k : Nat} (h : k < 2 ^ 31) : ¬ opI (some k) < 0 := nI_pos h
theorem r_stepTail2 {d L : Nat} {m1 : Mem} {A : Nat → Int32} {Q : Qt} {t : Nat} {x w p q : Int32} (ht : t < 8) (hA : m1 140 = A) (hq : q = quickV (A 4) p) (h : Q (some (.int (stepV (A (44 + 6 * t + 0)) p (A 4) (A (44 + 6 * t + 3)) x))) (S0 L) m1) :
    Xs (d + 2) 123 97 [some (.ref 139), some (.int (nI t)), some (.int x), some (.int w), some (.int p), some (.int q), none] [] (S0 L) (0, 0) m1 Q := by
  subst hA
  subst hq
  refine Xs_wp nocut t123 200 ?_
  refine ⟨by decide, ?_⟩
  refine ⟨⟨rfl, ltB rfl⟩, r_of (w := 3) ht (by omega) ?_⟩
  refine ⟨by decide, ?_⟩
  refine ⟨⟨rfl, ltB rfl⟩, r_of (w := 0) ht (by omega) ?_⟩
  unfold stepV at h
  obtain ⟨h1, h⟩ := qif h
  refine ifI (fun z => ?_) (fun z => ?_)
  · exact ⟨by decide, h1 z⟩
  replace h := h z
  obtain ⟨h1, h⟩ := qif h
  refine ifI (fun z => h1 z) (fun z => ?_)
  replace h := h z
  obtain ⟨h1, h⟩ := qif h
  refine ifI (fun z => ?_) (fun z => ?_)
  · have h2 := h1 z
    unfold oldV at h2
    obtain ⟨h3, h4⟩ := qif h2
    exact ifI (fun y => h3 y) (fun y => h4 y)
  replace h := h z
  obtain ⟨h1, h⟩ := qif h
  refine ifI (fun z => h1 z) (fun z => ?_)
  replace h := h z
  obtain ⟨h1, h⟩ := qif h
  refine ifI (fun z => h1 z) (fun z => ?_)
  exact h z
theorem r_stepTail {d L : Nat} {m1 : Mem} {A : Nat → Int32} {Q : Qt} {t : Nat} {x w p : Int32} (ht : t < 8) (hA : m1 140 = A) (h : Q (some (.int (stepV (A (44 + 6 * t + 0)) p (A 4) (A (44 + 6 * t + 3)) x))) (S0 L) m1) :
    Xs (d + 2) 123 75 [some (.ref 139), some (.int (nI t)), some (.int x), some (.int w), some (.int p), none, none] [] (S0 L) (0, 0) m1 Q := by
  subst hA
  refine Xs_wp (cut1 97) t123 200 ?_
  refine ⟨⟨rfl, ltB rfl, neB rfl⟩, ?_⟩
  rw [rf_now]
  refine ⟨⟨rfl, ltB rfl, vinB rfl⟩, ?_⟩
  rw [lc4]
  refine ifI (fun z => ?_) (fun z => ?_)
  · exact r_stepTail2 ht rfl (by unfold quickV; rw [if_pos z]) h
  · exact r_stepTail2 ht rfl (by unfold quickV; rw [if_neg z]) h
theorem r_stepBy {d L : Nat} {mem : Mem} {Q : Qt} {t nx : Nat} {x : Int32} (ht : t < 8) (hx : mem 140 7 = nI nx) (hx14 : nx ≤ 14) (hT : TX (mem 140) nx)
    (h : ∀ m', Fr [150, 151] mem m' → Q (some (.int (stepA (mem 140) t x))) (S0 L) m') : Mc (d + 3) 123 [.ref 139, .int (nI t), .int x] (S0 L) mem Q := by
  refine Mc_wp (cut1 75) t123 rfl rfl rfl 200 ?_
  refine ⟨⟨rfl, ltB rfl⟩, r_counts hx hx14 ?_⟩
  refine ⟨⟨rfl, ltB rfl, neB rfl⟩, ?_⟩
  rw [rf_facts]
  refine ⟨⟨rfl, ltB rfl⟩, r_of (w := 1) ht (by omega) ?_⟩
  refine ⟨⟨rfl, ltB rfl, vinB rfl⟩, ?_⟩
  rw [lc0]
  refine ⟨⟨rfl, ltB rfl, neB rfl⟩, ?_⟩
  rw [rf_facts]
  refine ⟨⟨rfl, ltB rfl⟩, r_of (w := 3) ht (by omega) ?_⟩
  refine ⟨⟨rfl, ltB rfl, vinB rfl⟩, ?_⟩
  rw [lc1]
  refine ⟨⟨rfl, ltB rfl, neB rfl⟩, ?_⟩
  rw [rf_facts]
  refine ⟨⟨rfl, ltB rfl, neB rfl⟩, ?_⟩
  rw [rf_now]
  refine ⟨⟨rfl, ltB rfl, vinB rfl⟩, ?_⟩
  rw [lc4]
  refine ⟨⟨rfl, ltB rfl, vinB rfl⟩, ?_⟩
  rw [lc2]
  refine ⟨⟨rfl, ltB rfl, neB rfl⟩, ?_⟩
  rw [rf_facts]
  refine ⟨⟨rfl, ltB rfl, vinB rfl⟩, ?_⟩
  rw [lc3]
  have e140 : (140 : Nat) ≠ 151 := by decide
  simp only [mu_row e140]
  have hF : ∀ a b c e, Fr [150, 151] mem (mu (mu (mu (mu mem 151 0 a) 151 1 b) 151 2 c) 151 3 e) := fun a b c e => (((Fr.refl.mu (by simp)).mu (by simp)).mu (by simp)).mu (by simp)
  have h151 : ∀ a b c e i, i < 4 → mu (mu (mu (mu mem 151 0 a) 151 1 b) 151 2 c) 151 3 e 151 i = fa4 a b c e i := by
    intro a b c e i hi
    rcases (show i = 0 ∨ i = 1 ∨ i = 2 ∨ i = 3 by omega) with rfl | rfl | rfl | rfl <;> rfl
  unfold stepA plainA at h
  rw [nx_of hx hx14] at h
  cases hc : cntO (mem 140) 0 nx with
  | none =>
    rw [hc] at h
    refine ⟨⟨rfl, ltB rfl⟩, r_of (w := 1) ht (by omega) ?_⟩
    refine r_stepTail (A := mem 140) ht ?_ ?_
    · simp only [mu_row e140]
    · simp only [mu_row e140]
      exact h _ (hF _ _ _ _)
  | some k =>
    rw [hc] at h
    obtain ⟨k1, n, k2, k3, k4, k5⟩ := TX_at (key := 0) hT hc (by omega)
    refine ifI (fun q => absurd q (opI_some (by omega))) (fun _ => ?_)
    refine ⟨⟨rfl, ltB rfl⟩, r_worksOut (x := k) (n := n) (nm := 4) (by omega) ?_ ?_ (by omega) (fun st => ?_)⟩
    · simp only [mu_row e140]; exact k3
    · simp only [mu_row e140]; exact k5
    refine r_within ?_
    refine r_stepTail (A := mem 140) ht ?_ ?_
    · rw [mr_ne (by decide)]; simp only [mu_row e140]
    · simp only [mu_row e140]
      have h9 := h _ ((hF (mem 140 (44 + 6 * t + 1)) (mem 140 (44 + 6 * t + 3)) (mem 140 4) x).mr (a := 150) (f := st) (by simp))
      have e9 : woA (mem 140) k (fa4 (mem 140 (44 + 6 * t + 1)) (mem 140 (44 + 6 * t + 3)) (mem 140 4) x) = evR (cdA (mem 140) k) (mu (mu (mu (mu mem 151 0 (mem 140 (44 + 6 * t + 1))) 151 1 (mem 140 (44 + 6 * t + 3))) 151 2 (mem 140 4)) 151 3 x 151) n := by
        unfold woA
        rw [k4]
        exact evR_congr k5 (by decide) (fun i hi => (h151 _ _ _ _ i hi).symm)
      dsimp only at h9
      rw [e9] at h9
      exact h9
