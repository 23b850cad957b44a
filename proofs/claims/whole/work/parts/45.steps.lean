-- the class: steps
theorem tol_none : tol (opI none) = NONEv := by decide
theorem tol_some {k : Nat} (h : k < 2 ^ 31) : tol (opI (some k)) = nI k := by
  unfold tol opI
  exact if_neg (nI_pos h)
theorem none_ne {k : Nat} (h : k < 2 ^ 31) : ¬ nI k = NONEv := fun e => absurd (by rw [e]; decide : nI k < 0) (nI_pos h)
theorem c_givesA {d L : Nat} {mem : Mem} {Q : Qt} {k key nx : Nat} {A : Nat → Int32} {a1 a2 a3 a4 : Int32} (hx14 : nx ≤ 14) (hT : RepT nx A mem) (hk3 : key < 3) (hc : cntO A (nI key) nx = some k)
    (h : ∀ m', Fr [3, 4] mem m' → Q (some (.int (woA A k (fa4 a1 a2 a3 a4)))) (S0 L) m') : Mc (d + 3) 1 [.ref 1, .int (nI k), .int a1, .int a2, .int a3, .int a4] (S0 L) mem Q := by
  obtain ⟨h1, n, h2, h3, h4, h5⟩ := TX_at hT.tx hc hk3
  obtain ⟨key', n', g1, g2, g3, g4, g5, g6, g7, g8, g9⟩ := hT k h1
  have en : n' = n := by
    unfold rm at h3
    rw [g3, show (1000 : Int32) = nI 1000 from rfl, pk_rem (by omega) (by omega) (by omega)] at h3
    have := (nI_eq (by omega) (by omega)).mp h3
    omega
  subst en
  have hnm : nmK key ≤ 4 := by
    rcases (show key = 0 ∨ key = 1 ∨ key = 2 by omega) with rfl | rfl | rfl <;> decide
  refine c_gives (c := cdA A k) (by omega) g5 g8 g9 h5 hnm (fun m' hm => ?_)
  have := h m' hm
  unfold woA at this
  rw [h4] at this
  exact this
theorem c_lapsOf {d L : Nat} {mem : Mem} {Q : Qt} {b c : Nat} (hb : MB b) (hc : tuC L c) (hy : ¬ mem b 7 = 0) (h : Q (some (.int (fdV (mem c 2) (mem b 7)))) (S0 L) mem) : Mc (d + 2) 9 [.ref b, .ref c] (S0 L) mem Q := by
  refine Mc_wp nocut t9 rfl rfl rfl 30 ?_
  refine ⟨hc, ?_⟩
  refine ⟨moC hb, ?_⟩
  exact c_floorDiv hy h
theorem c_yardOf {d L : Nat} {mem : Mem} {Q : Qt} {b c : Nat} (hb : MB b) (hc : tuC L c) (hy : ¬ mem b 7 = 0) (h : Q (some (.int (fmV (mem c 2) (mem b 7)))) (S0 L) mem) : Mc (d + 2) 10 [.ref b, .ref c] (S0 L) mem Q := by
  refine Mc_wp nocut t10 rfl rfl rfl 30 ?_
  refine ⟨hc, ?_⟩
  refine ⟨moC hb, ?_⟩
  exact c_floorMod hy h
theorem c_plainStep {d L : Nat} {mem : Mem} {Q : Qt} {b nt nw nx t : Nat} {A : Nat → Int32} {x : Int32} (hb : MB b) (hR : RepM b nt nw nx A mem) (hT : RepT nx A mem) (ht : t < nt)
    (h : ∀ m', Fr [3, 4] mem m' → Q (some (.int (plainA A t x))) (S0 L) m') : Mc (d + 4) 12 [.ref b, .ref (b + 4 + t), .int x] (S0 L) mem Q := by
  obtain ⟨h1, h2, h3, h4, h5, h6⟩ := hR
  have hc : tuC L (b + 4 + t) := heC hb (by omega)
  have p1 := h4 t 1 ht (by omega)
  have p3 := h4 t 3 ht (by omega)
  have c0 := h6 0 (by omega)
  have hnx : nxA A = nx := nx_of h2.2.2 h3.2.2
  refine Mc_wp nocut t12 rfl rfl rfl 60 ?_
  refine ⟨moK3 hb, ?_⟩
  rw [moV3 hb]
  refine ⟨coK hb (rfl : (0 : Int32) = nI 0) (show 0 < 3 by decide), ?_⟩
  rw [lc0, c0]
  cases hcn : cntO A (nI 0) nx with
  | none =>
    have hp : plainA A t x = A (44 + 6 * t + 1) := by unfold plainA; rw [hnx, show cntO A 0 nx = none from hcn]
    rw [tol_none]
    refine ⟨hc, ?_⟩
    rw [p1]
    have := h mem Fr.refl
    rw [hp] at this
    exact this
  | some k =>
    have hp : plainA A t x = clamp (woA A k (fa4 (A (44 + 6 * t + 1)) (A (44 + 6 * t + 3)) (A 4) x)) 0 99 := by unfold plainA; rw [hnx, show cntO A 0 nx = some k from hcn]
    have hk := (cntO_some hcn).1
    rw [tol_some (by omega)]
    refine ifI (fun q => absurd q (none_ne (by omega))) (fun _ => ?_)
    refine ⟨moK0 hb, ?_⟩
    rw [moV0 hb]
    refine ⟨hc, ?_⟩
    refine ⟨hc, ?_⟩
    refine ⟨moC hb, ?_⟩
    rw [p1, p3, h1.2.2.2.2.1]
    refine ⟨⟨rfl, ltB rfl⟩, c_givesA h3.2.2 hT (by omega) hcn (fun m' hm => ?_)⟩
    refine c_held ?_
    rw [held_clamp (by decide)]
    have := h m' hm
    rw [hp] at this
    exact this
theorem c_haste {d L : Nat} {mem : Mem} {Q : Qt} {b : Nat} (hb : MB b) (h : Q (some (.int (if mem b 8 < 20 then 3 else 0))) (S0 L) mem) : Mc (d + 1) 13 [.ref b] (S0 L) mem Q := by
  refine Mc_wp nocut t13 rfl rfl rfl 30 ?_
  refine ⟨moC hb, ?_⟩
  obtain ⟨h1, h2⟩ := qif h
  exact ifI (fun q => h1 q) (fun q => h2 q)
theorem haste_q {c p : Int32} : p + (if c < 20 then 3 else 0) = quickV c p := by
  unfold quickV
  by_cases h : c < 20
  · rw [if_pos h, if_pos h]
  · rw [if_neg h, if_neg h]; exact Int32.add_zero p
theorem max_old {p a : Int32} : maxV 0 (p / 2 - a / 1000) = oldV p a := by
  unfold maxV oldV
  by_cases h : p / 2 - a / 1000 < 0
  · rw [if_pos h, if_neg]
    intro q
    have := tI_lt.mp h; have := tI_lt.mp q; omega
  · rw [if_neg h]
    by_cases h2 : 0 < p / 2 - a / 1000
    · rw [if_pos h2]
    · rw [if_neg h2]
      rw [tI_lt] at h h2
      rw [tI_eq]; omega
theorem c_stepOf {d L : Nat} {mem : Mem} {Q : Qt} {b nt nw nx t : Nat} {A : Nat → Int32} {x : Int32} (hb : MB b) (hR : RepM b nt nw nx A mem) (hT : RepT nx A mem) (ht : t < nt)
    (h : ∀ m', Fr [3, 4] mem m' → Q (some (.int (stepA A t x))) (S0 L) m') : Mc (d + 5) 11 [.ref b, .ref (b + 4 + t), .int x] (S0 L) mem Q := by
  have hc : tuC L (b + 4 + t) := heC hb (by have := hR.2.2.1.1; omega)
  have p0 := hR.2.2.2.1 t 0 ht (by omega)
  have p3 := hR.2.2.2.1 t 3 ht (by omega)
  have hcold : mem b 8 = A 4 := hR.1.2.2.2.2.1
  have rowb : ∀ {m' : Mem}, Fr [3, 4] mem m' → ∀ r, 5 ≤ r → m' r = mem r := fun hF r hr => hF r (by simp; omega)
  have hb5 : 35 ≤ b := by rcases hb with rfl | rfl | rfl <;> omega
  have key : ∀ {r : Int32} {k : Int32}, A (44 + 6 * t + 0) = k → stepV k (plainA A t x) (A 4) (A (44 + 6 * t + 3)) x = r → ∀ m', Fr [3, 4] mem m' → Q (some (.int r)) (S0 L) m' := by
    intro r k hk hr m' hm
    have := h m' hm
    unfold stepA at this
    rw [hk, hr] at this
    exact this
  refine Mc_wp nocut t11 rfl rfl rfl 60 ?_
  refine ⟨hc, ?_⟩
  rw [p0]
  refine ifI (fun q => ?_) (fun q1 => ?_)
  · refine ⟨moC hb, c_plainStep hb hR hT ht (fun m' hm => ?_)⟩
    exact ⟨by decide, key (k := 1) q rfl m' hm⟩
  refine ifI (fun q => ?_) (fun q2 => ?_)
  · refine ⟨moC hb, c_plainStep hb hR hT ht (fun m' hm => ?_)⟩
    refine ⟨moC hb, c_haste hb ?_⟩
    rw [rowb hm b (by omega), hcold]
    show Q (some (.int (plainA A t x + (if A 4 < 20 then 3 else 0)))) (S0 L) m'
    rw [haste_q]
    exact key (k := 2) q rfl m' hm
  refine ifI (fun q => ?_) (fun q3 => ?_)
  · refine ⟨moC hb, c_plainStep hb hR hT ht (fun m' hm => ?_)⟩
    refine ⟨by decide, ?_⟩
    refine ⟨hc, ?_⟩
    rw [rowb hm (b + 4 + t) (by omega), p3]
    refine ⟨by decide, ?_⟩
    refine c_max ?_
    rw [max_old]
    exact key (k := 3) q rfl m' hm
  refine ifI (fun q => ?_) (fun q4 => ?_)
  · refine ⟨moC hb, c_plainStep hb hR hT ht (fun m' hm => ?_)⟩
    refine ⟨moC hb, c_haste hb ?_⟩
    rw [rowb hm b (by omega), hcold]
    show Q (some (.int (plainA A t x + (if A 4 < 20 then 3 else 0) + x))) (S0 L) m'
    rw [haste_q]
    exact key (k := 4) q rfl m' hm
  refine ifI (fun q => ?_) (fun q5 => ?_)
  · exact key (k := 5) q rfl mem Fr.refl
  · refine ⟨moC hb, c_plainStep hb hR hT ht (fun m' hm => ?_)⟩
    refine key (k := A (44 + 6 * t + 0)) rfl ?_ m' hm
    unfold stepV
    rw [if_neg (show ¬ A (44 + 6 * t + 0) = 1 from q1), if_neg (show ¬ A (44 + 6 * t + 0) = 2 from q2), if_neg (show ¬ A (44 + 6 * t + 0) = 3 from q3), if_neg (show ¬ A (44 + 6 * t + 0) = 4 from q4), if_neg (show ¬ A (44 + 6 * t + 0) = 5 from q5)]
