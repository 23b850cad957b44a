-- the class: who leads, sums, wagers
theorem c_ahead {d L : Nat} {mem : Mem} {Q : Qt} {b nt nw nx : Nat} {A : Nat → Int32} (hb : MB b) (hR : RepM b nt nw nx A mem) (h : Q (some (.int (opI (ahA A)))) (S0 L) mem) : Mc (d + 1) 16 [.ref b] (S0 L) mem Q := by
  have hn8 := hR.2.2.1.1
  have loop : ∀ k t, t + k = nt → Xs (d + 1) 16 4 [some (.ref b), some (.int (opI (ahO A t))), some (.int (nI t))] [] (S0 L) (0, 0) mem Q := by
    intro k
    induction k with
    | zero =>
      intro t ht
      have ht : t = nt := by omega
      subst ht
      refine Xs_wp (cut1 4) t16 60 ?_
      refine ⟨moC hb, ?_⟩
      rw [hR.1.1]
      refine ifI (fun q => absurd q (nI_nlt (Nat.le_refl _) (by omega))) (fun _ => ?_)
      unfold ahA at h
      rw [nt_of hR.2.1.1 hn8] at h
      exact h
    | succ k ih =>
      intro t ht
      have h1 := ih (t + 1) (by omega)
      rw [← nI_1] at h1
      have hs : ahO A (t + 1) = _ := ahO.eq_2 A t
      refine Xs_wp (cut1 4) t16 60 ?_
      refine ⟨moC hb, ?_⟩
      rw [hR.1.1]
      refine ifI (fun _ => ?_) (fun q => absurd (nI_lt (by omega) (by omega)) q)
      cases ho : ahO A t with
      | none =>
        rw [ho] at hs
        rw [hs] at h1
        exact h1
      | some f =>
        have hft := ahO_lt ho
        rw [ho] at hs
        dsimp only at hs
        refine ifI (fun q => absurd q (opI_some (by omega))) (fun _ => ?_)
        refine ⟨moK1 hb, ?_⟩
        rw [moV1 hb]
        refine ⟨heK hb (rfl : nI t = nI t) (by omega), ?_⟩
        rw [heV hb (rfl : nI t = nI t) (show t < 8 by omega)]
        refine ⟨heC hb (by omega), ?_⟩
        refine ⟨moK1 hb, ?_⟩
        rw [moV1 hb]
        refine ⟨heK hb (rfl : opI (some f) = nI f) (by omega), ?_⟩
        rw [heV hb (rfl : opI (some f) = nI f) (show f < 8 by omega)]
        refine ⟨heC hb (by omega), ?_⟩
        rw [hR.2.2.2.1 t 2 (by omega) (by omega), hR.2.2.2.1 f 2 (by omega) (by omega)]
        refine ifI (fun q => ?_) (fun q => ?_)
        · rw [hs, if_pos q] at h1; exact h1
        · rw [hs, if_neg q] at h1; exact h1
  refine Mc_wp (cut1 4) t16 rfl rfl rfl 60 ?_
  exact loop nt 0 (by omega)
theorem c_paths {d L : Nat} {mem : Mem} {Q : Qt} {b nt nw nx : Nat} {A : Nat → Int32} (hb : MB b) (hR : RepM b nt nw nx A mem) (h : Q (some (.int (smA A 2))) (S0 L) mem) : Mc (d + 1) 17 [.ref b] (S0 L) mem Q := by
  have hn8 := hR.2.2.1.1
  have loop : ∀ k t, t + k = nt → Xs (d + 1) 17 4 [some (.ref b), some (.int (smF A 2 t)), some (.int (nI t))] [] (S0 L) (0, 0) mem Q := by
    intro k
    induction k with
    | zero =>
      intro t ht
      have ht : t = nt := by omega
      subst ht
      refine Xs_wp (cut1 4) t17 60 ?_
      refine ⟨moC hb, ?_⟩
      rw [hR.1.1]
      refine ifI (fun q => absurd q (nI_nlt (Nat.le_refl _) (by omega))) (fun _ => ?_)
      unfold smA at h
      rw [nt_of hR.2.1.1 hn8] at h
      exact h
    | succ k ih =>
      intro t ht
      have h1 := ih (t + 1) (by omega)
      rw [← nI_1, smF.eq_2] at h1
      refine Xs_wp (cut1 4) t17 60 ?_
      refine ⟨moC hb, ?_⟩
      rw [hR.1.1]
      refine ifI (fun _ => ?_) (fun q => absurd (nI_lt (by omega) (by omega)) q)
      refine ⟨moK1 hb, ?_⟩
      rw [moV1 hb]
      refine ⟨heK hb (rfl : nI t = nI t) (by omega), ?_⟩
      rw [heV hb (rfl : nI t = nI t) (show t < 8 by omega)]
      refine ⟨heC hb (by omega), ?_⟩
      rw [hR.2.2.2.1 t 2 (by omega) (by omega)]
      exact h1
  refine Mc_wp (cut1 4) t17 rfl rfl rfl 60 ?_
  exact loop nt 0 (by omega)
theorem c_dead {d L : Nat} {mem : Mem} {Q : Qt} {b nt nw nx : Nat} {A : Nat → Int32} (hb : MB b) (hR : RepM b nt nw nx A mem) (hW : WB nt A) (h : Q (some (.int (smA A 5))) (S0 L) mem) : Mc (d + 1) 18 [.ref b] (S0 L) mem Q := by
  have hn8 := hR.2.2.1.1
  have loop : ∀ k t, t + k = nt → Xs (d + 1) 18 4 [some (.ref b), some (.int (smF A 5 t)), some (.int (nI t))] [] (S0 L) (0, 0) mem Q := by
    intro k
    induction k with
    | zero =>
      intro t ht
      have ht : t = nt := by omega
      subst ht
      refine Xs_wp (cut1 4) t18 60 ?_
      refine ⟨moC hb, ?_⟩
      rw [hR.1.1]
      refine ifI (fun q => absurd q (nI_nlt (Nat.le_refl _) (by omega))) (fun _ => ?_)
      unfold smA at h
      rw [nt_of hR.2.1.1 hn8] at h
      exact h
    | succ k ih =>
      intro t ht
      have h1 := ih (t + 1) (by omega)
      rw [← nI_1, smF.eq_2] at h1
      refine Xs_wp (cut1 4) t18 60 ?_
      refine ⟨moC hb, ?_⟩
      rw [hR.1.1]
      refine ifI (fun _ => ?_) (fun q => absurd (nI_lt (by omega) (by omega)) q)
      refine ⟨moK1 hb, ?_⟩
      rw [moV1 hb]
      refine ⟨heK hb (rfl : nI t = nI t) (by omega), ?_⟩
      rw [heV hb (rfl : nI t = nI t) (show t < 8 by omega)]
      refine ⟨heC hb (by omega), ?_⟩
      rw [hR.2.2.2.1 t 5 (by omega) (by omega)]
      refine ifI (fun q => ?_) (fun q => ?_)
      · have q' : A (44 + 6 * t + 5) = 0 := q
        rw [q'] at h1; exact h1
      · have q' : A (44 + 6 * t + 5) = 1 := by
          rcases (hW t (by omega)).2 with z | z
          · exact absurd z q
          · exact z
        rw [q'] at h1; exact h1
  refine Mc_wp (cut1 4) t18 rfl rfl rfl 60 ?_
  exact loop nt 0 (by omega)
theorem c_stakesOfAll {d L : Nat} {mem : Mem} {Q : Qt} {b nt nw nx : Nat} {A : Nat → Int32} (hb : MB b) (hR : RepM b nt nw nx A mem) (h : Q (some (.int (stA A (-1)))) (S0 L) mem) : Mc (d + 1) 19 [.ref b] (S0 L) mem Q := by
  have hn12 := hR.2.2.1.2.1
  have loop : ∀ k t, t + k = nw → Xs (d + 1) 19 4 [some (.ref b), some (.int (stF A (-1) t)), some (.int (nI t))] [] (S0 L) (0, 0) mem Q := by
    intro k
    induction k with
    | zero =>
      intro t ht
      have ht : t = nw := by omega
      subst ht
      refine Xs_wp (cut1 4) t19 60 ?_
      refine ⟨moC hb, ?_⟩
      rw [hR.1.2.1]
      refine ifI (fun q => absurd q (nI_nlt (Nat.le_refl _) (by omega))) (fun _ => ?_)
      unfold stA at h
      rw [nw_of hR.2.1.2.1 hn12] at h
      exact h
    | succ k ih =>
      intro t ht
      have h1 := ih (t + 1) (by omega)
      rw [← nI_1, stF.eq_2, if_pos (by decide)] at h1
      refine Xs_wp (cut1 4) t19 60 ?_
      refine ⟨moC hb, ?_⟩
      rw [hR.1.2.1]
      refine ifI (fun _ => ?_) (fun q => absurd (nI_lt (by omega) (by omega)) q)
      refine ⟨moK2 hb, ?_⟩
      rw [moV2 hb]
      refine ⟨beK hb (rfl : nI t = nI t) (by omega), ?_⟩
      rw [beV hb (rfl : nI t = nI t) (show t < 12 by omega)]
      refine ⟨beC hb (by omega), ?_⟩
      rw [hR.2.2.2.2.1 t 2 (by omega) (by omega)]
      exact h1
  refine Mc_wp (cut1 4) t19 rfl rfl rfl 60 ?_
  exact loop nw 0 (by omega)
theorem c_stakesOn {d L : Nat} {mem : Mem} {Q : Qt} {b nt nw nx : Nat} {A : Nat → Int32} {tt : Int32} (hb : MB b) (hR : RepM b nt nw nx A mem) (htt : ¬ tt < 0) (h : Q (some (.int (stA A tt))) (S0 L) mem) : Mc (d + 1) 20 [.ref b, .int tt] (S0 L) mem Q := by
  have hn12 := hR.2.2.1.2.1
  have loop : ∀ k t, t + k = nw → Xs (d + 1) 20 4 [some (.ref b), some (.int tt), some (.int (stF A tt t)), some (.int (nI t))] [] (S0 L) (0, 0) mem Q := by
    intro k
    induction k with
    | zero =>
      intro t ht
      have ht : t = nw := by omega
      subst ht
      refine Xs_wp (cut1 4) t20 60 ?_
      refine ⟨moC hb, ?_⟩
      rw [hR.1.2.1]
      refine ifI (fun q => absurd q (nI_nlt (Nat.le_refl _) (by omega))) (fun _ => ?_)
      unfold stA at h
      rw [nw_of hR.2.1.2.1 hn12] at h
      exact h
    | succ k ih =>
      intro t ht
      have h1 := ih (t + 1) (by omega)
      rw [← nI_1, stF.eq_2, if_neg htt] at h1
      refine Xs_wp (cut1 4) t20 60 ?_
      refine ⟨moC hb, ?_⟩
      rw [hR.1.2.1]
      refine ifI (fun _ => ?_) (fun q => absurd (nI_lt (by omega) (by omega)) q)
      refine ⟨moK2 hb, ?_⟩
      rw [moV2 hb]
      refine ⟨beK hb (rfl : nI t = nI t) (by omega), ?_⟩
      rw [beV hb (rfl : nI t = nI t) (show t < 12 by omega)]
      refine ⟨beC hb (by omega), ?_⟩
      rw [hR.2.2.2.2.1 t 1 (by omega) (by omega)]
      refine ifI (fun q => ?_) (fun q => ?_)
      · rw [if_pos q] at h1
        refine ⟨moK2 hb, ?_⟩
        rw [moV2 hb]
        refine ⟨beK hb (rfl : nI t = nI t) (by omega), ?_⟩
        rw [beV hb (rfl : nI t = nI t) (show t < 12 by omega)]
        refine ⟨beC hb (by omega), ?_⟩
        rw [hR.2.2.2.2.1 t 2 (by omega) (by omega)]
        exact h1
      · rw [if_neg q] at h1
        exact h1
  refine Mc_wp (cut1 4) t20 rfl rfl rfl 60 ?_
  exact loop nw 0 (by omega)
/-- stakes are numbers of a wager -/
def WS (nw : Nat) (A : Nat → Int32) : Prop := ∀ w, w < nw → 0 ≤ (A (8 + 3 * w + 2)).toInt ∧ (A (8 + 3 * w + 2)).toInt ≤ 9999
theorem stF_rng {A : Nat → Int32} {nw : Nat} {tt : Int32} (hS : WS nw A) (h12 : nw ≤ 12) : ∀ n, n ≤ nw → 0 ≤ (stF A tt n).toInt ∧ (stF A tt n).toInt ≤ 9999 * (n : Int)
  | 0, _ => ⟨show (0 : Int) ≤ (0 : Int32).toInt by decide, show (0 : Int32).toInt ≤ 9999 * ((0 : Nat) : Int) by decide⟩
  | n + 1, hn => by
    have ih := stF_rng (tt := tt) hS h12 n (by omega)
    have hs := hS n (by omega)
    rw [stF.eq_2]
    by_cases q : tt < 0
    · rw [if_pos q, tI_add (by omega) (by omega)]; omega
    · rw [if_neg q]
      by_cases q2 : A (8 + 3 * n + 1) = tt
      · rw [if_pos q2, tI_add (by omega) (by omega)]; omega
      · rw [if_neg q2, Int32.add_zero]; omega
theorem stA_pos {A : Nat → Int32} {nw : Nat} {tt : Int32} (hS : WS nw A) (h12 : nw ≤ 12) (hn : A 6 = nI nw) : 0 ≤ stA A tt := by
  unfold stA
  rw [nw_of hn h12, tI_le]
  exact (stF_rng hS h12 nw (Nat.le_refl _)).1
theorem c_paidFor {d L : Nat} {mem : Mem} {Q : Qt} {b nt nw nx w : Nat} {A : Nat → Int32} {tt : Int32} (hb : MB b) (hR : RepM b nt nw nx A mem) (hT : RepT nx A mem) (hS : WS nw A) (htt : ¬ tt < 0) (hw : w < nw)
    (h : ∀ m', Fr [3, 4] mem m' → Q (some (.int (paysA A w tt))) (S0 L) m') : Mc (d + 4) 21 [.ref b, .ref (b + 12 + w), .int tt] (S0 L) mem Q := by
  have hn12 := hR.2.2.1.2.1
  have hc : waC L (b + 12 + w) := beC hb (by omega)
  have hnx : nxA A = nx := nx_of hR.2.1.2.2 hR.2.2.1.2.2
  unfold paysA at h
  refine Mc_wp nocut t21 rfl rfl rfl 100 ?_
  refine ⟨hc, ?_⟩
  rw [hR.2.2.2.2.1 w 1 hw (by omega)]
  refine ifI (fun q => ?_) (fun q => ?_)
  rotate_left 1
  · have := h mem Fr.refl
    rw [if_neg q] at this
    exact this
  simp only [if_pos q] at h
  refine ⟨moC hb, c_stakesOfAll hb hR ?_⟩
  refine ⟨moC hb, c_stakesOn hb hR htt ?_⟩
  refine ⟨moK3 hb, ?_⟩
  rw [moV3 hb]
  refine ⟨coK hb (rfl : (1 : Int32) = nI 1) (show 1 < 3 by decide), ?_⟩
  rw [lc1, hR.2.2.2.2.2 1 (by omega)]
  rw [hnx] at h
  cases hcn : cntO A (nI 1) nx with
  | none =>
    rw [show cntO A 1 nx = none from hcn] at h
    dsimp only at h
    rw [tol_none]
    unfold payV at h
    obtain ⟨h1, h2⟩ := qif (h _ Fr.refl)
    refine ifI (fun z => h1 z) (fun z => ?_)
    refine ⟨hc, ?_⟩
    rw [hR.2.2.2.2.1 w 2 hw (by omega)]
    refine ⟨?_, h2 z⟩
    intro z2
    apply z
    have := congrArg Int64.toInt32 z2
    simpa using this
  | some k =>
    rw [show cntO A 1 nx = some k from hcn] at h
    dsimp only at h
    have hk := (cntO_some hcn).1
    have := hR.2.2.1.2.2
    rw [tol_some (by omega)]
    refine ifI (fun z => absurd z (none_ne (by omega))) (fun _ => ?_)
    refine ⟨moK0 hb, ?_⟩
    rw [moV0 hb]
    refine ⟨hc, ?_⟩
    rw [hR.2.2.2.2.1 w 2 hw (by omega)]
    refine ⟨⟨rfl, ltB rfl⟩, c_givesA hR.2.2.1.2.2 hT (by omega) hcn (fun m' hm => ?_)⟩
    refine c_held ?_
    rw [held_clamp (stA_pos hS hn12 hR.2.1.2.1)]
    exact h m' hm
theorem c_paidTo {d L : Nat} {mem : Mem} {Q : Qt} {b nt nw nx : Nat} {A : Nat → Int32} {o tt : Int32} (hb : MB b) (hR : RepM b nt nw nx A mem) (hT : RepT nx A mem) (hS : WS nw A) (htt : ¬ tt < 0)
    (h : ∀ m', Fr [3, 4] mem m' → Q (some (.int (paidA A o tt))) (S0 L) m') : Mc (d + 5) 22 [.ref b, .int o, .int tt] (S0 L) mem Q := by
  have hn12 := hR.2.2.1.2.1
  have hb5 := mb_ge hb
  have loop : ∀ k w, w + k = nw → ∀ m, Fr [3, 4] mem m → Xs (d + 5) 22 5 [some (.ref b), some (.int o), some (.int tt), some (.int (pdF A o tt w)), some (.int (nI w))] [] (S0 L) (0, 0) m Q := by
    intro k
    induction k with
    | zero =>
      intro w hw m hF
      have hw : w = nw := by omega
      subst hw
      refine Xs_wp (cut1 5) t22 60 ?_
      refine ⟨moC hb, ?_⟩
      rw [hF b (by simp; omega), hR.1.2.1]
      refine ifI (fun q => absurd q (nI_nlt (Nat.le_refl _) (by omega))) (fun _ => ?_)
      unfold paidA at h
      rw [nw_of hR.2.1.2.1 hn12] at h
      exact h m hF
    | succ k ih =>
      intro w hw m hF
      have hs : pdF A o tt (w + 1) = _ := pdF.eq_2 A o tt w
      have hR' : RepM b nt nw nx A m := hR.fr (fun r h1 h2 => hF r (by simp; omega))
      have hT' : RepT nx A m := hT.fr hR.2.2.1.2.2 (fun r h1 h2 => hF r (by simp; omega))
      refine Xs_wp (cut1 5) t22 60 ?_
      refine ⟨moC hb, ?_⟩
      rw [hR'.1.2.1]
      refine ifI (fun _ => ?_) (fun q => absurd (nI_lt (by omega) (by omega)) q)
      refine ⟨moK2 hb, ?_⟩
      rw [moV2 hb]
      refine ⟨beK hb (rfl : nI w = nI w) (by omega), ?_⟩
      rw [beV hb (rfl : nI w = nI w) (show w < 12 by omega)]
      refine ⟨beC hb (by omega), ?_⟩
      rw [hR'.2.2.2.2.1 w 0 (by omega) (by omega)]
      refine ifI (fun q => ?_) (fun q => ?_)
      · refine ⟨moK2 hb, ?_⟩
        rw [moV2 hb]
        refine ⟨beK hb (rfl : nI w = nI w) (by omega), ?_⟩
        rw [beV hb (rfl : nI w = nI w) (show w < 12 by omega)]
        refine ⟨moC hb, c_paidFor hb hR' hT' hS htt (by omega) (fun m' hF' => ?_)⟩
        have := ih (w + 1) (by omega) m' (hF.trans hF')
        rw [hs, if_pos (show A (8 + 3 * w) = o from q), ← nI_1] at this
        exact this
      · have := ih (w + 1) (by omega) m hF
        rw [hs, if_neg (show ¬ A (8 + 3 * w) = o from q), ← nI_1] at this
        exact this
  refine Mc_wp (cut1 5) t22 rfl rfl rfl 60 ?_
  exact loop nw 0 (by omega) mem Fr.refl
