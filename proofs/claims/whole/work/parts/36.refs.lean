-- the reference: many days, who leads, wagers
theorem dayA_out {A : Nat → Int32} {i : Nat} (h0 : i ≠ 0) (h2 : i ≠ 2) (h : i < 44 ∨ 92 ≤ i) (hn : ntA A ≤ 8) : dayA A i = A i := by
  unfold dayA
  rw [pk_un h2, dayL_out h0 h hn]
theorem r_goesOn {d L : Nat} {Q : Qt} {nt nx : Nat} (hn8 : nt ≤ 8) (hx14 : nx ≤ 14) {n : Nat} {mem : Mem} (hn300 : n < 2 ^ 31) (hn : mem 140 1 = nI nt) (hx : mem 140 7 = nI nx) (hT : TX (mem 140) nx)
    (h : ∀ m', Fr [140, 150, 151] mem m' → m' 140 = goesA n (mem 140) → Q none (S0 L) m') : Mc (d + 5) 137 [.ref 139, .int (nI n)] (S0 L) mem Q := by
  have loop : ∀ k i, i + k = n → ∀ m, Fr [140, 150, 151] mem m → m 140 1 = nI nt → m 140 7 = nI nx → TX (m 140) nx → goesA k (m 140) = goesA n (mem 140) → Xs (d + 5) 137 2 [some (.ref 139), some (.int (nI n)), some (.int (nI i))] [] (S0 L) (0, 0) m Q := by
    intro k
    induction k with
    | zero =>
      intro i hi m hF h1 h7 hT hg
      have hi : i = n := by omega
      subst hi
      refine Xs_wp (cut1 2) t137 60 ?_
      refine ifI (fun q => absurd q (nI_nlt (Nat.le_refl _) (by omega))) (fun _ => ?_)
      exact h m hF hg
    | succ k ih =>
      intro i hi m hF h1 h7 hT hg
      refine Xs_wp (cut1 2) t137 60 ?_
      refine ifI (fun _ => ?_) (fun q => absurd (nI_lt (by omega) (by omega)) q)
      refine ⟨⟨rfl, ltB rfl⟩, r_day h1 hn8 h7 hx14 hT (fun m' hF' hm' => ?_)⟩
      have hnt : ntA (m 140) ≤ 8 := by rw [nt_of h1 hn8]; exact hn8
      have := ih (i + 1) (by omega) m' (hF.trans hF') (by rw [hm', dayA_out (by omega) (by omega) (by omega) hnt]; exact h1) (by rw [hm', dayA_out (by omega) (by omega) (by omega) hnt]; exact h7) (TX_congr (fun i hi => by rw [hm', dayA_out (by omega) (by omega) (by omega) hnt]) hT) (by rw [hm']; exact hg)
      rw [← nI_1] at this
      exact this
  refine Mc_wp (cut1 2) t137 rfl rfl rfl 60 ?_
  exact loop n 0 (by omega) mem Fr.refl hn hx hT rfl
theorem ahO_lt {A : Nat → Int32} : ∀ {n b : Nat}, ahO A n = some b → b < n
  | 0, _, h => by cases h
  | n + 1, b, h => by
    unfold ahO at h
    cases hp : ahO A n with
    | none => rw [hp] at h; cases h; omega
    | some c =>
      rw [hp] at h
      have := ahO_lt hp
      dsimp only at h
      split at h <;> cases h <;> omega
theorem r_ahead {d L : Nat} {mem : Mem} {Q : Qt} {nt : Nat} (hn : mem 140 1 = nI nt) (hn8 : nt ≤ 8) (h : Q (some (.int (opI (ahA (mem 140))))) (S0 L) mem) : Mc (d + 2) 138 [.ref 139] (S0 L) mem Q := by
  have loop : ∀ k t, t + k = nt → Xs (d + 2) 138 4 [some (.ref 139), some (.int (opI (ahO (mem 140) t))), some (.int (nI t))] [] (S0 L) (0, 0) mem Q := by
    intro k
    induction k with
    | zero =>
      intro t ht
      have ht : t = nt := by omega
      subst ht
      refine Xs_wp (cut1 4) t138 60 ?_
      refine ⟨⟨rfl, ltB rfl, neB rfl⟩, ?_⟩
      rw [rf_now]
      refine ⟨⟨rfl, ltB rfl, vinB rfl⟩, ?_⟩
      rw [lc1]
      rw [hn]
      refine ifI (fun q => absurd q (nI_nlt (Nat.le_refl _) (by omega))) (fun _ => ?_)
      unfold ahA at h
      rw [nt_of hn hn8] at h
      exact h
    | succ k ih =>
      intro t ht
      have h1 := ih (t + 1) (by omega)
      rw [← nI_1] at h1
      have hs : ahO (mem 140) (t + 1) = _ := ahO.eq_2 (mem 140) t
      refine Xs_wp (cut1 4) t138 60 ?_
      refine ⟨⟨rfl, ltB rfl, neB rfl⟩, ?_⟩
      rw [rf_now]
      refine ⟨⟨rfl, ltB rfl, vinB rfl⟩, ?_⟩
      rw [lc1]
      rw [hn]
      refine ifI (fun _ => ?_) (fun q => absurd (nI_lt (by omega) (by omega)) q)
      cases hb : ahO (mem 140) t with
      | none =>
        rw [hb] at hs
        rw [hs] at h1
        exact h1
      | some b =>
        have hbt := ahO_lt hb
        rw [hb] at hs
        dsimp only at hs
        refine ifI (fun q => absurd q (opI_some (by omega))) (fun _ => ?_)
        refine ⟨⟨rfl, ltB rfl⟩, r_of (w := 2) (by omega) (by omega) ?_⟩
        refine ⟨⟨rfl, ltB rfl⟩, r_of (w := 2) (t := b) (by omega) (by omega) ?_⟩
        refine ifI (fun q => ?_) (fun q => ?_)
        · rw [hs, if_pos q] at h1; exact h1
        · rw [hs, if_neg q] at h1; exact h1
  refine Mc_wp (cut1 4) t138 rfl rfl rfl 60 ?_
  exact loop nt 0 (by omega)
def fthO (A : Nat → Int32) (n : Int32) : Nat → Option Nat
  | 0 => none
  | t + 1 => if lapsA A t < n then fthO A n t else match fthO A n t with
    | none => some t
    | some b => if A (44 + 6 * b + 2) < A (44 + 6 * t + 2) then some t else some b
theorem fthO_lt {A : Nat → Int32} {x : Int32} : ∀ {n b : Nat}, fthO A x n = some b → b < n
  | 0, _, h => by cases h
  | n + 1, b, h => by
    unfold fthO at h
    split at h
    · have := fthO_lt h; omega
    · cases hp : fthO A x n with
      | none => rw [hp] at h; cases h; omega
      | some c =>
        rw [hp] at h
        have := fthO_lt hp
        dsimp only at h
        split at h <;> cases h <;> omega
theorem r_farthest {d L : Nat} {mem : Mem} {Q : Qt} {nt : Nat} {x : Int32} (hn : mem 140 1 = nI nt) (hn8 : nt ≤ 8) (hm : ¬ mem 140 3 = 0) (h : Q (some (.int (opI (fthO (mem 140) x nt)))) (S0 L) mem) : Mc (d + 4) 153 [.ref 139, .int x] (S0 L) mem Q := by
  have loop : ∀ k t, t + k = nt → Xs (d + 4) 153 4 [some (.ref 139), some (.int x), some (.int (opI (fthO (mem 140) x t))), some (.int (nI t))] [] (S0 L) (0, 0) mem Q := by
    intro k
    induction k with
    | zero =>
      intro t ht
      have ht : t = nt := by omega
      subst ht
      refine Xs_wp (cut1 4) t153 60 ?_
      refine ⟨⟨rfl, ltB rfl, neB rfl⟩, ?_⟩
      rw [rf_now]
      refine ⟨⟨rfl, ltB rfl, vinB rfl⟩, ?_⟩
      rw [lc1]
      rw [hn]
      refine ifI (fun q => absurd q (nI_nlt (Nat.le_refl _) (by omega))) (fun _ => ?_)
      exact h
    | succ k ih =>
      intro t ht
      have h1 := ih (t + 1) (by omega)
      rw [← nI_1] at h1
      have hs : fthO (mem 140) x (t + 1) = _ := fthO.eq_2 (mem 140) x t
      refine Xs_wp (cut1 4) t153 60 ?_
      refine ⟨⟨rfl, ltB rfl, neB rfl⟩, ?_⟩
      rw [rf_now]
      refine ⟨⟨rfl, ltB rfl, vinB rfl⟩, ?_⟩
      rw [lc1]
      rw [hn]
      refine ifI (fun _ => ?_) (fun q => absurd (nI_lt (by omega) (by omega)) q)
      refine ⟨⟨rfl, ltB rfl⟩, r_lapsOf (by omega) hm ?_⟩
      refine ifI (fun q => ?_) (fun q => ?_)
      · rw [hs, if_pos q] at h1; exact h1
      rw [hs, if_neg q] at h1
      cases hb : fthO (mem 140) x t with
      | none =>
        rw [hb] at h1
        exact h1
      | some b =>
        have hbt := fthO_lt hb
        rw [hb] at h1
        dsimp only at h1
        refine ifI (fun q => absurd q (opI_some (by omega))) (fun _ => ?_)
        refine ⟨⟨rfl, ltB rfl⟩, r_of (w := 2) (by omega) (by omega) ?_⟩
        refine ⟨⟨rfl, ltB rfl⟩, r_of (w := 2) (t := b) (by omega) (by omega) ?_⟩
        refine ifI (fun q => ?_) (fun q => ?_)
        · rw [if_pos q] at h1; exact h1
        · rw [if_neg q] at h1; exact h1
  refine Mc_wp (cut1 4) t153 rfl rfl rfl 60 ?_
  exact loop nt 0 (by omega)
theorem r_bets {d L : Nat} {mem : Mem} {Q : Qt} {w : Nat} {o tt s : Int32} (hn : mem 140 6 = nI w) (hw : w < 12) (h : Q (some (.int (nI w))) (S0 L) (mr mem 140 (betA (mem 140) w o tt s))) : Mc (d + 1) 141 [.ref 139, .int o, .int tt, .int s] (S0 L) mem Q := by
  have e0 : (8 + 3 * nI w : Int32) = nI (8 + 3 * w) := ix2 (a := 8) (b := 3) w
  have e1 : (8 + 3 * nI w + 1 : Int32) = nI (8 + 3 * w + 1) := ix3 (a := 8) (b := 3) w 1
  have e2 : (8 + 3 * nI w + 2 : Int32) = nI (8 + 3 * w + 2) := ix3 (a := 8) (b := 3) w 2
  refine Mc_wp nocut t141 rfl rfl rfl 100 ?_
  refine ⟨⟨rfl, ltB rfl, neB rfl⟩, ?_⟩
  rw [rf_now]
  refine ⟨⟨rfl, ltB rfl, vinB rfl⟩, ?_⟩
  rw [lc6]
  rw [hn]
  refine ⟨⟨rfl, ltB rfl, neB rfl⟩, ?_⟩
  rw [rf_now]
  refine ⟨⟨rfl, ltB rfl, vinK e0 (show 8 + 3 * w < 1464 by omega) rfl⟩, ?_⟩
  rw [clK e0 (show 8 + 3 * w < 2 ^ 31 by omega)]
  refine ⟨⟨rfl, ltB rfl, neB rfl⟩, ?_⟩
  rw [rf_now]
  refine ⟨⟨rfl, ltB rfl, vinK e1 (show 8 + 3 * w + 1 < 1464 by omega) rfl⟩, ?_⟩
  rw [clK e1 (show 8 + 3 * w + 1 < 2 ^ 31 by omega)]
  refine ⟨⟨rfl, ltB rfl, neB rfl⟩, ?_⟩
  rw [rf_now]
  refine ⟨⟨rfl, ltB rfl, vinK e2 (show 8 + 3 * w + 2 < 1464 by omega) rfl⟩, ?_⟩
  rw [clK e2 (show 8 + 3 * w + 2 < 2 ^ 31 by omega)]
  refine ⟨⟨rfl, ltB rfl, neB rfl⟩, ?_⟩
  rw [rf_now]
  refine ⟨⟨rfl, ltB rfl, vinB rfl⟩, ?_⟩
  rw [lc6]
  refine ⟨⟨rfl, ltB rfl, vinB rfl⟩, ?_⟩
  rw [lc6]
  refine ⟨⟨rfl, ltB rfl, neB rfl⟩, ?_⟩
  rw [rf_now]
  refine ⟨⟨rfl, ltB rfl, vinB rfl⟩, ?_⟩
  rw [lc6]
  have e6 : (upd (upd (upd (mem 140) (8 + 3 * w) o) (8 + 3 * w + 1) tt) (8 + 3 * w + 2) s) 6 = nI w := by rw [pk_un (by omega), pk_un (by omega), pk_un (by omega)]; exact hn
  simp only [mu_mr, mr_mr, mr_at, e6, nI_1, pk_us]
  have e7 : (nI (w + 1) - 1 : Int32) = nI w := nI_pred w
  rw [← e7] at h
  exact h
theorem r_stakes {d L : Nat} {mem : Mem} {Q : Qt} {nw : Nat} {tt : Int32} (hn : mem 140 6 = nI nw) (hn12 : nw ≤ 12) (h : Q (some (.int (stA (mem 140) tt))) (S0 L) mem) : Mc (d + 1) 145 [.ref 139, .int tt] (S0 L) mem Q := by
  have loop : ∀ k w, w + k = nw → Xs (d + 1) 145 4 [some (.ref 139), some (.int tt), some (.int (stF (mem 140) tt w)), some (.int (nI w))] [] (S0 L) (0, 0) mem Q := by
    intro k
    induction k with
    | zero =>
      intro w hw
      have hw : w = nw := by omega
      subst hw
      refine Xs_wp (cut1 4) t145 60 ?_
      refine ⟨⟨rfl, ltB rfl, neB rfl⟩, ?_⟩
      rw [rf_now]
      refine ⟨⟨rfl, ltB rfl, vinB rfl⟩, ?_⟩
      rw [lc6]
      rw [hn]
      refine ifI (fun q => absurd q (nI_nlt (Nat.le_refl _) (by omega))) (fun _ => ?_)
      unfold stA at h
      rw [nw_of hn hn12] at h
      exact h
    | succ k ih =>
      intro w hw
      have h1 := ih (w + 1) (by omega)
      rw [← nI_1] at h1
      have hs : stF (mem 140) tt (w + 1) = _ := stF.eq_2 (mem 140) tt w
      rw [hs] at h1
      have e1 : (8 + 3 * nI w + 1 : Int32) = nI (8 + 3 * w + 1) := ix3 (a := 8) (b := 3) w 1
      have e2 : (8 + 3 * nI w + 2 : Int32) = nI (8 + 3 * w + 2) := ix3 (a := 8) (b := 3) w 2
      refine Xs_wp (cut1 4) t145 60 ?_
      refine ⟨⟨rfl, ltB rfl, neB rfl⟩, ?_⟩
      rw [rf_now]
      refine ⟨⟨rfl, ltB rfl, vinB rfl⟩, ?_⟩
      rw [lc6]
      rw [hn]
      refine ifI (fun _ => ?_) (fun q => absurd (nI_lt (by omega) (by omega)) q)
      refine ifI (fun q => ?_) (fun q => ?_)
      · rw [if_pos q] at h1
        refine ⟨⟨rfl, ltB rfl, neB rfl⟩, ?_⟩
        rw [rf_now]
        refine ⟨⟨rfl, ltB rfl, vinK e2 (show 8 + 3 * w + 2 < 1464 by omega) rfl⟩, ?_⟩
        rw [clK e2 (show 8 + 3 * w + 2 < 2 ^ 31 by omega)]
        exact h1
      · rw [if_neg q] at h1
        refine ⟨⟨rfl, ltB rfl, neB rfl⟩, ?_⟩
        rw [rf_now]
        refine ⟨⟨rfl, ltB rfl, vinK e1 (show 8 + 3 * w + 1 < 1464 by omega) rfl⟩, ?_⟩
        rw [clK e1 (show 8 + 3 * w + 1 < 2 ^ 31 by omega)]
        refine ifI (fun q => ?_) (fun q => ?_)
        · rw [if_pos q] at h1
          refine ⟨⟨rfl, ltB rfl, neB rfl⟩, ?_⟩
          rw [rf_now]
          refine ⟨⟨rfl, ltB rfl, vinK e2 (show 8 + 3 * w + 2 < 1464 by omega) rfl⟩, ?_⟩
          rw [clK e2 (show 8 + 3 * w + 2 < 2 ^ 31 by omega)]
          exact h1
        · rw [if_neg q] at h1
          exact h1
  refine Mc_wp (cut1 4) t145 rfl rfl rfl 60 ?_
  exact loop nw 0 (by omega)
theorem r_paysFor {d L : Nat} {mem : Mem} {Q : Qt} {w nw nx : Nat} {tt : Int32} (hw : w < 12) (hn : mem 140 6 = nI nw) (hn12 : nw ≤ 12) (hx : mem 140 7 = nI nx) (hx14 : nx ≤ 14) (hT : TX (mem 140) nx)
    (h : ∀ m', Fr [150, 151] mem m' → Q (some (.int (paysA (mem 140) w tt))) (S0 L) m') : Mc (d + 3) 147 [.ref 139, .int (nI w), .int tt] (S0 L) mem Q := by
  have e1 : (8 + 3 * nI w + 1 : Int32) = nI (8 + 3 * w + 1) := ix3 (a := 8) (b := 3) w 1
  have e2 : (8 + 3 * nI w + 2 : Int32) = nI (8 + 3 * w + 2) := ix3 (a := 8) (b := 3) w 2
  unfold paysA at h
  refine Mc_wp nocut t147 rfl rfl rfl 100 ?_
  refine ⟨⟨rfl, ltB rfl, neB rfl⟩, ?_⟩
  rw [rf_now]
  refine ⟨⟨rfl, ltB rfl, vinK e1 (show 8 + 3 * w + 1 < 1464 by omega) rfl⟩, ?_⟩
  rw [clK e1 (show 8 + 3 * w + 1 < 2 ^ 31 by omega)]
  refine ifI (fun q => ?_) (fun q => ?_)
  rotate_left 1
  · have := h mem Fr.refl
    rw [if_neg q] at this
    exact this
  simp only [if_pos q] at h
  refine ⟨⟨rfl, ltB rfl⟩, r_stakes hn hn12 ?_⟩
  refine ⟨⟨rfl, ltB rfl⟩, r_stakes hn hn12 ?_⟩
  refine ⟨⟨rfl, ltB rfl, neB rfl⟩, ?_⟩
  rw [rf_now]
  refine ⟨⟨rfl, ltB rfl, vinK e2 (show 8 + 3 * w + 2 < 1464 by omega) rfl⟩, ?_⟩
  rw [clK e2 (show 8 + 3 * w + 2 < 2 ^ 31 by omega)]
  refine ⟨⟨rfl, ltB rfl⟩, r_counts hx hx14 ?_⟩
  refine ⟨⟨rfl, ltB rfl, neB rfl⟩, ?_⟩
  rw [rf_facts]
  refine ⟨⟨rfl, ltB rfl, vinB rfl⟩, ?_⟩
  rw [lc0]
  refine ⟨⟨rfl, ltB rfl, neB rfl⟩, ?_⟩
  rw [rf_facts]
  refine ⟨⟨rfl, ltB rfl, vinB rfl⟩, ?_⟩
  rw [lc1]
  refine ⟨⟨rfl, ltB rfl, neB rfl⟩, ?_⟩
  rw [rf_facts]
  refine ⟨⟨rfl, ltB rfl, vinB rfl⟩, ?_⟩
  rw [lc2]
  rw [nx_of hx hx14] at h
  have e140 : (140 : Nat) ≠ 151 := by decide
  have hF : ∀ a b c, Fr [150, 151] mem (mu (mu (mu mem 151 0 a) 151 1 b) 151 2 c) := fun a b c => ((Fr.refl.mu (by simp)).mu (by simp)).mu (by simp)
  cases hc : cntO (mem 140) 1 nx with
  | none =>
    rw [hc] at h
    dsimp only at h
    unfold payV at h
    obtain ⟨h1, h2⟩ := qif (h _ (hF (stA (mem 140) (-1)) (mem 140 (8 + 3 * w + 2)) (stA (mem 140) tt)))
    refine ifI (fun z => h1 z) (fun z => ?_)
    refine ⟨?_, h2 z⟩
    intro z2
    apply z
    have := congrArg Int64.toInt32 z2
    simpa using this
  | some k =>
    rw [hc] at h
    dsimp only at h
    obtain ⟨k1, n, k2, k3, k4, k5⟩ := TX_at (key := 1) hT hc (by omega)
    refine ifI (fun q => absurd q (opI_some (by omega))) (fun _ => ?_)
    refine ⟨⟨rfl, ltB rfl⟩, r_worksOut (x := k) (n := n) (nm := 3) (by omega) ?_ ?_ (by omega) (fun st => ?_)⟩
    · simp only [mu_row e140]; exact k3
    · simp only [mu_row e140]; exact k5
    refine r_within ?_
    simp only [mu_row e140]
    have h9 := h _ ((hF (stA (mem 140) (-1)) (mem 140 (8 + 3 * w + 2)) (stA (mem 140) tt)).mr (a := 150) (f := st) (by simp))
    have e9 : woA (mem 140) k (fa4 (stA (mem 140) (-1)) (mem 140 (8 + 3 * w + 2)) (stA (mem 140) tt) 0) = evR (cdA (mem 140) k) (mu (mu (mu mem 151 0 (stA (mem 140) (-1))) 151 1 (mem 140 (8 + 3 * w + 2))) 151 2 (stA (mem 140) tt) 151) n := by
      unfold woA
      rw [k4]
      refine evR_congr k5 (by decide) (fun i hi => ?_)
      have hi3 : i < 3 := hi
      rcases (show i = 0 ∨ i = 1 ∨ i = 2 by omega) with rfl | rfl | rfl <;> rfl
    rw [e9] at h9
    exact h9

theorem r_paidTo {d L : Nat} {mem : Mem} {Q : Qt} {nt nw nx : Nat} {o : Int32} (hn8 : nt ≤ 8) (hn12 : nw ≤ 12) (hx14 : nx ≤ 14) (h1 : mem 140 1 = nI nt) (h6 : mem 140 6 = nI nw) (h7 : mem 140 7 = nI nx) (hT : TX (mem 140) nx)
    (h : ∀ m', Fr [150, 151] mem m' → Q (some (.int (paidA (mem 140) o (opI (ahA (mem 140)))))) (S0 L) m') : Mc (d + 4) 151 [.ref 139, .int o] (S0 L) mem Q := by
  have loop : ∀ k w, w + k = nw → ∀ m, Fr [150, 151] mem m → Xs (d + 4) 151 10 [some (.ref 139), some (.int o), some (.int (pdF (mem 140) o (opI (ahA (mem 140))) w)), some (.int (opI (ahA (mem 140)))), some (.int (nI w))] [] (S0 L) (0, 0) m Q := by
    intro k
    induction k with
    | zero =>
      intro w hw m hF
      have hw : w = nw := by omega
      subst hw
      have e140 : m 140 = mem 140 := hF 140 (by simp)
      refine Xs_wp (cut1 10) t151 60 ?_
      refine ⟨⟨rfl, ltB rfl, neB rfl⟩, ?_⟩
      rw [rf_now]
      refine ⟨⟨rfl, ltB rfl, vinB rfl⟩, ?_⟩
      rw [lc6]
      rw [e140, h6]
      refine ifI (fun q => absurd q (nI_nlt (Nat.le_refl _) (by omega))) (fun _ => ?_)
      unfold paidA at h
      rw [nw_of h6 hn12] at h
      exact h m hF
    | succ k ih =>
      intro w hw m hF
      have e140 : m 140 = mem 140 := hF 140 (by simp)
      have hs : pdF (mem 140) o (opI (ahA (mem 140))) (w + 1) = _ := pdF.eq_2 (mem 140) o (opI (ahA (mem 140))) w
      have e0 : (8 + 3 * nI w : Int32) = nI (8 + 3 * w) := ix2 (a := 8) (b := 3) w
      refine Xs_wp (cut1 10) t151 60 ?_
      refine ⟨⟨rfl, ltB rfl, neB rfl⟩, ?_⟩
      rw [rf_now]
      refine ⟨⟨rfl, ltB rfl, vinB rfl⟩, ?_⟩
      rw [lc6]
      rw [e140, h6]
      refine ifI (fun _ => ?_) (fun q => absurd (nI_lt (by omega) (by omega)) q)
      refine ⟨⟨rfl, ltB rfl, neB rfl⟩, ?_⟩
      rw [rf_now]
      refine ⟨⟨rfl, ltB rfl, vinK e0 (show 8 + 3 * w < 1464 by omega) rfl⟩, ?_⟩
      rw [clK e0 (show 8 + 3 * w < 2 ^ 31 by omega)]
      rw [e140]
      refine ifI (fun q => ?_) (fun q => ?_)
      · refine ⟨⟨rfl, ltB rfl⟩, r_paysFor (nw := nw) (nx := nx) (by omega) (by rw [e140]; exact h6) hn12 (by rw [e140]; exact h7) hx14 (by rw [e140]; exact hT) (fun m' hF' => ?_)⟩
        have := ih (w + 1) (by omega) m' (hF.trans hF')
        rw [hs, if_pos q, ← nI_1, ← e140] at this
        rw [← e140]
        exact this
      · have := ih (w + 1) (by omega) m hF
        rw [hs, if_neg q, ← nI_1] at this
        exact this
  refine Mc_wp (cut1 10) t151 rfl rfl rfl 60 ?_
  refine ⟨⟨rfl, ltB rfl⟩, r_ahead h1 hn8 ?_⟩
  exact loop nw 0 (by omega) mem Fr.refl
theorem r_thinks {d L : Nat} {mem : Mem} {Q : Qt} (h : Q none (S0 L) (mr mem 143 (cpRow (mem 140) (mem 143) 92))) : Mc (d + 1) 149 [.ref 139] (S0 L) mem Q := by
  have loop : ∀ n i, i + n = 92 → Xs (d + 1) 149 2 [some (.ref 139), some (.int (nI i))] [] (S0 L) (0, 0) (mr mem 143 (cpRow (mem 140) (mem 143) i)) Q := by
    intro n
    induction n with
    | zero =>
      intro i hi
      have hi : i = 92 := by omega
      subst hi
      refine Xs_wp (cut1 2) t149 30 ?_
      exact h
    | succ n ih =>
      intro i hi
      refine Xs_wp (cut1 2) t149 30 ?_
      refine ifI (fun _ => ?_) (fun q => absurd (nI_lt (a := i) (b := 92) (by omega) (by decide)) q)
      refine ⟨⟨rfl, ltB rfl, neB rfl⟩, ?_⟩
      rw [rf_before]
      refine ⟨⟨rfl, ltB rfl, neB rfl⟩, ?_⟩
      rw [rf_now]
      refine ⟨⟨rfl, ltB rfl, vinK (rfl : nI i = _) (show i < 1464 by omega) rfl⟩, ?_⟩
      rw [clK (rfl : nI i = _) (show i < 2 ^ 31 by omega)]
      refine ⟨⟨rfl, ltB rfl, vinK (rfl : nI i = _) (show i < 92 by omega) rfl⟩, ?_⟩
      rw [clK (rfl : nI i = _) (show i < 2 ^ 31 by omega)]
      rw [mr_ne (show (140 : Nat) ≠ 143 by decide), mu_mr', cpRow_s]
      have := ih (i + 1) (by omega)
      rw [← nI_1] at this
      exact this
  refine Mc_wp (cut1 2) t149 rfl rfl rfl 30 ?_
  have := loop 92 0 rfl
  rw [cpRow_0, mr_self] at this
  exact this
theorem r_putsBack {d L : Nat} {mem : Mem} {Q : Qt} (h : Q none (S0 L) (mr mem 140 (cpRow (mem 143) (mem 140) 92))) : Mc (d + 1) 150 [.ref 139] (S0 L) mem Q := by
  have loop : ∀ n i, i + n = 92 → Xs (d + 1) 150 2 [some (.ref 139), some (.int (nI i))] [] (S0 L) (0, 0) (mr mem 140 (cpRow (mem 143) (mem 140) i)) Q := by
    intro n
    induction n with
    | zero =>
      intro i hi
      have hi : i = 92 := by omega
      subst hi
      refine Xs_wp (cut1 2) t150 30 ?_
      exact h
    | succ n ih =>
      intro i hi
      refine Xs_wp (cut1 2) t150 30 ?_
      refine ifI (fun _ => ?_) (fun q => absurd (nI_lt (a := i) (b := 92) (by omega) (by decide)) q)
      refine ⟨⟨rfl, ltB rfl, neB rfl⟩, ?_⟩
      rw [rf_now]
      refine ⟨⟨rfl, ltB rfl, neB rfl⟩, ?_⟩
      rw [rf_before]
      refine ⟨⟨rfl, ltB rfl, vinK (rfl : nI i = _) (show i < 92 by omega) rfl⟩, ?_⟩
      rw [clK (rfl : nI i = _) (show i < 2 ^ 31 by omega)]
      refine ⟨⟨rfl, ltB rfl, vinK (rfl : nI i = _) (show i < 1464 by omega) rfl⟩, ?_⟩
      rw [clK (rfl : nI i = _) (show i < 2 ^ 31 by omega)]
      rw [mr_ne (show (143 : Nat) ≠ 140 by decide), mu_mr', cpRow_s]
      have := ih (i + 1) (by omega)
      rw [← nI_1] at this
      exact this
  refine Mc_wp (cut1 2) t150 rfl rfl rfl 30 ?_
  have := loop 92 0 rfl
  rw [cpRow_0, mr_self] at this
  exact this
theorem r_sumOf {d L : Nat} {mem : Mem} {Q : Qt} {nt w : Nat} (hw : w < 6) (hn : mem 140 1 = nI nt) (hn8 : nt ≤ 8) (h : Q (some (.int (smA (mem 140) w))) (S0 L) mem) : Mc (d + 2) 193 [.ref 139, .int (nI w)] (S0 L) mem Q := by
  have loop : ∀ k t, t + k = nt → Xs (d + 2) 193 4 [some (.ref 139), some (.int (nI w)), some (.int (smF (mem 140) w t)), some (.int (nI t))] [] (S0 L) (0, 0) mem Q := by
    intro k
    induction k with
    | zero =>
      intro t ht
      have ht : t = nt := by omega
      subst ht
      refine Xs_wp (cut1 4) t193 60 ?_
      refine ⟨⟨rfl, ltB rfl, neB rfl⟩, ?_⟩
      rw [rf_now]
      refine ⟨⟨rfl, ltB rfl, vinB rfl⟩, ?_⟩
      rw [lc1]
      rw [hn]
      refine ifI (fun q => absurd q (nI_nlt (Nat.le_refl _) (by omega))) (fun _ => ?_)
      unfold smA at h
      rw [nt_of hn hn8] at h
      exact h
    | succ k ih =>
      intro t ht
      have h1 := ih (t + 1) (by omega)
      rw [← nI_1] at h1
      refine Xs_wp (cut1 4) t193 60 ?_
      refine ⟨⟨rfl, ltB rfl, neB rfl⟩, ?_⟩
      rw [rf_now]
      refine ⟨⟨rfl, ltB rfl, vinB rfl⟩, ?_⟩
      rw [lc1]
      rw [hn]
      refine ifI (fun _ => ?_) (fun q => absurd (nI_lt (by omega) (by omega)) q)
      refine ⟨⟨rfl, ltB rfl⟩, r_of (by omega) hw ?_⟩
      exact h1
  refine Mc_wp (cut1 4) t193 rfl rfl rfl 60 ?_
  exact loop nt 0 (by omega)
theorem r_leadsBehind {d L : Nat} {mem : Mem} {Q : Qt} {nt nx n : Nat} {tt : Int32} (hn8 : nt ≤ 8) (hx14 : nx ≤ 14) (hn300 : n < 2 ^ 31) (h1 : mem 140 1 = nI nt) (h7 : mem 140 7 = nI nx) (hT : TX (mem 140) nx)
    (hy : opI (ahA (goesA n (mem 140))) = tt → ∀ m', Fr [140, 150, 151] mem m' → m' 140 = cpRow (mem 143) (goesA n (mem 140)) 92 → Q (some (.int 1)) (S0 L) m')
    (hno : ¬ opI (ahA (goesA n (mem 140))) = tt → ∀ m', Fr [140, 150, 151] mem m' → m' 140 = cpRow (mem 143) (goesA n (mem 140)) 92 → Q (some (.int 0)) (S0 L) m') : Mc (d + 6) 156 [.ref 139, .int tt, .int (nI n)] (S0 L) mem Q := by
  refine Mc_wp nocut t156 rfl rfl rfl 60 ?_
  refine ⟨⟨rfl, ltB rfl⟩, r_goesOn hn8 hx14 hn300 h1 h7 hT (fun m hF hm => ?_)⟩
  have hg1 : ∀ k A, A 1 = nI nt → goesA k A 1 = nI nt := by
    intro k
    induction k with
    | zero => intro A hA; exact hA
    | succ k ih => intro A hA; exact ih _ (by rw [dayA_out (by omega) (by omega) (by omega) (by rw [nt_of hA hn8]; exact hn8)]; exact hA)
  refine ⟨⟨rfl, ltB rfl⟩, r_ahead (nt := nt) (by rw [hm]; exact hg1 n _ h1) hn8 ?_⟩
  have e143 : m 143 = mem 143 := hF 143 (by simp)
  refine ifI (fun q => ?_) (fun q => ?_)
  · refine ⟨⟨rfl, ltB rfl⟩, r_putsBack ?_⟩
    refine ⟨Or.inr rfl, ?_⟩
    rw [hm] at q
    exact hy q _ (hF.mr (by simp)) (by rw [mr_at, e143, hm])
  · refine ⟨⟨rfl, ltB rfl⟩, r_putsBack ?_⟩
    refine ⟨Or.inl rfl, ?_⟩
    rw [hm] at q
    exact hno q _ (hF.mr (by simp)) (by rw [mr_at, e143, hm])
