-- texts: the reference reads its key
theorem ky_ok : ∀ w, w < 3 → kaC (w + 1) - kaC w = nI (SLEN.getD w 0) ∧ SLEN.getD w 0 ≤ 4 ∧ ∀ i, i < SLEN.getD w 0 → ∃ q, q < 11 ∧ kaC w + nI i = nI q ∧ kyC q = byt w i := by
  intro w hw
  have : w = 0 ∨ w = 1 ∨ w = 2 := by omega
  rcases this with rfl | rfl | rfl
  · refine ⟨by decide, by decide, fun i hi => ⟨i, by have : i < 4 := hi; omega, ?_, ?_⟩⟩
    · show (0 : Int32) + nI i = nI i; exact Int32.zero_add _
    · have : i = 0 ∨ i = 1 ∨ i = 2 ∨ i = 3 := by have : i < 4 := hi; omega
      rcases this with rfl | rfl | rfl | rfl <;> rfl
  · refine ⟨by decide, by decide, fun i hi => ⟨4 + i, by have : i < 3 := hi; omega, ?_, ?_⟩⟩
    · show nI 4 + nI i = _; exact nI_add _ _
    · have : i = 0 ∨ i = 1 ∨ i = 2 := by have : i < 3 := hi; omega
      rcases this with rfl | rfl | rfl <;> rfl
  · refine ⟨by decide, by decide, fun i hi => ⟨7 + i, by have : i < 4 := hi; omega, ?_, ?_⟩⟩
    · show nI 7 + nI i = _; exact nI_add _ _
    · have : i = 0 ∨ i = 1 ∨ i = 2 ∨ i = 3 := by have : i < 4 := hi; omega
      rcases this with rfl | rfl | rfl | rfl <;> rfl
theorem r_key {d L n : Nat} {m : Mem} {Q : Qt} {x : Lx} {T : Nat → Int32} (hn : n ≤ 96) (hv : LV T n x) (hz : RZ T n x m) (hg : x.gl = false) (hC1 : ∀ i, i < 11 → m 145 i = kyC i) (hC2 : ∀ i, i < 4 → m 146 i = kaC i) (h1 : ∀ k m', keyIs T x k → Fr [139] m m' → (∀ f, f < 7 ∨ 12 < f → m' 139 f = m 139 f) → m' 139 12 = nI k → RZ T n (adv T n x) m' → Q (some (.int 1)) (S0 L) m') (h0 : (∀ k, k < 3 → ¬ wordIs T x k) → Q (some (.int 0)) (S0 L) m) : Mc (d + 3) 167 [.ref 139] (S0 L) m Q := by
  have s3 := hv.2.2.2.1
  have hle := hv.1
  have hen := hv.2.1
  have es : (nI x.en - nI x.st : Int32) = nI (x.en - x.st) := pk_sub hle
  refine Mc_wp (cut1 12) t167 rfl rfl rfl 60 ?_
  refine ⟨⟨rfl, ltB rfl⟩, ?_⟩
  rw [hz.2.2.2.1]
  by_cases q3 : x.so = 3
  rotate_left 1
  · refine ifI (fun z => absurd ((tk1 s3).mp z).1 q3) (fun _ => ?_)
    exact ⟨Or.inl rfl, h0 (fun k _ w => q3 w.1)⟩
  refine ifI (fun _ => ?_) (fun z => absurd ((tk1 s3).mpr ⟨q3, hg⟩) z)
  -- one key, then the next
  have one : ∀ (w : Nat) (x2 x3 x4 : Option Value), w < 3 → (∀ j, j < w → ¬ wordIs T x j) → (¬ wordIs T x w → ∀ y2 y3 y4, Xs (d + 3) 167 12 [some (.ref 139), some (.int (nI (w + 1))), y2, y3, y4] [] (S0 L) (0, 0) m Q) → Xs (d + 3) 167 12 [some (.ref 139), some (.int (nI w)), x2, x3, x4] [] (S0 L) (0, 0) m Q := by
    intro w x2 x3 x4 hw hno hnx
    obtain ⟨k1, k2, k3⟩ := ky_ok w hw
    have ew1 : nI w + 1 = nI (w + 1) := nI_1 w
    have no : ∀ i : Nat, ¬ wordIs T x w → Xs (d + 3) 167 106 [some (.ref 139), some (.int (nI w)), some (.int (nI (SLEN.getD w 0))), some (.int 0), some (.int (nI i))] [] (S0 L) (0, 0) m Q := by
      intro i hnw
      refine Xs_wp (cut1 12) t167 60 ?_
      have := hnx hnw (some (.int (nI (SLEN.getD w 0)))) (some (.int 0)) (some (.int (nI i)))
      rw [← nI_1] at this
      exact this
    have yes : ∀ i : Nat, wordIs T x w → Xs (d + 3) 167 106 [some (.ref 139), some (.int (nI w)), some (.int (nI (SLEN.getD w 0))), some (.int 1), some (.int (nI i))] [] (S0 L) (0, 0) m Q := by
      intro i hyw
      refine Xs_wp (cut1 12) t167 60 ?_
      refine ⟨⟨rfl, ltB rfl⟩, ?_⟩
      have hz2 : RZ T n x (mu m 139 12 (nI w)) := by
        unfold RZ
        rw [mu_row (show (144 : Nat) ≠ 139 by decide), mu_ne (show (6 : Nat) ≠ 12 by decide), mu_ne (show (7 : Nat) ≠ 12 by decide), mu_ne (show (8 : Nat) ≠ 12 by decide), mu_ne (show (9 : Nat) ≠ 12 by decide), mu_ne (show (10 : Nat) ≠ 12 by decide), mu_ne (show (11 : Nat) ≠ 12 by decide)]
        exact hz
      refine ⟨⟨rfl, ltB rfl⟩, hz2.go hn hv (by omega) (fun m2 hF2 hz3 => ?_)⟩
      refine ⟨Or.inr rfl, h1 w m2 ⟨hw, hyw, hno⟩ ((Fr.refl.mu (by simp)).trans hF2.1) (fun f hf => ?_) ?_ hz3⟩
      · rw [hF2.2 f (by omega), mu_ne (by omega)]
      · rw [hF2.2 12 (by omega), mu_at]
    have inner : ∀ j i, i + j = SLEN.getD w 0 → x.en - x.st = SLEN.getD w 0 → (∀ a, a < i → T (x.st + a) = byt w a) → Xs (d + 3) 167 55 [some (.ref 139), some (.int (nI w)), some (.int (nI (SLEN.getD w 0))), some (.int 1), some (.int (nI i))] [] (S0 L) (0, 0) m Q := by
      intro j
      induction j with
      | zero =>
        intro i hi hl ha
        refine Xs_wp (cut2 55 106) t167 60 ?_
        refine ifI (fun z => absurd z (nI_nlt (by omega) (by omega))) (fun _ => ?_)
        exact yes i ⟨q3, hl, fun a h => ha a (by omega)⟩
      | succ j ih =>
        intro i hi hl ha
        obtain ⟨q, hq, e1, e2⟩ := k3 i (by omega)
        have ex : (nI x.st + nI i : Int32) = nI (x.st + i) := nI_add _ _
        refine Xs_wp (cut2 55 106) t167 60 ?_
        refine ifI (fun _ => ?_) (fun z => absurd (nI_lt (by omega) (by omega)) z)
        refine ⟨⟨rfl, ltB rfl, neB rfl⟩, ?_⟩
        rw [rf_tape]
        refine ⟨⟨rfl, ltB rfl⟩, ?_⟩
        rw [hz.2.2.1]
        refine ⟨⟨rfl, ltB rfl, vinK ex (show x.st + i < 96 by omega) rfl⟩, ?_⟩
        rw [clK ex (show x.st + i < 2 ^ 31 by omega)]
        rw [hz.1.2 (x.st + i) (by omega)]
        refine ⟨⟨rfl, ltB rfl, neB rfl⟩, ?_⟩
        rw [rf_keys]
        refine ⟨⟨rfl, ltB rfl, neB rfl⟩, ?_⟩
        rw [rf_keyAt]
        refine ⟨⟨rfl, ltB rfl, vinK (rfl : nI w = nI w) (show w < 4 by omega) rfl⟩, ?_⟩
        rw [clK (rfl : nI w = nI w) (show w < 2 ^ 31 by omega)]
        rw [hC2 w (by omega)]
        refine ⟨⟨rfl, ltB rfl, vinK e1 (show q < 11 by omega) rfl⟩, ?_⟩
        rw [clK e1 (show q < 2 ^ 31 by omega)]
        rw [hC1 q hq, e2]
        refine ifI (fun z => ?_) (fun z => ?_)
        · have := ih (i + 1) (by omega) hl (fun a h => by
            by_cases e : a = i
            · rw [e]; exact z
            · exact ha a (by omega))
          rw [← nI_1] at this
          exact this
        · have nw : ¬ wordIs T x w := fun y => z (y.2.2 i (by omega))
          refine Xs_wp (cut1 106) t167 60 ?_
          have nn := no (i + 1) nw
          rw [← nI_1] at nn
          by_cases lt : nI i + 1 < nI (SLEN.getD w 0)
          · refine ifI (fun _ => ?_) (fun z => absurd lt z)
            exact nn
          · refine ifI (fun z => absurd z lt) (fun _ => ?_)
            exact nn
    refine Xs_wp (cut2 55 106) t167 60 ?_
    refine ifI (fun _ => ?_) (fun z => absurd (nI_lt (b := 3) hw (by omega)) z)
    refine ⟨⟨rfl, ltB rfl, neB rfl⟩, ?_⟩
    rw [rf_keyAt]
    refine ⟨⟨rfl, ltB rfl, vinK ew1 (show w + 1 < 4 by omega) rfl⟩, ?_⟩
    rw [clK ew1 (show w + 1 < 2 ^ 31 by omega)]
    rw [hC2 (w + 1) (by omega)]
    refine ⟨⟨rfl, ltB rfl, neB rfl⟩, ?_⟩
    rw [rf_keyAt]
    refine ⟨⟨rfl, ltB rfl, vinK (rfl : nI w = nI w) (show w < 4 by omega) rfl⟩, ?_⟩
    rw [clK (rfl : nI w = nI w) (show w < 2 ^ 31 by omega)]
    rw [hC2 w (by omega)]
    refine ⟨⟨rfl, ltB rfl⟩, ?_⟩
    rw [hz.2.1]
    refine ⟨⟨rfl, ltB rfl⟩, ?_⟩
    rw [hz.2.2.1]
    by_cases hl : x.en - x.st = SLEN.getD w 0
    · refine ifI (fun _ => ?_) (fun z => absurd (by rw [k1, es, hl]) z)
      have := inner (SLEN.getD w 0) 0 (by omega) hl (fun a h => absurd h (by omega))
      rw [← k1] at this
      exact this
    · refine ifI (fun z => absurd ((nI_eq (by omega) (by omega)).mp (es.symm.trans (z.symm.trans k1))) hl) (fun _ => ?_)
      refine Xs_wp (cut1 106) t167 60 ?_
      have nw : ¬ wordIs T x w := fun y => hl y.2.1
      have nn := no 0 nw
      rw [← k1] at nn
      by_cases lt : (0 : Int32) < kaC (w + 1) - kaC w
      · refine ifI (fun _ => ?_) (fun z => absurd lt z)
        exact nn
      · refine ifI (fun z => absurd z lt) (fun _ => ?_)
        exact nn
  refine one 0 none none none (by omega) (fun j hj => absurd hj (by omega)) (fun n0 y2 y3 y4 => ?_)
  refine one 1 y2 y3 y4 (by omega) (fun j hj => ?_) (fun n1 y2 y3 y4 => ?_)
  · have : j = 0 := by omega
    rw [this]; exact n0
  refine one 2 y2 y3 y4 (by omega) (fun j hj => ?_) (fun n2 y2 y3 y4 => ?_)
  · have : j = 0 ∨ j = 1 := by omega
    rcases this with e | e <;> rw [e]
    · exact n0
    · exact n1
  refine Xs_wp nocut t167 60 ?_
  refine ⟨Or.inl rfl, h0 (fun k hk => ?_)⟩
  have : k = 0 ∨ k = 1 ∨ k = 2 := by omega
  rcases this with e | e | e <;> rw [e]
  · exact n0
  · exact n1
  · exact n2
