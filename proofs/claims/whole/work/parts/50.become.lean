-- the class: a moat becomes as another
theorem mb_far {b e : Nat} (hb : MB b) (he : MB e) (hne : b ≠ e) : b + 24 ≤ e ∨ e + 24 ≤ b := by
  rcases hb with rfl | rfl | rfl <;> rcases he with rfl | rfl | rfl <;> omega
theorem c_become {d L : Nat} {mem : Mem} {Q : Qt} {b e nt nw nx : Nat} {A : Nat → Int32} (hb : MB b) (he : MB e) (hne : b ≠ e) (hR : RepM e nt nw nx A mem) (hW : WB nt A)
    (h : ∀ m', FrB b mem m' → RepM b nt nw nx A m' → Q none (S0 L) m') : Mc (d + 2) 3 [.ref b, .ref e] (S0 L) mem Q := by
  have hb5 := mb_ge hb
  have he5 := mb_ge he
  have hfar := mb_far hb he hne
  have hn8 := hR.2.2.1.1
  have hn12 := hR.2.2.1.2.1
  have rep : ∀ {m : Mem}, FrB b mem m → RepM e nt nw nx A m := fun hF => hR.fr (fun r h1 h2 => hF r (by omega) (by omega) (by omega))
  -- what is done so far: herd, bets, counting
  have herd' : ∀ k t, t + k = nt → ∀ m, FrB b mem m → m b 4 = nI nt → (∀ u f, u < t → f < 6 → m (b + 4 + u) f = A (44 + 6 * u + f)) →
      (∀ m', FrB b mem m' → m' b 4 = nI nt → (∀ u f, u < nt → f < 6 → m' (b + 4 + u) f = A (44 + 6 * u + f)) → Xs (d + 2) 3 39 [some (.ref b), some (.ref e), some (.int (nI nt))] [] (S0 L) (0, 0) m' Q) →
      Xs (d + 2) 3 10 [some (.ref b), some (.ref e), some (.int (nI t))] [] (S0 L) (0, 0) m Q := by
    intro k
    induction k with
    | zero =>
      intro t ht m hF h4 hd next
      have ht : t = nt := by omega
      subst ht
      refine Xs_wp (cut2 10 39) t3 60 ?_
      refine ⟨moC hb, ?_⟩
      rw [h4]
      refine ifI (fun q => absurd q (nI_nlt (Nat.le_refl _) (by omega))) (fun _ => ?_)
      exact next m hF h4 hd
    | succ k ih =>
      intro t ht m hF h4 hd next
      refine Xs_wp (cut2 10 39) t3 60 ?_
      refine ⟨moC hb, ?_⟩
      rw [h4]
      refine ifI (fun _ => ?_) (fun q => absurd (nI_lt (by omega) (by omega)) q)
      refine ⟨moK1 hb, ?_⟩
      rw [moV1 hb]
      refine ⟨heK hb (rfl : nI t = nI t) (by omega), ?_⟩
      rw [heV hb (rfl : nI t = nI t) (show t < 8 by omega)]
      refine ⟨moK1 he, ?_⟩
      rw [moV1 he]
      refine ⟨heK he (rfl : nI t = nI t) (by omega), ?_⟩
      rw [heV he (rfl : nI t = nI t) (show t < 8 by omega)]
      have r4 := (rep hF).2.2.2.1 t
      have hw := hW t (by omega)
      refine ⟨heC hb (by omega), c_tbecome (heC hb (by omega)) (heC he (by omega)) (by omega) (by rw [r4 4 (by omega) (by omega)]; exact hw.1) (by rw [r4 5 (by omega) (by omega)]; exact hw.2) ?_⟩
      have := ih (t + 1) (by omega) (cpC m (b + 4 + t) (e + 4 + t) 6) (fun r q1 q2 q3 => by unfold cpC; rw [mr_ne (by omega)]; exact hF r q1 q2 q3) (by unfold cpC; rw [mr_ne (by omega)]; exact h4) (fun u f hu hf => by
        unfold cpC
        by_cases eu : u = t
        · subst eu
          rw [mr_at]
          unfold cpRow
          rw [if_pos hf]
          exact r4 f (by omega) hf
        · rw [mr_ne (by omega)]; exact hd u f (by omega) hf) next
      rw [← nI_1] at this
      exact this
  have bets' : ∀ k t, t + k = nw → ∀ m, FrB b mem m → m b 4 = nI nt → m b 5 = nI nw → (∀ u f, u < nt → f < 6 → m (b + 4 + u) f = A (44 + 6 * u + f)) → (∀ u f, u < t → f < 3 → m (b + 12 + u) f = A (8 + 3 * u + f)) →
      (∀ m', FrB b mem m' → m' b 4 = nI nt → m' b 5 = nI nw → (∀ u f, u < nt → f < 6 → m' (b + 4 + u) f = A (44 + 6 * u + f)) → (∀ u f, u < nw → f < 3 → m' (b + 12 + u) f = A (8 + 3 * u + f)) → Xs (d + 2) 3 78 [some (.ref b), some (.ref e), some (.int (nI nw))] [] (S0 L) (0, 0) m' Q) →
      Xs (d + 2) 3 49 [some (.ref b), some (.ref e), some (.int (nI t))] [] (S0 L) (0, 0) m Q := by
    intro k
    induction k with
    | zero =>
      intro t ht m hF h4 h5 hd hd2 next
      have ht : t = nw := by omega
      subst ht
      refine Xs_wp (cut2 49 78) t3 60 ?_
      refine ⟨moC hb, ?_⟩
      rw [h5]
      refine ifI (fun q => absurd q (nI_nlt (Nat.le_refl _) (by omega))) (fun _ => ?_)
      exact next m hF h4 h5 hd hd2
    | succ k ih =>
      intro t ht m hF h4 h5 hd hd2 next
      refine Xs_wp (cut2 49 78) t3 60 ?_
      refine ⟨moC hb, ?_⟩
      rw [h5]
      refine ifI (fun _ => ?_) (fun q => absurd (nI_lt (by omega) (by omega)) q)
      refine ⟨moK2 hb, ?_⟩
      rw [moV2 hb]
      refine ⟨beK hb (rfl : nI t = nI t) (by omega), ?_⟩
      rw [beV hb (rfl : nI t = nI t) (show t < 12 by omega)]
      refine ⟨moK2 he, ?_⟩
      rw [moV2 he]
      refine ⟨beK he (rfl : nI t = nI t) (by omega), ?_⟩
      rw [beV he (rfl : nI t = nI t) (show t < 12 by omega)]
      have r4 := (rep hF).2.2.2.2.1 t
      refine ⟨beC hb (by omega), c_wbecome (beC hb (by omega)) (beC he (by omega)) (by omega) ?_⟩
      have := ih (t + 1) (by omega) (cpC m (b + 12 + t) (e + 12 + t) 3) (fun r q1 q2 q3 => by unfold cpC; rw [mr_ne (by omega)]; exact hF r q1 q2 q3) (by unfold cpC; rw [mr_ne (by omega)]; exact h4) (by unfold cpC; rw [mr_ne (by omega)]; exact h5) (fun u f hu hf => by
        unfold cpC
        rw [mr_ne (by omega)]; exact hd u f (by omega) hf) (fun u f hu hf => by
        unfold cpC
        by_cases eu : u = t
        · subst eu
          rw [mr_at]
          unfold cpRow
          rw [if_pos hf]
          exact r4 f (by omega) hf
        · rw [mr_ne (by omega)]; exact hd2 u f (by omega) hf) next
      rw [← nI_1] at this
      exact this
  refine Mc_wp (cut1 10) t3 rfl rfl rfl 60 ?_
  refine ⟨moC he, ?_⟩
  refine ⟨moC hb, ?_⟩
  rw [hR.1.1]
  refine herd' nt 0 (by omega) _ (FrB.refl.mu (by omega) (by omega)) mu_at (fun u f hu => absurd hu (by omega)) (fun m1 hF1 g4 gh => ?_)
  refine Xs_wp (cut1 49) t3 60 ?_
  refine ⟨moC he, ?_⟩
  refine ⟨moC hb, ?_⟩
  rw [(rep hF1).1.2.1]
  refine bets' nw 0 (by omega) _ (hF1.mu (by omega) (by omega)) (by rw [mu_ne (by decide)]; exact g4) mu_at (fun u f hu hf => by rw [mu_row (by omega)]; exact gh u f hu hf) (fun u f hu => absurd hu (by omega)) (fun m2 hF2 g4 g5 gh gb => ?_)
  refine Xs_wp nocut t3 200 ?_
  refine ⟨moC he, ?_⟩
  refine ⟨moC hb, ?_⟩
  rw [(rep hF2).1.2.2.1]
  have hF3 : FrB b mem (mu m2 b 6 (nI nx)) := hF2.mu (by omega) (by omega)
  refine ⟨moK3 hb, ?_⟩
  rw [moV3 hb]
  refine ⟨moK3 he, ?_⟩
  rw [moV3 he]
  refine ⟨coK he (rfl : (0 : Int32) = nI 0) (show 0 < 3 by decide), ?_⟩
  refine ⟨coK hb (rfl : (0 : Int32) = nI 0) (show 0 < 3 by decide), ?_⟩
  rw [lc0, (rep hF3).2.2.2.2.2 0 (by omega)]
  have hF4 := hF3.mu (a := b + 3) (i := 0) (v := tol (opI (cntO A (nI 0) nx))) (by omega) (by omega)
  refine ⟨moK3 hb, ?_⟩
  rw [moV3 hb]
  refine ⟨moK3 he, ?_⟩
  rw [moV3 he]
  refine ⟨coK he (rfl : (0 : Int32) + 1 = nI 1) (show 1 < 3 by decide), ?_⟩
  refine ⟨coK hb (rfl : (0 : Int32) + 1 = nI 1) (show 1 < 3 by decide), ?_⟩
  rw [show ((0 : Int32) + 1).toNatClampNeg = 1 from rfl, (rep hF4).2.2.2.2.2 1 (by omega)]
  have hF5 := hF4.mu (a := b + 3) (i := 1) (v := tol (opI (cntO A (nI 1) nx))) (by omega) (by omega)
  refine ⟨moK3 hb, ?_⟩
  rw [moV3 hb]
  refine ⟨moK3 he, ?_⟩
  rw [moV3 he]
  refine ⟨coK he (rfl : (0 : Int32) + 1 + 1 = nI 2) (show 2 < 3 by decide), ?_⟩
  refine ⟨coK hb (rfl : (0 : Int32) + 1 + 1 = nI 2) (show 2 < 3 by decide), ?_⟩
  rw [show ((0 : Int32) + 1 + 1).toNatClampNeg = 2 from rfl, (rep hF5).2.2.2.2.2 2 (by omega)]
  have hF6 := hF5.mu (a := b + 3) (i := 2) (v := tol (opI (cntO A (nI 2) nx))) (by omega) (by omega)
  refine ⟨moC he, ?_⟩
  refine ⟨moC hb, ?_⟩
  rw [(rep hF6).1.2.2.2.1]
  have hF7 := hF6.mu (a := b) (i := 7) (v := A 3) (by omega) (by omega)
  refine ⟨moC he, ?_⟩
  refine ⟨moC hb, ?_⟩
  rw [(rep hF7).1.2.2.2.2.1]
  have hF8 := hF7.mu (a := b) (i := 8) (v := A 4) (by omega) (by omega)
  refine ⟨moC he, ?_⟩
  refine ⟨moC hb, ?_⟩
  rw [(rep hF8).1.2.2.2.2.2.1]
  have hF9 := hF8.mu (a := b) (i := 9) (v := A 5) (by omega) (by omega)
  refine ⟨moC he, ?_⟩
  refine ⟨moC hb, ?_⟩
  rw [(rep hF9).1.2.2.2.2.2.2.1]
  have hF10 := hF9.mu (a := b) (i := 10) (v := A 2) (by omega) (by omega)
  refine ⟨moC he, ?_⟩
  refine ⟨moC hb, ?_⟩
  rw [(rep hF10).1.2.2.2.2.2.2.2]
  have hF11 := hF10.mu (a := b) (i := 11) (v := A 0) (by omega) (by omega)
  refine h _ hF11 ?_
  have nb : b ≠ b + 3 := by omega
  refine ⟨⟨?_, ?_, ?_, ?_, ?_, ?_, ?_, mu_at⟩, hR.2.1, hR.2.2.1, fun t f ht hf => ?_, fun w f hw hf => ?_, fun k hk => ?_⟩
  · rw [mu_ne (by decide), mu_ne (by decide), mu_ne (by decide), mu_ne (by decide), mu_ne (by decide), mu_row nb, mu_row nb, mu_row nb, mu_ne (by decide)]; exact g4
  · rw [mu_ne (by decide), mu_ne (by decide), mu_ne (by decide), mu_ne (by decide), mu_ne (by decide), mu_row nb, mu_row nb, mu_row nb, mu_ne (by decide)]; exact g5
  · rw [mu_ne (by decide), mu_ne (by decide), mu_ne (by decide), mu_ne (by decide), mu_ne (by decide), mu_row nb, mu_row nb, mu_row nb, mu_at]
  · rw [mu_ne (by decide), mu_ne (by decide), mu_ne (by decide), mu_ne (by decide), mu_at]
  · rw [mu_ne (by decide), mu_ne (by decide), mu_ne (by decide), mu_at]
  · rw [mu_ne (by decide), mu_ne (by decide), mu_at]
  · rw [mu_ne (by decide), mu_at]
  · have n1 : b + 4 + t ≠ b := by omega
    have n2 : b + 4 + t ≠ b + 3 := by omega
    rw [mu_row n1, mu_row n1, mu_row n1, mu_row n1, mu_row n1, mu_row n2, mu_row n2, mu_row n2, mu_row n1]
    exact gh t f ht hf
  · have n1 : b + 12 + w ≠ b := by omega
    have n2 : b + 12 + w ≠ b + 3 := by omega
    rw [mu_row n1, mu_row n1, mu_row n1, mu_row n1, mu_row n1, mu_row n2, mu_row n2, mu_row n2, mu_row n1]
    exact gb w f hw hf
  · have n1 : b + 3 ≠ b := by omega
    rw [mu_row n1, mu_row n1, mu_row n1, mu_row n1, mu_row n1]
    rcases (show k = 0 ∨ k = 1 ∨ k = 2 by omega) with rfl | rfl | rfl
    · rw [mu_ne (by decide), mu_ne (by decide), mu_at]
    · rw [mu_ne (by decide), mu_at]
    · rw [mu_at]
