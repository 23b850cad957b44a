-- constructors: a moat, sheets, slots
theorem ml_all : ∀ b, MB b → LNz b = 0 ∧ (RFr b).length = 4 ∧ (RFr (b + 1)).length = 8 ∧ (RFr (b + 2)).length = 12 ∧ (RFr (b + 3)).length = 0 ∧ (∀ t, t < 8 → LNz (b + 4 + t) = 0 ∧ (RFr (b + 4 + t)).length = 0) ∧ ∀ t, t < 12 → LNz (b + 12 + t) = 0 ∧ (RFr (b + 12 + t)).length = 0 := by
  intro b hb
  rcases hb with rfl | rfl | rfl <;> decide
def moM (b : Nat) (m : Mem) : Mem := mu (mu (mu (mu (mu (mu (mu m (b + 3) 0 NONEv) (b + 3) 1 NONEv) (b + 3) 2 NONEv) b 7 100) b 8 10) b 9 5000) b 11 1
theorem moM_row {b r : Nat} {m : Mem} (h1 : r ≠ b) (h2 : r ≠ b + 3) : moM b m r = m r := by
  unfold moM
  rw [mu_row h1, mu_row h1, mu_row h1, mu_row h1, mu_row h2, mu_row h2, mu_row h2]
theorem c_iMoat {d L b : Nat} {R : Nat → Nat → Nat} {m : Mem} {Q : Qt} (hb : MB b) (hR : ∀ k f, 1 ≤ k → R k f = RFy k f) (hm : ∀ r i, b ≤ r → r < b + 24 → m r i = 0) (hQ : Q none (Sh L (b + 24) R) (moM b m)) : Mc (d + 2) 217 [.ref b, .ref 1] (Sh L (b + 1) (ct b 0 R)) m Q := by
  have hbl := mb_lt hb
  have hbg := mb_ge hb
  have ma := mo_all b hb
  have ml := ml_all b hb
  have r0 : R b 0 = 2 := by rw [hR b 0 (by omega)]; exact ma.2.2.2.2.2.2.2.1
  have r1 : R b 1 = b + 2 := by rw [hR b 1 (by omega)]; exact ma.2.2.2.2.2.2.2.2.1
  have r2 : R b 2 = b + 3 := by rw [hR b 2 (by omega)]; exact ma.2.2.2.2.2.2.2.2.2.1
  have r3 : R b 3 = b + 4 := by rw [hR b 3 (by omega)]; exact ma.2.2.2.2.2.2.2.2.2.2
  have r4 : ∀ f, 4 ≤ f → R b f = 0 := fun f hf => by rw [hR b f (by omega)]; exact RF_out (by rw [ml.2.1]; exact hf)
  -- the second loop
  have lp2 : ∀ j i, i + j = 12 → ∀ x, x = Sh L (b + 12 + i) (ct (b + 2) i R) → Xs (d + 2) 217 102 [some (.ref b), some (.ref 1), some (.int (nI i))] [] x (11 + i, 71 + 3 * i) (moM b m) Q := by
    intro j
    induction j with
    | zero =>
      intro i hi x hx
      have hi : i = 12 := by omega
      subst hi
      subst hx
      refine Xs_wpc (cut1 102) t217 40 ⟨by decide, by decide⟩ ?_
      rw [ct_done (R := R) (c := b + 2) (i := 12) (fun f hf => by rw [hR (b + 2) f (by omega)]; exact RF_out (by rw [ml.2.2.2.1]; exact hf))]
      exact hQ
    | succ j ih =>
      intro i hi x hx
      subst hx
      have tw := ml.2.2.2.2.2.2 i (by omega)
      have tc : CLy (b + 12 + i) = 7 := cl_bets b hb i (by omega)
      refine Xs_wpc (cut1 102) t217 40 ⟨show 11 + i ≤ 40 by omega, show 71 + 3 * i ≤ 200 by omega⟩ ?_
      refine ifI (fun _ => ?_) (fun z => absurd (nI_lt (b := 12) (by omega) (by omega)) z)
      have v1 : (Sh L (b + 12 + i) (ct (b + 2) i R)).2.2.2 b 2 = b + 3 := by
        show ct (b + 2) i R b 2 = _
        rw [ct_ne (by omega)]; exact r2
      refine ⟨⟨ma.1, show b < b + 12 + i by omega, by rw [v1]; omega⟩, ?_⟩
      rw [v1, show b + 3 - 1 = b + 2 by omega]
      refine ⟨⟨bokI (j := 217) (show 11 + i + 1 ≤ 40 by omega) (show 71 + 3 * i + 3 ≤ 200 by omega), show b + 12 + i < 900 by omega, ?_, ?_⟩, ?_⟩
      · show (Nat.blt b (b + 12 + i) && (Nat.blt 1 (b + 12 + i) && (true && true))) = true
        rw [blt_t (by omega), blt_t (by omega)]; rfl
      · show (true && (Nat.blt (b + 2) (b + 12 + i) && true)) = true
        rw [blt_t (by omega)]; rfl
      rw [Sh_1, newS_Sh tc (by rw [LNy_z (by omega)]; exact tw.1), mz_id (fun x => by show moM b m (b + 12 + i) x = 0; rw [moM_row (by omega) (by omega)]; exact hm _ x (by omega) (by omega)), ct_done (R := ct (b + 2) i R) (c := b + 12 + i) (i := 0) (fun f _ => by rw [ct_ne (by omega), hR _ _ (by omega)]; exact RF_out (by omega))]
      refine Mc_wp nocut t52 rfl rfl rfl 20 ?_
      refine ⟨⟨by rw [show (Sh L (b + 12 + i + 1) (ct (b + 2) i R)).2.1 (b + 2) = 25 from ma.2.2.1]; decide, show b + 2 < b + 12 + i + 1 by omega, show b + 12 + i < b + 12 + i + 1 by omega, by rw [show (Sh L (b + 12 + i + 1) (ct (b + 2) i R)).2.1 (b + 2) = 25 from ma.2.2.1]; exact tc, ?_⟩, ?_⟩
      · rw [show (Sh L (b + 12 + i + 1) (ct (b + 2) i R)).2.2.1 (b + 2) = 12 from (LNy_z (by omega)).trans ma.2.2.2.2.2.1]
        exact vinN (by omega) rfl
      rw [put_Sh, nI_clamp (by omega), ct_put (show b + 12 + i + 1 = R (b + 2) i by rw [hR _ _ (by omega), bets_at b hb i (by omega)]; omega) (Nat.le_refl _) (fun f a b => by omega)]
      have := ih (i + 1) (by omega) _ rfl
      rw [← nI_1, show b + 12 + (i + 1) = b + 12 + i + 1 by omega, show 11 + (i + 1) = 11 + i + 1 by omega, show 71 + 3 * (i + 1) = 71 + 3 * i + 3 by omega] at this
      exact this
  have lp1 : ∀ j i, i + j = 8 → Xs (d + 2) 217 75 [some (.ref b), some (.ref 1), some (.int (nI i))] [] (Sh L (b + 4 + i) (ct (b + 2) 0 (ct (b + 1) i R))) (3 + i, 23 + 6 * i) (moM b m) Q := by
    intro j
    induction j with
    | zero =>
      intro i hi
      have hi : i = 8 := by omega
      subst hi
      refine Xs_wpc (cut2 75 102) t217 40 ⟨by decide, by decide⟩ ?_
      rw [ct_done (R := R) (c := b + 1) (i := 8) (fun f hf => by rw [hR (b + 1) f (by omega)]; exact RF_out (by rw [ml.2.2.1]; exact hf))]
      exact lp2 12 0 (by omega) _ (by rw [show b + 12 + 0 = b + 4 + 8 by omega])
    | succ j ih =>
      intro i hi
      have tw := ml.2.2.2.2.2.1 i (by omega)
      have tc : CLy (b + 4 + i) = 6 := cl_herd b hb i (by omega)
      refine Xs_wpc (cut2 75 102) t217 40 ⟨show 3 + i ≤ 40 by omega, show 23 + 6 * i ≤ 200 by omega⟩ ?_
      refine ifI (fun _ => ?_) (fun z => absurd (nI_lt (b := 8) (by omega) (by omega)) z)
      have v1 : (Sh L (b + 4 + i) (ct (b + 2) 0 (ct (b + 1) i R))).2.2.2 b 1 = b + 2 := by
        show ct (b + 2) 0 (ct (b + 1) i R) b 1 = _
        rw [ct_ne (by omega), ct_ne (by omega)]; exact r1
      refine ⟨⟨ma.1, show b < b + 4 + i by omega, by rw [v1]; omega⟩, ?_⟩
      rw [v1, show b + 2 - 1 = b + 1 by omega]
      refine ⟨⟨bokI (j := 217) (show 3 + i + 1 ≤ 40 by omega) (show 23 + 6 * i + 6 ≤ 200 by omega), show b + 4 + i < 900 by omega, ?_, ?_⟩, ?_⟩
      · show (Nat.blt b (b + 4 + i) && (Nat.blt 1 (b + 4 + i) && (true && true))) = true
        rw [blt_t (by omega), blt_t (by omega)]; rfl
      · show (true && (Nat.blt (b + 1) (b + 4 + i) && true)) = true
        rw [blt_t (by omega)]; rfl
      rw [Sh_1, newS_Sh tc (by rw [LNy_z (by omega)]; exact tw.1), mz_id (fun x => by show moM b m (b + 4 + i) x = 0; rw [moM_row (by omega) (by omega)]; exact hm _ x (by omega) (by omega)), ct_done (R := ct (b + 2) 0 (ct (b + 1) i R)) (c := b + 4 + i) (i := 0) (fun f _ => by rw [ct_ne (by omega), ct_ne (by omega), hR _ _ (by omega)]; exact RF_out (by omega))]
      refine Mc_wp nocut t47 rfl rfl rfl 20 ?_
      refine ⟨⟨by rw [show (Sh L (b + 4 + i + 1) (ct (b + 2) 0 (ct (b + 1) i R))).2.1 (b + 1) = 24 from ma.2.1]; decide, show b + 1 < b + 4 + i + 1 by omega, show b + 4 + i < b + 4 + i + 1 by omega, by rw [show (Sh L (b + 4 + i + 1) (ct (b + 2) 0 (ct (b + 1) i R))).2.1 (b + 1) = 24 from ma.2.1]; exact tc, ?_⟩, ?_⟩
      · rw [show (Sh L (b + 4 + i + 1) (ct (b + 2) 0 (ct (b + 1) i R))).2.2.1 (b + 1) = 8 from (LNy_z (by omega)).trans ma.2.2.2.2.1]
        exact vinN (by omega) rfl
      rw [put_Sh, nI_clamp (by omega), ct_put' (by omega), ct_put (show b + 4 + i + 1 = R (b + 1) i by rw [hR _ _ (by omega), herd_at b hb i (by omega)]; omega) (Nat.le_refl _) (fun f a b => by omega)]
      have := ih (i + 1) (by omega)
      rw [← nI_1, show b + 4 + (i + 1) = b + 4 + i + 1 by omega, show 3 + (i + 1) = 3 + i + 1 by omega, show 23 + 6 * (i + 1) = 23 + 6 * i + 6 by omega] at this
      exact this
  -- the fields
  have hole : ct b 0 R = ct b 1 (ru R b 0 0) := by
    funext k f
    unfold ct ru
    by_cases q : k = b
    · subst q
      rw [if_pos ⟨rfl, Nat.zero_le _⟩]
      by_cases q2 : 1 ≤ f
      · rw [if_pos ⟨rfl, q2⟩]
      · rw [if_neg (by omega), if_pos ⟨rfl, by omega⟩]
    · rw [if_neg (by omega), if_neg (by omega), if_neg (by omega)]
  have hne : ∀ k f, (k ≠ b ∨ f ≠ 0) → ru R b 0 0 k f = R k f := fun k f h => by
    unfold ru
    rw [if_neg (by omega)]
  refine Mc_wp (cut1 75) t217 rfl rfl rfl 80 ?_
  refine ⟨⟨rfl, show b + 1 < 900 by omega, ?_, ?_, by decide, by decide⟩, ?_⟩
  · show (Nat.blt b (b + 1) && (Nat.blt 1 (b + 1) && (true && true))) = true
    rw [blt_t (by omega), blt_t (by omega)]; rfl
  · show (Nat.blt b (b + 1) && true) = true
    rw [blt_t (by omega)]; rfl
  rw [Sh_1, newS_Sh ma.2.1 (show LNy L (b + 1) = (8 : Int32).toNatClampNeg by rw [LNy_z (by omega)]; exact ma.2.2.2.2.1), mz_id (fun x => hm _ x (show b ≤ b + 1 by omega) (show b + 1 < b + 24 by omega))]
  refine ⟨⟨ma.1, show b < b + 2 by omega, show b + 1 < b + 2 by omega⟩, ?_⟩
  rw [put_Sh, hole, ct_put' (by omega), ct_put (show b + 1 + 1 = ru R b 0 0 b 1 by rw [hne b 1 (by omega), r1]) (Nat.le_refl _) (fun f a b => by omega)]
  refine ⟨⟨rfl, show b + 2 < 900 by omega, ?_, ?_, by decide, by decide⟩, ?_⟩
  · show (Nat.blt b (b + 2) && (Nat.blt 1 (b + 2) && (true && true))) = true
    rw [blt_t (by omega), blt_t (by omega)]; rfl
  · show (Nat.blt b (b + 2) && true) = true
    rw [blt_t (by omega)]; rfl
  rw [Sh_1, newS_Sh ma.2.2.1 (show LNy L (b + 2) = (12 : Int32).toNatClampNeg by rw [LNy_z (by omega)]; exact ma.2.2.2.2.2.1), mz_id (fun x => hm _ x (show b ≤ b + 2 by omega) (show b + 2 < b + 24 by omega))]
  refine ⟨⟨ma.1, show b < b + 3 by omega, show b + 2 < b + 3 by omega⟩, ?_⟩
  rw [put_Sh, ct_put' (by omega), ct_put' (by omega), ct_put (show b + 2 + 1 = ru R b 0 0 b 2 by rw [hne b 2 (by omega), r2]) (Nat.le_refl _) (fun f a b => by omega)]
  refine ⟨⟨rfl, show b + 3 < 900 by omega, ?_, ?_, by decide, by decide⟩, ?_⟩
  · show (Nat.blt b (b + 3) && (Nat.blt 1 (b + 3) && (true && true))) = true
    rw [blt_t (by omega), blt_t (by omega)]; rfl
  · show (Nat.blt b (b + 3) && true) = true
    rw [blt_t (by omega)]; rfl
  have l3 : LNy L (b + 3) = 3 := (LNy_z (by omega)).trans ma.2.2.2.2.2.2.1
  rw [Sh_1, newS_Sh ma.2.2.2.1 (show LNy L (b + 3) = (3 : Int32).toNatClampNeg from l3), mz_id (fun x => hm _ x (show b ≤ b + 3 by omega) (show b + 3 < b + 24 by omega)), ct_done (R := ct (b + 2) 0 (ct (b + 1) 0 (ct b 3 (ru R b 0 0)))) (c := b + 3) (i := 0) (fun f _ => by rw [ct_ne (by omega), ct_ne (by omega), ct_ne (by omega), hne _ _ (by omega), hR _ _ (by omega)]; exact RF_out (by rw [ml.2.2.2.2.1]; exact Nat.zero_le _))]
  have ka : ∀ (i : Int32) (k : Nat) (X : Nat → Nat → Nat), i = nI k → k < 3 → (Sh L (b + 3 + 1) X).2.1 (b + 3) = 20 ∧ b + 3 < (Sh L (b + 3 + 1) X).1 ∧ vp_in i ((Sh L (b + 3 + 1) X).2.2.1 (b + 3)) := fun i k X e hk => ⟨ma.2.2.2.1, show b + 3 < b + 3 + 1 by omega, by rw [show (Sh L (b + 3 + 1) X).2.2.1 (b + 3) = 3 from l3]; exact vinK e hk rfl⟩
  refine ⟨ka 0 0 _ rfl (by omega), ?_⟩
  refine ⟨ka 1 1 _ rfl (by omega), ?_⟩
  refine ⟨ka 2 2 _ rfl (by omega), ?_⟩
  refine ⟨⟨ma.1, show b < b + 4 by omega, show b + 3 < b + 4 by omega⟩, ?_⟩
  rw [put_Sh, ct_put' (by omega), ct_put' (by omega), ct_put (show b + 3 + 1 = ru R b 0 0 b 3 by rw [hne b 3 (by omega), r3]) (Nat.le_refl _) (fun f a b => by omega), ct_done (R := ru R b 0 0) (c := b) (i := 4) (fun f hf => by rw [hne b f (by omega)]; exact r4 f hf)]
  refine ⟨⟨ma.1, show b < b + 4 by omega⟩, ?_⟩
  refine ⟨⟨ma.1, show b < b + 4 by omega⟩, ?_⟩
  refine ⟨⟨ma.1, show b < b + 4 by omega⟩, ?_⟩
  refine ⟨⟨ma.1, show b < b + 4 by omega⟩, ?_⟩
  refine ⟨⟨ma.1, show b < b + 4 by omega, show 1 < b + 4 by omega⟩, ?_⟩
  have back : ru (ru R b 0 0) b 0 (1 + 1) = R := by
    funext k f
    show (if k = b ∧ f = 0 then 1 + 1 else if k = b ∧ f = 0 then 0 else R k f) = R k f
    by_cases q : k = b ∧ f = 0
    · rw [if_pos q, q.1, q.2, r0]
    · rw [if_neg q, if_neg q]
  rw [put_Sh, ct_put' (by omega), ct_put' (by omega), back]
  exact lp1 8 0 (by omega)
theorem c_iSheet {d L a : Nat} {R : Nat → Nat → Nat} {m : Mem} {Q : Qt} (h1 : CLy a = 3) (h2 : CLy (a + 1) = 20) (h3 : LNy L (a + 1) = 24) (hR : R a 2 = a + 2) (hR2 : ∀ f, f ≠ 2 → R a f = 0) (hR3 : ∀ f, R (a + 1) f = 0) (hm : ∀ i, m (a + 1) i = 0) (hN : a + 1 < 900) (hQ : Q none (Sh L (a + 2) R) (mu m a 0 (-1))) : Mc (d + 1) 218 [.ref a] (Sh L (a + 1) (ct a 0 R)) m Q := by
  refine Mc_wp nocut t218 rfl rfl rfl 40 ?_
  refine ⟨⟨h1, show a < a + 1 by omega⟩, ?_⟩
  refine ⟨⟨rfl, hN, ?_, ?_, by decide, by decide⟩, ?_⟩
  · show (Nat.blt a (a + 1) && true) = true
    rw [blt_t (by omega)]; rfl
  · show (Nat.blt a (a + 1) && true) = true
    rw [blt_t (by omega)]; rfl
  rw [Sh_1, newS_Sh h2 (show LNy L (a + 1) = (24 : Int32).toNatClampNeg from h3), mz_id (fun i => by rw [mu_row (by omega)]; exact hm i)]
  refine ⟨⟨h1, show a < a + 2 by omega, show a + 1 < a + 2 by omega⟩, ?_⟩
  rw [put_Sh, ct_done (R := ct a 0 R) (fun f _ => (ct_ne (by omega)).trans (hR3 f)), ct_put (show a + 1 + 1 = R a 2 from hR.symm) (Nat.zero_le _) (fun f _ hf => hR2 f (by omega)), ct_done (fun f hf => hR2 f (by omega))]
  exact hQ
theorem c_iSlot {d L a : Nat} {R : Nat → Nat → Nat} {m : Mem} {Q : Qt} (h1 : CLy a = 4) (t1 : CLy (a + 1) = 6) (t2 : LNy L (a + 1) = 0) (t3 : ∀ f, R (a + 1) f = 0) (s1 : CLy (a + 2) = 3) (s2 : LNy L (a + 2) = 0) (p1 : CLy (a + 3) = 20) (p2 : LNy L (a + 3) = 24) (hR1 : R a 1 = a + 2) (hR2 : R a 2 = a + 3) (hR0 : ∀ f, f ≠ 1 → f ≠ 2 → R a f = 0) (q2 : R (a + 2) 2 = a + 4) (q3 : ∀ f, f ≠ 2 → R (a + 2) f = 0) (q4 : ∀ f, R (a + 3) f = 0) (hm : ∀ r i, a ≤ r → r < a + 4 → m r i = 0) (hN : a + 3 < 900) (hQ : Q none (Sh L (a + 4) R) (mu m (a + 2) 0 (-1))) : Mc (d + 2) 219 [.ref a] (Sh L (a + 1) (ct a 0 R)) m Q := by
  refine Mc_wp nocut t219 rfl rfl rfl 40 ?_
  refine ⟨⟨h1, show a < a + 1 by omega⟩, ?_⟩
  rw [mu_id (hm a 0 (by omega) (by omega))]
  refine ⟨⟨rfl, show a + 1 < 900 by omega, ?_, ?_⟩, ?_⟩
  · show (Nat.blt a (a + 1) && true) = true
    rw [blt_t (by omega)]; rfl
  · show (Nat.blt a (a + 1) && true) = true
    rw [blt_t (by omega)]; rfl
  rw [Sh_1, newS_Sh t1 t2, mz_id (fun i => hm (a + 1) i (by omega) (by omega)), ct_done (R := ct a 0 R) (c := a + 1) (i := 0) (fun f _ => by rw [ct_ne (by omega)]; exact t3 f)]
  refine Mc_wp nocut t47 rfl rfl rfl 20 ?_
  refine ⟨⟨h1, show a < a + 2 by omega, show a + 1 < a + 2 by omega⟩, ?_⟩
  rw [put_Sh, ct_put (show a + 1 + 1 = R a 1 from hR1.symm) (Nat.zero_le _) (fun f _ hf => hR0 f (by omega) (by omega))]
  refine ⟨⟨rfl, show a + 2 < 900 by omega, ?_, ?_⟩, ?_⟩
  · show (Nat.blt a (a + 2) && true) = true
    rw [blt_t (by omega)]; rfl
  · show (Nat.blt a (a + 2) && true) = true
    rw [blt_t (by omega)]; rfl
  rw [Sh_1, newS_Sh s1 s2, mz_id (fun i => hm (a + 2) i (by omega) (by omega))]
  refine ⟨⟨rfl, ?_, ?_⟩, ?_⟩
  · show (Nat.blt a (a + 3) && true) = true
    rw [blt_t (by omega)]; rfl
  · show (Nat.blt (a + 2) (a + 3) && (Nat.blt a (a + 3) && true)) = true
    rw [blt_t (by omega), blt_t (by omega)]; rfl
  refine c_iSheet (a := a + 2) s1 p1 p2 (by rw [ct_ne (by omega)]; exact q2) (fun f hf => by rw [ct_ne (by omega)]; exact q3 f hf) (fun f => by rw [ct_ne (by omega)]; exact q4 f) (fun i => hm (a + 3) i (by omega) (by omega)) hN ?_
  refine ⟨⟨h1, show a < a + 4 by omega, show a + 2 < a + 4 by omega⟩, ?_⟩
  rw [put_Sh, ct_put (show a + 2 + 1 = R a 2 from hR2.symm) (Nat.le_refl _) (fun f a b => by omega), ct_done (fun f hf => hR0 f (by omega) (by omega))]
  exact hQ
