-- constructors: the class's whole object
def shM (m : Mem) : Nat → Mem
  | 0 => m
  | i + 1 => mu (shM m i) (111 + 2 * i) 0 (-1)
def slM (m : Mem) : Nat → Mem
  | 0 => m
  | i + 1 => mu (slM m i) (121 + 4 * i) 0 (-1)
theorem shM_row {m : Mem} {r : Nat} : ∀ n, (∀ i, i < n → r ≠ 111 + 2 * i) → shM m n r = m r
  | 0, _ => rfl
  | n + 1, h => by
    show mu (shM m n) (111 + 2 * n) 0 (-1) r = _
    rw [mu_row (h n (by omega)), shM_row n (fun i hi => h i (by omega))]
theorem slM_row {m : Mem} {r : Nat} : ∀ n, (∀ i, i < n → r ≠ 121 + 4 * i) → slM m n r = m r
  | 0, _ => rfl
  | n + 1, h => by
    show mu (slM m n) (121 + 4 * n) 0 (-1) r = _
    rw [mu_row (h n (by omega)), slM_row n (fun i hi => h i (by omega))]
theorem shM_at {m : Mem} {j f : Nat} : ∀ n, j < n → shM m n (111 + 2 * j) f = if f = 0 then -1 else m (111 + 2 * j) f
  | n + 1, h => by
    show mu (shM m n) (111 + 2 * n) 0 (-1) (111 + 2 * j) f = _
    by_cases q : j = n
    · subst q
      by_cases q2 : f = 0
      · subst q2; rw [mu_at, if_pos rfl]
      · rw [mu_ne q2, if_neg q2, shM_row j (fun i hi => by omega)]
    · rw [mu_row (by omega), shM_at n (by omega)]
theorem sz_all : (∀ i, i < 4 → LNz (111 + 2 * i) = 0 ∧ (RFr (111 + 2 * i)).length = 3 ∧ RFy (111 + 2 * i) 0 = 0 ∧ RFy (111 + 2 * i) 1 = 0 ∧ (RFr (112 + 2 * i)).length = 0) ∧ ∀ i, i < 5 → LNz (119 + 4 * i) = 0 ∧ (RFr (119 + 4 * i)).length = 3 ∧ RFy (119 + 4 * i) 0 = 0 ∧ LNz (120 + 4 * i) = 0 ∧ (RFr (120 + 4 * i)).length = 0 ∧ LNz (121 + 4 * i) = 0 ∧ (RFr (121 + 4 * i)).length = 3 ∧ RFy (121 + 4 * i) 0 = 0 ∧ RFy (121 + 4 * i) 1 = 0 ∧ (RFr (122 + 4 * i)).length = 0 := by decide
def tbM (m : Mem) : Mem := slM (shM (moM 83 (moM 59 (moM 35 m))) 4) 5
theorem c_iBet {d L : Nat} {m : Mem} {Q : Qt} (hm : ∀ r i, r < 161 → m r i = 0) (hQ : Q none (Sh L 139 RFy) (tbM m)) : Mc (d + 4) 221 [.ref 0] (Sh L 1 (ct 0 0 RFy)) m Q := by
  generalize hM : moM 83 (moM 59 (moM 35 m)) = m3
  have z3 : ∀ r i, 107 ≤ r → r < 161 → m3 r i = 0 := fun r i h1 h2 => by
    rw [← hM, moM_row (by omega) (by omega), moM_row (by omega) (by omega), moM_row (by omega) (by omega)]; exact hm r i h2
  -- slots
  have lp2 : ∀ j i, i + j = 5 → ∀ x, x = Sh L (119 + 4 * i) (ct 109 i RFy) → Xs (d + 4) 221 120 [some (.ref 0), some (.int (nI i))] [] x (200 + 6 * i, 3936 + 64 * i) (slM (shM m3 4) i) Q := by
    intro j
    induction j with
    | zero =>
      intro i hi x hx
      have hi : i = 5 := by omega
      subst hi
      subst hx
      refine Xs_wpc (cut1 120) t221 40 ⟨by decide, by decide⟩ ?_
      rw [ct_done (R := RFy) (c := 109) (i := 5) (fun f hf => RF_out hf)]
      unfold tbM at hQ
      rw [hM] at hQ
      exact hQ
    | succ j ih =>
      intro i hi x hx
      subst hx
      have sl := sl_all i (by omega)
      have sz := sz_all.2 i (by omega)
      refine Xs_wpc (cut1 120) t221 40 ⟨show 200 + 6 * i ≤ 300 by omega, show 3936 + 64 * i ≤ 6000 by omega⟩ ?_
      refine ifI (fun _ => ?_) (fun z => absurd (nI_lt (b := 5) (by omega) (by omega)) z)
      have v1 : (Sh L (119 + 4 * i) (ct 109 i RFy)).2.2.2 0 8 = 110 := by
        show ct 109 i RFy 0 8 = _
        rw [ct_ne (by decide)]; rfl
      refine ⟨⟨rfl, show 0 < 119 + 4 * i by omega, by rw [v1]; decide⟩, ?_⟩
      rw [v1, show 110 - 1 = 109 by omega]
      refine ⟨⟨bokI (j := 221) (show 200 + 6 * i + 1 ≤ 300 by omega) (show 3936 + 64 * i + 4 ≤ 6000 by omega), show 119 + 4 * i < 900 by omega, ?_, ?_⟩, ?_⟩
      · show (Nat.blt 0 (119 + 4 * i) && (true && true)) = true
        rw [blt_t (by omega)]; rfl
      · show (true && (Nat.blt 109 (119 + 4 * i) && true)) = true
        rw [blt_t (by omega)]; rfl
      have zz : ∀ r y, 119 + 4 * i ≤ r → r < 161 → slM (shM m3 4) i r y = 0 := fun r y h1 h2 => by
        rw [slM_row i (fun a ha => by omega), shM_row 4 (fun a ha => by omega)]; exact z3 r y (by omega) h2
      rw [Sh_1, newS_Sh sl.2.2.2.2.2.1 (by rw [LNy_z (by omega)]; exact sz.1), mz_id (fun y => zz (119 + 4 * i) y (by omega) (by omega))]
      refine ⟨⟨bokI (j := 221) (show 200 + 6 * i + 1 + 5 ≤ 300 by omega) (show 3936 + 64 * i + 4 + 60 ≤ 6000 by omega), ?_, ?_⟩, ?_⟩
      · show (Nat.blt 0 (119 + 4 * i + 1) && (true && true)) = true
        rw [blt_t (by omega)]; rfl
      · show (Nat.blt (119 + 4 * i) (119 + 4 * i + 1) && (true && (Nat.blt 109 (119 + 4 * i + 1) && true))) = true
        rw [blt_t (by omega), blt_t (by omega)]; rfl
      refine c_iSlot sl.2.2.2.2.2.1 (by rw [show 119 + 4 * i + 1 = 120 + 4 * i by omega]; exact sl.2.2.2.2.2.2.2.2) (by rw [show 119 + 4 * i + 1 = 120 + 4 * i by omega, LNy_z (by omega)]; exact sz.2.2.2.1) (fun f => ?_) (by rw [show 119 + 4 * i + 2 = 121 + 4 * i by omega]; exact sl.1) (by rw [show 119 + 4 * i + 2 = 121 + 4 * i by omega, LNy_z (by omega)]; exact sz.2.2.2.2.2.1) (by rw [show 119 + 4 * i + 3 = 121 + 4 * i + 1 by omega]; exact sl.2.2.1) (by rw [show 119 + 4 * i + 3 = 121 + 4 * i + 1 by omega, LNy_z (by omega)]; exact sl.2.2.2.1) ?_ ?_ (fun f f1 f2 => ?_) ?_ (fun f f2 => ?_) (fun f => ?_) (fun r y h1 h2 => zz r y h1 (by omega)) (by omega) ?_
      · rw [ct_ne (by omega), show 119 + 4 * i + 1 = 120 + 4 * i by omega]; exact RF_out (by omega)
      · rw [ct_ne (by omega), sl.2.2.2.2.2.2.1]; omega
      · rw [ct_ne (by omega), sl.2.2.2.2.2.2.2.1]; omega
      · rw [ct_ne (by omega)]
        by_cases q : f = 0
        · rw [q]; exact sz.2.2.1
        · exact RF_out (by omega)
      · rw [ct_ne (by omega), show 119 + 4 * i + 2 = 121 + 4 * i by omega, sl.2.1]; omega
      · rw [ct_ne (by omega), show 119 + 4 * i + 2 = 121 + 4 * i by omega]
        by_cases q : f = 0
        · rw [q]; exact sz.2.2.2.2.2.2.2.1
        · by_cases q1 : f = 1
          · rw [q1]; exact sz.2.2.2.2.2.2.2.2.1
          · exact RF_out (by omega)
      · rw [ct_ne (by omega), show 119 + 4 * i + 3 = 122 + 4 * i by omega]; exact RF_out (by omega)
      refine ⟨⟨leB rfl, show 109 < 119 + 4 * i + 4 by omega, show 119 + 4 * i < 119 + 4 * i + 4 by omega, sl.2.2.2.2.2.1, vinN (n := 5) (by omega) rfl⟩, ?_⟩
      rw [put_Sh, nI_clamp (by omega), ct_put (show 119 + 4 * i + 1 = RFy 109 i by rw [sl.2.2.2.2.1]; omega) (Nat.le_refl _) (fun f a b => by omega)]
      have := ih (i + 1) (by omega) _ rfl
      rw [show slM (shM m3 4) (i + 1) = mu (slM (shM m3 4) i) (121 + 4 * i) 0 (-1) from rfl, ← nI_1, show 119 + 4 * (i + 1) = 119 + 4 * i + 4 by omega, show 200 + 6 * (i + 1) = 200 + 6 * i + 1 + 5 by omega, show 3936 + 64 * (i + 1) = 3936 + 64 * i + 4 + 60 by omega, show 121 + 4 * i = 119 + 4 * i + 2 by omega] at this
      exact this
  have lp1 : ∀ j i, i + j = 4 → Xs (d + 4) 221 94 [some (.ref 0), some (.int (nI i))] [] (Sh L (111 + 2 * i) (ct 109 0 (ct 108 i RFy))) (188 + 3 * i, 3804 + 33 * i) (shM m3 i) Q := by
    intro j
    induction j with
    | zero =>
      intro i hi
      have hi : i = 4 := by omega
      subst hi
      refine Xs_wpc (cut2 94 120) t221 40 ⟨by decide, by decide⟩ ?_
      rw [ct_done (R := RFy) (c := 108) (i := 4) (fun f hf => RF_out hf)]
      exact lp2 5 0 (by omega) _ rfl
    | succ j ih =>
      intro i hi
      have sl := sh_all i (by omega)
      have sz := sz_all.1 i (by omega)
      refine Xs_wpc (cut2 94 120) t221 40 ⟨show 188 + 3 * i ≤ 300 by omega, show 3804 + 33 * i ≤ 6000 by omega⟩ ?_
      refine ifI (fun _ => ?_) (fun z => absurd (nI_lt (b := 4) (by omega) (by omega)) z)
      have v1 : (Sh L (111 + 2 * i) (ct 109 0 (ct 108 i RFy))).2.2.2 0 7 = 109 := by
        show ct 109 0 (ct 108 i RFy) 0 7 = _
        rw [ct_ne (by decide), ct_ne (by decide)]; rfl
      refine ⟨⟨rfl, show 0 < 111 + 2 * i by omega, by rw [v1]; decide⟩, ?_⟩
      rw [v1, show 109 - 1 = 108 by omega]
      refine ⟨⟨bokI (j := 221) (show 188 + 3 * i + 1 ≤ 300 by omega) (show 3804 + 33 * i + 3 ≤ 6000 by omega), show 111 + 2 * i < 900 by omega, ?_, ?_⟩, ?_⟩
      · show (Nat.blt 0 (111 + 2 * i) && (true && true)) = true
        rw [blt_t (by omega)]; rfl
      · show (true && (Nat.blt 108 (111 + 2 * i) && true)) = true
        rw [blt_t (by omega)]; rfl
      have zz : ∀ r y, 111 + 2 * i ≤ r → r < 161 → shM m3 i r y = 0 := fun r y h1 h2 => by
        rw [shM_row i (fun a ha => by omega)]; exact z3 r y (by omega) h2
      rw [Sh_1, newS_Sh sl.1 (by rw [LNy_z (by omega)]; exact sz.1), mz_id (fun y => zz (111 + 2 * i) y (by omega) (by omega))]
      refine ⟨⟨bokI (j := 221) (show 188 + 3 * i + 1 + 2 ≤ 300 by omega) (show 3804 + 33 * i + 3 + 30 ≤ 6000 by omega), ?_, ?_⟩, ?_⟩
      · show (Nat.blt 0 (111 + 2 * i + 1) && (true && true)) = true
        rw [blt_t (by omega)]; rfl
      · show (Nat.blt (111 + 2 * i) (111 + 2 * i + 1) && (true && (Nat.blt 108 (111 + 2 * i + 1) && true))) = true
        rw [blt_t (by omega), blt_t (by omega)]; rfl
      refine c_iSheet sl.1 sl.2.2.1 (by rw [LNy_z (by omega)]; exact sl.2.2.2.1) ?_ (fun f f2 => ?_) (fun f => ?_) (fun y => zz (111 + 2 * i + 1) y (by omega) (by omega)) (by omega) ?_
      · rw [ct_ne (by omega), ct_ne (by omega), sl.2.1]
      · rw [ct_ne (by omega), ct_ne (by omega)]
        by_cases q : f = 0
        · rw [q]; exact sz.2.2.1
        · by_cases q1 : f = 1
          · rw [q1]; exact sz.2.2.2.1
          · exact RF_out (by omega)
      · rw [ct_ne (by omega), ct_ne (by omega), show 111 + 2 * i + 1 = 112 + 2 * i by omega]; exact RF_out (by omega)
      refine ⟨⟨leB rfl, show 108 < 111 + 2 * i + 2 by omega, show 111 + 2 * i < 111 + 2 * i + 2 by omega, sl.1, vinN (n := 4) (by omega) rfl⟩, ?_⟩
      rw [put_Sh, nI_clamp (by omega), ct_put' (by decide), ct_put (show 111 + 2 * i + 1 = RFy 108 i by rw [sl.2.2.2.2]; omega) (Nat.le_refl _) (fun f a b => by omega)]
      have := ih (i + 1) (by omega)
      rw [show shM m3 (i + 1) = mu (shM m3 i) (111 + 2 * i) 0 (-1) from rfl, ← nI_1, show 111 + 2 * (i + 1) = 111 + 2 * i + 2 by omega, show 188 + 3 * (i + 1) = 188 + 3 * i + 1 + 2 by omega, show 3804 + 33 * (i + 1) = 3804 + 33 * i + 3 + 30 by omega] at this
      exact this
  have h46 : ∀ (c f : Nat), RFy 0 c = 0 → c ≤ f → f < c + 1 → RFy 0 f = 0 := fun c f h a b => by
    have e : f = c := by omega
    rw [e]; exact h
  have rb : ∀ (j k f : Nat), 1 ≤ k → ct 0 j RFy k f = RFy k f := fun j k f h => ct_ne (by omega)
  refine Mc_wp (cut1 94) t221 rfl rfl rfl 100 ?_
  refine ⟨⟨rfl, ltB rfl, rfl, rfl⟩, ?_⟩
  rw [Sh_1, newS_Sh (show CLy 1 = 0 from rfl) (show LNy L 1 = 0 from rfl), mz_id (fun y => hm 1 y (by omega))]
  refine ⟨⟨rfl, rfl, rfl⟩, c_iLaws (rb 0) (fun r i _ h => hm r i (by omega)) ?_⟩
  refine ⟨⟨rfl, ltB rfl, ltB rfl⟩, ?_⟩
  rw [put_Sh, ct_put (show (1 + 1 : Nat) = RFy 0 0 from rfl) (Nat.le_refl _) (fun f a b => by omega)]
  refine ⟨⟨rfl, ltB rfl, rfl, rfl⟩, ?_⟩
  rw [Sh_1, newS_Sh (show CLy 35 = 1 from rfl) (show LNy L 35 = 0 from rfl), mz_id (fun y => hm 35 y (by omega))]
  refine ⟨⟨rfl, ltB rfl, neB rfl⟩, ?_⟩
  refine ⟨⟨rfl, rfl, rfl⟩, c_iMoat mb35 (rb 1) (fun r i _ h => hm r i (by omega)) ?_⟩
  refine ⟨⟨rfl, ltB rfl, ltB rfl⟩, ?_⟩
  rw [put_Sh, ct_put (show (35 + 1 : Nat) = RFy 0 1 from rfl) (Nat.le_refl _) (fun f a b => by omega)]
  refine ⟨⟨rfl, ltB rfl, rfl, rfl⟩, ?_⟩
  rw [Sh_1, newS_Sh (show CLy 59 = 1 from rfl) (show LNy L 59 = 0 from rfl), mz_id (fun y => by rw [moM_row (by omega) (by omega)]; exact hm 59 y (by omega))]
  refine ⟨⟨rfl, ltB rfl, neB rfl⟩, ?_⟩
  refine ⟨⟨rfl, rfl, rfl⟩, c_iMoat mb59 (rb 2) (fun r i _ h => by rw [moM_row (by omega) (by omega)]; exact hm r i (by omega)) ?_⟩
  refine ⟨⟨rfl, ltB rfl, ltB rfl⟩, ?_⟩
  rw [put_Sh, ct_put (show (59 + 1 : Nat) = RFy 0 2 from rfl) (Nat.le_refl _) (fun f a b => by omega)]
  refine ⟨⟨rfl, ltB rfl, rfl, rfl⟩, ?_⟩
  rw [Sh_1, newS_Sh (show CLy 83 = 1 from rfl) (show LNy L 83 = 0 from rfl), mz_id (fun y => by rw [moM_row (by omega) (by omega), moM_row (by omega) (by omega)]; exact hm 83 y (by omega))]
  refine ⟨⟨rfl, ltB rfl, neB rfl⟩, ?_⟩
  refine ⟨⟨rfl, rfl, rfl⟩, c_iMoat mb83 (rb 3) (fun r i _ h => by rw [moM_row (by omega) (by omega), moM_row (by omega) (by omega)]; exact hm r i (by omega)) ?_⟩
  refine ⟨⟨rfl, ltB rfl, ltB rfl⟩, ?_⟩
  rw [put_Sh, ct_put (show (83 + 1 : Nat) = RFy 0 3 from rfl) (Nat.le_refl _) (fun f a b => by omega), hM]
  refine ⟨⟨rfl, ltB rfl, rfl, rfl, by decide, by decide⟩, ?_⟩
  rw [Sh_1, newS_Sh (show CLy 107 = 20 from rfl) (show LNy L 107 = (96 : Int32).toNatClampNeg from rfl), mz_id (fun y => z3 107 y (by omega) (by omega)), ct_done (R := ct 0 4 RFy) (c := 107) (i := 0) (fun f _ => by rw [ct_ne (by decide)]; exact RF_out (Nat.zero_le _))]
  refine ⟨⟨rfl, ltB rfl, ltB rfl⟩, ?_⟩
  rw [put_Sh, ct_put (show (107 + 1 : Nat) = RFy 0 5 from rfl) (by omega) (fun f a b => h46 4 f rfl a b)]
  refine ⟨⟨rfl, ltB rfl, rfl, rfl, by decide, by decide⟩, ?_⟩
  rw [Sh_1, newS_Sh (show CLy 108 = 26 from rfl) (show LNy L 108 = (4 : Int32).toNatClampNeg from rfl), mz_id (fun y => z3 108 y (by omega) (by omega))]
  refine ⟨⟨rfl, ltB rfl, ltB rfl⟩, ?_⟩
  rw [put_Sh, ct_put' (by decide), ct_put (show (108 + 1 : Nat) = RFy 0 7 from rfl) (by omega) (fun f a b => h46 6 f rfl a b)]
  refine ⟨⟨rfl, ltB rfl, rfl, rfl, by decide, by decide⟩, ?_⟩
  rw [Sh_1, newS_Sh (show CLy 109 = 27 from rfl) (show LNy L 109 = (5 : Int32).toNatClampNeg from rfl), mz_id (fun y => z3 109 y (by omega) (by omega))]
  refine ⟨⟨rfl, ltB rfl, ltB rfl⟩, ?_⟩
  rw [put_Sh, ct_put' (by decide), ct_put' (by decide), ct_put (show (109 + 1 : Nat) = RFy 0 8 from rfl) (Nat.le_refl _) (fun f a b => by omega)]
  refine ⟨⟨rfl, ltB rfl, rfl, rfl, by decide, by decide⟩, ?_⟩
  rw [Sh_1, newS_Sh (show CLy 110 = 20 from rfl) (show LNy L 110 = (60 : Int32).toNatClampNeg from rfl), mz_id (fun y => z3 110 y (by omega) (by omega)), ct_done (R := ct 109 0 (ct 108 0 (ct 0 9 RFy))) (c := 110) (i := 0) (fun f _ => by rw [ct_ne (by decide), ct_ne (by decide), ct_ne (by decide)]; exact RF_out (Nat.zero_le _))]
  refine ⟨⟨rfl, ltB rfl, ltB rfl⟩, ?_⟩
  rw [put_Sh, ct_put' (by decide), ct_put' (by decide), ct_put (show (110 + 1 : Nat) = RFy 0 9 from rfl) (Nat.le_refl _) (fun f a b => by omega), ct_done (R := RFy) (c := 0) (i := 10) (fun f hf => RF_out hf)]
  exact lp1 4 0 (by omega)
