-- the law
theorem lenI {L i : Nat} (hL : L ≤ 384) (hi : i ≤ 1000) : (Int32.ofNat L - 6 < nI i) ↔ L < i + 6 := by
  have e6 : (6 : Int32).toInt = 6 := rfl
  have eL : (Int32.ofNat L).toInt = L := nI_toInt (show L < 2 ^ 31 by omega)
  rw [tI_lt, nI_toInt (by omega), tI_sub (by rw [e6, eL]; omega) (by rw [e6, eL]; omega), e6, eL]
  omega
theorem law_loop {scr : Nat → Int32} {L d : Nat} {Q : Qt} (hL : L ≤ 384) (hQ : ∀ S m, Q (some (.int 1)) S m) : ∀ n k c1 c2 m, k ≤ 65 → 65 ≤ n + k → (c1 ≤ 400 + 2 * k ∧ c2 ≤ 20000 + 10 * k) → Sim scr k m → Xs (d + 201) 223 18 [some (.retAddr 20), some (.ref 0), some (.ref 139), some (.int (nI (6 * k)))] [] (S0 L) (c1, c2) m Q := by
  intro n
  induction n with
  | zero =>
    intro k c1 c2 m h1 h2 hc hs
    refine Xs_wpc nocut t223h 60 ⟨show c1 ≤ 600000 by omega, show c2 ≤ 7302249 by omega⟩ ?_
    refine ifI (fun _ => ?_) (fun z => absurd ((lenI hL (by omega)).mpr (by omega)) z)
    exact (condI (bokI (show c1 ≤ 600000 by omega) (show c2 ≤ 7302249 by omega)) ⟨Or.inr rfl, hQ _ _⟩ : cond (bok 223 (c1, c2)) (((1 : Int32) = 0 ∨ (1 : Int32) = 1) ∧ Q (some (.int 1)) (S0 L) m) False)
  | succ n ih =>
    intro k c1 c2 m h1 h2 hc hs
    by_cases q : L < 6 * k + 6
    · refine Xs_wpc nocut t223h 60 ⟨show c1 ≤ 600000 by omega, show c2 ≤ 7302249 by omega⟩ ?_
      refine ifI (fun _ => ?_) (fun z => absurd ((lenI hL (by omega)).mpr q) z)
      exact (condI (bokI (show c1 ≤ 600000 by omega) (show c2 ≤ 7302249 by omega)) ⟨Or.inr rfl, hQ _ _⟩ : cond (bok 223 (c1, c2)) (((1 : Int32) = 0 ∨ (1 : Int32) = 1) ∧ Q (some (.int 1)) (S0 L) m) False)
    have next : ∀ m' a b, Sim scr (k + 1) m' → a ≤ 400 + 2 * (k + 1) ∧ b ≤ 20000 + 10 * (k + 1) → Xs (d + 201) 223 1566 [some (.retAddr 20), some (.ref 0), some (.ref 139), some (.int (nI (6 * k)))] [] (S0 L) (a, b) m' Q := by
      intro m' a b hs' hab
      refine Xs_wpc (cut1 18) t223h 60 ⟨show a ≤ 600000 by omega, show b ≤ 7302249 by omega⟩ ?_
      have := ih (k + 1) a b m' (by omega) (by omega) hab hs'
      rw [show 6 * (k + 1) = 6 * k + 6 by omega, ← nI_add] at this
      exact this
    refine Xs_wpc (fun pc => Nat.ble 224 pc) t223h 60 ⟨show c1 ≤ 600000 by omega, show c2 ≤ 7302249 by omega⟩ ?_
    refine ifI (fun z => absurd ((lenI hL (by omega)).mp z) q) (fun _ => ?_)
    refine ⟨vinK (n := L) (rfl : nI (6 * k) = nI (6 * k)) (by omega) (blt_t (by omega)), ?_⟩
    refine ifI (fun _ => law_0 (by omega) hL (by omega) hc hs next) (fun _ => ?_)
    refine ifI (fun _ => law_1 (by omega) hL (by omega) hc hs next) (fun _ => ?_)
    refine ifI (fun _ => law_2 (by omega) hL (by omega) hc hs next) (fun _ => ?_)
    refine ifI (fun _ => law_3 (by omega) hL (by omega) hc hs next) (fun _ => ?_)
    refine ifI (fun _ => law_4 (by omega) hL (by omega) hc hs next) (fun _ => ?_)
    refine ifI (fun _ => law_5 (by omega) hL (by omega) hc hs next) (fun _ => ?_)
    refine ifI (fun _ => law_6 (by omega) hL (by omega) hc hs next) (fun _ => ?_)
    refine ifI (fun _ => law_7 (by omega) hL (by omega) hc hs next) (fun _ => ?_)
    refine ifI (fun _ => law_8 (by omega) hL (by omega) hc hs next) (fun _ => ?_)
    refine ifI (fun _ => law_9 (by omega) hL (by omega) hc hs next) (fun _ => ?_)
    refine ifI (fun _ => law_10 (by omega) hL (by omega) hc hs next) (fun _ => ?_)
    refine ifI (fun _ => law_11 (by omega) hL (by omega) hc hs next) (fun _ => ?_)
    refine ifI (fun _ => law_12 (by omega) hL (by omega) hc hs next) (fun _ => ?_)
    refine ifI (fun _ => law_13 (by omega) hL (by omega) hc hs next) (fun _ => ?_)
    refine ifI (fun _ => law_14 (by omega) hL (by omega) hc hs next) (fun _ => ?_)
    refine ifI (fun _ => law_15 (by omega) hL (by omega) hc hs next) (fun _ => ?_)
    refine ifI (fun _ => law_16 (by omega) hL (by omega) hc hs next) (fun _ => ?_)
    refine ifI (fun _ => law_17 (by omega) hL (by omega) hc hs next) (fun _ => ?_)
    refine ifI (fun _ => law_18 (by omega) hL (by omega) hc hs next) (fun _ => ?_)
    refine ifI (fun _ => law_19 (by omega) hL (by omega) hc hs next) (fun _ => ?_)
    refine ifI (fun _ => law_20 (by omega) hL (by omega) hc hs next) (fun _ => ?_)
    refine ifI (fun _ => law_21 (by omega) hL (by omega) hc hs next) (fun _ => ?_)
    refine ifI (fun _ => law_22 (by omega) hL (by omega) hc hs next) (fun _ => ?_)
    refine ifI (fun _ => law_23 (by omega) hL (by omega) hc hs next) (fun _ => ?_)
    refine ifI (fun _ => law_24 (by omega) hL (by omega) hc hs next) (fun _ => ?_)
    refine ifI (fun _ => law_25 (by omega) hL (by omega) hc hs next) (fun _ => ?_)
    refine ifI (fun _ => law_26 (by omega) hL (by omega) hc hs next) (fun _ => ?_)
    refine ifI (fun _ => law_27 (by omega) hL (by omega) hc hs next) (fun _ => ?_)
    refine ifI (fun _ => law_28 (by omega) hL (by omega) hc hs next) (fun _ => ?_)
    refine ifI (fun _ => law_29 (by omega) hL (by omega) hc hs next) (fun _ => ?_)
    refine ifI (fun _ => law_30 (by omega) hL (by omega) hc hs next) (fun _ => ?_)
    refine ifI (fun _ => law_31 (by omega) hL (by omega) hc hs next) (fun _ => ?_)
    refine ifI (fun _ => law_32 (by omega) hL (by omega) hc hs next) (fun _ => ?_)
    refine ifI (fun _ => law_33 (by omega) hL (by omega) hc hs next) (fun _ => ?_)
    refine ifI (fun _ => law_34 (by omega) hL (by omega) hc hs next) (fun _ => ?_)
    refine ifI (fun _ => law_35 (by omega) hL (by omega) hc hs next) (fun _ => ?_)
    refine ifI (fun _ => law_36 (by omega) hL (by omega) hc hs next) (fun _ => ?_)
    refine ifI (fun _ => law_37 (by omega) hL (by omega) hc hs next) (fun _ => ?_)
    refine ifI (fun _ => law_38 (by omega) hL (by omega) hc hs next) (fun _ => ?_)
    refine ifI (fun _ => law_39 (by omega) hL (by omega) hc hs next) (fun _ => ?_)
    refine ifI (fun _ => law_40 (by omega) hL (by omega) hc hs next) (fun _ => ?_)
    refine ifI (fun _ => law_41 (by omega) hL (by omega) hc hs next) (fun _ => ?_)
    refine ifI (fun _ => law_42 (by omega) hL (by omega) hc hs next) (fun _ => ?_)
    refine ifI (fun _ => law_43 (by omega) hL (by omega) hc hs next) (fun _ => ?_)
    exact next m c1 c2 hs.next ⟨by omega, by omega⟩
theorem law_all {scr : Nat → Int32} {L d : Nat} {Q : Qt} (hL : L ≤ 384) (hQ : ∀ S m, Q (some (.int 1)) S m) : Mc (d + 201) 223 [.retAddr 20] (Sh L 0 RFy) (ini scr) Q := by
  refine Mc_wp (cut1 18) t223h rfl rfl rfl 60 ?_
  have z : ∀ r i, r < 161 → ini scr r i = 0 := fun r i h => if_neg (by omega)
  refine ⟨⟨rfl, ltB rfl, rfl, rfl⟩, ?_⟩
  rw [Sh_1, newS_Sh (show CLy 0 = 8 from rfl) (show LNy L 0 = 0 from rfl), mz_id (fun y => z 0 y (by omega))]
  refine ⟨⟨rfl, rfl, rfl⟩, c_iBet z ?_⟩
  refine ⟨⟨rfl, ltB rfl, rfl, rfl⟩, ?_⟩
  have z2 : ∀ r i, 139 ≤ r → r < 161 → tbM (ini scr) r i = 0 := fun r i h1 h2 => by
    rw [tbM_row (fun i hi => by omega) (fun i hi => by omega) (by omega)]; exact z r i h2
  rw [Sh_1, newS_Sh (show CLy 139 = 9 from rfl) (show LNy L 139 = 0 from rfl), mz_id (fun y => z2 139 y (by omega) (by omega))]
  refine ⟨⟨rfl, rfl, rfl⟩, c_iModel z2 ?_⟩
  exact law_loop hL hQ 65 0 _ _ (beg scr) (by omega) (by omega) ⟨leB rfl, leB rfl⟩ sim0
