-- the class: fines, what is added, what becomes as another
theorem c_fineFor {d L : Nat} {mem : Mem} {Q : Qt} {b nt nw nx t : Nat} {A : Nat → Int32} (hb : MB b) (hR : RepM b nt nw nx A mem) (hT : RepT nx A mem) (ht : t < nt) (hy : 0 < A 3) (hy2 : (A 3).toInt ≤ 1000000) (hp : -1000000000 ≤ (A (44 + 6 * t + 2)).toInt)
    (h : ∀ m', Fr [3, 4] mem m' → Q (some (.int (fineA A t))) (S0 L) m') : Mc (d + 4) 23 [.ref b, .ref (b + 4 + t)] (S0 L) mem Q := by
  have hn8 := hR.2.2.1.1
  have hc : tuC L (b + 4 + t) := heC hb (by omega)
  have hnx : nxA A = nx := nx_of hR.2.1.2.2 hR.2.2.1.2.2
  have h7 : mem b 7 = A 3 := hR.1.2.2.2.1
  have hy0 : ¬ mem b 7 = 0 := by rw [h7]; intro e; rw [e] at hy; exact absurd hy (by decide)
  have el : fdV (mem (b + 4 + t) 2) (mem b 7) = lapsA A t := by rw [h7, hR.2.2.2.1 t 2 ht (by omega), fd_eq hy hp hy2]; rfl
  unfold fineA at h
  rw [hnx] at h
  refine Mc_wp nocut t23 rfl rfl rfl 100 ?_
  refine ⟨moK3 hb, ?_⟩
  rw [moV3 hb]
  refine ⟨coK hb (rfl : (2 : Int32) = nI 2) (show 2 < 3 by decide), ?_⟩
  rw [lc2, hR.2.2.2.2.2 2 (by omega)]
  cases hcn : cntO A (nI 2) nx with
  | none =>
    rw [show cntO A 2 nx = none from hcn] at h
    dsimp only at h
    rw [tol_none]
    refine ⟨moC hb, c_lapsOf hb hc hy0 ?_⟩
    rw [el]
    exact h mem Fr.refl
  | some k =>
    rw [show cntO A 2 nx = some k from hcn] at h
    dsimp only at h
    have hk := (cntO_some hcn).1
    have := hR.2.2.1.2.2
    rw [tol_some (by omega)]
    refine ifI (fun z => absurd z (none_ne (by omega))) (fun _ => ?_)
    refine ⟨moK0 hb, ?_⟩
    rw [moV0 hb]
    refine ⟨moC hb, c_lapsOf hb hc hy0 ?_⟩
    rw [el]
    refine ⟨hc, ?_⟩
    rw [hR.2.2.2.1 t 1 ht (by omega)]
    refine ⟨⟨rfl, ltB rfl⟩, c_givesA hR.2.2.1.2.2 hT (by omega) hcn (fun m' hm => ?_)⟩
    exact h m' hm
theorem c_addTurtle {d L : Nat} {mem : Mem} {Q : Qt} {b nt nw nx : Nat} {A : Nat → Int32} {k p : Int32} (hb : MB b) (hR : RepM b nt nw nx A mem) (ht : nt < 8)
    (h : ∀ m', FrB b mem m' → RepM b (nt + 1) nw nx (comesA A nt k p) m' → Q (some (.int (nI nt))) (S0 L) m') : Mc (d + 2) 6 [.ref b, .int k, .int p] (S0 L) mem Q := by
  have hb5 := mb_ge hb
  have hc : tuC L (b + 4 + nt) := heC hb ht
  obtain ⟨⟨a4, a5, a6, a7, a8, a9, a10, a11⟩, h2, h3, h4, h5, h6⟩ := hR
  have row : ∀ r, r ≠ b + 4 + nt → hatchM mem (b + 4 + nt) k p r = mem r := fun r hr => by
    unfold hatchM
    rw [mu_row hr, mu_row hr, mu_row hr, mu_row hr, mu_row hr, mu_row hr]
  have out : ∀ i, i ≠ 1 → (i < 44 + 6 * nt ∨ 44 + 6 * nt + 6 ≤ i) → comesA A nt k p i = A i := fun i h1 hi => by
    unfold comesA
    rw [pk_un h1, pk_un (by omega), pk_un (by omega), pk_un (by omega), pk_un (by omega), pk_un (by omega), pk_un (by omega)]
  refine Mc_wp nocut t6 rfl rfl rfl 60 ?_
  refine ⟨moK1 hb, ?_⟩
  rw [moV1 hb]
  refine ⟨moC hb, ?_⟩
  refine ⟨heK hb a4 ht, ?_⟩
  rw [heV hb a4 ht]
  refine ⟨hc, c_hatch hc ?_⟩
  refine ⟨moC hb, ?_⟩
  refine ⟨moC hb, ?_⟩
  refine ⟨moC hb, ?_⟩
  rw [mu_at, row b (by omega), a4, nI_1]
  have e1 : (nI (nt + 1) - 1 : Int32) = nI nt := pk_sub (a := nt + 1) (b := 1) (by omega)
  rw [← e1] at h
  refine h _ ?_ ?_
  · intro r q1 q2 q3
    rw [mu_row (by omega)]
    exact row r (by omega)
  have fld : ∀ f, f ≠ 4 → mu (hatchM mem (b + 4 + nt) k p) b 4 (nI (nt + 1)) b f = mem b f := fun f hf => by rw [mu_ne hf, row b (by omega)]
  refine ⟨⟨mu_at, ?_, ?_, ?_, ?_, ?_, ?_, ?_⟩, ⟨?_, ?_, ?_⟩, ⟨by omega, h3.2.1, h3.2.2⟩, fun t f ht' hf => ?_, fun w f hw hf => ?_, fun q hq => ?_⟩
  · rw [fld 5 (by decide)]; exact a5
  · rw [fld 6 (by decide)]; exact a6
  · rw [fld 7 (by decide), out 3 (by omega) (by omega)]; exact a7
  · rw [fld 8 (by decide), out 4 (by omega) (by omega)]; exact a8
  · rw [fld 9 (by decide), out 5 (by omega) (by omega)]; exact a9
  · rw [fld 10 (by decide), out 2 (by omega) (by omega)]; exact a10
  · rw [fld 11 (by decide), out 0 (by omega) (by omega)]; exact a11
  · unfold comesA; rw [pk_us]
  · rw [out 6 (by omega) (by omega)]; exact h2.2.1
  · rw [out 7 (by omega) (by omega)]; exact h2.2.2
  · by_cases e : t = nt
    · subst e
      rw [mu_row (by omega)]
      unfold hatchM comesA
      rw [pk_un (by omega)]
      rcases (show f = 0 ∨ f = 1 ∨ f = 2 ∨ f = 3 ∨ f = 4 ∨ f = 5 by omega) with rfl | rfl | rfl | rfl | rfl | rfl
      · rw [mu_ne (by omega), mu_ne (by omega), mu_ne (by omega), mu_ne (by omega), mu_ne (by omega), mu_at, pk_un (by omega), pk_us]
      · rw [mu_ne (by omega), mu_ne (by omega), mu_ne (by omega), mu_ne (by omega), mu_at, pk_us]
      · rw [mu_ne (by omega), mu_ne (by omega), mu_ne (by omega), mu_at, pk_un (by omega), pk_un (by omega), pk_un (by omega), pk_un (by omega), pk_un (by omega), pk_us]
      · rw [mu_ne (by omega), mu_ne (by omega), mu_at, pk_un (by omega), pk_un (by omega), pk_un (by omega), pk_un (by omega), pk_us]
      · rw [mu_ne (by omega), mu_at, pk_un (by omega), pk_un (by omega), pk_un (by omega), pk_us]
      · rw [mu_at, pk_un (by omega), pk_un (by omega), pk_us]
    · rw [mu_row (by omega), row _ (by omega), out _ (by omega) (by omega)]; exact h4 t f (by omega) hf
  · rw [mu_row (by omega), row _ (by omega), out _ (by omega) (by omega)]; exact h5 w f hw hf
  · rw [mu_row (by omega), row _ (by omega), cntO_congr (B := A) (fun k _ => out _ (by omega) (by omega))]; exact h6 q hq
theorem c_addWager {d L : Nat} {mem : Mem} {Q : Qt} {b nt nw nx : Nat} {A : Nat → Int32} {o tt s : Int32} (hb : MB b) (hR : RepM b nt nw nx A mem) (hw : nw < 12)
    (h : ∀ m', FrB b mem m' → RepM b nt (nw + 1) nx (betA A nw o tt s) m' → Q (some (.int (nI nw))) (S0 L) m') : Mc (d + 1) 7 [.ref b, .int o, .int tt, .int s] (S0 L) mem Q := by
  have hb5 := mb_ge hb
  have hc : waC L (b + 12 + nw) := beC hb hw
  obtain ⟨⟨a4, a5, a6, a7, a8, a9, a10, a11⟩, h2, h3, h4, h5, h6⟩ := hR
  have out : ∀ i, i ≠ 6 → (i < 8 + 3 * nw ∨ 8 + 3 * nw + 3 ≤ i) → betA A nw o tt s i = A i := fun i h1 hi => by
    unfold betA
    rw [pk_un h1, pk_un (by omega), pk_un (by omega), pk_un (by omega)]
  refine Mc_wp nocut t7 rfl rfl rfl 60 ?_
  refine ⟨moK2 hb, ?_⟩
  rw [moV2 hb]
  refine ⟨moC hb, ?_⟩
  refine ⟨beK hb a5 hw, ?_⟩
  rw [beV hb a5 hw]
  refine ⟨hc, ?_⟩
  refine ⟨hc, ?_⟩
  refine ⟨hc, ?_⟩
  refine ⟨moC hb, ?_⟩
  refine ⟨moC hb, ?_⟩
  refine ⟨moC hb, ?_⟩
  have row : ∀ r, r ≠ b + 12 + nw → mu (mu (mu mem (b + 12 + nw) 0 o) (b + 12 + nw) 1 tt) (b + 12 + nw) 2 s r = mem r := fun r hr => by
    rw [mu_row hr, mu_row hr, mu_row hr]
  rw [mu_at, row b (by omega), a5, nI_1]
  have e1 : (nI (nw + 1) - 1 : Int32) = nI nw := pk_sub (a := nw + 1) (b := 1) (by omega)
  rw [← e1] at h
  refine h _ ?_ ?_
  · intro r q1 q2 q3
    rw [mu_row (by omega)]
    exact row r (by omega)
  have fld : ∀ f, f ≠ 5 → mu (mu (mu (mu mem (b + 12 + nw) 0 o) (b + 12 + nw) 1 tt) (b + 12 + nw) 2 s) b 5 (nI (nw + 1)) b f = mem b f := fun f hf => by rw [mu_ne hf, row b (by omega)]
  refine ⟨⟨?_, mu_at, ?_, ?_, ?_, ?_, ?_, ?_⟩, ⟨?_, ?_, ?_⟩, ⟨h3.1, by omega, h3.2.2⟩, fun t f ht' hf => ?_, fun w f hw hf => ?_, fun q hq => ?_⟩
  · rw [fld 4 (by decide)]; exact a4
  · rw [fld 6 (by decide)]; exact a6
  · rw [fld 7 (by decide), out 3 (by omega) (by omega)]; exact a7
  · rw [fld 8 (by decide), out 4 (by omega) (by omega)]; exact a8
  · rw [fld 9 (by decide), out 5 (by omega) (by omega)]; exact a9
  · rw [fld 10 (by decide), out 2 (by omega) (by omega)]; exact a10
  · rw [fld 11 (by decide), out 0 (by omega) (by omega)]; exact a11
  · rw [out 1 (by omega) (by omega)]; exact h2.1
  · unfold betA; rw [pk_us]
  · rw [out 7 (by omega) (by omega)]; exact h2.2.2
  · rw [mu_row (by omega), row _ (by omega), out _ (by omega) (by omega)]; exact h4 t f ht' hf
  · by_cases e : w = nw
    · subst e
      rw [mu_row (by omega)]
      unfold betA
      rw [pk_un (by omega)]
      rcases (show f = 0 ∨ f = 1 ∨ f = 2 by omega) with rfl | rfl | rfl
      · rw [mu_ne (by omega), mu_ne (by omega), mu_at, pk_un (by omega), pk_un (by omega), show 8 + 3 * w + 0 = 8 + 3 * w from rfl, pk_us]
      · rw [mu_ne (by omega), mu_at, pk_un (by omega), pk_us]
      · rw [mu_at, pk_us]
    · rw [mu_row (by omega), row _ (by omega), out _ (by omega) (by omega)]; exact h5 w f (by omega) hf
  · rw [mu_row (by omega), row _ (by omega), cntO_congr (B := A) (fun k _ => out _ (by omega) (by omega))]; exact h6 q hq
