-- what the constructors make
def ct (c i : Nat) (R : Nat → Nat → Nat) : Nat → Nat → Nat := fun k f => if k = c ∧ i ≤ f then 0 else R k f
theorem rz_ct {R : Nat → Nat → Nat} {N : Nat} : rz R N = ct N 0 R := by
  funext k f
  unfold rz ct
  by_cases q : k = N
  · rw [if_pos q, if_pos ⟨q, Nat.zero_le _⟩]
  · rw [if_neg q, if_neg (fun z => q z.1)]
theorem ct_ne {R : Nat → Nat → Nat} {c i k f : Nat} (h : k ≠ c) : ct c i R k f = R k f := if_neg (fun z => h z.1)
theorem ct_lt {R : Nat → Nat → Nat} {c i k f : Nat} (h : f < i) : ct c i R k f = R k f := if_neg (fun z => by omega)
theorem ct_put {R : Nat → Nat → Nat} {c i j v : Nat} (hv : v = R c j) (hij : i ≤ j) (hz : ∀ f, i ≤ f → f < j → R c f = 0) : ru (ct c i R) c j v = ct c (j + 1) R := by
  funext k f
  unfold ru ct
  by_cases q : k = c
  · subst q
    by_cases q2 : f = j
    · subst q2; rw [if_pos ⟨rfl, rfl⟩, if_neg (by omega)]; exact hv
    · rw [if_neg (by omega)]
      by_cases q3 : i ≤ f
      · rw [if_pos ⟨rfl, q3⟩]
        by_cases q4 : j + 1 ≤ f
        · rw [if_pos ⟨rfl, q4⟩]
        · rw [if_neg (by omega)]; exact (hz f q3 (by omega)).symm
      · rw [if_neg (by omega), if_neg (by omega)]
  · rw [if_neg (by omega), if_neg (by omega), if_neg (by omega)]
theorem ct_put' {R : Nat → Nat → Nat} {c c' i j v : Nat} (h : c ≠ c') : ru (ct c' i R) c j v = ct c' i (ru R c j v) := by
  funext k f
  show (if k = c ∧ f = j then v else if k = c' ∧ i ≤ f then 0 else R k f) = (if k = c' ∧ i ≤ f then 0 else if k = c ∧ f = j then v else R k f)
  by_cases q : k = c ∧ f = j
  · rw [if_pos q, if_neg (by omega), if_pos q]
  · rw [if_neg q, if_neg q]
theorem ct_done {R : Nat → Nat → Nat} {c i : Nat} (h : ∀ f, i ≤ f → R c f = 0) : ct c i R = R := by
  funext k f
  unfold ct
  by_cases q : k = c ∧ i ≤ f
  · rw [if_pos q, q.1, h f q.2]
  · rw [if_neg q]
theorem ct_comm {R : Nat → Nat → Nat} {c c' i i' : Nat} : ct c i (ct c' i' R) = ct c' i' (ct c i R) := by
  funext k f
  unfold ct
  by_cases q : k = c ∧ i ≤ f
  · rw [if_pos q]
    by_cases q2 : k = c' ∧ i' ≤ f
    · rw [if_pos q2]
    · rw [if_neg q2, if_pos q]
  · rw [if_neg q]
    by_cases q2 : k = c' ∧ i' ≤ f
    · rw [if_pos q2, if_pos q2]
    · rw [if_neg q2, if_neg q2, if_neg q]
def Sh (L N : Nat) (R : Nat → Nat → Nat) : Shp := (N, CLy, LNy L, R)
theorem upn_id {f : Nat → Nat} {k v : Nat} (h : f k = v) : upn f k v = f := by
  funext i
  unfold upn
  by_cases q : i = k
  · rw [if_pos q, q, h]
  · rw [if_neg q]
theorem newS_Sh {L N t len : Nat} {R : Nat → Nat → Nat} (h1 : CLy N = t) (h2 : LNy L N = len) : newS (Sh L N R) t len = Sh L (N + 1) (ct N 0 R) := by
  show (N + 1, upn CLy N t, upn (LNy L) N len, rz R N) = _
  rw [upn_id h1, upn_id h2, rz_ct]; rfl
theorem Sh_1 {L N : Nat} {R : Nat → Nat → Nat} : (Sh L N R).1 = N := rfl
theorem put_Sh {L N a i v : Nat} {R : Nat → Nat → Nat} : ((Sh L N R).1, (Sh L N R).2.1, (Sh L N R).2.2.1, ru (Sh L N R).2.2.2 a i v) = Sh L N (ru R a i v) := rfl
theorem mz_id {m : Mem} {n : Nat} (h : ∀ i, m n i = 0) : mz m n = m := by
  funext a i
  unfold mz
  by_cases q : a = n
  · rw [if_pos q, q, h]
  · rw [if_neg q]
theorem mu_id {m : Mem} {a i : Nat} {v : Int32} (h : m a i = v) : mu m a i v = m := by
  funext b k
  unfold mu
  by_cases q : b = a ∧ k = i
  · rw [if_pos q, q.1, q.2, h]
  · rw [if_neg q]
theorem blt_t {a n : Nat} (h : a < n) : Nat.blt a n = true := by simpa using h
theorem c_iText {d L a : Nat} {R : Nat → Nat → Nat} {m : Mem} {Q : Qt} (h1 : CLy a = 5) (h2 : CLy (a + 1) = 20) (h3 : LNy L (a + 1) = 96) (hR : R a 0 = a + 2) (hR2 : ∀ f, 1 ≤ f → R a f = 0) (hR3 : ∀ f, R (a + 1) f = 0) (hm : ∀ i, m (a + 1) i = 0) (hN : a + 1 < 900) (hQ : Q none (Sh L (a + 2) R) m) : Mc (d + 1) 215 [.ref a] (Sh L (a + 1) (ct a 0 R)) m Q := by
  refine Mc_wp nocut t215 rfl rfl rfl 40 ?_
  refine ⟨⟨rfl, hN, ?_, ?_, by decide, by decide⟩, ?_⟩
  · show (Nat.blt a (a + 1) && true) = true
    rw [blt_t (by omega)]; rfl
  · show (Nat.blt a (a + 1) && true) = true
    rw [blt_t (by omega)]; rfl
  rw [Sh_1, newS_Sh h2 (show LNy L (a + 1) = (96 : Int32).toNatClampNeg from h3), mz_id hm]
  refine ⟨⟨h1, show a < a + 2 by omega, show a + 1 < a + 2 by omega⟩, ?_⟩
  rw [put_Sh, ct_done (R := ct a 0 R) (fun f _ => (ct_ne (by omega)).trans (hR3 f)), ct_put (show a + 1 + 1 = R a 0 from hR.symm) (Nat.le_refl _) (fun f a b => by omega), ct_done (fun f hf => hR2 f hf)]
  exact hQ
theorem LNy_z {L k : Nat} (h : k < 161) : LNy L k = LNz k := LNy_lt (L := L) h
theorem RF_out {k f : Nat} (h : (RFr k).length ≤ f) : RFy k f = 0 := by
  unfold RFy
  rw [nth_eq, List.getElem?_eq_none h]; rfl
theorem rfl_row : ∀ x, x < 15 → (RFr (6 + 2 * x)).length = 0 ∧ (RFr (5 + 2 * x)).length ≤ 1 := by decide
theorem lnz_row : ∀ x, x < 15 → LNz (5 + 2 * x) = 0 := by decide
theorem c_iLaws {d L : Nat} {R : Nat → Nat → Nat} {m : Mem} {Q : Qt} (hR : ∀ k f, 1 ≤ k → R k f = RFy k f) (hm : ∀ r i, 2 ≤ r → r ≤ 34 → m r i = 0) (hQ : Q none (Sh L 35 R) m) : Mc (d + 2) 216 [.ref 1] (Sh L 2 (ct 1 0 R)) m Q := by
  have lp : ∀ j i, i + j = 15 → Xs (d + 2) 216 30 [some (.ref 1), some (.int (nI i))] [] (Sh L (5 + 2 * i) (ct 2 i R)) (3 + 3 * i, 115 + 104 * i) m Q := by
    intro j
    induction j with
    | zero =>
      intro i hi
      have hi : i = 15 := by omega
      subst hi
      refine Xs_wpc (cut1 30) t216 40 ⟨by decide, by decide⟩ ?_
      rw [ct_done (R := R) (c := 2) (i := 15) (fun f hf => by rw [hR 2 f (by omega)]; exact RF_out hf)]
      exact hQ
    | succ j ih =>
      intro i hi
      have tc := tx_cl i (by omega)
      have rr := rfl_row i (by omega)
      have eN : 5 + 2 * i + 1 = 6 + 2 * i := by omega
      refine Xs_wpc (cut1 30) t216 40 ⟨show 3 + 3 * i ≤ 60 by omega, show 115 + 104 * i ≤ 3000 by omega⟩ ?_
      refine ifI (fun z => absurd z (nI_nlt (a := 14) (b := i) (by omega) (by omega))) (fun _ => ?_)
      have v1 : (Sh L (5 + 2 * i) (ct 2 i R)).2.2.2 1 0 = 3 := by
        show ct 2 i R 1 0 = 3
        rw [ct_ne (by decide), hR 1 0 (by omega)]; rfl
      refine ⟨⟨rfl, show 1 < 5 + 2 * i by omega, by rw [v1]; decide⟩, ?_⟩
      rw [v1]
      refine ⟨⟨bokI (j := 216) (show 3 + 3 * i + 1 ≤ 60 by omega) (show 115 + 104 * i + 4 ≤ 3000 by omega), show 5 + 2 * i < 900 by omega, ?_, ?_⟩, ?_⟩
      · show (Nat.blt 1 (5 + 2 * i) && (true && true)) = true
        rw [blt_t (by omega)]; rfl
      · show (true && (Nat.blt 2 (5 + 2 * i) && true)) = true
        rw [blt_t (by omega)]; rfl
      rw [Sh_1, newS_Sh tc.1 (by rw [LNy_z (by omega)]; exact lnz_row i (by omega)), mz_id (fun x => hm _ x (show 2 ≤ 5 + 2 * i by omega) (show 5 + 2 * i ≤ 34 by omega))]
      refine ⟨⟨bokI (j := 216) (show 3 + 3 * i + 1 + 2 ≤ 60 by omega) (show 115 + 104 * i + 4 + 100 ≤ 3000 by omega), ?_, ?_⟩, ?_⟩
      · show (Nat.blt 1 (5 + 2 * i + 1) && (true && true)) = true
        rw [blt_t (by omega)]; rfl
      · show (Nat.blt (5 + 2 * i) (5 + 2 * i + 1) && (true && (Nat.blt 2 (5 + 2 * i + 1) && true))) = true
        rw [blt_t (by omega), blt_t (by omega)]; rfl
      refine c_iText tc.1 (by rw [eN]; exact tc.2.1) (by rw [eN, LNy_z (by omega)]; exact tc.2.2.1) ?_ (fun f hf => ?_) (fun f => ?_) (fun x => hm _ x (by omega) (by omega)) (by omega) ?_
      · rw [ct_ne (by omega), hR _ _ (by omega), tc.2.2.2.1]; omega
      · rw [ct_ne (by omega), hR _ _ (by omega)]; exact RF_out (by omega)
      · rw [ct_ne (by omega), hR _ _ (by omega), eN]; exact RF_out (by omega)
      refine ⟨⟨leB rfl, show 2 < 5 + 2 * i + 2 by omega, show 5 + 2 * i < 5 + 2 * i + 2 by omega, tc.1, vinN (n := 15) (by omega) rfl⟩, ?_⟩
      rw [put_Sh, nI_clamp (by omega), ct_put (show 5 + 2 * i + 1 = R 2 i by rw [hR _ _ (by omega), tc.2.2.2.2]; omega) (Nat.le_refl _) (fun f a b => by omega)]
      have := ih (i + 1) (by omega)
      rw [← nI_1, show 5 + 2 * (i + 1) = 5 + 2 * i + 2 by omega, show 3 + 3 * (i + 1) = 3 + 3 * i + 1 + 2 by omega, show 115 + 104 * (i + 1) = 115 + 104 * i + 4 + 100 by omega] at this
      exact this
  refine Mc_wp (cut1 30) t216 rfl rfl rfl 60 ?_
  refine ⟨⟨rfl, ltB rfl, rfl, rfl, by decide, by decide⟩, ?_⟩
  rw [Sh_1, newS_Sh (show CLy 2 = 23 from rfl) (show LNy L 2 = (15 : Int32).toNatClampNeg from rfl), mz_id (fun x => hm 2 x (by omega) (by omega))]
  refine ⟨⟨rfl, ltB rfl, ltB rfl⟩, ?_⟩
  rw [put_Sh, ct_put' (by decide), ct_put (show (2 + 1 : Nat) = R 1 0 by rw [hR 1 0 (by omega)]; rfl) (Nat.le_refl _) (fun f a b => by omega)]
  refine ⟨⟨rfl, show 3 < 900 by omega, rfl, rfl, by decide, by decide⟩, ?_⟩
  rw [Sh_1, newS_Sh (show CLy 3 = 20 from rfl) (show LNy L 3 = (4 : Int32).toNatClampNeg from rfl), mz_id (fun x => hm 3 x (by omega) (by omega)), ct_done (R := ct 2 0 (ct 1 1 R)) (c := 3) (i := 0) (fun f _ => by rw [ct_ne (by decide), ct_ne (by decide), hR 3 f (by omega)]; exact RF_out (Nat.zero_le _))]
  refine ⟨⟨rfl, ltB rfl, ltB rfl⟩, ?_⟩
  rw [put_Sh, ct_put' (by decide), ct_put (show (3 + 1 : Nat) = R 1 1 by rw [hR 1 1 (by omega)]; rfl) (Nat.le_refl _) (fun f a b => by omega)]
  refine ⟨⟨rfl, show 4 < 900 by omega, rfl, rfl, by decide, by decide⟩, ?_⟩
  rw [Sh_1, newS_Sh (show CLy 4 = 20 from rfl) (show LNy L 4 = (96 : Int32).toNatClampNeg from rfl), mz_id (fun x => hm 4 x (by omega) (by omega)), ct_done (R := ct 2 0 (ct 1 2 R)) (c := 4) (i := 0) (fun f _ => by rw [ct_ne (by decide), ct_ne (by decide), hR 4 f (by omega)]; exact RF_out (Nat.zero_le _))]
  refine ⟨⟨rfl, ltB rfl, ltB rfl⟩, ?_⟩
  rw [put_Sh, ct_put' (by decide), ct_put (show (4 + 1 : Nat) = R 1 2 by rw [hR 1 2 (by omega)]; rfl) (Nat.le_refl _) (fun f a b => by omega), ct_done (R := R) (c := 1) (i := 3) (fun f hf => by rw [hR 1 f (by omega)]; exact RF_out hf)]
  exact lp 15 0 (by omega)
