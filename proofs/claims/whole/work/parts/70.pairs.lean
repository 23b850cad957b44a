-- pairs: stick
def psh (t : Nat) (x : Int32) (A : Nat → Int32) : Nat → Int32 := upd A (44 + 6 * t + 2) (A (44 + 6 * t + 2) + x)
theorem psh_ne {t i : Nat} {x : Int32} {A : Nat → Int32} (h : i ≠ 44 + 6 * t + 2) : psh t x A i = A i := pk_un h
theorem woA_congr {A B : Nat → Int32} {x : Nat} {fa : Nat → Int32} (h : ∀ i, 92 ≤ i → B i = A i) : woA B x fa = woA A x fa := by
  have e1 : cdA B x = cdA A x := by funext i; exact h _ (by omega)
  have e2 : lenA B x = lenA A x := by unfold lenA; rw [h _ (by omega)]
  unfold woA
  rw [e1, e2]
theorem plainA_congr {A B : Nat → Int32} {u : Nat} {x : Int32} (h1 : B (44 + 6 * u + 1) = A (44 + 6 * u + 1)) (h3 : B (44 + 6 * u + 3) = A (44 + 6 * u + 3)) (h4 : B 4 = A 4) (h7 : B 7 = A 7) (ht : ∀ i, 92 ≤ i → B i = A i) : plainA B u x = plainA A u x := by
  have e1 : nxA B = nxA A := by unfold nxA; rw [h7]
  have e2 : cntO B 0 (nxA A) = cntO A 0 (nxA A) := cntO_congr (fun k _ => ht _ (by omega))
  unfold plainA
  rw [e1, e2, h1, h3, h4]
  cases cntO A 0 (nxA A) with
  | none => rfl
  | some k => dsimp only; rw [woA_congr ht]
theorem stepA_congr {A B : Nat → Int32} {u : Nat} {x : Int32} (h0 : B (44 + 6 * u + 0) = A (44 + 6 * u + 0)) (h1 : B (44 + 6 * u + 1) = A (44 + 6 * u + 1)) (h3 : B (44 + 6 * u + 3) = A (44 + 6 * u + 3)) (h4 : B 4 = A 4) (h7 : B 7 = A 7) (ht : ∀ i, 92 ≤ i → B i = A i) : stepA B u x = stepA A u x := by
  unfold stepA
  rw [plainA_congr h1 h3 h4 h7 ht, h0, h3, h4]
theorem drawA_psh {t : Nat} {x : Int32} {A : Nat → Int32} : drawA (psh t x A) = psh t x (drawA A) := by
  unfold drawA psh
  funext i
  have e0 : upd A (44 + 6 * t + 2) (A (44 + 6 * t + 2) + x) 0 = A 0 := pk_un (by omega)
  have e1 : upd A 0 (drawN (A 0)) (44 + 6 * t + 2) = A (44 + 6 * t + 2) := pk_un (by omega)
  rw [e0, e1]
  by_cases h : i = 0
  · subst h; rw [pk_us, pk_un (by omega), pk_us]
  · by_cases h2 : i = 44 + 6 * t + 2
    · subst h2; rw [pk_un (by omega), pk_us, pk_us]
    · rw [pk_un h, pk_un h2, pk_un h2, pk_un h]
theorem farV_psh {t u : Nat} {x : Int32} {A : Nat → Int32} (ht : t < 8) : farV (psh t x A) u = farV A u := by
  unfold farV
  rw [drawA_psh, psh_ne (i := 4) (by omega), psh_ne (i := 0) (by omega)]
  rw [stepA_congr (A := drawA A) (psh_ne (by omega)) (psh_ne (by omega)) (psh_ne (by omega)) (psh_ne (by omega)) (psh_ne (by omega)) (fun i hi => psh_ne (by omega))]
theorem dayT_psh {t u : Nat} {x : Int32} {A : Nat → Int32} (ht : t < 8) : dayT (psh t x A) u = psh t x (dayT A u) := by
  unfold dayT
  rw [psh_ne (i := 44 + 6 * u + 5) (by omega)]
  by_cases q : A (44 + 6 * u + 5) = 1
  · rw [if_pos q, if_pos q]
  · rw [if_neg q, if_neg q, farV_psh ht, psh_ne (i := 44 + 6 * u + 4) (by omega), psh_ne (i := 44 + 6 * u + 3) (by omega), psh_ne (i := 5) (by omega), drawA_psh]
    generalize (if A (44 + 6 * u + 4) = 1 then -farV A u else farV A u) = f
    generalize (if A (44 + 6 * u + 3) + 1 < A 5 then (0 : Int32) else 1) = z
    funext i
    by_cases h5 : i = 44 + 6 * u + 5
    · subst h5; rw [pk_us, psh_ne (by omega), pk_us]
    · rw [pk_un h5]
      by_cases h3 : i = 44 + 6 * u + 3
      · subst h3; rw [pk_us, psh_ne (by omega), pk_un (by omega), pk_us]
      · rw [pk_un h3]
        by_cases e : t = u
        · subst e
          by_cases h2 : i = 44 + 6 * t + 2
          · subst h2
            unfold psh
            rw [pk_us, pk_us, pk_us, pk_un (by omega), pk_un (by omega), pk_us, Int32.add_assoc, Int32.add_comm x, Int32.add_assoc]
          · rw [pk_un h2, psh_ne h2, psh_ne h2, pk_un h5, pk_un h3, pk_un h2]
        · by_cases h2 : i = 44 + 6 * u + 2
          · subst h2
            rw [pk_us, psh_ne (by omega), psh_ne (by omega), pk_un h5, pk_un h3, pk_us]
          · rw [pk_un h2]
            by_cases h6 : i = 44 + 6 * t + 2
            · subst h6
              unfold psh
              rw [pk_us, pk_us, pk_un (by omega), pk_un (by omega), pk_un (by omega)]
            · rw [psh_ne h6, psh_ne h6, pk_un h5, pk_un h3, pk_un h2]
theorem dayL_psh {t : Nat} {x : Int32} {A : Nat → Int32} (ht : t < 8) : ∀ n, dayL (psh t x A) n = psh t x (dayL A n)
  | 0 => rfl
  | n + 1 => by
    show dayT (dayL (psh t x A) n) n = psh t x (dayT (dayL A n) n)
    rw [dayL_psh ht n, dayT_psh ht]
theorem dayA_psh {t : Nat} {x : Int32} {A : Nat → Int32} (ht : t < 8) : dayA (psh t x A) = psh t x (dayA A) := by
  have en : ntA (psh t x A) = ntA A := by unfold ntA; rw [psh_ne (by omega)]
  unfold dayA
  rw [en, dayL_psh ht, psh_ne (i := 2) (by omega)]
  funext i
  by_cases h : i = 2
  · subst h; rw [pk_us, psh_ne (by omega), pk_us]
  · rw [pk_un h]
    by_cases h2 : i = 44 + 6 * t + 2
    · subst h2; unfold psh; rw [pk_us, pk_us, pk_un (by omega)]
    · rw [psh_ne h2, psh_ne h2, pk_un h]
theorem goes_psh {t : Nat} {x : Int32} (ht : t < 8) : ∀ (n : Nat) {A : Nat → Int32}, goesA n (psh t x A) = psh t x (goesA n A)
  | 0, _ => rfl
  | n + 1, A => by
    show goesA n (dayA (psh t x A)) = _
    rw [dayA_psh ht, goes_psh ht n]; rfl
theorem psh_s {t i : Nat} {A : Nat → Int32} : upd (psh t (nI i) A) (44 + 6 * t + 2) (psh t (nI i) A (44 + 6 * t + 2) + 1) = psh t (nI (i + 1)) A := by
  unfold psh
  rw [pk_us, Int32.add_assoc, nI_1]
  funext j
  by_cases h : j = 44 + 6 * t + 2
  · subst h; rw [pk_us, pk_us]
  · rw [pk_un h, pk_un h, pk_un h]
theorem psh_0 {t : Nat} {A : Nat → Int32} : psh t (nI 0) A = A := by
  funext j
  unfold psh
  by_cases h : j = 44 + 6 * t + 2
  · subst h; rw [pk_us]; exact Int32.add_zero _
  · rw [pk_un h]
theorem pr_stick {scr : Nat → Int32} {L d k : Nat} {m : Mem} {v w : Int32} (h : Sim scr k m) : Pair scr L (d + 20) 77 158 [.int v, .int w] k m := by
  intro Q hQ
  obtain ⟨nt, nw, nx, hM, hI⟩ := h.1.1
  have hR := hM.1
  have hn8 := hR.2.2.1.1
  have hx14 := hR.2.2.1.2.2
  have hnt : ntA (m 140) = nt := nt_of hR.2.1.1 hn8
  refine Mc_wp (cut1 45) t77 rfl rfl rfl 60 ?_
  refine ⟨⟨rfl, ltB rfl, neB rfl⟩, ?_⟩
  rw [rf_cnow]
  rcases num_or (n := nt) v (by omega) with q1 | ⟨t, ht, rfl⟩
  · refine ⟨moC mb35, c_hF mb35 hR.1.1 hn8 q1 ?_⟩
    refine hQ _ m (fun Q' hQ' => ?_)
    refine Mc_wp nocut t158 rfl rfl rfl 60 ?_
    exact ⟨⟨rfl, ltB rfl⟩, r_hF hR.2.1.1 hn8 q1 (hQ' m h.next)⟩
  refine ⟨moC mb35, c_hT mb35 hR.1.1 hn8 ht ?_⟩
  by_cases q2 : 0 ≤ w ∧ w ≤ 60
  rotate_left 1
  · refine c_wF q2 ?_
    refine hQ _ m (fun Q' hQ' => ?_)
    refine Mc_wp nocut t158 rfl rfl rfl 60 ?_
    refine ⟨⟨rfl, ltB rfl⟩, r_hT hR.2.1.1 hn8 ht ?_⟩
    exact r_iF q2 (hQ' m h.next)
  refine c_wT q2 ?_
  obtain ⟨n, hn, rfl⟩ := ix_split (v := w) (b := 60) (n := 60) rfl q2.1 q2.2
  have ref : ∀ (V : Int32) (g : Nat) (m3 : Mem), g ≤ 100 → (∀ r, ¬ scrap r → m3 r = m r) → (∀ c, c < g → ¬ opI (ahA (psh t (nI c) (goesA n (m 140)))) = nI t) → (g = 100 ∧ V = NONEv ∨ g < 100 ∧ V = nI g ∧ opI (ahA (psh t (nI g) (goesA n (m 140)))) = nI t) → Q (some (.int V)) (S0 L) m3 := by
    intro V g m3 hg hs hno hV
    have s140 : m3 140 = m 140 := hs 140 (by unfold scrap; omega)
    refine hQ V m3 (fun Q' hQ' => ?_)
    have fin : ∀ m4, Tr m3 m4 (m 140) → Q' (some (.int V)) (S0 L) m4 := by
      intro m7 hT7
      refine hQ' m7 (sim_scrap h (fun r hr => ?_))
      by_cases e : r = 140
      · subst e; rw [hT7.2.1]
      · rw [hT7.1 r (by simp; unfold scrap at hr; omega)]; exact hs r hr
    have aft : ∀ c m4 m5, Tr m3 m4 (m 140) → Fr [140, 150, 151] (mu m4 140 (44 + 6 * t + 2) (m4 140 (44 + 6 * t + 2) + nI c)) m5 → m5 140 = cpRow (mu m4 140 (44 + 6 * t + 2) (m4 140 (44 + 6 * t + 2) + nI c) 143) (goesA n (mu m4 140 (44 + 6 * t + 2) (m4 140 (44 + 6 * t + 2) + nI c) 140)) 92 → Tr m3 m5 (m 140) := by
      intro c m4 m5 hT4 hF5 h5
      have e143 : m5 143 = m4 143 := by rw [hF5 143 (by simp), mu_row (by decide)]
      refine ⟨hT4.1.trans (((Fr.refl.mu (by simp)).trans (hF5.mono (by simp)))), ?_, fun i hi => by rw [e143]; exact hT4.2.2.1 i hi, fun i hi => by rw [s140]⟩
      rw [h5, mu_row (show (143 : Nat) ≠ 140 by decide), mu_upd, hT4.2.1]
      funext i
      unfold cpRow
      by_cases q : i < 92
      · rw [if_pos q, hT4.2.2.1 i q, s140]
      · rw [if_neg q, goes_out (by omega) (by omega) (by omega) n (by rw [nt_upd (by omega)]; omega)]; exact pk_un (by omega)
    have loop : ∀ j i, i + j = g → ∀ m4, Tr m3 m4 (m 140) → Xs (d + 20) 158 27 [some (.ref 139), some (.int (nI t)), some (.int (nI n)), some (.int (nI i))] [] (S0 L) (0, 0) m4 Q' := by
      intro j
      induction j with
      | zero =>
        intro i hi m4 hT4
        have hi : i = g := by omega
        subst hi
        rcases hV with ⟨e, eV⟩ | ⟨e, eV, ey⟩
        · subst e
          refine Xs_wp (cut1 27) t158 60 ?_
          have := fin m4 hT4
          rw [eV] at this
          exact this
        · refine Xs_wp (cut1 27) t158 60 ?_
          refine ifI (fun _ => ?_) (fun z => absurd (nI_lt (a := i) (b := 100) (by omega) (by omega)) z)
          refine ⟨⟨rfl, ltB rfl⟩, r_of (w := 2) (by omega) (by omega) ?_⟩
          refine ⟨⟨rfl, ltB rfl⟩, r_put (w := 2) (by omega) (by omega) ?_⟩
          have e140 : mu m4 140 (44 + 6 * t + 2) (m4 140 (44 + 6 * t + 2) + nI i) 140 = psh t (nI i) (m 140) := by rw [mu_upd, hT4.2.1]; rfl
          refine ⟨⟨rfl, ltB rfl⟩, r_leadsBehind (nt := nt) (nx := nx) hn8 hx14 (by omega) (by rw [e140, psh_ne (by omega)]; exact hR.2.1.1) (by rw [e140, psh_ne (by omega)]; exact hR.2.1.2.2) (by rw [e140]; exact TX_congr (fun x hx => psh_ne (by omega)) hM.2.1.tx) (fun q m5 hF5 h5 => ?_) (fun q => absurd (by rw [e140, goes_psh (by omega)]; exact ey) q)⟩
          have := fin m5 (aft i m4 m5 hT4 hF5 h5)
          rw [eV] at this
          exact this
      | succ j ih =>
        intro i hi m4 hT4
        refine Xs_wp (cut1 27) t158 60 ?_
        refine ifI (fun _ => ?_) (fun z => absurd (nI_lt (a := i) (b := 100) (by omega) (by omega)) z)
        refine ⟨⟨rfl, ltB rfl⟩, r_of (w := 2) (by omega) (by omega) ?_⟩
        refine ⟨⟨rfl, ltB rfl⟩, r_put (w := 2) (by omega) (by omega) ?_⟩
        have e140 : mu m4 140 (44 + 6 * t + 2) (m4 140 (44 + 6 * t + 2) + nI i) 140 = psh t (nI i) (m 140) := by rw [mu_upd, hT4.2.1]; rfl
        refine ⟨⟨rfl, ltB rfl⟩, r_leadsBehind (nt := nt) (nx := nx) hn8 hx14 (by omega) (by rw [e140, psh_ne (by omega)]; exact hR.2.1.1) (by rw [e140, psh_ne (by omega)]; exact hR.2.1.2.2) (by rw [e140]; exact TX_congr (fun x hx => psh_ne (by omega)) hM.2.1.tx) (fun q => absurd (by rw [e140, goes_psh (by omega)] at q; exact q) (hno i (by omega))) (fun q m5 hF5 h5 => ?_)⟩
        have := ih (i + 1) (by omega) m5 (aft i m4 m5 hT4 hF5 h5)
        rw [← nI_1] at this
        exact this
    refine Mc_wp (cut1 27) t158 rfl rfl rfl 60 ?_
    refine ⟨⟨rfl, ltB rfl⟩, r_hT (by rw [s140]; exact hR.2.1.1) hn8 ht ?_⟩
    refine r_iT q2 ?_
    refine ⟨⟨rfl, ltB rfl⟩, Tr.think (fun m4 hT4 => ?_)⟩
    rw [s140] at hT4
    exact loop g 0 (by omega) m4 hT4
  have hc : tuC L (83 + 4 + t) := heC mb83 (by omega)
  refine ⟨⟨rfl, ltB rfl, neB rfl⟩, ?_⟩
  rw [rf_cthought]
  refine ⟨⟨rfl, ltB rfl, neB rfl⟩, ?_⟩
  rw [rf_cnow]
  refine ⟨moC mb83, Th.make mb35 (by decide) hM FrB.refl (fun m1 hC1 => ?_)⟩
  refine ⟨⟨rfl, ltB rfl, neB rfl⟩, ?_⟩
  rw [rf_cthought]
  refine ⟨moC mb83, hC1.days (by omega) (fun m2 hC => ?_)⟩
  have loop : ∀ j i, i + j = 100 → ∀ m2, FrB 83 m m2 → RepM 83 nt nw nx (psh t (nI i) (goesA n (m 140))) m2 → (∀ c, c < i → ¬ opI (ahA (psh t (nI c) (goesA n (m 140)))) = nI t) → Xs (d + 20) 77 45 [some (.ref 0), some (.int (nI t)), some (.int (nI n)), some (.int (nI i))] [] (S0 L) (0, 0) m2 Q := by
    intro j
    induction j with
    | zero =>
      intro i hi m2 hF hRi hno
      have hi : i = 100 := by omega
      subst hi
      refine Xs_wp (cut1 45) t77 60 ?_
      exact ref _ 100 m2 (by omega) (fun r hr => hF r (by intro e; apply hr; unfold scrap; omega) (by intro e; apply hr; unfold scrap; omega) (by unfold scrap at hr; omega)) hno (Or.inl ⟨rfl, rfl⟩)
    | succ j ih =>
      intro i hi m2 hF hRi hno
      refine Xs_wp (cut1 45) t77 60 ?_
      refine ifI (fun z => absurd z (nI_nlt (a := 99) (b := i) (by omega) (by omega))) (fun z => ?_)
      refine ⟨⟨rfl, ltB rfl, neB rfl⟩, ?_⟩
      rw [rf_cthought]
      refine ⟨moC mb83, c_ahead mb83 hRi ?_⟩
      refine ifI (fun q => ?_) (fun q => ?_)
      · exact ref _ i m2 (by omega) (fun r hr => hF r (by intro e; apply hr; unfold scrap; omega) (by intro e; apply hr; unfold scrap; omega) (by unfold scrap at hr; omega)) hno (Or.inr ⟨by omega, rfl, q⟩)
      · refine ⟨⟨rfl, ltB rfl, neB rfl⟩, ?_⟩
        rw [rf_cthought]
        refine ⟨moK1 mb83, ?_⟩
        rw [moV1 mb83]
        refine ⟨heK mb83 (rfl : nI t = nI t) (by omega), ?_⟩
        rw [heV mb83 (rfl : nI t = nI t) (show t < 8 by omega)]
        refine ⟨hc, ?_⟩
        refine ⟨hc, ?_⟩
        rw [hRi.2.2.2.1 t 2 ht (by omega)]
        have hR2 := hRi.tu (t := t) (f := 2) (v := psh t (nI i) (goesA n (m 140)) (44 + 6 * t + 2) + 1) ht (by omega)
        rw [psh_s] at hR2
        have := ih (i + 1) (by omega) _ (hF.mu (by omega) (by omega)) hR2 (fun c hc => by
          by_cases e : c = i
          · subst e; exact q
          · exact hno c (by omega))
        rw [← nI_1] at this
        exact this
  refine loop 100 0 (by omega) m2 hC.1 ?_ (fun x hx => absurd hx (by omega))
  rw [psh_0]; exact hC.2.1
