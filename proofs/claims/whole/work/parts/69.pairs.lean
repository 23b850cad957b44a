-- pairs: colder
theorem ahO_congr {A B : Nat → Int32} : ∀ {n : Nat}, (∀ t, t < n → B (44 + 6 * t + 2) = A (44 + 6 * t + 2)) → ahO B n = ahO A n
  | 0, _ => rfl
  | n + 1, h => by
    rw [ahO.eq_2, ahO.eq_2, ahO_congr (fun t ht => h t (by omega))]
    cases ho : ahO A n with
    | none => rfl
    | some b =>
      have := ahO_lt ho
      dsimp only
      rw [h n (by omega), h b (by omega)]
theorem ice_T {A : Nat → Int32} {t u : Nat} (hc : ¬ A 4 < 60) : dayT A u (44 + 6 * t + 2) = A (44 + 6 * t + 2) := by
  by_cases e : t = u
  · subst e
    unfold dayT
    split
    · rfl
    · rw [pk_un (by omega), pk_un (by omega), pk_us]
      have : farV A t = 0 := by unfold farV; rw [if_neg hc]
      rw [this]
      split
      · exact Int32.add_zero _
      · exact Int32.add_zero _
  · exact dayT_other e (by omega)
theorem ice_L {A : Nat → Int32} {t : Nat} (hc : ¬ A 4 < 60) : ∀ {n : Nat}, n ≤ 8 → dayL A n (44 + 6 * t + 2) = A (44 + 6 * t + 2)
  | 0, _ => rfl
  | n + 1, hn => by
    show dayT (dayL A n) n _ = _
    rw [ice_T (by rw [dayL_out (by omega) (by omega) (by omega)]; exact hc), ice_L hc (by omega)]
theorem ice_goes {t : Nat} : ∀ (n : Nat) {A : Nat → Int32}, ntA A ≤ 8 → ¬ A 4 < 60 → goesA n A (44 + 6 * t + 2) = A (44 + 6 * t + 2)
  | 0, _, _, _ => rfl
  | n + 1, A, hn, hc => by
    have e : ntA (dayA A) = ntA A := by unfold ntA; rw [dayA_out (by omega) (by omega) (by omega) hn]
    show goesA n (dayA A) _ = _
    rw [ice_goes n (by rw [e]; exact hn) (by rw [dayA_out (by omega) (by omega) (by omega) hn]; exact hc)]
    unfold dayA
    rw [pk_un (by omega), ice_L hc hn]
theorem nt_upd {A : Nat → Int32} {i : Nat} {v : Int32} (hi : i ≠ 1) : ntA (upd A i v) = ntA A := by unfold ntA; rw [pk_un (fun e => hi e.symm)]
theorem cold_same {A : Nat → Int32} {n c nt : Nat} (hc : 60 ≤ c) (hc2 : c < 1000) (hn : ntA A = nt) (h8 : nt ≤ 8) : ahA (goesA n (upd A 4 (nI c))) = ahA A := by
  have e1 : ntA (upd A 4 (nI c)) = nt := by rw [nt_upd (by decide)]; exact hn
  unfold ahA
  rw [goes_nt (by rw [e1]; exact h8), e1, hn]
  refine ahO_congr (fun t ht => ?_)
  rw [ice_goes n (by rw [e1]; exact h8) (by rw [pk_us]; exact nI_nlt (a := c) (b := 60) hc (by omega))]
  exact pk_un (by omega)
theorem pr_colder {scr : Nat → Int32} {L d k : Nat} {m : Mem} {v w : Int32} (h : Sim scr k m) : Pair scr L (d + 20) 76 157 [.int v, .int w] k m := by
  intro Q hQ
  obtain ⟨nt, nw, nx, hM, hI⟩ := h.1.1
  have hR := hM.1
  have hn8 := hR.2.2.1.1
  have hx14 := hR.2.2.1.2.2
  have hnt : ntA (m 140) = nt := nt_of hR.2.1.1 hn8
  refine Mc_wp (cut1 26) t76 rfl rfl rfl 60 ?_
  refine ⟨⟨rfl, ltB rfl, neB rfl⟩, ?_⟩
  rw [rf_cnow]
  rcases num_or (n := nt) v (by omega) with q1 | ⟨t, ht, rfl⟩
  · refine ⟨moC mb35, c_hF mb35 hR.1.1 hn8 q1 ?_⟩
    refine hQ _ m (fun Q' hQ' => ?_)
    refine Mc_wp nocut t157 rfl rfl rfl 60 ?_
    exact ⟨⟨rfl, ltB rfl⟩, r_hF hR.2.1.1 hn8 q1 (hQ' m h.next)⟩
  refine ⟨moC mb35, c_hT mb35 hR.1.1 hn8 ht ?_⟩
  by_cases q2 : 1 ≤ w ∧ w ≤ 60
  rotate_left 1
  · refine c_wF q2 ?_
    refine hQ _ m (fun Q' hQ' => ?_)
    refine Mc_wp nocut t157 rfl rfl rfl 60 ?_
    refine ⟨⟨rfl, ltB rfl⟩, r_hT hR.2.1.1 hn8 ht ?_⟩
    exact r_iF q2 (hQ' m h.next)
  refine c_wT q2 ?_
  have hv := in_int q2
  have e1 : (1 : Int32).toInt = 1 := rfl
  have e60 : (60 : Int32).toInt = 60 := rfl
  rw [e1, e60] at hv
  obtain ⟨n, hn, rfl⟩ := ix_split (v := w) (b := 60) (n := 60) rfl (tI_le.mpr (by show (0 : Int) ≤ _; omega)) q2.2
  -- the reference: g the first cold that will do, or 100
  have ref : ∀ (V : Int32) (g : Nat) (m3 : Mem), g ≤ 100 → (∀ r, ¬ scrap r → m3 r = m r) → (∀ c, c < g → ¬ opI (ahA (goesA n (upd (m 140) 4 (nI c)))) = nI t) → (g = 100 ∧ V = NONEv ∨ g < 100 ∧ V = nI g ∧ opI (ahA (goesA n (upd (m 140) 4 (nI g)))) = nI t) → Q (some (.int V)) (S0 L) m3 := by
    intro V g m3 hg hs hno hV
    have s140 : m3 140 = m 140 := hs 140 (by unfold scrap; omega)
    refine hQ V m3 (fun Q' hQ' => ?_)
    have fin : ∀ m4, Tr m3 m4 (m 140) → Q' (some (.int V)) (S0 L) m4 := by
      intro m7 hT7
      refine hQ' m7 (sim_scrap h (fun r hr => ?_))
      by_cases e : r = 140
      · subst e; rw [hT7.2.1]
      · rw [hT7.1 r (by simp; unfold scrap at hr; omega)]; exact hs r hr
    -- behind one trial all is as before
    have aft : ∀ c m4 m5, Tr m3 m4 (m 140) → Fr [140, 150, 151] (mu m4 140 4 (nI c)) m5 → m5 140 = cpRow (mu m4 140 4 (nI c) 143) (goesA n (mu m4 140 4 (nI c) 140)) 92 → Tr m3 m5 (m 140) := by
      intro c m4 m5 hT4 hF5 h5
      have e143 : m5 143 = m4 143 := by rw [hF5 143 (by simp), mu_row (by decide)]
      refine ⟨hT4.1.trans (((Fr.refl.mu (by simp)).trans (hF5.mono (by simp)))), ?_, fun i hi => by rw [e143]; exact hT4.2.2.1 i hi, fun i hi => by rw [s140]⟩
      rw [h5, mu_row (show (143 : Nat) ≠ 140 by decide), mu_upd, hT4.2.1]
      funext i
      unfold cpRow
      by_cases q : i < 92
      · rw [if_pos q, hT4.2.2.1 i q, s140]
      · rw [if_neg q, goes_out (by omega) (by omega) (by omega) n (by rw [nt_upd (by decide)]; omega)]; exact pk_un (by omega)
    have loop : ∀ j i, i + j = g → ∀ m4, Tr m3 m4 (m 140) → Xs (d + 20) 157 27 [some (.ref 139), some (.int (nI t)), some (.int (nI n)), some (.int (nI i))] [] (S0 L) (0, 0) m4 Q' := by
      intro j
      induction j with
      | zero =>
        intro i hi m4 hT4
        have hi : i = g := by omega
        subst hi
        rcases hV with ⟨e, eV⟩ | ⟨e, eV, ey⟩
        · subst e
          refine Xs_wp (cut1 27) t157 60 ?_
          have := fin m4 hT4
          rw [eV] at this
          exact this
        · refine Xs_wp (cut1 27) t157 60 ?_
          refine ifI (fun _ => ?_) (fun z => absurd (nI_lt (a := i) (b := 100) (by omega) (by omega)) z)
          refine ⟨⟨rfl, ltB rfl, neB rfl⟩, ?_⟩
          rw [rf_now]
          refine ⟨⟨rfl, ltB rfl, vinB rfl⟩, ?_⟩
          rw [lc4]
          have e140 : mu m4 140 4 (nI i) 140 = upd (m 140) 4 (nI i) := by rw [mu_upd, hT4.2.1]
          refine ⟨⟨rfl, ltB rfl⟩, r_leadsBehind (nt := nt) (nx := nx) hn8 hx14 (by omega) (by rw [e140, pk_un (by omega)]; exact hR.2.1.1) (by rw [e140, pk_un (by omega)]; exact hR.2.1.2.2) (by rw [e140]; exact TX_congr (fun x hx => pk_un (by omega)) hM.2.1.tx) (fun q m5 hF5 h5 => ?_) (fun q => absurd (by rw [e140]; exact ey) q)⟩
          have := fin m5 (aft i m4 m5 hT4 hF5 h5)
          rw [eV] at this
          exact this
      | succ j ih =>
        intro i hi m4 hT4
        refine Xs_wp (cut1 27) t157 60 ?_
        refine ifI (fun _ => ?_) (fun z => absurd (nI_lt (a := i) (b := 100) (by omega) (by omega)) z)
        refine ⟨⟨rfl, ltB rfl, neB rfl⟩, ?_⟩
        rw [rf_now]
        refine ⟨⟨rfl, ltB rfl, vinB rfl⟩, ?_⟩
        rw [lc4]
        have e140 : mu m4 140 4 (nI i) 140 = upd (m 140) 4 (nI i) := by rw [mu_upd, hT4.2.1]
        refine ⟨⟨rfl, ltB rfl⟩, r_leadsBehind (nt := nt) (nx := nx) hn8 hx14 (by omega) (by rw [e140, pk_un (by omega)]; exact hR.2.1.1) (by rw [e140, pk_un (by omega)]; exact hR.2.1.2.2) (by rw [e140]; exact TX_congr (fun x hx => pk_un (by omega)) hM.2.1.tx) (fun q => absurd (by rw [e140] at q; exact q) (hno i (by omega))) (fun q m5 hF5 h5 => ?_)⟩
        have := ih (i + 1) (by omega) m5 (aft i m4 m5 hT4 hF5 h5)
        rw [← nI_1] at this
        exact this
    refine Mc_wp (cut1 27) t157 rfl rfl rfl 60 ?_
    refine ⟨⟨rfl, ltB rfl⟩, r_hT (by rw [s140]; exact hR.2.1.1) hn8 ht ?_⟩
    refine r_iT q2 ?_
    refine ⟨⟨rfl, ltB rfl⟩, Tr.think (fun m4 hT4 => ?_)⟩
    rw [s140] at hT4
    exact loop g 0 (by omega) m4 hT4
  have loop : ∀ j i, i + j = 61 → ∀ m2, FrB 83 m m2 → (∀ c, c < i → ¬ opI (ahA (goesA n (upd (m 140) 4 (nI c)))) = nI t) → Xs (d + 20) 76 26 [some (.ref 0), some (.int (nI t)), some (.int (nI n)), some (.int (nI i))] [] (S0 L) (0, 0) m2 Q := by
    intro j
    induction j with
    | zero =>
      intro i hi m2 hF hno
      have hi : i = 61 := by omega
      subst hi
      refine Xs_wp (cut1 26) t76 60 ?_
      refine ref _ 100 m2 (by omega) (fun r hr => hF r (by intro e; apply hr; unfold scrap; omega) (by intro e; apply hr; unfold scrap; omega) (by unfold scrap at hr; omega)) (fun c hc => ?_) (Or.inl ⟨rfl, rfl⟩)
      by_cases z : c < 61
      · exact hno c z
      · have := hno 60 (by omega)
        rw [cold_same (by omega) (by omega) hnt hn8] at this ⊢
        exact this
    | succ j ih =>
      intro i hi m2 hF hno
      refine Xs_wp (cut1 26) t76 60 ?_
      refine ifI (fun z => absurd z (nI_nlt (a := 60) (b := i) (by omega) (by omega))) (fun z => ?_)
      refine ⟨⟨rfl, ltB rfl, neB rfl⟩, ?_⟩
      rw [rf_cthought]
      refine ⟨⟨rfl, ltB rfl, neB rfl⟩, ?_⟩
      rw [rf_cnow]
      refine ⟨moC mb83, Th.make mb35 (by decide) hM hF (fun m3 hC => ?_)⟩
      refine ⟨⟨rfl, ltB rfl, neB rfl⟩, ?_⟩
      rw [rf_cthought]
      refine ⟨moC mb83, ?_⟩
      refine ⟨⟨rfl, ltB rfl, neB rfl⟩, ?_⟩
      rw [rf_cthought]
      have hC2 : Th nt nw nx m (mu m3 83 8 (nI i)) (upd (m 140) 4 (nI i)) := ⟨hC.1.mu (by omega) (by omega), hC.2.1.rule (by omega), (hC.2.2.1.frB mb83 hx14 (FrB.refl.mu (by omega) (by omega))).upd (by omega), fun x hx => by rw [pk_un (by omega), pk_un (by omega)]; exact hC.2.2.2 x hx⟩
      refine ⟨moC mb83, hC2.days (by omega) (fun m4 hC4 => ?_)⟩
      refine ⟨⟨rfl, ltB rfl, neB rfl⟩, ?_⟩
      rw [rf_cthought]
      refine ⟨moC mb83, c_ahead mb83 hC4.2.1 ?_⟩
      refine ifI (fun q => ?_) (fun q => ?_)
      · exact ref _ i m4 (by omega) hC4.sc hno (Or.inr ⟨by omega, rfl, q⟩)
      · have := ih (i + 1) (by omega) m4 hC4.1 (fun c hc => by
          by_cases e : c = i
          · subst e; exact q
          · exact hno c (by omega))
        rw [← nI_1] at this
        exact this
  exact loop 61 0 (by omega) m FrB.refl (fun x hx => absurd hx (by omega))
