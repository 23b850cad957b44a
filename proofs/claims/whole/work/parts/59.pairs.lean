-- pairs: wager, deal
theorem wa_bet {B : Int} {nt nw : Nat} {A : Nat → Int32} {o tt s : Int32} (h : WA B nt nw A) (hw : nw < 12) (hs : 0 ≤ s.toInt ∧ s.toInt ≤ 9999) : WA B nt (nw + 1) (betA A nw o tt s) := by
  obtain ⟨h1, h2, h3, h4⟩ := h
  have out : ∀ i, i ≠ 6 → (i < 8 + 3 * nw ∨ 8 + 3 * nw + 3 ≤ i) → betA A nw o tt s i = A i := fun i h1 hi => by
    unfold betA
    rw [pk_un h1, pk_un (by omega), pk_un (by omega), pk_un (by omega)]
  refine ⟨?_, fun t ht => ?_, fun t ht => ?_, fun w hw' => ?_⟩
  · unfold WR
    rw [out 2 (by omega) (by omega), out 3 (by omega) (by omega), out 4 (by omega) (by omega), out 5 (by omega) (by omega)]; exact h1
  · rw [out _ (by omega) (by omega), out _ (by omega) (by omega), out _ (by omega) (by omega), out _ (by omega) (by omega)]; exact h2 t ht
  · rw [out _ (by omega) (by omega), out _ (by omega) (by omega)]; exact h3 t ht
  · by_cases e : w = nw
    · subst e
      have : betA A w o tt s (8 + 3 * w + 2) = s := by unfold betA; rw [pk_un (by omega), pk_us]
      rw [this]; exact hs
    · rw [out _ (by omega) (by omega)]; exact h4 w (by omega)
theorem betA_out {A : Nat → Int32} {nw i : Nat} {o tt s : Int32} (h1 : i ≠ 6) (hi : i < 8 + 3 * nw ∨ 8 + 3 * nw + 3 ≤ i) : betA A nw o tt s i = A i := by
  unfold betA
  rw [pk_un h1, pk_un (by omega), pk_un (by omega), pk_un (by omega)]
theorem pr_wager {scr : Nat → Int32} {L d k : Nat} {m : Mem} {o v s : Int32} (h : Sim scr k m) : Pair scr L (d + 20) 68 142 [.int o, .int v, .int s] k m := by
  intro Q hQ
  obtain ⟨nt, nw, nx, hM, hI⟩ := h.1.1
  have hR := hM.1
  have hn8 := hR.2.2.1.1
  have hn12 := hR.2.2.1.2.1
  refine Mc_wp nocut t68 rfl rfl rfl 60 ?_
  by_cases q0 : 0 ≤ o ∧ o ≤ 7
  rotate_left 1
  · refine c_oF q0 ?_
    refine hQ _ m (fun Q' hQ' => ?_)
    refine Mc_wp nocut t142 rfl rfl rfl 60 ?_
    exact r_iF q0 (hQ' m h.next)
  refine c_oT q0 ?_
  refine ⟨⟨rfl, ltB rfl, neB rfl⟩, ?_⟩
  rw [rf_cnow]
  rcases num_or (n := nt) v (by omega) with q1 | ⟨t, ht, rfl⟩
  · refine ⟨moC mb35, c_hF mb35 hR.1.1 hn8 q1 ?_⟩
    refine hQ _ m (fun Q' hQ' => ?_)
    refine Mc_wp nocut t142 rfl rfl rfl 60 ?_
    refine r_iT q0 ?_
    exact ⟨⟨rfl, ltB rfl⟩, r_hF hR.2.1.1 hn8 q1 (hQ' m h.next)⟩
  refine ⟨moC mb35, c_hT mb35 hR.1.1 hn8 ht ?_⟩
  by_cases q2 : 0 ≤ s ∧ s ≤ 9999
  rotate_left 1
  · refine c_wF q2 ?_
    refine hQ _ m (fun Q' hQ' => ?_)
    refine Mc_wp nocut t142 rfl rfl rfl 60 ?_
    refine r_iT q0 ?_
    refine ⟨⟨rfl, ltB rfl⟩, r_hT hR.2.1.1 hn8 ht ?_⟩
    exact r_iF q2 (hQ' m h.next)
  refine c_wT q2 ?_
  refine ⟨⟨rfl, ltB rfl, neB rfl⟩, ?_⟩
  rw [rf_cnow]
  refine ⟨moC mb35, ?_⟩
  rw [hR.1.2.1]
  by_cases q3 : nw = 12
  · subst q3
    refine hQ _ m (fun Q' hQ' => ?_)
    refine Mc_wp nocut t142 rfl rfl rfl 60 ?_
    refine r_iT q0 ?_
    refine ⟨⟨rfl, ltB rfl⟩, r_hT hR.2.1.1 hn8 ht ?_⟩
    refine r_iT q2 ?_
    refine ⟨⟨rfl, ltB rfl, neB rfl⟩, ?_⟩
    rw [rf_now]
    refine ⟨⟨rfl, ltB rfl, vinB rfl⟩, ?_⟩
    rw [lc6]
    rw [hR.2.1.2.1]
    exact hQ' m h.next
  refine ifI (fun _ => ?_) (fun z => absurd (nI_lt (a := nw) (b := 12) (by omega) (by omega)) z)
  refine ⟨⟨rfl, ltB rfl, neB rfl⟩, ?_⟩
  rw [rf_cnow]
  refine ⟨moC mb35, c_addWager mb35 hR (by omega) (fun m1 hF hR1 => ?_)⟩
  have e140 : m1 140 = m 140 := hF 140 (by decide) (by decide) (by omega)
  refine hQ _ m1 (fun Q' hQ' => ?_)
  refine Mc_wp nocut t142 rfl rfl rfl 60 ?_
  refine r_iT q0 ?_
  refine ⟨⟨rfl, ltB rfl⟩, r_hT (by rw [e140]; exact hR.2.1.1) hn8 ht ?_⟩
  refine r_iT q2 ?_
  refine ⟨⟨rfl, ltB rfl, neB rfl⟩, ?_⟩
  rw [rf_now]
  refine ⟨⟨rfl, ltB rfl, vinB rfl⟩, ?_⟩
  rw [lc6]
  rw [e140, hR.2.1.2.1]
  refine ifI (fun z => absurd ((nI_eq (b := 12) (by omega) (by omega)).mp z) q3) (fun _ => ?_)
  refine ⟨⟨rfl, ltB rfl⟩, r_bets (w := nw) (by rw [e140]; exact hR.2.1.2.1) (by omega) ?_⟩
  rw [e140]
  refine hQ' _ (h.now hM (nt' := nt) (nw' := nw + 1) ?_ ?_ ?_ ?_)
  · rw [mr_at]; exact hR1.fr (fun r q1 q2 => mr_ne (by omega))
  · intro i hi; rw [mr_at]; exact betA_out (by omega) (by omega)
  · rw [mr_at]; exact wa_bet (hM.2.2.mono bd_mono) (by omega) (in_int q2)
  · intro r q1 q2 q3
    rw [mr_ne q3]; exact Fr_of_B hF r q1 q2
/-- one more turtle dealt, behind nt others -/
def dl1 (nt : Nat) (A : Nat → Int32) : Nat → Int32 := comesA (drawA (drawA A)) nt (rm (drawV (A 0)) 6) (rm (drawV (drawN (A 0))) 21)
def dlA : Nat → Nat → (Nat → Int32) → Nat → Int32
  | 0, _, A => A
  | j + 1, nt, A => dlA j (nt + 1) (dl1 nt A)
theorem dl1_out {nt i : Nat} {A : Nat → Int32} (h0 : i ≠ 0) (h1 : i ≠ 1) (hi : i < 44 + 6 * nt ∨ 44 + 6 * nt + 6 ≤ i) : dl1 nt A i = A i := by
  unfold dl1 comesA drawA
  rw [pk_un h1, pk_un (by omega), pk_un (by omega), pk_un (by omega), pk_un (by omega), pk_un (by omega), pk_un (by omega), pk_un h0, pk_un h0]
theorem dlA_tx : ∀ (j : Nat) {nt i : Nat} {A : Nat → Int32}, nt + j ≤ 8 → 92 ≤ i → dlA j nt A i = A i
  | 0, _, _, _, _, _ => rfl
  | j + 1, nt, i, A, h, hi => by
    show dlA j (nt + 1) (dl1 nt A) i = A i
    rw [dlA_tx j (by omega) hi, dl1_out (by omega) (by omega) (by omega)]
theorem wa_dl1 {B : Int} {nt nw : Nat} {A : Nat → Int32} (hB : 0 ≤ B) (hn : nt < 8) (h : WA B nt nw A) (hw : nw ≤ 12) : WA B (nt + 1) nw (dl1 nt A) := by
  have a := rm_pos (x := drawV (A 0)) (y := 6) (by decide) (drawV_pos _)
  have b := rm_pos (x := drawV (drawN (A 0))) (y := 21) (by decide) (drawV_pos _)
  have e6 : (6 : Int32).toInt = 6 := rfl
  have e21 : (21 : Int32).toInt = 21 := rfl
  rw [e6] at a; rw [e21] at b
  exact wa_comes hB hn (wa_z (wa_z h)) hw (by omega) (by omega)
theorem wa_dlA {B : Int} {nw : Nat} (hB : 0 ≤ B) (hw : nw ≤ 12) : ∀ (j : Nat) {nt : Nat} {A : Nat → Int32}, nt + j ≤ 8 → WA B nt nw A → WA B (nt + j) nw (dlA j nt A)
  | 0, _, _, _, h => h
  | j + 1, nt, A, hj, h => by
    have := wa_dlA hB hw j (nt := nt + 1) (A := dl1 nt A) (by omega) (wa_dl1 hB (by omega) h hw)
    rw [show nt + (j + 1) = nt + 1 + j by omega]
    exact this
theorem pr_deal {scr : Nat → Int32} {L d k : Nat} {m : Mem} {v : Int32} (h : Sim scr k m) : Pair scr L (d + 20) 64 134 [.int v] k m := by
  intro Q hQ
  obtain ⟨nt, nw, nx, hM, hI⟩ := h.1.1
  have hR := hM.1
  have hn8 := hR.2.2.1.1
  by_cases q1 : 1 ≤ v ∧ v ≤ 8
  rotate_left 1
  · refine Mc_wp nocut t64 rfl rfl rfl 60 ?_
    refine c_wF q1 ?_
    refine hQ _ m (fun Q' hQ' => ?_)
    refine Mc_wp nocut t134 rfl rfl rfl 60 ?_
    exact r_iF q1 (hQ' m h.next)
  have hv := in_int q1
  have e1 : (1 : Int32).toInt = 1 := rfl
  have e8 : (8 : Int32).toInt = 8 := rfl
  rw [e1, e8] at hv
  obtain ⟨n, hn, rfl⟩ := ix_split (v := v) (b := 8) (n := 8) rfl (tI_le.mpr (by show (0 : Int) ≤ _; omega)) q1.2
  have hn1 : 1 ≤ n := by rw [nI_toInt (by omega)] at hv; omega
  -- how many come
  obtain ⟨c, hc, ec, hcn⟩ : ∃ c : Nat, nt + c ≤ 8 ∧ minV (nI n) (8 - nI nt) = nI c ∧ ((c = n ∧ nt + n ≤ 8) ∨ (c ≤ n ∧ nt + c = 8)) := by
    have es : (8 - nI nt : Int32) = nI (8 - nt) := pk_sub (a := 8) (b := nt) hn8
    rw [es]
    unfold minV
    by_cases q : 8 - nt < n
    · exact ⟨8 - nt, by omega, by rw [if_pos (nI_lt q (by omega))], Or.inr ⟨by omega, by omega⟩⟩
    · exact ⟨n, by omega, by rw [if_neg (nI_nlt (by omega) (by omega))], Or.inl ⟨rfl, by omega⟩⟩
  -- the class
  have loop : ∀ j i, i + j = c → ∀ m1 B s4 s5, FrB 35 m m1 → RepM 35 (nt + i) nw nx B m1 → dlA j (nt + i) B = dlA c nt (m 140) →
      (∀ m2, FrB 35 m m2 → RepM 35 (nt + c) nw nx (dlA c nt (m 140)) m2 → Q (some (.int (nI c))) (S0 L) m2) →
      Xs (d + 20) 64 30 [some (.ref 0), some (.int (nI n)), some (.int (nI c)), some (.int (nI i)), s4, s5] [] (S0 L) (0, 0) m1 Q := by
    intro j
    induction j with
    | zero =>
      intro i hi m1 B s4 s5 hF hB hg fin
      have hi : i = c := by omega
      subst hi
      refine Xs_wp (cut1 30) t64 60 ?_
      refine ifI (fun q => absurd q (nI_nlt (Nat.le_refl _) (by omega))) (fun _ => ?_)
      refine fin m1 hF ?_
      rw [← hg]; exact hB
    | succ j ih =>
      intro i hi m1 B s4 s5 hF hB hg fin
      refine Xs_wp (cut1 30) t64 60 ?_
      refine ifI (fun _ => ?_) (fun q => absurd (nI_lt (by omega) (by omega)) q)
      refine ⟨⟨rfl, ltB rfl, neB rfl⟩, ?_⟩
      rw [rf_cnow]
      refine ⟨moC mb35, c_draw mb35 ?_⟩
      refine ⟨by decide, ?_⟩
      refine ⟨⟨rfl, ltB rfl, neB rfl⟩, ?_⟩
      rw [rf_cnow]
      have hz : m1 35 11 = B 0 := hB.1.2.2.2.2.2.2.2
      rw [hz]
      refine ⟨moC mb35, c_draw mb35 ?_⟩
      refine ⟨by decide, ?_⟩
      refine ⟨⟨rfl, ltB rfl, neB rfl⟩, ?_⟩
      rw [rf_cnow]
      rw [mu_at]
      have hB1 : RepM 35 (nt + i) nw nx (drawA B) (mu m1 35 11 (drawN (B 0))) := hB.z
      have hB2 : RepM 35 (nt + i) nw nx (drawA (drawA B)) (mu (mu m1 35 11 (drawN (B 0))) 35 11 (drawN (drawN (B 0)))) := by
        have := hB1.z (v := drawN (drawN (B 0)))
        unfold drawA at this ⊢
        rw [pk_us]
        exact this
      refine ⟨moC mb35, c_addTurtle mb35 hB2 (by omega) (fun m2 hF2 hB3 => ?_)⟩
      have := ih (i + 1) (by omega) m2 _ (some (.int (rm (drawV (B 0)) 6))) (some (.int (rm (drawV (drawN (B 0))) 21))) (((hF.mu (by omega) (by omega)).mu (by omega) (by omega)).trans hF2) hB3 hg fin
      rw [← nI_1] at this
      exact this
  refine Mc_wp (cut1 30) t64 rfl rfl rfl 60 ?_
  refine c_wT q1 ?_
  refine ⟨⟨rfl, ltB rfl, neB rfl⟩, ?_⟩
  rw [rf_cnow]
  refine ⟨moC mb35, ?_⟩
  rw [hR.1.1]
  refine c_min ?_
  rw [ec]
  refine loop c 0 (by omega) m (m 140) none none FrB.refl hR rfl (fun m1 hF hR1 => ?_)
  have e140 : m1 140 = m 140 := hF 140 (by decide) (by decide) (by omega)
  refine hQ _ m1 (fun Q' hQ' => ?_)
  have fin : ∀ m2, Fr [140] m1 m2 → m2 140 = dlA c nt (m 140) → Q' (some (.int (nI c))) (S0 L) m2 := by
    intro m2 hF2 hm2
    refine hQ' m2 (h.now hM (nt' := nt + c) (nw' := nw) ?_ ?_ ?_ ?_)
    · rw [hm2]; exact hR1.fr (fun r q1 q2 => hF2 r (by simp; omega))
    · intro i hi; rw [hm2]; exact dlA_tx c hc hi
    · rw [hm2]; exact wa_dlA (by have := bd_pos (k + 1); omega) hR.2.2.1.2.1 c hc (hM.2.2.mono bd_mono)
    · intro r q1 q2 q3
      rw [hF2 r (by simpa using q3)]
      exact Fr_of_B hF r q1 q2
  have rloop : ∀ j i, i + j = c → ∀ m2 s3 s4, Fr [140] m1 m2 → m2 140 1 = nI (nt + i) → dlA j (nt + i) (m2 140) = dlA c nt (m 140) →
      Xs (d + 20) 134 15 [some (.ref 139), some (.int (nI n)), some (.int (nI i)), s3, s4] [] (S0 L) (0, 0) m2 Q' := by
    intro j
    induction j with
    | zero =>
      intro i hi m2 s3 s4 hF2 h1 hg
      have hi : i = c := by omega
      subst hi
      refine Xs_wp (cut1 15) t134 60 ?_
      rcases hcn with ⟨e, _⟩ | ⟨e, e'⟩
      · subst e
        refine ifI (fun q => absurd q (nI_nlt (Nat.le_refl _) (by omega))) (fun _ => ?_)
        exact fin m2 hF2 hg
      · refine ifI (fun q => ?_) (fun _ => ?_)
        · refine ⟨⟨rfl, ltB rfl, neB rfl⟩, ?_⟩
          rw [rf_now]
          refine ⟨⟨rfl, ltB rfl, vinB rfl⟩, ?_⟩
          rw [lc1]
          rw [h1, e']
          exact fin m2 hF2 hg
        · exact fin m2 hF2 hg
    | succ j ih =>
      intro i hi m2 s3 s4 hF2 h1 hg
      refine Xs_wp (cut1 15) t134 60 ?_
      refine ifI (fun _ => ?_) (fun q => absurd (nI_lt (by omega) (by omega)) q)
      refine ⟨⟨rfl, ltB rfl, neB rfl⟩, ?_⟩
      rw [rf_now]
      refine ⟨⟨rfl, ltB rfl, vinB rfl⟩, ?_⟩
      rw [lc1]
      rw [h1]
      refine ifI (fun _ => ?_) (fun q => absurd (nI_lt (a := nt + i) (b := 8) (by omega) (by omega)) q)
      refine ⟨⟨rfl, ltB rfl⟩, r_draw ?_⟩
      refine ⟨by decide, ?_⟩
      refine ⟨⟨rfl, ltB rfl⟩, r_draw ?_⟩
      refine ⟨by decide, ?_⟩
      rw [mr_at, mr_mr]
      have ez : drawA (m2 140) 0 = drawN (m2 140 0) := pk_us
      rw [ez]
      refine ⟨⟨rfl, ltB rfl⟩, r_comes (t := nt + i) (by rw [mr_at]; exact ((pk_un (by omega)).trans (pk_un (by omega))).trans h1) (by omega) ?_⟩
      rw [mr_at, mr_mr]
      have := ih (i + 1) (by omega) (mr m2 140 (dl1 (nt + i) (m2 140))) (some (.int (rm (drawV (m2 140 0)) 6))) (some (.int (nI (nt + i)))) (hF2.mr (by simp)) (by rw [mr_at]; unfold dl1 comesA; rw [pk_us]; rfl) (by rw [mr_at]; exact hg)
      rw [← nI_1] at this
      exact this
  refine Mc_wp (cut1 15) t134 rfl rfl rfl 60 ?_
  refine r_iT q1 ?_
  exact rloop c 0 (by omega) m1 none none Fr.refl (by rw [e140]; exact hR.2.1.1) (by rw [e140]; rfl)
