-- pairs: inherit
def ihA (u : Nat) (s : Int32) : Nat → Nat → Nat → (Nat → Int32) → Nat → Int32
  | 0, _, _, A => A
  | c + 1, h, nw, A => ihA u s c (h + 1) (nw + 1) (betA A nw (rm (A (8 + 3 * u) + nI h) 8) (A (8 + 3 * u + 1)) s)
theorem ihA_tx {u : Nat} {s : Int32} : ∀ (c : Nat) {h nw i : Nat} {A : Nat → Int32}, nw + c ≤ 12 → 92 ≤ i → ihA u s c h nw A i = A i
  | 0, _, _, _, _, _, _ => rfl
  | c + 1, h, nw, i, A, hc, hi => by
    show ihA u s c (h + 1) (nw + 1) _ i = A i
    rw [ihA_tx c (by omega) hi, betA_out (by omega) (by omega)]
theorem wa_ihA {B : Int} {nt u : Nat} {s : Int32} (hs : 0 ≤ s.toInt ∧ s.toInt ≤ 9999) : ∀ (c : Nat) {h nw : Nat} {A : Nat → Int32}, nw + c ≤ 12 → WA B nt nw A → WA B nt (nw + c) (ihA u s c h nw A)
  | 0, _, _, _, _, h => h
  | c + 1, h, nw, A, hc, hw => by
    have := wa_ihA (u := u) hs c (h := h + 1) (nw := nw + 1) (by omega) (wa_bet (o := rm (A (8 + 3 * u) + nI h) 8) (tt := A (8 + 3 * u + 1)) hw (by omega) hs)
    rw [show nw + (c + 1) = nw + 1 + c by omega]
    exact this
theorem wa_st {B : Int} {nt nw u : Nat} {A : Nat → Int32} {v : Int32} (h : WA B nt nw A) (hu : u < nw) (hw : nw ≤ 12) (hv : 0 ≤ v.toInt ∧ v.toInt ≤ 9999) : WA B nt nw (upd A (8 + 3 * u + 2) v) := by
  obtain ⟨h1, h2, h3, h4⟩ := h
  refine ⟨?_, fun t ht => ?_, fun t ht => ?_, fun w hw' => ?_⟩
  · unfold WR
    rw [pk_un (by omega), pk_un (by omega), pk_un (by omega), pk_un (by omega)]; exact h1
  · rw [pk_un (by omega), pk_un (by omega), pk_un (by omega), pk_un (by omega)]; exact h2 t ht
  · rw [pk_un (by omega), pk_un (by omega)]; exact h3 t ht
  · by_cases e : w = u
    · subst e; rw [pk_us]; exact hv
    · rw [pk_un (by omega)]; exact h4 w hw'
theorem share_rng {st : Int32} {n : Nat} (hn : 1 ≤ n ∧ n ≤ 8) (hs : 0 ≤ st.toInt ∧ st.toInt ≤ 9999) : (0 ≤ (st / nI n).toInt ∧ (st / nI n).toInt ≤ 9999) ∧ (0 ≤ (st - (nI n - 1) * (st / nI n)).toInt ∧ (st - (nI n - 1) * (st / nI n)).toInt ≤ 9999) := by
  obtain ⟨x, hx, rfl⟩ := nI_of (x := st) (by rw [tI_lt]; show ¬ _ < (0 : Int); omega)
  rw [nI_toInt hx] at hs
  have hx' : x ≤ 9999 := by omega
  rw [pk_div hx (by omega) (by omega)]
  have e1 : (nI n - 1 : Int32) = nI (n - 1) := pk_sub (b := 1) hn.1
  have hd : x / n ≤ x := Nat.div_le_self _ _
  have hm : (n - 1) * (x / n) ≤ x := by
    have h1 : (n - 1) * (x / n) ≤ n * (x / n) := Nat.mul_le_mul_right _ (by omega)
    have h2 := Nat.mul_div_le x n
    omega
  rw [e1, pk_mul, pk_sub hm]
  generalize x / n = y at hd hm ⊢
  generalize (n - 1) * y = p at hm ⊢
  rw [nI_toInt (by omega), nI_toInt (by omega)]
  omega
theorem pr_inherit {scr : Nat → Int32} {L d k : Nat} {m : Mem} {v w : Int32} (h : Sim scr k m) : Pair scr L (d + 20) 70 144 [.int v, .int w] k m := by
  intro Q hQ
  obtain ⟨nt, nw, nx, hM, hI⟩ := h.1.1
  have hR := hM.1
  have hn12 := hR.2.2.1.2.1
  refine Mc_wp (cut1 79) t70 rfl rfl rfl 60 ?_
  refine ⟨⟨rfl, ltB rfl, neB rfl⟩, ?_⟩
  rw [rf_cnow]
  rcases num_or (n := nw) v (by omega) with q1 | ⟨u, hu, rfl⟩
  · refine ⟨moC mb35, c_gF mb35 hR.1.2.1 hn12 q1 ?_⟩
    refine hQ _ m (fun Q' hQ' => ?_)
    refine Mc_wp nocut t144 rfl rfl rfl 60 ?_
    exact ⟨⟨rfl, ltB rfl⟩, r_gF hR.2.1.2.1 hn12 q1 (hQ' m h.next)⟩
  refine ⟨moC mb35, c_gT mb35 hR.1.2.1 hn12 hu ?_⟩
  by_cases q2 : 1 ≤ w ∧ w ≤ 8
  rotate_left 1
  · refine c_wF q2 ?_
    refine hQ _ m (fun Q' hQ' => ?_)
    refine Mc_wp nocut t144 rfl rfl rfl 60 ?_
    refine ⟨⟨rfl, ltB rfl⟩, r_gT hR.2.1.2.1 hn12 hu ?_⟩
    exact r_iF q2 (hQ' m h.next)
  have hv := in_int q2
  have e1 : (1 : Int32).toInt = 1 := rfl
  have e8 : (8 : Int32).toInt = 8 := rfl
  rw [e1, e8] at hv
  obtain ⟨n, hn, rfl⟩ := ix_split (v := w) (b := 8) (n := 8) rfl (tI_le.mpr (by show (0 : Int) ≤ _; omega)) q2.2
  have hn1 : 1 ≤ n := by rw [nI_toInt (by omega)] at hv; omega
  refine c_wT q2 ?_
  refine ⟨⟨rfl, ltB rfl, neB rfl⟩, ?_⟩
  rw [rf_cnow]
  refine ⟨moC mb35, ?_⟩
  rw [hR.1.2.1]
  have en : (nI nw + nI n - 1 : Int32) = nI (nw + n - 1) := by rw [nI_add]; exact pk_sub (b := 1) (by omega)
  have g12 : (12 : Int32) < nI nw + nI n - 1 ↔ 12 < nw + n - 1 := by
    rw [en]
    refine ⟨fun z => ?_, fun z => nI_lt (a := 12) (b := nw + n - 1) z (by omega)⟩
    by_cases y : 12 < nw + n - 1
    · exact y
    · exact absurd z (nI_nlt (a := 12) (b := nw + n - 1) (by omega) (by omega))
  by_cases q3 : 12 < nw + n - 1
  · refine ifI (fun _ => ?_) (fun z => absurd (g12.mpr q3) z)
    refine hQ _ m (fun Q' hQ' => ?_)
    refine Mc_wp nocut t144 rfl rfl rfl 60 ?_
    refine ⟨⟨rfl, ltB rfl⟩, r_gT hR.2.1.2.1 hn12 hu ?_⟩
    refine r_iT q2 ?_
    refine ⟨⟨rfl, ltB rfl, neB rfl⟩, ?_⟩
    rw [rf_now]
    refine ⟨⟨rfl, ltB rfl, vinB rfl⟩, ?_⟩
    rw [lc6]
    rw [hR.2.1.2.1]
    exact ifI (fun _ => hQ' m h.next) (fun z => absurd (g12.mpr q3) z)
  refine ifI (fun z => absurd (g12.mp z) q3) (fun _ => ?_)
  have hc : waC L (35 + 12 + u) := beC mb35 (by omega)
  have hne : ¬ nI n = 0 := fun e => absurd ((nI_eq (b := 0) (by omega) (by omega)).mp e) (by omega)
  have hst := hM.2.2.2.2.2 u hu
  have hsh := share_rng (st := m 140 (8 + 3 * u + 2)) (n := n) ⟨hn1, by omega⟩ hst
  refine ⟨⟨rfl, ltB rfl, neB rfl⟩, ?_⟩
  rw [rf_cnow]
  refine ⟨moK2 mb35, ?_⟩
  rw [moV2 mb35]
  refine ⟨beK mb35 (rfl : nI u = nI u) (by omega), ?_⟩
  rw [beV mb35 (rfl : nI u = nI u) (show u < 12 by omega)]
  refine ⟨hc, ?_⟩
  refine ⟨hne, ?_⟩
  refine ⟨hc, ?_⟩
  refine ⟨hc, ?_⟩
  rw [hR.2.2.2.2.1 u 2 hu (by omega)]
  rw [Int32.mul_comm (m 140 (8 + 3 * u + 2) / nI n)]
  -- the class's heirs
  have loop : ∀ j i, i + j = n → 1 ≤ i → ∀ m1 B, FrB 35 m m1 → RepM 35 nt (nw + i - 1) nx B m1 → ihA u (m 140 (8 + 3 * u + 2) / nI n) j i (nw + i - 1) B = ihA u (m 140 (8 + 3 * u + 2) / nI n) (n - 1) 1 nw (upd (m 140) (8 + 3 * u + 2) (m 140 (8 + 3 * u + 2) - (nI n - 1) * (m 140 (8 + 3 * u + 2) / nI n))) →
      (∀ m2, FrB 35 m m2 → RepM 35 nt (nw + n - 1) nx (ihA u (m 140 (8 + 3 * u + 2) / nI n) (n - 1) 1 nw (upd (m 140) (8 + 3 * u + 2) (m 140 (8 + 3 * u + 2) - (nI n - 1) * (m 140 (8 + 3 * u + 2) / nI n)))) m2 → Q (some (.int (nI (nw + n - 1)))) (S0 L) m2) →
      Xs (d + 20) 70 79 [some (.ref 0), some (.int (nI u)), some (.int (nI n)), some (.ref (35 + 12 + u)), some (.int (m 140 (8 + 3 * u + 2) / nI n)), some (.int (nI i))] [] (S0 L) (0, 0) m1 Q := by
    intro j
    induction j with
    | zero =>
      intro i hi h1 m1 B hF hB hg fin
      have hi : i = n := by omega
      subst hi
      refine Xs_wp (cut1 79) t70 60 ?_
      refine ifI (fun q => absurd q (nI_nlt (Nat.le_refl _) (by omega))) (fun _ => ?_)
      refine ⟨⟨rfl, ltB rfl, neB rfl⟩, ?_⟩
      rw [rf_cnow]
      refine ⟨moC mb35, ?_⟩
      rw [hB.1.2.1]
      refine fin m1 hF ?_
      rw [← hg]; exact hB
    | succ j ih =>
      intro i hi h1 m1 B hF hB hg fin
      refine Xs_wp (cut1 79) t70 60 ?_
      refine ifI (fun _ => ?_) (fun q => absurd (nI_lt (by omega) (by omega)) q)
      refine ⟨⟨rfl, ltB rfl, neB rfl⟩, ?_⟩
      rw [rf_cnow]
      refine ⟨hc, ?_⟩
      refine ⟨by decide, ?_⟩
      refine ⟨hc, ?_⟩
      rw [hB.2.2.2.2.1 u 0 (by omega) (by omega), hB.2.2.2.2.1 u 1 (by omega) (by omega)]
      refine ⟨moC mb35, c_addWager mb35 hB (by omega) (fun m2 hF2 hB2 => ?_)⟩
      have e3 : nw + i - 1 + 1 = nw + (i + 1) - 1 := by omega
      rw [e3] at hB2
      have := ih (i + 1) (by omega) (by omega) m2 _ (hF.trans hF2) hB2 (by rw [← e3]; exact hg) fin
      rw [← nI_1] at this
      exact this
  refine loop (n - 1) 1 (by omega) (by omega) _ _ (FrB.refl.mu (by omega) (by omega)) (by
    have := hR.wa (f := 2) (v := m 140 (8 + 3 * u + 2) - (nI n - 1) * (m 140 (8 + 3 * u + 2) / nI n)) hu (by omega)
    rw [show nw + 1 - 1 = nw by omega]
    exact this) (by rw [show nw + 1 - 1 = nw by omega]) (fun m1 hF hR1 => ?_)
  have e140 : m1 140 = m 140 := hF 140 (by decide) (by decide) (by omega)
  refine hQ _ m1 (fun Q' hQ' => ?_)
  have fin : ∀ m2, Fr [140] m1 m2 → m2 140 = ihA u (m 140 (8 + 3 * u + 2) / nI n) (n - 1) 1 nw (upd (m 140) (8 + 3 * u + 2) (m 140 (8 + 3 * u + 2) - (nI n - 1) * (m 140 (8 + 3 * u + 2) / nI n))) → Q' (some (.int (nI (nw + n - 1)))) (S0 L) m2 := by
    intro m2 hF2 hm2
    refine hQ' m2 (h.now hM (nt' := nt) (nw' := nw + n - 1) ?_ ?_ ?_ ?_)
    · rw [hm2]; exact hR1.fr (fun r q1 q2 => hF2 r (by simp; omega))
    · intro i hi; rw [hm2, ihA_tx (n - 1) (by omega) hi]; exact pk_un (by omega)
    · rw [hm2, show nw + n - 1 = nw + (n - 1) by omega]
      exact wa_ihA hsh.1 (n - 1) (by omega) (wa_st (hM.2.2.mono bd_mono) hu hn12 hsh.2)
    · intro r q1 q2 q3
      rw [hF2 r (by simpa using q3)]
      exact Fr_of_B hF r q1 q2
  have e2 : (8 + 3 * nI u + 2 : Int32) = nI (8 + 3 * u + 2) := ix3 (a := 8) (b := 3) u 2
  have e0 : (8 + 3 * nI u : Int32) = nI (8 + 3 * u) := ix2 (a := 8) (b := 3) u
  have e3 : (8 + 3 * nI u + 1 : Int32) = nI (8 + 3 * u + 1) := ix3 (a := 8) (b := 3) u 1
  have rloop : ∀ j i, i + j = n → 1 ≤ i → ∀ m2 s6, Fr [140] m1 m2 → m2 140 6 = nI (nw + i - 1) → ihA u (m 140 (8 + 3 * u + 2) / nI n) j i (nw + i - 1) (m2 140) = ihA u (m 140 (8 + 3 * u + 2) / nI n) (n - 1) 1 nw (upd (m 140) (8 + 3 * u + 2) (m 140 (8 + 3 * u + 2) - (nI n - 1) * (m 140 (8 + 3 * u + 2) / nI n))) →
      Xs (d + 20) 144 79 [some (.ref 139), some (.int (nI u)), some (.int (nI n)), some (.int (8 + 3 * nI u)), some (.int (m 140 (8 + 3 * u + 2))), some (.int (nI i)), s6] [] (S0 L) (0, 0) m2 Q' := by
    intro j
    induction j with
    | zero =>
      intro i hi h1 m2 s6 hF2 h6 hg
      have hi : i = n := by omega
      subst hi
      refine Xs_wp (cut1 79) t144 60 ?_
      refine ifI (fun q => absurd q (nI_nlt (Nat.le_refl _) (by omega))) (fun _ => ?_)
      refine ⟨⟨rfl, ltB rfl, neB rfl⟩, ?_⟩
      rw [rf_now]
      refine ⟨⟨rfl, ltB rfl, vinB rfl⟩, ?_⟩
      rw [lc6]
      rw [h6]
      exact fin m2 hF2 hg
    | succ j ih =>
      intro i hi h1 m2 s6 hF2 h6 hg
      refine Xs_wp (cut1 79) t144 60 ?_
      refine ifI (fun _ => ?_) (fun q => absurd (nI_lt (by omega) (by omega)) q)
      refine ⟨⟨rfl, ltB rfl, neB rfl⟩, ?_⟩
      rw [rf_now]
      refine ⟨⟨rfl, ltB rfl, vinK e0 (show 8 + 3 * u < 1464 by omega) rfl⟩, ?_⟩
      rw [clK e0 (show 8 + 3 * u < 2 ^ 31 by omega)]
      refine ⟨by decide, ?_⟩
      refine ⟨⟨rfl, ltB rfl, neB rfl⟩, ?_⟩
      rw [rf_now]
      refine ⟨⟨rfl, ltB rfl, vinK e3 (show 8 + 3 * u + 1 < 1464 by omega) rfl⟩, ?_⟩
      rw [clK e3 (show 8 + 3 * u + 1 < 2 ^ 31 by omega)]
      refine ⟨hne, ?_⟩
      refine ⟨⟨rfl, ltB rfl⟩, r_bets (w := nw + i - 1) h6 (by omega) ?_⟩
      have := ih (i + 1) (by omega) (by omega) (mr m2 140 (betA (m2 140) (nw + i - 1) (rm (m2 140 (8 + 3 * u) + nI i) 8) (m2 140 (8 + 3 * u + 1)) (m 140 (8 + 3 * u + 2) / nI n))) (some (.int (nI (nw + i - 1)))) (hF2.mr (by simp)) (by
        rw [mr_at]; unfold betA; rw [pk_us]; congr 1; omega) (by
        rw [mr_at, show nw + (i + 1) - 1 = nw + i - 1 + 1 by omega]; exact hg)
      rw [← nI_1] at this
      exact this
  refine Mc_wp (cut1 79) t144 rfl rfl rfl 60 ?_
  refine ⟨⟨rfl, ltB rfl⟩, r_gT (by rw [e140]; exact hR.2.1.2.1) hn12 hu ?_⟩
  refine r_iT q2 ?_
  refine ⟨⟨rfl, ltB rfl, neB rfl⟩, ?_⟩
  rw [rf_now]
  refine ⟨⟨rfl, ltB rfl, vinB rfl⟩, ?_⟩
  rw [lc6]
  rw [e140, hR.2.1.2.1]
  refine ifI (fun z => absurd (g12.mp z) q3) (fun _ => ?_)
  refine ⟨⟨rfl, ltB rfl, neB rfl⟩, ?_⟩
  rw [rf_now]
  refine ⟨⟨rfl, ltB rfl, vinK e2 (show 8 + 3 * u + 2 < 1464 by omega) rfl⟩, ?_⟩
  rw [clK e2 (show 8 + 3 * u + 2 < 2 ^ 31 by omega)]
  rw [e140]
  refine ⟨⟨rfl, ltB rfl, neB rfl⟩, ?_⟩
  rw [rf_now]
  refine ⟨hne, ?_⟩
  refine ⟨⟨rfl, ltB rfl, vinK e2 (show 8 + 3 * u + 2 < 1464 by omega) rfl⟩, ?_⟩
  rw [clK e2 (show 8 + 3 * u + 2 < 2 ^ 31 by omega)]
  refine rloop (n - 1) 1 (by omega) (by omega) _ none (Fr.refl.mu (by simp)) ?_ ?_
  · rw [mu_ne (by omega), e140, show nw + 1 - 1 = nw by omega]; exact hR.2.1.2.1
  · rw [mu_upd, e140, show nw + 1 - 1 = nw by omega]
