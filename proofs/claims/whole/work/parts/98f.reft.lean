-- texts: the reference reads a tape
theorem r_takesE {d L n key : Nat} {m : Mem} {Q : Qt} {x : Lx} {T : Nat → Int32} (hn : n ≤ 96) (hkey : key < 3) (hv : LV T n x) (hz : RZ T n x m) (hk : m 139 12 = nI key)
    (h0 : ∀ p m', rdJ T n (rdP T n key 17 0 0) 5 x = .inl p → FP m m' → m' 139 8 = nI p → Q (some (.int 0)) (S0 L) m')
    (h2 : ∀ y cs m', rdJ T n (rdP T n key 17 0 0) 5 x = .inr (y, cs) → y.so ≠ 0 → FP m m' → m' 139 8 = nI y.st → Q (some (.int 0)) (S0 L) m')
    (h1 : ∀ y cs m', rdJ T n (rdP T n key 17 0 0) 5 x = .inr (y, cs) → y.so = 0 → FP m m' → RW (cs.map trC) [] m' → Q (some (.int 1)) (S0 L) m') : Mc (d + 4) 173 [.ref 139] (S0 L) m Q := by
  refine Mc_wp (cut1 28) t173 rfl rfl rfl 60 ?_
  refine ⟨⟨rfl, ltB rfl⟩, ?_⟩
  refine ⟨⟨rfl, ltB rfl⟩, ?_⟩
  refine ⟨⟨rfl, ltB rfl⟩, ?_⟩
  refine ⟨⟨rfl, ltB rfl, neB rfl⟩, ?_⟩
  rw [rf_tested]
  refine ⟨⟨rfl, ltB rfl, vinB rfl⟩, ?_⟩
  rw [lc0]
  rw [show ((0 : Int32) &&& 1) = 0 from rfl]
  generalize hm2 : mu (mu (mu (mu m 139 16 0) 139 17 0) 139 19 0) 149 0 0 = m2
  have hF2 : FP m m2 := by
    rw [← hm2]
    refine ⟨(((Fr.refl.mu (by simp)).mu (by simp)).mu (by simp)).mu (by simp), fun f _ b c e => ?_⟩
    rw [mu_row (by decide), mu_ne e, mu_ne c, mu_ne b]
  have g : ∀ f, f ≠ 16 → f ≠ 17 → f ≠ 19 → m2 139 f = m 139 f := fun f b c e => by rw [← hm2, mu_row (by decide), mu_ne e, mu_ne c, mu_ne b]
  have hz2 : RZ T n x m2 := by
    unfold RZ
    rw [hF2.1 144 (by simp), g 6 (by decide) (by decide) (by decide), g 7 (by decide) (by decide) (by decide), g 8 (by decide) (by decide) (by decide), g 9 (by decide) (by decide) (by decide), g 10 (by decide) (by decide) (by decide), g 11 (by decide) (by decide) (by decide)]
    exact hz
  have hw2 : RW [] [] m2 := by
    refine ⟨?_, ?_, ?_, fun i hi => absurd hi (by simp), trivial⟩
    · rw [← hm2, mu_row (by decide), mu_ne (by decide), mu_ne (by decide), mu_at]; rfl
    · rw [← hm2, mu_row (by decide), mu_ne (by decide), mu_at]; rfl
    · rw [← hm2, mu_row (by decide), mu_at]; rfl
  have ht2 : m2 149 0 = 0 := by rw [← hm2, mu_at]
  have hs : ST T n key x [] [] m2 := ⟨hz2, hw2, by rw [g 12 (by decide) (by decide) (by decide)]; exact hk⟩
  have sj := sj_all (op := 0) (ns := 0) hn (Nat.zero_le _) (rdP_gd 17 0 0) (sp_all hn hkey 17 0 0 (Nat.zero_le _) (Nat.zero_le _) (by omega)) 5 (Nat.le_refl _) (T := T)
  refine sj L d x [] [] m2 none Q hv hs trivial rfl (Nat.zero_le _) (Or.inl ht2) (fun _ => ht2) (fun y cs c0 W m3 x4 e ec hW hF3 _ _ _ hla hs3 => ?_) (fun p m3 e hF3 h8 => h0 p m3 e (hF2.trans hF3) h8)
  obtain ⟨gd1, gd2, gd3⟩ := rdJ_gd (rdP_gd (key := key) 17 0 0) 5 (Nat.le_refl _) _ hv y cs e
  have hlen : c0.length + W.length = cs.length := by
    have := congrArg List.length ec
    rw [List.length_append, List.length_map] at this; exact this
  have hW0 : bin 0 W := fun w hw => ⟨⟨(hW w hw).1.1, rk_pos w, (hW w hw).1.2.2⟩, (hW w hw).2⟩
  by_cases q0 : y.so = 0
  · refine st_end hn (Nat.zero_le _) gd1 hs3 q0 hW0 trivial ?_ (fun m4 hF4 hw4 => ?_)
    · simp only [List.nil_append, List.append_nil]; omega
    · rw [List.nil_append, ec] at hw4
      exact h1 y cs m4 e q0 (hF2.trans (hF3.trans hF4.fp)) hw4
  · refine st_stuck (Nat.zero_le _) gd1 hs3 q0 (fun z => by have := z.2; omega) (fun l hl e => hla l (Nat.zero_le _) hl e) ?_
    exact h2 y cs m3 e q0 (hF2.trans hF3) hs3.1.2.2.1
def FT (m m' : Mem) : Prop := Fr [139, 147, 148, 149] m m' ∧ (∀ f, f < 6 ∨ 19 < f → m' 139 f = m 139 f) ∧ m' 139 6 = 0
theorem r_text {d L n nx : Nat} {m : Mem} {Q : Qt} {T : Nat → Int32} (hn : n ≤ 96) (hx : nx ≤ 14) (e6 : m 139 6 = nI n) (ht : ∀ i, i < 96 → m 144 i = T i) (hC1 : ∀ i, i < 11 → m 145 i = kyC i) (hC2 : ∀ i, i < 4 → m 146 i = kaC i) (e7 : m 140 7 = nI nx)
    (hF : ∀ p m', faultT T n p → FT m m' → Q (some (.int (-100 - nI p))) (S0 L) m')
    (hG : ∀ k cs m', goodT T n k cs → nx = 14 → FT m m' → Q (some (.int (-1000000003))) (S0 L) m')
    (hS : ∀ k cs m', goodT T n k cs → nx < 14 → Fr [139, 140, 147, 148, 149] m m' → (∀ f, f < 6 ∨ 19 < f → m' 139 f = m 139 f) → m' 139 6 = 0 → (∀ i, i ≠ 7 → i ≠ 92 + 2 * nx → i ≠ 93 + 2 * nx → (i < 120 + 96 * nx ∨ 120 + 96 * nx + cs.length ≤ i) → m' 140 i = m 140 i) → m' 140 7 = nI (nx + 1) → m' 140 (92 + 2 * nx) = nI (1000 * k + cs.length) → m' 140 (93 + 2 * nx) = nI ((cs.map trC).countP (fun c => decide (¬ c < 0))) → (∀ i, i < cs.length → m' 140 (120 + 96 * nx + i) = (cs.map trC).getD i 0) → Q (some (.int (nI nx))) (S0 L) m') : Mc (d + 5) 175 [.ref 139] (S0 L) m Q := by
  -- behind a fault
  have flt : ∀ p m2, faultT T n p → Fr [139, 147, 148, 149] m m2 → (∀ f, f < 6 ∨ 19 < f → m2 139 f = m 139 f) → m2 139 8 = nI p → Xs (d + 5) 175 34 [some (.ref 139), some (.int 0), none, none] [] (S0 L) (0, 0) m2 Q := by
    intro p m2 hf hF2 g2 e8
    refine Xs_wp nocut t175 60 ?_
    refine ⟨⟨rfl, ltB rfl⟩, ?_⟩
    refine ⟨⟨rfl, ltB rfl⟩, ?_⟩
    rw [mu_ne (by decide), e8]
    exact hF p _ hf ⟨hF2.mu (by simp), fun f h => by rw [mu_ne (by omega)]; exact g2 f h, mu_at⟩
  have yes : ∀ k cs m2, goodT T n k cs → Fr [139, 147, 148, 149] m m2 → (∀ f, f < 6 ∨ 19 < f → m2 139 f = m 139 f) → m2 139 12 = nI k → RW (cs.map trC) [] m2 → Xs (d + 5) 175 34 [some (.ref 139), some (.int 1), none, none] [] (S0 L) (0, 0) m2 Q := by
    intro k cs m2 hg hF2 g2 e12 hw
    obtain ⟨k3, c96, cw⟩ := good_wf hn hg
    obtain ⟨w16, w17, w19, w147, _⟩ := hw
    rw [List.length_map] at w16 w147
    have h140 : m2 140 = m 140 := hF2 140 (by simp)
    refine Xs_wp (cut1 117) t175 60 ?_
    refine ⟨⟨rfl, ltB rfl⟩, ?_⟩
    refine ⟨⟨rfl, ltB rfl, neB rfl⟩, ?_⟩
    rw [rf_now]
    refine ⟨⟨rfl, ltB rfl, vinB rfl⟩, ?_⟩
    rw [lc7]
    rw [mu_row (show (140 : Nat) ≠ 139 by decide), h140, e7]
    by_cases q : nx = 14
    · refine ifI (fun _ => ?_) (fun z => absurd (by rw [q]; rfl) z)
      exact hG k cs _ hg q ⟨hF2.mu (by simp), fun f h => by rw [mu_ne (by omega)]; exact g2 f h, mu_at⟩
    refine ifI (fun z => absurd ((nI_eq (b := 14) (by omega) (by omega)).mp z) q) (fun _ => ?_)
    refine ⟨⟨rfl, ltB rfl, neB rfl⟩, ?_⟩
    rw [rf_now]
    refine ⟨⟨rfl, ltB rfl, vinB rfl⟩, ?_⟩
    rw [lc7]
    rw [mu_row (show (140 : Nat) ≠ 139 by decide), h140, e7]
    refine ⟨⟨rfl, ltB rfl, neB rfl⟩, ?_⟩
    rw [rf_now]
    have i1 : (92 + 2 * nI nx : Int32) = nI (92 + 2 * nx) := by rw [show (2 : Int32) = nI 2 from rfl, show (92 : Int32) = nI 92 from rfl, pk_mul, nI_add]
    refine ⟨⟨rfl, ltB rfl⟩, ?_⟩
    rw [mu_ne (show (12 : Nat) ≠ 6 by decide), e12]
    refine ⟨⟨rfl, ltB rfl⟩, ?_⟩
    rw [mu_ne (show (16 : Nat) ≠ 6 by decide), w16]
    have v1 : (1000 * nI k + nI cs.length : Int32) = nI (1000 * k + cs.length) := by rw [show (1000 : Int32) = nI 1000 from rfl, pk_mul, nI_add]
    refine ⟨⟨rfl, ltB rfl, vinK i1 (show 92 + 2 * nx < 1464 by omega) rfl⟩, ?_⟩
    rw [clK i1 (show 92 + 2 * nx < 2 ^ 31 by omega)]
    rw [v1]
    refine ⟨⟨rfl, ltB rfl, neB rfl⟩, ?_⟩
    rw [rf_now]
    have i2 : (92 + 2 * nI nx + 1 : Int32) = nI (93 + 2 * nx) := by rw [i1, nI_1, show 92 + 2 * nx + 1 = 93 + 2 * nx by omega]
    refine ⟨⟨rfl, ltB rfl⟩, ?_⟩
    rw [mu_row (show (139 : Nat) ≠ 140 by decide), mu_ne (show (17 : Nat) ≠ 6 by decide), w17]
    refine ⟨⟨rfl, ltB rfl, vinK i2 (show 93 + 2 * nx < 1464 by omega) rfl⟩, ?_⟩
    rw [clK i2 (show 93 + 2 * nx < 2 ^ 31 by omega)]
    generalize hm3 : mu (mu (mu m2 139 6 0) 140 (92 + 2 * nx) (nI (1000 * k + cs.length))) 140 (93 + 2 * nx) (nI ((cs.map trC).countP (fun c => decide (¬ c < 0)))) = m3
    have r3 : ∀ r, r ≠ 139 → r ≠ 140 → m3 r = m2 r := fun r a b => by rw [← hm3, mu_row b, mu_row b, mu_row a]
    have r139 : ∀ f, f ≠ 6 → m3 139 f = m2 139 f := fun f a => by rw [← hm3, mu_row (by decide), mu_row (by decide), mu_ne a]
    have r6 : m3 139 6 = 0 := by rw [← hm3, mu_row (by decide), mu_row (by decide), mu_at]
    have a1 : m3 140 (92 + 2 * nx) = nI (1000 * k + cs.length) := by rw [← hm3, mu_ne (by omega), mu_at]
    have a2 : m3 140 (93 + 2 * nx) = nI ((cs.map trC).countP (fun c => decide (¬ c < 0))) := by rw [← hm3, mu_at]
    have a3 : ∀ i, i ≠ 92 + 2 * nx → i ≠ 93 + 2 * nx → m3 140 i = m 140 i := fun i b c => by rw [← hm3, mu_ne c, mu_ne b, mu_row (by decide), h140]
    clear hm3
    have loop : ∀ j i, i + j = cs.length → ∀ m4 : Mem, (∀ r, r ≠ 140 → m4 r = m3 r) → (∀ a, (a < 120 + 96 * nx ∨ 120 + 96 * nx + i ≤ a) → m4 140 a = m3 140 a) → (∀ a, a < i → m4 140 (120 + 96 * nx + a) = (cs.map trC).getD a 0) → Xs (d + 5) 175 117 [some (.ref 139), some (.int 1), some (.int (nI nx)), some (.int (nI i))] [] (S0 L) (0, 0) m4 Q := by
      intro j
      induction j with
      | zero =>
        intro i hi m4 hr ho hd
        have hi : i = cs.length := by omega
        subst hi
        refine Xs_wp (cut1 117) t175 60 ?_
        refine ⟨⟨rfl, ltB rfl⟩, ?_⟩
        rw [hr 139 (by decide), r139 16 (by decide), w16]
        refine ifI (fun z => absurd z (nI_nlt (Nat.le_refl _) (by omega))) (fun _ => ?_)
        refine ⟨⟨rfl, ltB rfl, neB rfl⟩, ?_⟩
        rw [rf_now]
        refine ⟨⟨rfl, ltB rfl, vinB rfl⟩, ?_⟩
        rw [lc7]
        have e77 : m4 140 7 = nI nx := by rw [ho 7 (by omega), a3 7 (by omega) (by omega)]; exact e7
        rw [e77]
        refine ⟨⟨rfl, ltB rfl, vinB rfl⟩, ?_⟩
        rw [lc7]
        rw [nI_1]
        refine hS k cs _ hg (by omega) ?_ (fun f h => ?_) ?_ (fun i b c e h => ?_) mu_at ?_ ?_ (fun i h => ?_)
        · intro r hq
          simp at hq
          rw [mu_row (by omega), hr r (by omega), r3 r (by omega) (by omega)]
          exact hF2 r (by simp; omega)
        · rw [mu_row (by decide), hr 139 (by decide), r139 f (by omega)]; exact g2 f h
        · rw [mu_row (by decide), hr 139 (by decide)]; exact r6
        · rw [mu_ne b, ho i (by omega)]; exact a3 i c e
        · rw [mu_ne (by omega), ho _ (by omega)]; exact a1
        · rw [mu_ne (by omega), ho _ (by omega)]; exact a2
        · rw [mu_ne (by omega)]; exact hd i h
      | succ j ih =>
        intro i hi m4 hr ho hd
        refine Xs_wp (cut1 117) t175 60 ?_
        refine ⟨⟨rfl, ltB rfl⟩, ?_⟩
        rw [hr 139 (by decide), r139 16 (by decide), w16]
        refine ifI (fun _ => ?_) (fun z => absurd (nI_lt (by omega) (by omega)) z)
        refine ⟨⟨rfl, ltB rfl, neB rfl⟩, ?_⟩
        rw [rf_now]
        refine ⟨⟨rfl, ltB rfl, neB rfl⟩, ?_⟩
        rw [rf_code]
        refine ⟨⟨rfl, ltB rfl, vinK (rfl : nI i = nI i) (show i < 96 by omega) rfl⟩, ?_⟩
        rw [clK (rfl : nI i = nI i) (show i < 2 ^ 31 by omega)]
        rw [hr 147 (by decide), r3 147 (by decide) (by decide), w147 i (by omega)]
        have ix : (120 + 96 * nI nx + nI i : Int32) = nI (120 + 96 * nx + i) := by rw [show (96 : Int32) = nI 96 from rfl, show (120 : Int32) = nI 120 from rfl, pk_mul, nI_add, nI_add]
        refine ⟨⟨rfl, ltB rfl, vinK ix (show 120 + 96 * nx + i < 1464 by omega) rfl⟩, ?_⟩
        rw [clK ix (show 120 + 96 * nx + i < 2 ^ 31 by omega)]
        have := ih (i + 1) (by omega) (mu m4 140 (120 + 96 * nx + i) ((cs.map trC).getD i 0)) (fun r hq => by rw [mu_row hq]; exact hr r hq) (fun a h => by rw [mu_ne (by omega)]; exact ho a (by omega)) (fun a h => by
          by_cases e : a = i
          · rw [e, mu_at]
          · rw [mu_ne (by omega)]; exact hd a (by omega))
        rw [← nI_1] at this
        exact this
    exact loop cs.length 0 (by omega) m3 (fun _ _ => rfl) (fun _ _ => rfl) (fun a h => absurd h (by omega))
  refine Mc_wp (cut1 34) t175 rfl rfl rfl 60 ?_
  refine ⟨⟨rfl, ltB rfl⟩, ?_⟩
  refine ⟨⟨rfl, ltB rfl⟩, ?_⟩
  generalize hm1 : mu (mu m 139 7 0) 139 11 (-1) = m1
  have hF1 : Fr [139] m m1 := by rw [← hm1]; exact (Fr.refl.mu (by simp)).mu (by simp)
  have g1 : ∀ f, f ≠ 7 → f ≠ 11 → m1 139 f = m 139 f := fun f a b => by rw [← hm1, mu_ne b, mu_ne a]
  have e11 : m1 139 11 = -1 := by rw [← hm1, mu_at]
  have e17 : m1 139 7 = 0 := by rw [← hm1, mu_ne (by decide), mu_at]
  clear hm1
  refine ⟨⟨rfl, ltB rfl⟩, r_go (x := lx0) (T := T) hn (Nat.zero_le _) (by rw [g1 6 (by decide) (by decide)]; exact e6) (fun i hi => by rw [hF1 144 (by simp)]; exact ht i hi) e17 (fun z => by cases z) (fun _ => by rw [e11]; decide) (fun m2 hF2 hz2 => ?_)⟩
  have F2 : Fr [139, 147, 148, 149] m m2 := (hF1.trans hF2.1).mono (by simp)
  have g2 : ∀ f, f < 6 ∨ 11 < f → m2 139 f = m 139 f := fun f h => by rw [hF2.2 f (by omega), g1 f (by omega) (by omega)]
  have hgl : (adv T n lx0).gl = false := rfl
  refine ⟨⟨rfl, ltB rfl⟩, r_key hn lv0 hz2 hgl (fun i hi => by rw [F2 145 (by simp)]; exact hC1 i hi) (fun i hi => by rw [F2 146 (by simp)]; exact hC2 i hi) (fun k m3 hk hF3 g3 e12 hz3 => ?_) (fun hno => ?_)⟩
  rotate_left 1
  · exact flt _ m2 (Or.inl ⟨hno, rfl⟩) F2 (fun f h => g2 f (by omega)) hz2.2.2.1
  have F3 : Fr [139, 147, 148, 149] m m3 := F2.trans (hF3.mono (by simp))
  have g3' : ∀ f, f < 6 ∨ 19 < f → m3 139 f = m 139 f := fun f h => by rw [g3 f (by omega)]; exact g2 f (by omega)
  refine ⟨⟨rfl, ltB rfl⟩, r_takesE hn hk.1 lv1 hz3 e12 (fun p m4 e hF4 e8 => ?_) (fun y cs m4 e e0 hF4 e8 => ?_) (fun y cs m4 e e0 hF4 hw => ?_)⟩
  · exact flt p m4 (Or.inr (Or.inl ⟨k, hk, e⟩)) (F3.trans hF4.1) (fun f h => by rw [hF4.2 f (by omega) (by omega) (by omega) (by omega)]; exact g3' f h) e8
  · exact flt y.st m4 (Or.inr (Or.inr ⟨k, y, cs, hk, e, e0, rfl⟩)) (F3.trans hF4.1) (fun f h => by rw [hF4.2 f (by omega) (by omega) (by omega) (by omega)]; exact g3' f h) e8
  · exact yes k cs m4 ⟨hk, y, e, e0⟩ (F3.trans hF4.1) (fun f h => by rw [hF4.2 f (by omega) (by omega) (by omega) (by omega)]; exact g3' f h) (by rw [hF4.2 12 (by omega) (by decide) (by decide) (by decide)]; exact e12) hw
