-- pairs: feed
theorem byV_lt (v : Int32) (s : Nat) : ∃ x, x < 256 ∧ byV v s = nI x := ⟨_, Nat.mod_lt _ (by decide), rfl⟩
theorem c_feedFour {d L : Nat} {mem : Mem} {Q : Qt} {v : Int32} {n : Nat} (hn : mem 0 6 = nI n) (h96 : n + 4 ≤ 96)
    (h : ∀ m', Fr [0, 107] mem m' → m' 0 6 = nI (n + 4) → (∀ f, f ≠ 6 → m' 0 f = mem 0 f) → (∀ i, n ≤ i → i < n + 4 → m' 107 i = byV v (24 - 8 * (i - n))) → (∀ i, (i < n ∨ n + 4 ≤ i) → m' 107 i = mem 107 i) → Q none (S0 L) m') : Mc (d + 1) 82 [.ref 0, .int v] (S0 L) mem Q := by
  have step : ∀ (j : Nat) (sh : Int32) (m1 : Mem), j < 4 → m1 0 6 = nI (n + j) → ((sh.toUInt32 &&& Int32.toUInt32 31).toBitVec % 32).toNat = 24 - 8 * j → ¬ sh < 0 →
      Xs (d + 1) 82 3 [some (.ref 0), some (.int v), some (.int (sh + (-8)))] [] (S0 L) (0, 0) (mu (mu m1 107 (n + j) (byV v (24 - 8 * j))) 0 6 (nI (n + j + 1))) Q →
      Xs (d + 1) 82 3 [some (.ref 0), some (.int v), some (.int sh)] [] (S0 L) (0, 0) m1 Q := by
    intro j sh m1 hj h6 hs hp next
    refine Xs_wp (cut1 3) t82 60 ?_
    refine ifI (fun z => absurd z hp) (fun _ => ?_)
    refine ⟨⟨rfl, ltB rfl⟩, ?_⟩
    rw [h6]
    refine ifI (fun _ => ?_) (fun z => absurd (nI_lt (a := n + j) (b := 96) (by omega) (by omega)) z)
    refine ⟨⟨rfl, ltB rfl, neB rfl⟩, ?_⟩
    rw [rf_ctape]
    refine ⟨⟨rfl, ltB rfl⟩, ?_⟩
    refine ⟨⟨rfl, ltB rfl, vinK h6 (show n + j < 96 by omega) rfl⟩, ?_⟩
    rw [clK h6 (show n + j < 2 ^ 31 by omega)]
    rw [by_u hs]
    refine ⟨⟨rfl, ltB rfl⟩, ?_⟩
    refine ⟨⟨rfl, ltB rfl⟩, ?_⟩
    rw [mu_row (show (0 : Nat) ≠ 107 by decide), h6, nI_1]
    exact next
  refine Mc_wp (cut1 3) t82 rfl rfl rfl 60 ?_
  refine step 0 24 mem (by omega) hn (by decide) (by decide) ?_
  refine step 1 _ _ (by omega) mu_at (by decide) (by decide) ?_
  refine step 2 _ _ (by omega) mu_at (by decide) (by decide) ?_
  refine step 3 _ _ (by omega) mu_at (by decide) (by decide) ?_
  refine Xs_wp (cut1 99) t82 60 ?_
  refine h _ ((((((((Fr.refl.mu (by simp)).mu (by simp)).mu (by simp)).mu (by simp)).mu (by simp)).mu (by simp)).mu (by simp)).mu (by simp)) mu_at (fun f hf => ?_) (fun i h1 h2 => ?_) (fun i hi => ?_)
  · rw [mu_ne hf, mu_row (by decide), mu_ne hf, mu_row (by decide), mu_ne hf, mu_row (by decide), mu_ne hf, mu_row (by decide)]
  · rw [mu_row (by decide)]
    rcases (show i = n + 0 ∨ i = n + 1 ∨ i = n + 2 ∨ i = n + 3 by omega) with rfl | rfl | rfl | rfl
    · rw [mu_ne (by omega), mu_row (by decide), mu_ne (by omega), mu_row (by decide), mu_ne (by omega), mu_row (by decide)]
      show mu mem 107 (i + 0) _ 107 (i + 0) = _
      rw [mu_at]
      congr 1; omega
    · rw [mu_ne (by omega), mu_row (by decide), mu_ne (by omega), mu_row (by decide), mu_at]
      congr 1; omega
    · rw [mu_ne (by omega), mu_row (by decide), mu_at]
      congr 1; omega
    · rw [mu_at]
      congr 1; omega
  · rw [mu_row (by decide), mu_ne (by omega), mu_row (by decide), mu_ne (by omega), mu_row (by decide), mu_ne (by omega), mu_row (by decide), mu_ne (by omega)]
def fdW (a b c : Int32) (k : Nat) : Int32 := if k < 4 then a else if k < 8 then b else c
theorem pr_feed {scr : Nat → Int32} {L d k : Nat} {m : Mem} {a b c : Int32} (h : Sim scr k m) : Pair scr L (d + 20) 81 162 [.int a, .int b, .int c] k m := by
  intro Q hQ
  obtain ⟨hA, ⟨⟨n, hn, en⟩, ew, ec⟩, hS, hL, hW, hC⟩ := id h
  refine Mc_wp nocut t81 rfl rfl rfl 60 ?_
  refine ⟨⟨rfl, ltB rfl⟩, ?_⟩
  rw [en]
  have e12 : (nI n + 12 : Int32) = nI (n + 12) := nI_add n 12
  have g12 : (96 : Int32) < nI n + 12 ↔ 96 < n + 12 := by
    rw [e12]
    refine ⟨fun z => ?_, fun z => nI_lt (a := 96) (b := n + 12) z (by omega)⟩
    by_cases y : 96 < n + 12
    · exact y
    · exact absurd z (nI_nlt (a := 96) (b := n + 12) (by omega) (by omega))
  by_cases q : 96 < n + 12
  · refine ifI (fun _ => ?_) (fun z => absurd (g12.mpr q) z)
    refine hQ _ m (fun Q' hQ' => ?_)
    refine Mc_wp nocut t162 rfl rfl rfl 60 ?_
    refine ⟨⟨rfl, ltB rfl⟩, ?_⟩
    rw [ew, en]
    exact ifI (fun _ => hQ' m h.next) (fun z => absurd (g12.mpr q) z)
  refine ifI (fun z => absurd (g12.mp z) q) (fun _ => ?_)
  refine ⟨⟨rfl, ltB rfl⟩, c_feedFour en (by omega) (fun m1 hF1 a1 b1 c1 d1 => ?_)⟩
  refine ⟨⟨rfl, ltB rfl⟩, c_feedFour a1 (by omega) (fun m2 hF2 a2 b2 c2 d2 => ?_)⟩
  refine ⟨⟨rfl, ltB rfl⟩, c_feedFour a2 (by omega) (fun m3 hF3 a3 b3 c3 d3 => ?_)⟩
  refine ⟨⟨rfl, ltB rfl⟩, ?_⟩
  rw [a3]
  have hF := (hF1.trans hF2).trans hF3
  have tp : ∀ i, i < 12 → m3 107 (n + i) = byV (fdW a b c i) (24 - 8 * (i % 4)) := by
    intro i hi
    unfold fdW
    by_cases i4 : i < 4
    · rw [if_pos i4, d3 _ (by omega), d2 _ (by omega), c1 _ (by omega) (by omega)]; congr 1; omega
    · rw [if_neg i4]
      by_cases i8 : i < 8
      · rw [if_pos i8, d3 _ (by omega), c2 _ (by omega) (by omega)]; congr 1; omega
      · rw [if_neg i8, c3 _ (by omega) (by omega)]; congr 1; omega
  have tp2 : ∀ i, (i < n ∨ n + 12 ≤ i) → m3 107 i = m 107 i := fun i hi => by rw [d3 i (by omega), d2 i (by omega), d1 i (by omega)]
  refine hQ _ m3 (fun Q' hQ' => ?_)
  have e139 : m3 139 = m 139 := hF 139 (by simp)
  have e144 : m3 144 = m 144 := hF 144 (by simp)
  have fin : ∀ f : Nat → Int32, (∀ i, i < 12 → f (n + i) = byV (fdW a b c i) (24 - 8 * (i % 4))) → (∀ i, (i < n ∨ n + 12 ≤ i) → f i = m 144 i) → Q' (some (.int (nI (n + 4 + 4 + 4)))) (S0 L) (mu (mr m3 144 f) 139 6 (nI (n + 12))) := by
    intro f h1 h2
    have row : ∀ r, r ≠ 0 → r ≠ 107 → r ≠ 139 → r ≠ 144 → mu (mr m3 144 f) 139 6 (nI (n + 12)) r = m r := fun r q1 q2 q3 q4 => by rw [mu_row q3, mr_ne q4]; exact hF r (by simp; omega)
    have r0 : ∀ x, x ≠ 6 → mu (mr m3 144 f) 139 6 (nI (n + 12)) 0 x = m 0 x := fun x hx => by rw [mu_row (by decide), mr_ne (by decide), b3 x hx, b2 x hx, b1 x hx]
    have r1 : ∀ x, x ≠ 6 → mu (mr m3 144 f) 139 6 (nI (n + 12)) 139 x = m 139 x := fun x hx => by rw [mu_ne hx, mr_ne (by decide), e139]
    have r107 : mu (mr m3 144 f) 139 6 (nI (n + 12)) 107 = m3 107 := by rw [mu_row (by decide), mr_ne (by decide)]
    have r144 : mu (mr m3 144 f) 139 6 (nI (n + 12)) 144 = f := by rw [mu_row (by decide), mr_at]
    refine hQ' _ ⟨(hA.mono bd_mono).fr (fun r q1 q2 => row r (by omega) (by omega) (by omega) (by omega)) (row _ (by decide) (by decide) (by decide) (by decide)) (row _ (by decide) (by decide) (by decide) (by decide)) (r0 4 (by decide)) (r1 3 (by decide)), ?_, hS.fr (fun r q1 q2 => row r (by omega) (by omega) (by omega) (by omega)) (row _ (by decide) (by decide) (by decide) (by decide)) (row _ (by decide) (by decide) (by decide) (by decide)) (row _ (by decide) (by decide) (by decide) (by decide)), hL.fr (fun r q1 q2 => row r (by omega) (by omega) (by omega) (by omega)) (row _ (by decide) (by decide) (by decide) (by decide)) (row _ (by decide) (by decide) (by decide) (by decide)) (row _ (by decide) (by decide) (by decide) (by decide)) (row _ (by decide) (by decide) (by decide) (by decide)), hW.fr (row _ (by decide) (by decide) (by decide) (by decide)) (row _ (by decide) (by decide) (by decide) (by decide)) (r0 10 (by decide)) (r1 32 (by decide)), hC.fr (row _ (by decide) (by decide) (by decide) (by decide)) (row _ (by decide) (by decide) (by decide) (by decide)) (row _ (by decide) (by decide) (by decide) (by decide))⟩
    have e06 : mu (mr m3 144 f) 139 6 (nI (n + 12)) 0 6 = nI (n + 12) := by rw [mu_row (by decide), mr_ne (by decide)]; exact a3
    refine ⟨⟨n + 12, by omega, e06⟩, by rw [mu_at, e06], fun i hi => ?_⟩
    rw [r107, r144]
    by_cases z : i < n ∨ n + 12 ≤ i
    · rw [h2 i z, tp2 i z]; exact ec i hi
    · have e : i = n + (i - n) := by omega
      rw [e, h1 _ (by omega), tp _ (by omega)]
      exact ⟨rfl, byV_lt _ _⟩
  have rloop : ∀ j i, i + j = 12 → ∀ (f : Nat → Int32) s5, (∀ x, x < i → f (n + x) = byV (fdW a b c x) (24 - 8 * (x % 4))) → (∀ x, (x < n ∨ n + i ≤ x) → f x = m 144 x) →
      Xs (d + 20) 162 18 [some (.ref 139), some (.int a), some (.int b), some (.int c), some (.int (nI i)), s5] [] (S0 L) (0, 0) (mr m3 144 f) Q' := by
    intro j
    induction j with
    | zero =>
      intro i hi f s5 h1 h2
      have hi : i = 12 := by omega
      subst hi
      refine Xs_wp (cut1 18) t162 60 ?_
      refine ⟨⟨rfl, ltB rfl⟩, ?_⟩
      refine ⟨⟨rfl, ltB rfl⟩, ?_⟩
      refine ⟨⟨rfl, ltB rfl⟩, ?_⟩
      rw [mu_at, mr_ne (show (139 : Nat) ≠ 144 by decide), e139, ew, en, e12]
      exact fin f h1 h2
    | succ j ih =>
      intro i hi f s5 h1 h2
      have main : ∀ w : Int32, w = fdW a b c i → Xs (d + 20) 162 49 [some (.ref 139), some (.int a), some (.int b), some (.int c), some (.int (nI i)), some (.int w)] [] (S0 L) (0, 0) (mr m3 144 f) Q' := by
        intro w hw
        refine Xs_wp (cut1 18) t162 60 ?_
        refine ⟨⟨rfl, ltB rfl, neB rfl⟩, ?_⟩
        rw [rf_tape]
        refine ⟨⟨rfl, ltB rfl⟩, ?_⟩
        refine ⟨by decide, ?_⟩
        have e6 : mr m3 144 f 139 6 = nI n := by rw [mr_ne (by decide), e139, ew, en]
        have ei : (mr m3 144 f 139 6 + nI i : Int32) = nI (n + i) := by rw [e6]; exact nI_add n i
        refine ⟨⟨rfl, ltB rfl, vinK ei (show n + i < 96 by omega) rfl⟩, ?_⟩
        rw [clK ei (show n + i < 2 ^ 31 by omega)]
        have es : (24 - 8 * (nI i - nI i / 4 * 4) : Int32) = nI (24 - 8 * (i % 4)) := by
          rw [show (4 : Int32) = nI 4 from rfl, pk_rem (by omega) (by omega) (by omega), show (8 : Int32) = nI 8 from rfl, pk_mul, show (24 : Int32) = nI 24 from rfl, pk_sub (by omega)]
        have eb : w >>> ((24 - 8 * (nI i - nI i / 4 * 4)) &&& 31) &&& 255 = byV w (24 - 8 * (i % 4)) := by
          rw [es]
          refine by_s (by omega) ?_
          have h4 : i % 4 < 4 := Nat.mod_lt _ (by omega)
          generalize i % 4 = z at h4
          rcases (show z = 0 ∨ z = 1 ∨ z = 2 ∨ z = 3 by omega) with rfl | rfl | rfl | rfl <;> decide
        rw [eb, hw, mu_mr']
        have := ih (i + 1) (by omega) (upd f (n + i) (byV (fdW a b c i) (24 - 8 * (i % 4)))) (some (.int (fdW a b c i))) (fun x hx => by
          by_cases e : x = i
          · subst e; rw [pk_us]
          · rw [pk_un (by omega)]; exact h1 x (by omega)) (fun x hx => by rw [pk_un (by omega)]; exact h2 x (by omega))
        rw [← nI_1] at this
        exact this
      refine Xs_wp (cut2 18 49) t162 60 ?_
      refine ifI (fun _ => ?_) (fun z => absurd (nI_lt (a := i) (b := 12) (by omega) (by omega)) z)
      unfold fdW at main
      by_cases i4 : i < 4
      · refine ifI (fun _ => ?_) (fun z => absurd (nI_lt (a := i) (b := 4) i4 (by omega)) z)
        exact main a (by rw [if_pos i4])
      · refine ifI (fun z => absurd z (nI_nlt (a := i) (b := 4) (by omega) (by omega))) (fun _ => ?_)
        by_cases i8 : i < 8
        · refine ifI (fun _ => ?_) (fun z => absurd (nI_lt (a := i) (b := 8) i8 (by omega)) z)
          exact main b (by rw [if_neg i4, if_pos i8])
        · refine ifI (fun z => absurd z (nI_nlt (a := i) (b := 8) (by omega) (by omega))) (fun _ => ?_)
          exact main c (by rw [if_neg i4, if_neg i8])
  refine Mc_wp (cut1 18) t162 rfl rfl rfl 60 ?_
  refine ⟨⟨rfl, ltB rfl⟩, ?_⟩
  rw [e139, ew, en]
  refine ifI (fun z => absurd (g12.mp z) q) (fun _ => ?_)
  have := rloop 12 0 (by omega) (m3 144) none (fun x hx => absurd hx (by omega)) (fun x _ => by rw [e144])
  rw [mr_self] at this
  exact this
