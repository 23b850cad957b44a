-- pairs: check
def okW (c : Nat) (tel : Nat → Int32) (p : Nat) (v : Int32) : Prop := p < c ∧ tel p = v
theorem c_waitsAt {d L p c : Nat} {v x : Int32} {m : Mem} {Q : Qt} (ex : x = nI p) (hc : c ≤ 60) (hp : p < 2 ^ 31) (h1 : okW c (m 110) p v → Q (some (.int 1)) (S0 L) m) (h0 : ¬ okW c (m 110) p v → Q (some (.int 0)) (S0 L) m) : Mc (d + 1) 98 [.ref 0, .int x, .int (nI c), .int v] (S0 L) m Q := by
  subst ex
  refine Mc_wp nocut t98 rfl rfl rfl 40 ?_
  by_cases q : p < c
  · refine ifI (fun _ => ?_) (fun z => absurd (nI_lt q (by omega)) z)
    refine ifI (fun _ => ?_) (fun z => absurd (nI_lt (a := p) (b := 60) (by omega) (by omega)) z)
    refine ⟨⟨rfl, ltB rfl, neB rfl⟩, ?_⟩
    rw [rf_cwaiting]
    refine ⟨⟨rfl, ltB rfl, vinK (rfl : nI p = nI p) (show p < 60 by omega) rfl⟩, ?_⟩
    rw [clK (rfl : nI p = nI p) (show p < 2 ^ 31 by omega)]
    exact ifI (fun z => ⟨Or.inr rfl, h1 ⟨q, z⟩⟩) (fun z => ⟨Or.inl rfl, h0 (fun w => z w.2)⟩)
  · refine ifI (fun z => absurd z (nI_nlt (by omega) (by omega))) (fun _ => ?_)
    exact ⟨Or.inl rfl, h0 (fun w => q w.1)⟩
theorem Sim.zero {scr : Nat → Int32} {k : Nat} {m m' : Mem} (h : Sim scr k m) (hf : ∀ r, ¬ scrap r → r ≠ 0 → r ≠ 139 → m' r = m r) (h0 : ∀ i, i ≠ 10 → m' 0 i = m 0 i) (h1 : ∀ i, i ≠ 32 → m' 139 i = m 139 i) (h2 : m' 0 10 = 0) (h3 : m' 139 32 = 0) : Sim scr (k + 1) m' := by
  obtain ⟨a, b, c, d, e, f⟩ := h
  have g : ∀ r, (5 ≤ r ∧ r ≤ 82) ∨ (107 ≤ r ∧ r ≤ 138) ∨ (140 ≤ r ∧ r ≤ 141) ∨ (144 ≤ r ∧ r ≤ 146) ∨ (152 ≤ r ∧ r ≤ 158) ∨ r = 160 ∨ r = 900 → m' r = m r := fun r hr => hf r (by unfold scrap; omega) (by omega) (by omega)
  refine ⟨(a.fr (fun r q1 q2 => g r (by omega)) (g _ (by omega)) (g _ (by omega)) (h0 4 (by decide)) (h1 3 (by decide))).mono bd_mono, b.fr (g _ (by omega)) (g _ (by omega)) (h0 6 (by decide)) (h1 6 (by decide)), c.fr (fun r q1 q2 => g r (by omega)) (g _ (by omega)) (g _ (by omega)) (g _ (by omega)), d.fr (fun r q1 q2 => g r (by omega)) (g _ (by omega)) (g _ (by omega)) (g _ (by omega)) (g _ (by omega)), ?_, f.fr (g _ (by omega)) (g _ (by omega)) (g _ (by omega))⟩
  refine ⟨⟨0, by omega, h2⟩, by rw [h2, h3], fun i hi => ?_⟩
  rw [g 160 (by omega), g 110 (by omega)]; exact e.2.2 i hi
theorem mi_D {x : Int32} {n : Nat} (h1 : 0 ≤ x.toInt) (h2 : x.toInt ≤ 9999) (hn : n ≤ 30) : ∃ D, D ≤ 30 ∧ minV (nI n) (9999 - x) = nI D ∧ clamp (9999 - x) 0 (nI n) = nI D := by
  have e1 : (9999 - x).toInt = 9999 - x.toInt := by
    have e : (9999 : Int32).toInt = 9999 := rfl
    rw [tI_sub (by rw [e]; omega) (by rw [e]; omega), e]
  have en := nI_toInt (show n < 2 ^ 31 by omega)
  have e0 : (0 : Int32).toInt = 0 := rfl
  unfold minV clamp
  by_cases q : 9999 - x < nI n
  · have q' := q
    rw [tI_lt, e1, en] at q'
    refine ⟨(9999 - x.toInt).toNat, by omega, ?_, ?_⟩
    · rw [if_pos q, tI_eq, nI_toInt (by omega), e1]; omega
    · rw [if_neg (by rw [tI_lt, e1, e0]; omega), if_neg (by rw [tI_lt, e1, en]; omega), tI_eq, nI_toInt (by omega), e1]; omega
  · have q' := q
    rw [tI_lt, e1, en] at q'
    refine ⟨n, hn, by rw [if_neg q], ?_⟩
    rw [if_neg (by rw [tI_lt, e1, e0]; omega)]
    by_cases z : nI n < 9999 - x
    · rw [if_pos z]
    · rw [if_neg z]
      rw [tI_lt, e1, en] at z
      rw [tI_eq, e1, en]; omega
theorem pr_check {scr : Nat → Int32} {L d k : Nat} {m : Mem} {v : Int32} (h : Sim scr k m) : Pair scr L (d + 20) 97 194 [.int v] k m := by
  intro Q hQ
  obtain ⟨⟨⟨nt, nw, nx, hM, hI⟩, hk⟩, hT, hS, hL, ⟨⟨c, hc, en⟩, ew, ec⟩, hC⟩ := id h
  have e20 : ∀ i, i ≠ 10 → mu m 0 10 0 0 i = m 0 i := fun i hi => mu_ne hi
  have e2r : ∀ r, r ≠ 0 → mu m 0 10 0 r = m r := fun r hr => mu_row hr
  refine Mc_wp (cut1 63) t97 rfl rfl rfl 100 ?_
  refine ⟨⟨rfl, ltB rfl⟩, ?_⟩
  rw [en]
  refine ⟨⟨rfl, ltB rfl⟩, ?_⟩
  generalize hm0 : mu m 0 10 0 = m0 at e20 e2r
  have e210 : m0 0 10 = 0 := by rw [← hm0, mu_at]
  by_cases q1 : 1 ≤ v ∧ v ≤ 30
  rotate_left 1
  · refine c_wF q1 ?_
    refine hQ _ m0 (fun Q' hQ' => ?_)
    refine Mc_wp nocut t194 rfl rfl rfl 60 ?_
    refine ⟨⟨rfl, ltB rfl⟩, ?_⟩
    refine ⟨⟨rfl, ltB rfl⟩, ?_⟩
    refine r_iF q1 (hQ' _ (h.zero (fun r a b e => ?_) (fun i hi => ?_) (fun i hi => ?_) ?_ ?_))
    · rw [mu_row e]; exact e2r r b
    · rw [mu_row (by decide)]; exact e20 i hi
    · rw [mu_ne hi]; rw [e2r 139 (by decide)]
    · rw [mu_row (by decide)]; exact e210
    · rw [mu_at]
  refine c_wT q1 ?_
  have hv := in_int q1
  have e1 : (1 : Int32).toInt = 1 := rfl
  rw [e1] at hv
  obtain ⟨n, hn, rfl⟩ := ix_split (v := v) (b := 30) (n := 30) rfl (tI_le.mpr (by show (0 : Int) ≤ _; omega)) q1.2
  refine ⟨⟨rfl, ltB rfl⟩, ?_⟩
  rw [e20 4 (by decide)]
  rcases hI with hI | ⟨hI, it, iw, ix, hJ, hx⟩
  · rw [hI]
    refine hQ _ m0 (fun Q' hQ' => ?_)
    refine Mc_wp nocut t194 rfl rfl rfl 60 ?_
    refine ⟨⟨rfl, ltB rfl⟩, ?_⟩
    refine ⟨⟨rfl, ltB rfl⟩, ?_⟩
    refine r_iT q1 ?_
    refine ⟨⟨rfl, ltB rfl⟩, ?_⟩
    rw [mu_ne (by decide), e2r 139 (by decide), hk, hI]
    refine hQ' _ (h.zero (fun r a b e => ?_) (fun i hi => ?_) (fun i hi => ?_) ?_ ?_)
    · rw [mu_row e]; exact e2r r b
    · rw [mu_row (by decide)]; exact e20 i hi
    · rw [mu_ne hi]; rw [e2r 139 (by decide)]
    · rw [mu_row (by decide)]; exact e210
    · rw [mu_at]
  rw [hI]
  -- what both begin from
  generalize hX : cpRow (m 141) (m 140) 1464 = X
  have hJ0 : Mo (bd k) 59 it iw ix X m0 := by
    have := hJ.cong (B := X) (fun i hi => by rw [← hX]; exact if_pos hi)
    exact this.fr (fun r a b => e2r r (by omega)) (fun r a b => e2r r (by omega))
  have hi8 := hJ0.1.2.2.1.1
  have hx14 := hJ0.1.2.2.1.2.2
  have hnt : ntA X = it := nt_of hJ0.1.2.1.1 hi8
  have g1 : ∀ g, goesA g X 1 = nI it := fun g => by rw [goes_out (by omega) (by omega) (by omega) g (by omega)]; exact hJ0.1.2.1.1
  have g7 : ∀ g, goesA g X 7 = nI ix := fun g => by rw [goes_out (by omega) (by omega) (by omega) g (by omega)]; exact hJ0.1.2.1.2.2
  have gt : ∀ g, TX (goesA g X) ix := fun g => TX_congr (goes_tx (by omega)) hJ0.2.1.tx
  have hdy := hJ0.2.2.1.2.2.2
  obtain ⟨D, hD, ed, ed2⟩ := mi_D (x := X 2) (n := n) hdy.1 hdy.2 (by omega)
  refine ⟨⟨rfl, ltB rfl, neB rfl⟩, ?_⟩
  rw [rf_cimage]
  refine ⟨moC mb59, ?_⟩
  rw [hJ0.1.1.2.2.2.2.2.2.1]
  refine c_min ?_
  rw [ed]
  refine ⟨⟨rfl, ltB rfl, neB rfl⟩, ?_⟩
  rw [rf_cthought]
  refine ⟨⟨rfl, ltB rfl, neB rfl⟩, ?_⟩
  rw [rf_cimage]
  refine ⟨moC mb83, Th.make mb59 (by decide) hJ0 FrB.refl (fun m1 hC1 => ?_)⟩
  -- the reference: g days went right
  have ref : ∀ (V : Int32) (g : Nat) (m3 : Mem), FrB 83 m0 m3 → g ≤ D → (∀ j, j < g → okW c (m 110) (2 * j) (opI (ahA (goesA (j + 1) X))) ∧ okW c (m 110) (2 * j + 1) (smA (goesA (j + 1) X) 2)) → ((g < D ∧ ¬ okW c (m 110) (2 * g) (opI (ahA (goesA (g + 1) X))) ∧ V = nI (1 + 2 * g)) ∨ (g < D ∧ okW c (m 110) (2 * g) (opI (ahA (goesA (g + 1) X))) ∧ ¬ okW c (m 110) (2 * g + 1) (smA (goesA (g + 1) X) 2) ∧ V = nI (2 + 2 * g)) ∨ (g = D ∧ V = if 2 * D < c then nI (1 + 2 * D) else 0)) → Q (some (.int V)) (S0 L) m3 := by
    intro V g m3 hF hg hok hV
    have r3 : ∀ r, ¬ scrap r → m3 r = m0 r := fun r hr => hF r (by intro e; apply hr; unfold scrap; omega) (by intro e; apply hr; unfold scrap; omega) (by unfold scrap at hr; omega)
    refine hQ V m3 (fun Q' hQ' => ?_)
    have r139 : m3 139 = m 139 := by rw [r3 139 (by unfold scrap; omega), e2r 139 (by decide)]
    have r140 : m3 140 = m 140 := by rw [r3 140 (by unfold scrap; omega), e2r 140 (by decide)]
    have r141 : m3 141 = m 141 := by rw [r3 141 (by unfold scrap; omega), e2r 141 (by decide)]
    have r160 : m3 160 = m 160 := by rw [r3 160 (by unfold scrap; omega), e2r 160 (by decide)]
    have r000 : m3 0 = m0 0 := r3 0 (by unfold scrap; omega)
    refine Mc_wp (cut2 79 178) t194 rfl rfl rfl 60 ?_
    refine ⟨⟨rfl, ltB rfl⟩, ?_⟩
    rw [r139, ew, en]
    refine ⟨⟨rfl, ltB rfl⟩, ?_⟩
    refine r_iT q1 ?_
    refine ⟨⟨rfl, ltB rfl⟩, ?_⟩
    rw [mu_ne (by decide), r139, hk, hI]
    refine ⟨⟨rfl, ltB rfl, neB rfl⟩, ?_⟩
    rw [rf_now]
    refine ⟨⟨rfl, ltB rfl, neB rfl⟩, ?_⟩
    rw [rf_aside]
    refine r_copyAll (Or.inl rfl) (Or.inr (Or.inr rfl)) (by decide) ?_
    refine ⟨⟨rfl, ltB rfl, neB rfl⟩, ?_⟩
    rw [rf_image]
    refine ⟨⟨rfl, ltB rfl, neB rfl⟩, ?_⟩
    rw [rf_now]
    refine r_copyAll (Or.inr (Or.inl rfl)) (Or.inl rfl) (by decide) ?_
    generalize hm4 : mr (mr (mu m3 139 32 0) 142 (cpRow (mu m3 139 32 0 140) (mu m3 139 32 0 142) 1464)) 140 (cpRow (mr (mu m3 139 32 0) 142 (cpRow (mu m3 139 32 0 140) (mu m3 139 32 0 142) 1464) 141) (mr (mu m3 139 32 0) 142 (cpRow (mu m3 139 32 0 140) (mu m3 139 32 0 142) 1464) 140) 1464) = m4
    have f140 : m4 140 = X := by rw [← hm4, mr_at, mr_ne (by decide), mr_ne (by decide), mu_row (by decide), mu_row (by decide), r140, r141]; exact hX
    have f142 : m4 142 = cpRow (m 140) (m3 142) 1464 := by rw [← hm4, mr_ne (by decide), mr_at, mu_row (by decide), mu_row (by decide), r140]
    have fr : ∀ r, r ≠ 139 → r ≠ 140 → r ≠ 142 → m4 r = m3 r := fun r a b e => by rw [← hm4, mr_ne b, mr_ne e, mu_row a]
    have f139 : ∀ i, i ≠ 32 → m4 139 i = m 139 i := fun i hi => by rw [← hm4, mr_ne (by decide), mr_ne (by decide), mu_ne hi, r139]
    have f132 : m4 139 32 = 0 := by rw [← hm4, mr_ne (by decide), mr_ne (by decide), mu_at]
    clear hm4
    refine ⟨⟨rfl, ltB rfl, neB rfl⟩, ?_⟩
    rw [rf_now]
    refine ⟨⟨rfl, ltB rfl, vinB rfl⟩, ?_⟩
    rw [lc2]
    rw [f140]
    refine r_within ?_
    rw [ed2]
    have fin : ∀ R K m8 g', Fr [140, 150, 151] m4 m8 → m8 140 = goesA g' X → V = (if R = c ∧ R = 2 * D then 0 else nI (1 + R)) → R ≤ 60 → Xs (d + 20) 194 178 [some (.ref 139), some (.int (nI n)), some (.int (nI c)), some (.int (nI (2 * D))), some (.int (nI R)), K] [] (S0 L) (0, 0) m8 Q' := by
      intro R K m8 g' hF8 h8 eV hR
      refine Xs_wp (cut2 79 178) t194 60 ?_
      refine ⟨⟨rfl, ltB rfl, neB rfl⟩, ?_⟩
      rw [rf_aside]
      refine ⟨⟨rfl, ltB rfl, neB rfl⟩, ?_⟩
      rw [rf_now]
      refine r_copyAll (Or.inr (Or.inr rfl)) (Or.inl rfl) (by decide) ?_
      have z140 : cpRow (m8 142) (m8 140) 1464 = m 140 := by
        rw [hF8 142 (by simp), f142, h8]
        funext i
        unfold cpRow
        by_cases q : i < 1464
        · rw [if_pos q, if_pos q]
        · rw [if_neg q, goes_tx (by omega) i (by omega), ← hX]; exact if_neg q
      have go : Q' (some (.int V)) (S0 L) (mr m8 140 (cpRow (m8 142) (m8 140) 1464)) := by
        refine hQ' _ (h.zero (fun r a b e => ?_) (fun i hi => ?_) (fun i hi => ?_) ?_ ?_)
        · by_cases y : r = 140
          · subst y; rw [mr_at]; exact z140
          · rw [mr_ne y, hF8 r (by simp; unfold scrap at a; omega), fr r e y (by unfold scrap at a; omega), r3 r a]; exact e2r r b
        · rw [mr_ne (by decide), hF8 0 (by simp), fr 0 (by decide) (by decide) (by decide), r000]; exact e20 i hi
        · rw [mr_ne (by decide), hF8 139 (by simp)]; exact f139 i hi
        · rw [mr_ne (by decide), hF8 0 (by simp), fr 0 (by decide) (by decide) (by decide), r000]; exact e210
        · rw [mr_ne (by decide), hF8 139 (by simp)]; exact f132
      refine ifI (fun z => ?_) (fun z => ?_)
      · rw [nI_eq (by omega) (by omega)] at z
        refine ifI (fun z2 => ?_) (fun z2 => ?_)
        · rw [nI_eq (by omega) (by omega)] at z2
          rw [if_pos ⟨z, z2⟩] at eV; rw [eV] at go; exact go
        · rw [nI_eq (by omega) (by omega)] at z2
          rw [if_neg (fun w => z2 w.2), ← nI_add] at eV; rw [eV] at go; exact go
      · rw [nI_eq (by omega) (by omega)] at z
        rw [if_neg (fun w => z w.1), ← nI_add] at eV; rw [eV] at go; exact go
    have mul2 : ∀ a, (2 : Int32) * nI a = nI (2 * a) := fun a => pk_mul 2 a
    -- out of the loop when it went wrong
    have out : ∀ R K m8 g', Fr [140, 150, 151] m4 m8 → m8 140 = goesA g' X → V = (if R = c ∧ R = 2 * D then 0 else nI (1 + R)) → R < 2 * K → K ≤ 30 → Xs (d + 20) 194 79 [some (.ref 139), some (.int (nI n)), some (.int (nI c)), some (.int (nI (2 * D))), some (.int (nI R)), some (.int (nI K))] [] (S0 L) (0, 0) m8 Q' := by
      intro R K m8 g' hF8 h8 eV hR hK
      refine Xs_wp (cut2 79 178) t194 60 ?_
      refine ifI (fun _ => ?_) (fun _ => fin R _ m8 g' hF8 h8 eV (by omega))
      refine ifI (fun z => absurd ((nI_eq (by omega) (by omega)).mp (z.trans (mul2 K))) (by omega)) (fun _ => fin R _ m8 g' hF8 h8 eV (by omega))
    have body : ∀ i m8, i < D → Fr [140, 150, 151] m4 m8 → m8 140 = goesA i X → (∀ m9 R (R' K' : Int32), Fr [140, 150, 151] m4 m9 → m9 140 = goesA (i + 1) X → (okW c (m 110) (2 * i) (opI (ahA (goesA (i + 1) X))) ∧ okW c (m 110) (2 * i + 1) (smA (goesA (i + 1) X) 2) ∧ R = 2 * (i + 1) ∨ okW c (m 110) (2 * i) (opI (ahA (goesA (i + 1) X))) ∧ ¬ okW c (m 110) (2 * i + 1) (smA (goesA (i + 1) X) 2) ∧ R = 2 * i + 1 ∨ ¬ okW c (m 110) (2 * i) (opI (ahA (goesA (i + 1) X))) ∧ R = 2 * i) → R' = nI R → K' = nI (i + 1) → Xs (d + 20) 194 79 [some (.ref 139), some (.int (nI n)), some (.int (nI c)), some (.int (nI (2 * D))), some (.int R'), some (.int K')] [] (S0 L) (0, 0) m9 Q') → Xs (d + 20) 194 79 [some (.ref 139), some (.int (nI n)), some (.int (nI c)), some (.int (nI (2 * D))), some (.int (nI (2 * i))), some (.int (nI i))] [] (S0 L) (0, 0) m8 Q' := by
      intro i m8 hi hF8 h8 hn9
      refine Xs_wp (cut2 79 178) t194 60 ?_
      refine ifI (fun _ => ?_) (fun z => absurd (by rw [mul2]; exact nI_lt (by omega) (by omega)) z)
      refine ifI (fun _ => ?_) (fun z => absurd (mul2 i).symm z)
      refine ⟨⟨rfl, ltB rfl⟩, r_day (nt := it) (nx := ix) (by rw [h8]; exact g1 i) hi8 (by rw [h8]; exact g7 i) hx14 (by rw [h8]; exact gt i) (fun m9 hF9 h9 => ?_)⟩
      rw [h8, gs_day i] at h9
      have hF9' : Fr [140, 150, 151] m4 m9 := hF8.trans (hF9.mono (by simp))
      have e160 : m9 160 = m 160 := by rw [hF9' 160 (by simp), fr 160 (by decide) (by decide) (by decide), r160]
      have hn9' := fun R R' K' => hn9 m9 R R' K' hF9' h9
      have mk : (2 : Int32) * nI i + 1 = nI (2 * i + 1) := by rw [mul2, nI_1]
      have hz : ∀ q : Int32, q + 0 = q := fun q => Int32.add_zero q
      have nk : ∀ a b, a ≠ b → a < 1000 → b < 1000 → ¬ nI a = nI b := fun a b h1 h2 h3 z => h1 ((nI_eq (by omega) (by omega)).mp z)
      by_cases qa : okW c (m 110) (2 * i) (opI (ahA (goesA (i + 1) X)))
      · refine ifI (fun _ => ?_) (fun z => absurd (nI_lt qa.1 (by omega)) z)
        refine ⟨⟨rfl, ltB rfl, neB rfl⟩, ?_⟩
        rw [rf_tells]
        refine ⟨⟨rfl, ltB rfl, vinK (rfl : nI (2 * i) = nI (2 * i)) (show 2 * i < 60 by omega) rfl⟩, ?_⟩
        rw [clK (rfl : nI (2 * i) = nI (2 * i)) (show 2 * i < 2 ^ 31 by omega)]
        refine ⟨⟨rfl, ltB rfl⟩, r_ahead (nt := it) (by rw [h9]; exact g1 _) hi8 ?_⟩
        rw [h9, e160, ec (2 * i) (by have := qa.1; omega)]
        refine ifI (fun _ => ?_) (fun z => absurd qa.2 z)
        refine ifI (fun _ => ?_) (fun z => absurd (by rw [mul2]) z)
        by_cases qb : okW c (m 110) (2 * i + 1) (smA (goesA (i + 1) X) 2)
        · refine ifI (fun _ => ?_) (fun z => absurd (by rw [nI_1]; exact nI_lt qb.1 (by omega)) z)
          refine ⟨⟨rfl, ltB rfl, neB rfl⟩, ?_⟩
          rw [rf_tells]
          refine ⟨⟨rfl, ltB rfl, vinK (nI_1 (a := 2 * i)) (show 2 * i + 1 < 60 by omega) rfl⟩, ?_⟩
          rw [clK (nI_1 (a := 2 * i)) (show 2 * i + 1 < 2 ^ 31 by omega)]
          refine ⟨⟨rfl, ltB rfl⟩, r_sumOf (w := 2) (nt := it) (by omega) (by rw [h9]; exact g1 _) hi8 ?_⟩
          rw [h9, e160, ec (2 * i + 1) (by have := qb.1; omega)]
          refine ifI (fun _ => ?_) (fun z => absurd qb.2 z)
          exact hn9' (2 * i + 1 + 1) _ _ (Or.inl ⟨qa, qb, by omega⟩) (by rw [nI_1, nI_1]) (nI_1 (a := i))
        · have := fun R' K' => hn9' (2 * i + 1) R' K' (Or.inr (Or.inl ⟨qa, qb, rfl⟩))
          refine ifI (fun z => ?_) (fun z => ?_)
          · have lt : 2 * i + 1 < c := by rw [nI_1, tI_lt, nI_toInt (by omega), nI_toInt (by omega)] at z; omega
            refine ⟨⟨rfl, ltB rfl, neB rfl⟩, ?_⟩
            rw [rf_tells]
            refine ⟨⟨rfl, ltB rfl, vinK (nI_1 (a := 2 * i)) (show 2 * i + 1 < 60 by omega) rfl⟩, ?_⟩
            rw [clK (nI_1 (a := 2 * i)) (show 2 * i + 1 < 2 ^ 31 by omega)]
            refine ⟨⟨rfl, ltB rfl⟩, r_sumOf (w := 2) (nt := it) (by omega) (by rw [h9]; exact g1 _) hi8 ?_⟩
            rw [h9, e160, ec (2 * i + 1) (by omega)]
            refine ifI (fun z => absurd ⟨lt, z⟩ qb) (fun _ => ?_)
            exact this _ _ (by rw [hz, nI_1]) (nI_1 (a := i))
          · exact this _ _ (by rw [hz, nI_1]) (nI_1 (a := i))
      · have := fun R' K' => hn9' (2 * i) R' K' (Or.inr (Or.inr ⟨qa, rfl⟩))
        refine ifI (fun z => ?_) (fun z => ?_)
        · have lt : 2 * i < c := by rw [tI_lt, nI_toInt (by omega), nI_toInt (by omega)] at z; omega
          refine ⟨⟨rfl, ltB rfl, neB rfl⟩, ?_⟩
          rw [rf_tells]
          refine ⟨⟨rfl, ltB rfl, vinK (rfl : nI (2 * i) = nI (2 * i)) (show 2 * i < 60 by omega) rfl⟩, ?_⟩
          rw [clK (rfl : nI (2 * i) = nI (2 * i)) (show 2 * i < 2 ^ 31 by omega)]
          refine ⟨⟨rfl, ltB rfl⟩, r_ahead (nt := it) (by rw [h9]; exact g1 _) hi8 ?_⟩
          rw [h9, e160, ec (2 * i) (by omega)]
          refine ifI (fun z => absurd ⟨lt, z⟩ qa) (fun _ => ?_)
          refine ifI (fun z => absurd ((hz _).symm.trans (z.trans mk)) (nk _ _ (by omega) (by omega) (by omega))) (fun _ => ?_)
          exact this _ _ (by rw [hz, hz]) (nI_1 (a := i))
        · refine ifI (fun z => absurd ((hz _).symm.trans (z.trans mk)) (nk _ _ (by omega) (by omega) (by omega))) (fun _ => ?_)
          exact this _ _ (by rw [hz, hz]) (nI_1 (a := i))
    have loop : ∀ j i, i + j = g → ∀ m8, Fr [140, 150, 151] m4 m8 → m8 140 = goesA i X → Xs (d + 20) 194 79 [some (.ref 139), some (.int (nI n)), some (.int (nI c)), some (.int (nI (2 * D))), some (.int (nI (2 * i))), some (.int (nI i))] [] (S0 L) (0, 0) m8 Q' := by
      intro j
      induction j with
      | zero =>
        intro i hi m8 hF8 h8
        have hi : i = g := by omega
        subst hi
        rcases hV with ⟨v1, v2, v3⟩ | ⟨v1, v2, v3, v4⟩ | ⟨v1, v2⟩
        · refine body i m8 v1 hF8 h8 (fun m9 R R' K' hF9 h9 hR eR eK => ?_)
          rcases hR with ⟨z, _⟩ | ⟨z, _⟩ | ⟨_, hR⟩
          · exact absurd z v2
          · exact absurd z v2
          rw [eR, eK]
          refine out R (i + 1) m9 (i + 1) hF9 h9 ?_ (by omega) (by omega)
          rw [if_neg (by omega), hR]; exact v3
        · refine body i m8 v1 hF8 h8 (fun m9 R R' K' hF9 h9 hR eR eK => ?_)
          rcases hR with ⟨_, z, _⟩ | ⟨_, _, hR⟩ | ⟨z, _⟩
          · exact absurd z v3
          · rw [eR, eK]
            refine out R (i + 1) m9 (i + 1) hF9 h9 ?_ (by omega) (by omega)
            rw [if_neg (by omega), hR, v4, show 2 + 2 * i = 1 + (2 * i + 1) by omega]
          · exact absurd v2 z
        · subst v1
          refine Xs_wp (cut2 79 178) t194 60 ?_
          refine ifI (fun z => absurd (by rw [mul2] at z; exact z) (nI_nlt (by omega) (by omega))) (fun _ => ?_)
          refine fin (2 * i) _ m8 i hF8 h8 ?_ (by omega)
          rw [v2]
          have hci : 2 * i ≤ c := by
            by_cases z : i = 0
            · omega
            · have := (hok (i - 1) (by omega)).2.1; omega
          by_cases z : 2 * i < c
          · rw [if_pos z, if_neg (by omega)]
          · rw [if_neg z, if_pos ⟨by omega, rfl⟩]
      | succ j ih =>
        intro i hi m8 hF8 h8
        obtain ⟨o1, o2⟩ := hok i (by omega)
        refine body i m8 (by omega) hF8 h8 (fun m9 R R' K' hF9 h9 hR eR eK => ?_)
        rcases hR with ⟨_, _, hR⟩ | ⟨_, z, _⟩ | ⟨z, _⟩
        · rw [eR, eK, hR]; exact ih (i + 1) (by omega) m9 hF9 h9
        · exact absurd o2 z
        · exact absurd o1 z
    have := loop g 0 (by omega) m4 Fr.refl f140
    rw [← mul2 D] at this
    exact this
  have mul2 : ∀ a, (2 : Int32) * nI a = nI (2 * a) := fun a => pk_mul 2 a
  have loop : ∀ j i, i + j = D → ∀ m5, Th it iw ix m0 m5 (goesA i X) → (∀ j, j < i → okW c (m 110) (2 * j) (opI (ahA (goesA (j + 1) X))) ∧ okW c (m 110) (2 * j + 1) (smA (goesA (j + 1) X) 2)) → Xs (d + 20) 97 63 [some (.ref 0), some (.int (nI n)), some (.int (nI c)), some (.int (nI D)), some (.int (nI i))] [] (S0 L) (0, 0) m5 Q := by
    intro j
    induction j with
    | zero =>
      intro i hi m5 hT5 hok
      have hi : i = D := by omega
      subst hi
      refine Xs_wp (cut1 63) t97 60 ?_
      refine ifI (fun z => absurd z (nI_nlt (Nat.le_refl _) (by omega))) (fun _ => ?_)
      have fin := ref _ i m5 hT5.1 (Nat.le_refl _) hok (Or.inr (Or.inr ⟨rfl, rfl⟩))
      obtain ⟨f1, f2⟩ := qif fin
      refine ifI (fun z => ?_) (fun z => ?_)
      · have lt : 2 * i < c := by rw [mul2, tI_lt, nI_toInt (by omega), nI_toInt (by omega)] at z; omega
        have := f1 lt
        rw [← nI_add, ← mul2] at this
        exact this
      · have lt : ¬ 2 * i < c := fun q => z (by rw [mul2]; exact nI_lt q (by omega))
        exact f2 lt
    | succ j ih =>
      intro i hi m5 hT5 hok
      refine Xs_wp (cut1 63) t97 60 ?_
      refine ifI (fun _ => ?_) (fun z => absurd (nI_lt (by omega) (by omega)) z)
      refine ⟨⟨rfl, ltB rfl, neB rfl⟩, ?_⟩
      rw [rf_cthought]
      refine ⟨moC mb83, Th.day hT5 (fun m6 hT6 => ?_)⟩
      rw [gs_day i] at hT6
      have e110 : m6 110 = m 110 := by rw [hT6.1 110 (by decide) (by decide) (by omega), e2r 110 (by decide)]
      refine ⟨⟨rfl, ltB rfl, neB rfl⟩, ?_⟩
      rw [rf_cthought]
      refine ⟨moC mb83, c_ahead mb83 hT6.2.1 ?_⟩
      refine ⟨⟨rfl, ltB rfl⟩, c_waitsAt (mul2 i) hc (by omega) (fun qa => ?_) (fun qa => ?_)⟩
      · rw [e110] at qa
        refine ⟨⟨rfl, ltB rfl, neB rfl⟩, ?_⟩
        rw [rf_cthought]
        refine ⟨moC mb83, c_paths mb83 hT6.2.1 ?_⟩
        refine ⟨⟨rfl, ltB rfl⟩, c_waitsAt (p := 2 * i + 1) (by rw [mul2, nI_1]) hc (by omega) (fun qb => ?_) (fun qb => ?_)⟩
        · rw [e110] at qb
          have := ih (i + 1) (by omega) m6 hT6 (fun j hj => by
            by_cases e : j = i
            · subst e; exact ⟨qa, qb⟩
            · exact hok j (by omega))
          rw [← nI_1] at this
          exact this
        · rw [e110] at qb
          have := ref _ i m6 hT6.1 (by omega) hok (Or.inr (Or.inl ⟨by omega, qa, qb, rfl⟩))
          rw [← nI_add, ← mul2] at this
          exact this
      · rw [e110] at qa
        have := ref _ i m6 hT6.1 (by omega) hok (Or.inl ⟨by omega, qa, rfl⟩)
        rw [← nI_add, ← mul2] at this
        exact this
  exact loop D 0 (by omega) m1 hC1 (fun j hj => absurd hj (by omega))
