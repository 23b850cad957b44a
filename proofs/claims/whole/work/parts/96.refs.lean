-- texts: the reference's words and key
theorem RZ.go {d L n : Nat} {m : Mem} {Q : Qt} {x : Lx} {T : Nat → Int32} (hn : n ≤ 96) (hv : LV T n x) (h0 : x.so ≠ 0) (hz : RZ T n x m) (hQ : ∀ m', F7 m m' → RZ T n (adv T n x) m' → Q none (S0 L) m') : Mc (d + 2) 166 [.ref 139] (S0 L) m Q := by
  refine r_go hn hv.2.1 hz.1.1 hz.1.2 hz.2.1 hz.2.2.2.2.2.1 (fun hb => ?_) hQ
  refine hz.2.2.2.2.2.2 ?_
  have h3 := hv.2.2.2.1
  have : x.so = 1 ∨ x.so = 2 ∨ x.so = 3 := by omega
  rcases this with e | e | e
  · exact e
  · unfold bwd at hb; rw [e] at hb; cases hb
  · unfold bwd at hb; rw [e] at hb; cases hb
theorem rk_not : ¬ rkV (-10) < 6 := by decide
theorem r_part {d L n key : Nat} {m : Mem} {Q : Qt} {x : Lx} {T : Nat → Int32} {C U R : List Int32} (hn : n ≤ 96) (hv : LV T n x) (hz : RZ T n x m) (hw : RW C (U ++ R) m) (hk : key < 3) (ek : m 139 12 = nI key) (hU : ∀ w, w ∈ U → w = -10) (hR : topOk 6 R) (hcap : C.length + (U ++ R).length ≤ x.st)
    (h1 : (x.so = 2 ∨ x.so = 3) → ¬ (x.gl = true ∨ atm T key x < 0) → ∀ m', FP m m' → m' 149 = m 149 → RZ T n (adv T n x) m' → RW (C ++ atm T key x :: U) R m' → Q (some (.int 1)) (S0 L) m')
    (h0 : ¬ ((x.so = 2 ∨ x.so = 3) ∧ ¬ (x.gl = true ∨ atm T key x < 0)) → Q (some (.int 0)) (S0 L) m) : Mc (d + 3) 172 [.ref 139] (S0 L) m Q := by
  have s3 := hv.2.2.2.1
  have hle := hv.1
  have hen := hv.2.1
  have es : (nI x.en - nI x.st : Int32) = nI (x.en - x.st) := pk_sub hle
  have e9 := hz.2.2.2.1
  have a1 := @tk1 x s3
  have a2 := @tk2 x s3
  rw [List.length_append] at hcap
  -- the code is there
  have tail : ∀ (i1 : Int32), (x.so = 2 ∨ x.so = 3) → ¬ (x.gl = true ∨ atm T key x < 0) → Xs (d + 3) 172 87 [some (.ref 139), some (.int i1)] [.int (atm T key x), .int (nI C.length), .ref 147] (S0 L) (0, 0) m Q := by
    intro i1 hso hok
    have hlt := hv.2.2.1 (by omega)
    have ha := atm_ok (key := key) hv (fun z => hok (Or.inr z))
    obtain ⟨w16, w17, w19, w147, wS⟩ := hw
    refine Xs_wp nocut t172 60 ?_
    refine ⟨⟨rfl, ltB rfl, vinK (rfl : nI C.length = nI C.length) (show C.length < 96 by omega) rfl⟩, ?_⟩
    rw [clK (rfl : nI C.length = nI C.length) (show C.length < 2 ^ 31 by omega)]
    refine ⟨⟨rfl, ltB rfl⟩, ?_⟩
    rw [mu_row (show (139 : Nat) ≠ 147 by decide), w16]
    refine ⟨⟨rfl, ltB rfl⟩, ?_⟩
    rw [nI_1]
    refine ⟨⟨rfl, ltB rfl⟩, ?_⟩
    rw [mu_ne (show (17 : Nat) ≠ 16 by decide), mu_row (show (139 : Nat) ≠ 147 by decide), w17]
    refine ⟨⟨rfl, ltB rfl⟩, ?_⟩
    rw [nI_1]
    generalize hm2 : mu (mu (mu m 147 C.length (atm T key x)) 139 16 (nI (C.length + 1))) 139 17 (nI (C.countP (fun c => decide (¬ c < 0)) + 1)) = m2
    have hF2 : FS m m2 := by
      rw [← hm2]
      refine ⟨((Fr.refl.mu (by simp)).mu (by simp)).mu (by simp), fun f b c e => ?_⟩
      rw [mu_ne c, mu_ne b, mu_row (by decide)]
    have hlC : (C ++ [atm T key x]).length = C.length + 1 := by simp
    have hw2 : RW (C ++ [atm T key x]) (U ++ R) m2 := by
      rw [← hm2]
      refine ⟨?_, ?_, ?_, fun i hi => ?_, ?_⟩
      · rw [mu_ne (by decide), mu_at, hlC]
      · rw [mu_at, List.countP_append]
        have nn : 0 ≤ atm T key x := Int32.not_lt.mp (fun z => hok (Or.inr z))
        simp [nn]
      · rw [mu_ne (by decide), mu_ne (by decide), mu_row (by decide)]; exact w19
      · rw [mu_row (by decide), mu_row (by decide)]
        by_cases q : i = C.length
        · rw [q, mu_at]; simp [List.getD]
        · rw [hlC] at hi
          rw [mu_ne q, w147 i (by omega)]
          simp only [List.getD, List.getElem?_append_left (show i < C.length by omega)]
      · exact wS.fr (by rw [mu_row (by decide), mu_row (by decide), mu_row (by decide)])
    have e149 : m2 149 = m 149 := hF2.1 149 (by simp)
    clear hm2
    refine ⟨⟨rfl, ltB rfl⟩, r_settle hR U _ m2 (fun w hw => ?_) (by rw [hlC]; omega) (by rw [List.length_append]; omega) hw2 (fun m3 hF3 hw3 => ?_)⟩
    · rw [hU w hw]; exact ⟨by decide, rk_not, by decide⟩
    have hz3 := (hz.fs hF2).fs hF3
    refine ⟨⟨rfl, ltB rfl⟩, hz3.go hn hv (by omega) (fun m4 hF4 hz4 => ?_)⟩
    refine ⟨Or.inr rfl, h1 hso hok m4 ((hF2.fp.trans hF3.fp).trans hF4.fp) ?_ hz4 ?_⟩
    · rw [hF4.1 149 (by simp), hF3.1 149 (by simp)]; exact e149
    · have := hw3.f7 hF4
      rw [List.append_assoc] at this
      exact this
  -- from the test on
  have mid : ∀ (i1 : Int32), (i1 = 1 ↔ (tkV x = 1 ∧ x.en - x.st = 1 ∧ ¬ nmI key (T x.st) < 0)) → (i1 = 0 ∨ i1 = 1) → Xs (d + 3) 172 38 [some (.ref 139), some (.int i1)] [] (S0 L) (0, 0) m Q := by
    intro i1 hi hi2
    refine Xs_wp (cut1 87) t172 60 ?_
    refine ⟨⟨rfl, ltB rfl⟩, ?_⟩
    rw [e9]
    by_cases q2 : tkV x = 2
    · refine ifI (fun _ => ?_) (fun z => absurd q2 z)
      obtain ⟨t1, t2, t3⟩ := a2.mp q2
      have ha : atm T key x = nv T x.st (x.en - x.st) := by unfold atm; rw [if_pos t1, if_neg (by omega)]
      have hr := nv_rng (T := T) (s := x.st) (x.en - x.st) t3 (fun i hi => by rw [hv.2.2.2.2.2 (x.st + i) (by omega) (by omega)]; exact t1)
      have hok : ¬ (x.gl = true ∨ atm T key x < 0) := by
        intro z
        rcases z with z | z
        · rw [t2] at z; cases z
        · rw [ha, tI_lt] at z
          have e0 : (0 : Int32).toInt = 0 := rfl
          omega
      refine ⟨⟨rfl, ltB rfl, neB rfl⟩, ?_⟩
      rw [rf_code]
      refine ⟨⟨rfl, ltB rfl⟩, ?_⟩
      rw [hw.1]
      refine ⟨⟨rfl, ltB rfl⟩, ?_⟩
      rw [e9]
      refine ifI (fun _ => ?_) (fun z => absurd q2 z)
      refine ⟨⟨rfl, ltB rfl⟩, ?_⟩
      rw [hz.2.2.2.2.1.2 t1 t3, ← ha]
      exact tail i1 (Or.inl t1) hok
    · refine ifI (fun z => absurd z q2) (fun _ => ?_)
      rcases hi2 with rfl | rfl
      · refine ⟨Or.inl rfl, h0 (fun z => ?_)⟩
        obtain ⟨z1, z2⟩ := z
        have hg : x.gl = false := by
          cases hg : x.gl
          · rfl
          · exact absurd (Or.inl hg) z2
        have hn0 : ¬ atm T key x < 0 := fun w => z2 (Or.inr w)
        have m1 : ((-1 : Int32) < 0) := by decide
        rcases z1 with z1 | z1
        · apply q2
          refine a2.mpr ⟨z1, hg, ?_⟩
          unfold atm at hn0
          rw [if_pos z1] at hn0
          by_cases w : 4 < x.en - x.st
          · rw [if_pos w] at hn0; exact absurd m1 hn0
          · omega
        · unfold atm at hn0
          rw [if_neg (by omega)] at hn0
          by_cases w : x.en - x.st = 1
          · rw [if_pos w] at hn0
            by_cases w2 : nmI key (T x.st) < 0
            · rw [if_pos w2] at hn0; exact absurd m1 hn0
            · exact absurd (hi.mpr ⟨a1.mpr ⟨z1, hg⟩, w, w2⟩) (by decide)
          · rw [if_neg w] at hn0; exact absurd m1 hn0
      · obtain ⟨y1, y2, y3⟩ := hi.mp rfl
        obtain ⟨z1, hg⟩ := a1.mp y1
        have ha : atm T key x = 10000 + nmI key (T x.st) := by unfold atm; rw [if_neg (by omega), if_pos y2, if_neg y3]
        have hok : ¬ (x.gl = true ∨ atm T key x < 0) := by
          intro z
          rcases z with z | z
          · rw [hg] at z; cases z
          · rw [ha] at z
            rcases nmI_rng key (T x.st) with e | ⟨i, hi, e⟩
            · rw [e] at y3; exact absurd (by decide) y3
            · have := nmK_le key
              rw [e, show (10000 : Int32) = nI 10000 from rfl, nI_add] at z
              exact absurd z (nI_pos (by omega))
        refine ⟨⟨rfl, ltB rfl, neB rfl⟩, ?_⟩
        rw [rf_code]
        refine ⟨⟨rfl, ltB rfl⟩, ?_⟩
        rw [hw.1]
        refine ⟨⟨rfl, ltB rfl⟩, ?_⟩
        rw [e9]
        refine ifI (fun z => absurd z q2) (fun _ => ?_)
        refine ⟨⟨rfl, ltB rfl⟩, ?_⟩
        rw [hz.2.2.2.2.1.1 (Or.inr z1)]
        refine ⟨⟨rfl, ltB rfl⟩, r_nameOf hk ek ?_⟩
        have := tail 1 (Or.inr z1) hok
        rw [ha] at this
        exact this
  refine Mc_wp (cut1 38) t172 rfl rfl rfl 60 ?_
  refine ⟨⟨rfl, ltB rfl⟩, ?_⟩
  rw [e9]
  by_cases q1 : tkV x = 1
  · refine ifI (fun _ => ?_) (fun z => absurd q1 z)
    obtain ⟨z1, hg⟩ := a1.mp q1
    refine ⟨⟨rfl, ltB rfl⟩, ?_⟩
    rw [hz.2.1]
    refine ⟨⟨rfl, ltB rfl⟩, ?_⟩
    rw [hz.2.2.1]
    by_cases w : x.en - x.st = 1
    · refine ifI (fun _ => ?_) (fun z => absurd (by rw [es, w]; rfl) z)
      refine ⟨⟨rfl, ltB rfl⟩, ?_⟩
      rw [hz.2.2.2.2.1.1 (Or.inr z1)]
      refine ⟨⟨rfl, ltB rfl⟩, r_nameOf hk ek ?_⟩
      refine ifI (fun z => ?_) (fun z => ?_)
      · exact mid 0 ⟨fun y => absurd y (by decide), fun y => absurd z y.2.2⟩ (Or.inl rfl)
      · exact mid 1 ⟨fun _ => ⟨q1, w, z⟩, fun _ => rfl⟩ (Or.inr rfl)
    · refine ifI (fun z => absurd ((nI_eq (b := 1) (by omega) (by omega)).mp (es.symm.trans z)) w) (fun _ => ?_)
      exact mid 0 ⟨fun y => absurd y (by decide), fun y => absurd y.2.1 w⟩ (Or.inl rfl)
  · refine ifI (fun z => absurd z q1) (fun _ => ?_)
    exact mid 0 ⟨fun y => absurd y (by decide), fun y => absurd y.1 q1⟩ (Or.inl rfl)
