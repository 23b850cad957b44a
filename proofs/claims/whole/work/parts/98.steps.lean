-- texts: the reference's steps
theorem lo_cases (b : Int32) : (b = 38 ∨ b = 42 ∨ b = 43 ∨ b = 45 ∨ b = 47 ∨ b = 60 ∨ b = 61 ∨ b = 62 ∨ b = 124) ∨ (loV b = -1 ∧ sgV b = 0) := by
  by_cases q1 : b = 38
  · exact Or.inl (Or.inl q1)
  by_cases q2 : b = 42
  · exact Or.inl (by simp [q2])
  by_cases q3 : b = 43
  · exact Or.inl (by simp [q3])
  by_cases q4 : b = 45
  · exact Or.inl (by simp [q4])
  by_cases q5 : b = 47
  · exact Or.inl (by simp [q5])
  by_cases q6 : b = 60
  · exact Or.inl (by simp [q6])
  by_cases q7 : b = 61
  · exact Or.inl (by simp [q7])
  by_cases q8 : b = 62
  · exact Or.inl (by simp [q8])
  by_cases q9 : b = 124
  · exact Or.inl (by simp [q9])
  refine Or.inr ⟨?_, ?_⟩
  · unfold loV; rw [if_neg q1, if_neg q2, if_neg q3, if_neg q4, if_neg q5, if_neg q6, if_neg q7, if_neg q8, if_neg q9]
  · unfold sgV; rw [if_neg q1, if_neg q2, if_neg q3, if_neg q4, if_neg q5, if_neg q6, if_neg q7, if_neg q8, if_neg q9]
theorem m1_ne {l : Nat} (hl : l ≤ 4) : ¬ (-1 : Int32) = nI l := by
  intro h
  have := congrArg Int32.toInt h
  rw [nI_toInt (by omega)] at this
  have e : (-1 : Int32).toInt = -1 := rfl
  omega
theorem sg_ok {b : Int32} {l : Nat} (h : loV b = nI l) (hl : l ≤ 4) : ¬ sgV b = 0 ∧ rkV (sgV b) = nI (l + 1) ∧ ¬ b = 41 ∧ sgV b < 0 ∧ ¬ sgV b = -10 ∧ ¬ sgV b = -11 ∧ trC (10100 + b) = sgV b := by
  rw [← nI_1, ← h]
  rcases lo_cases b with hb | ⟨hb, _⟩
  · rcases hb with rfl | rfl | rfl | rfl | rfl | rfl | rfl | rfl | rfl <;> decide
  · rw [hb] at h; exact absurd h (m1_ne hl)
theorem lo_le {b : Int32} : (∃ l, l ≤ 4 ∧ loV b = nI l) ∨ sgV b = 0 := by
  rcases lo_cases b with hb | ⟨_, hb⟩
  · refine Or.inl ?_
    rcases hb with rfl | rfl | rfl | rfl | rfl | rfl | rfl | rfl | rfl
    · exact ⟨1, by omega, by decide⟩
    · exact ⟨4, by omega, by decide⟩
    · exact ⟨3, by omega, by decide⟩
    · exact ⟨3, by omega, by decide⟩
    · exact ⟨4, by omega, by decide⟩
    · exact ⟨2, by omega, by decide⟩
    · exact ⟨2, by omega, by decide⟩
    · exact ⟨2, by omega, by decide⟩
    · exact ⟨0, by omega, by decide⟩
  · exact Or.inr hb
theorem rk_pos (w : Int32) : ¬ rkV w < 0 := by
  unfold rkV
  split
  · decide
  · split
    · decide
    · split
      · split
        · split
          · decide
          · decide
        · decide
      · decide
def ST (T : Nat → Int32) (n key : Nat) (x : Lx) (C S : List Int32) (m : Mem) : Prop := RZ T n x m ∧ RW C S m ∧ m 139 12 = nI key
/-- the reference at the head of its loop -/
def LH (D L op : Nat) (S : List Int32) (wa : Int32) (x4 : Option Value) (m : Mem) (Q : Qt) : Prop := Xs D 173 28 [some (.ref 139), some (.int (nI op)), some (.int (nI (cN S))), some (.int wa), x4] [] (S0 L) (0, 0) m Q
theorem cN_app {U R : List Int32} : cN (U ++ R) = cN U + cN R := by unfold cN; exact List.countP_append
theorem cN_0 {U : List Int32} (h : ∀ w, w ∈ U → ¬ w = -10) : cN U = 0 := by
  unfold cN
  rw [List.countP_eq_zero]
  intro w hw
  simpa using h w hw
/-- signs that are settled at a rank -/
def bin (l : Int32) (W : List Int32) : Prop := ∀ w, w ∈ W → (¬ w = -11 ∧ ¬ rkV w < l ∧ w < 0) ∧ ¬ w = -10
theorem RW.push {C S : List Int32} {m : Mem} {w : Int32} (h : RW C S m) (hs : S.length < 96) : RW C (w :: S) (mu (mu m 148 S.length w) 139 19 (nI (S.length + 1))) ∧ FS m (mu (mu m 148 S.length w) 139 19 (nI (S.length + 1))) := by
  obtain ⟨a, b, c, e, f⟩ := h
  refine ⟨⟨?_, ?_, ?_, fun i hi => ?_, ?_, ?_⟩, (Fr.refl.mu (by simp)).mu (by simp), fun g _ _ hg => ?_⟩
  · rw [mu_ne (by decide), mu_row (by decide)]; exact a
  · rw [mu_ne (by decide), mu_row (by decide)]; exact b
  · rw [mu_at, List.length_cons]
  · rw [mu_row (by decide), mu_row (by decide)]; exact e i hi
  · rw [mu_row (by decide), mu_at]
  · exact (f.put (Nat.le_refl _)).fr (mu_row (by decide))
  · rw [mu_ne hg, mu_row (by decide)]
theorem ht1 {l : Int32} {R : List Int32} {l' : Int32} (h : topOk l R) (hl : l.toInt ≤ l'.toInt) : topOk l' R := by
  cases R with
  | nil => trivial
  | cons w R =>
    rcases h with e | e
    · exact Or.inl e
    · refine Or.inr ?_
      rw [tI_lt] at e ⊢; omega
/-- a sign between -/
theorem st_sign {T : Nat → Int32} {n key d L op l : Nat} {y : Lx} {C W R : List Int32} {m : Mem} {x4 : Option Value} {Q : Qt} (hn : n ≤ 96) (ho : op ≤ 8) (hl : l ≤ 4) (hv : LV T n y) (h : ST T n key y C (W ++ R) m) (hlo : lo T y = nI l) (hW : bin (nI (l + 1)) W) (hR : topOk (nI (l + 1)) R) (hcap : C.length + (W ++ R).length ≤ y.st) (ht : m 149 op = 0 ∨ m 149 op = 1) (h2 : l = 2 → m 149 op = 0)
    (hQ : ∀ m' x4', FP m m' → (∀ j, j < op → m' 149 j = m 149 j) → m' 149 op = (if l = 2 then 1 else if l < 2 then 0 else m 149 op) → ST T n key (adv T n y) (C ++ W) (sgV (T y.st) :: R) m' → LH (d + 4) L op (sgV (T y.st) :: R) 1 x4' m' Q) : LH (d + 4) L op (W ++ R) 0 x4 m Q := by
  have hm1 := lo_mark hlo hl
  have s3 := hv.2.2.2.1
  have hlt := hv.2.2.1 (by omega)
  have hen := hv.2.1
  obtain ⟨hz, hw, hk⟩ := h
  have e9 : m 139 9 = tkV y := hz.2.2.2.1
  have tk : tkV y = 3 := (tk3 s3).mpr hm1
  have e10 : m 139 10 = T y.st := hz.2.2.2.2.1.1 (Or.inl hm1)
  have hlb : loV (T y.st) = nI l := by unfold lo at hlo; rw [if_pos hm1] at hlo; exact hlo
  obtain ⟨g1, g2, g3, g4, g5, g6, g7⟩ := sg_ok hlb hl
  have esg : sg T y = sgV (T y.st) := if_pos hm1
  have hcN : cN (W ++ R) = cN (sgV (T y.st) :: R) := by
    rw [cN_app, cN_0 (fun w hw => (hW w hw).2)]
    unfold cN
    rw [List.countP_cons]
    simp [g5]
  rw [List.length_append] at hcap
  unfold LH
  rw [hcN]
  -- behind the test
  have fin : ∀ t : Int32, t = (if l = 2 then 1 else if l < 2 then 0 else m 149 op) → Xs (d + 4) 173 306 [some (.ref 139), some (.int (nI op)), some (.int (nI (cN (sgV (T y.st) :: R)))), some (.int 0), some (.int (sgV (T y.st)))] [] (S0 L) (0, 0) (mu m 149 op t) Q := by
    intro t et
    have hFt : Fr [149] m (mu m 149 op t) := Fr.refl.mu (by simp)
    have hzt : RZ T n y (mu m 149 op t) := by
      unfold RZ
      rw [mu_row (show (144 : Nat) ≠ 149 by decide), mu_row (show (139 : Nat) ≠ 149 by decide)]
      exact hz
    have hwt : RW C (W ++ R) (mu m 149 op t) := by
      obtain ⟨a, b, c, e, f⟩ := hw
      refine ⟨by rw [mu_row (by decide)]; exact a, by rw [mu_row (by decide)]; exact b, by rw [mu_row (by decide)]; exact c, fun i hi => by rw [mu_row (by decide)]; exact e i hi, f.fr (mu_row (by decide))⟩
    refine Xs_wp (cut1 28) t173 60 ?_
    refine r_rank ?_
    rw [g2]
    refine ⟨⟨rfl, ltB rfl⟩, r_settle hR W C _ (fun w hw => (hW w hw).1) (by omega) (by rw [List.length_append]; omega) hwt (fun m2 hF2 hw2 => ?_)⟩
    have hz2 := hzt.fs hF2
    refine ⟨⟨rfl, ltB rfl, neB rfl⟩, ?_⟩
    rw [rf_waits]
    refine ⟨⟨rfl, ltB rfl⟩, ?_⟩
    have e19 := hw2.2.2.1
    refine ⟨⟨rfl, ltB rfl, vinK e19 (show R.length < 96 by omega) rfl⟩, ?_⟩
    rw [clK e19 (show R.length < 2 ^ 31 by omega)]
    refine ⟨⟨rfl, ltB rfl⟩, ?_⟩
    rw [mu_row (show (139 : Nat) ≠ 148 by decide), e19]
    refine ⟨⟨rfl, ltB rfl⟩, ?_⟩
    rw [nI_1]
    obtain ⟨hp1, hp2⟩ := hw2.push (w := sgV (T y.st)) (by omega)
    have hz3 := hz2.fs hp2
    refine ⟨⟨rfl, ltB rfl⟩, hz3.go hn hv (by omega) (fun m4 hF4 hz4 => ?_)⟩
    have r149 : m4 149 = mu m 149 op t 149 := by rw [hF4.1 149 (by simp), hp2.1 149 (by simp), hF2.1 149 (by simp)]
    have hFP : FP m m4 := FP.trans (m' := mu m 149 op t) ⟨hFt.mono (by simp), fun f _ _ _ _ => by rw [mu_row (by decide)]⟩ ((hF2.fp.trans hp2.fp).trans hF4.fp)
    refine hQ m4 _ hFP (fun j hj => ?_) ?_ ⟨hz4, hp1.f7 hF4, ?_⟩
    · rw [r149, mu_ne (by omega)]
    · rw [r149, mu_at]; exact et
    · rw [hFP.2 12 (by omega) (by decide) (by decide) (by decide)]; exact hk
  refine Xs_wp (cut1 306) t173 60 ?_
  refine ⟨⟨rfl, ltB rfl⟩, ?_⟩
  rw [e9, tk]
  refine ⟨⟨rfl, ltB rfl⟩, ?_⟩
  rw [e9, tk]
  refine ⟨⟨rfl, ltB rfl⟩, ?_⟩
  rw [e10]
  refine ifI (fun z => absurd z g3) (fun _ => ?_)
  refine ⟨⟨rfl, ltB rfl⟩, r_sign hv hz ?_⟩
  rw [esg]
  refine ifI (fun z => absurd z g1) (fun _ => ?_)
  refine r_rank ?_
  rw [g2]
  have eo : nI op = nI op := rfl
  have hl5 : l = 0 ∨ l = 1 ∨ l = 2 ∨ l = 3 ∨ l = 4 := by omega
  rcases hl5 with rfl | rfl | rfl | rfl | rfl
  · refine ⟨⟨rfl, ltB rfl, neB rfl⟩, ?_⟩
    rw [rf_tested]
    refine r_rank ?_
    rw [g2]
    refine r_rank ?_
    rw [g2]
    refine ⟨⟨rfl, ltB rfl, vinK eo (show op < 10 by omega) rfl⟩, ?_⟩
    rw [clK eo (show op < 2 ^ 31 by omega)]
    exact fin 0 rfl
  · refine ⟨⟨rfl, ltB rfl, neB rfl⟩, ?_⟩
    rw [rf_tested]
    refine r_rank ?_
    rw [g2]
    refine r_rank ?_
    rw [g2]
    refine ⟨⟨rfl, ltB rfl, vinK eo (show op < 10 by omega) rfl⟩, ?_⟩
    rw [clK eo (show op < 2 ^ 31 by omega)]
    exact fin 0 rfl
  · refine ⟨⟨rfl, ltB rfl, neB rfl⟩, ?_⟩
    rw [rf_tested]
    refine ⟨⟨rfl, ltB rfl, vinK eo (show op < 10 by omega) rfl⟩, ?_⟩
    rw [clK eo (show op < 2 ^ 31 by omega)]
    rw [h2 rfl]
    refine ⟨⟨rfl, ltB rfl, neB rfl⟩, ?_⟩
    rw [rf_tested]
    refine r_rank ?_
    rw [g2]
    refine ⟨⟨rfl, ltB rfl, vinK eo (show op < 10 by omega) rfl⟩, ?_⟩
    rw [clK eo (show op < 2 ^ 31 by omega)]
    exact fin 1 rfl
  · refine ⟨⟨rfl, ltB rfl, neB rfl⟩, ?_⟩
    rw [rf_tested]
    refine r_rank ?_
    rw [g2]
    refine r_rank ?_
    rw [g2]
    refine ⟨⟨rfl, ltB rfl, neB rfl⟩, ?_⟩
    rw [rf_tested]
    refine ⟨⟨rfl, ltB rfl, vinK eo (show op < 10 by omega) rfl⟩, ?_⟩
    rw [clK eo (show op < 2 ^ 31 by omega)]
    rcases ht with e | e
    · rw [e]
      refine ⟨⟨rfl, ltB rfl, vinK eo (show op < 10 by omega) rfl⟩, ?_⟩
      rw [clK eo (show op < 2 ^ 31 by omega)]
      exact fin 0 (by rw [e]; rfl)
    · rw [e]
      refine ⟨⟨rfl, ltB rfl, vinK eo (show op < 10 by omega) rfl⟩, ?_⟩
      rw [clK eo (show op < 2 ^ 31 by omega)]
      exact fin 1 (by rw [e]; rfl)
  · refine ⟨⟨rfl, ltB rfl, neB rfl⟩, ?_⟩
    rw [rf_tested]
    refine r_rank ?_
    rw [g2]
    refine r_rank ?_
    rw [g2]
    refine ⟨⟨rfl, ltB rfl, neB rfl⟩, ?_⟩
    rw [rf_tested]
    refine ⟨⟨rfl, ltB rfl, vinK eo (show op < 10 by omega) rfl⟩, ?_⟩
    rw [clK eo (show op < 2 ^ 31 by omega)]
    rcases ht with e | e
    · rw [e]
      refine ⟨⟨rfl, ltB rfl, vinK eo (show op < 10 by omega) rfl⟩, ?_⟩
      rw [clK eo (show op < 2 ^ 31 by omega)]
      exact fin 0 (by rw [e]; rfl)
    · rw [e]
      refine ⟨⟨rfl, ltB rfl, vinK eo (show op < 10 by omega) rfl⟩, ?_⟩
      rw [clK eo (show op < 2 ^ 31 by omega)]
      exact fin 1 (by rw [e]; rfl)
