-- texts: the reference's steps, more
theorem ST.of {T : Nat → Int32} {n key : Nat} {x : Lx} {C S : List Int32} {m : Mem} (hz : RZ T n x m) (hw : RW C S m) (hk : m 139 12 = nI key) : ST T n key x C S m := ⟨hz, hw, hk⟩
theorem st_stuck {T : Nat → Int32} {n key d L op : Nat} {y : Lx} {C S : List Int32} {m : Mem} {x4 : Option Value} {Q : Qt} (ho : op ≤ 8) (hv : LV T n y) (h : ST T n key y C S m) (h0 : y.so ≠ 0) (hc : ¬ (mrk T y 41 ∧ 0 < op)) (hla : ∀ l, l ≤ 4 → lo T y = nI l → l = 2 ∧ m 149 op = 1) (hQ : Q (some (.int 0)) (S0 L) m) : LH (d + 4) L op S 0 x4 m Q := by
  have s3 := hv.2.2.2.1
  obtain ⟨hz, hw, hk⟩ := h
  have e9 : m 139 9 = tkV y := hz.2.2.2.1
  have fin : Xs (d + 4) 173 237 [some (.ref 139), some (.int (nI op)), some (.int (nI (cN S))), some (.int 0), x4] [] (S0 L) (0, 0) m Q := by
    refine Xs_wp nocut t173 60 ?_
    refine ⟨⟨rfl, ltB rfl⟩, r_sign hv hz ?_⟩
    unfold sg
    by_cases q : y.so = 1
    · rw [if_pos q]
      rcases lo_le (b := T y.st) with ⟨l, hl, el⟩ | e
      · obtain ⟨e2, et⟩ := hla l hl (by unfold lo; rw [if_pos q]; exact el)
        subst e2
        obtain ⟨g1, g2, _⟩ := sg_ok el hl
        refine ifI (fun z => absurd z g1) (fun _ => ?_)
        refine r_rank ?_
        rw [g2]
        refine ⟨⟨rfl, ltB rfl, neB rfl⟩, ?_⟩
        rw [rf_tested]
        refine ⟨⟨rfl, ltB rfl, vinK (rfl : nI op = nI op) (show op < 10 by omega) rfl⟩, ?_⟩
        rw [clK (rfl : nI op = nI op) (show op < 2 ^ 31 by omega)]
        rw [et]
        exact ⟨Or.inl rfl, hQ⟩
      · rw [e]
        exact ⟨Or.inl rfl, hQ⟩
    · rw [if_neg q]
      exact ⟨Or.inl rfl, hQ⟩
  unfold LH
  refine Xs_wp (cut1 237) t173 60 ?_
  refine ⟨⟨rfl, ltB rfl⟩, ?_⟩
  rw [e9]
  refine ifI (fun z => absurd ((tk0 s3).mp z) h0) (fun _ => ?_)
  refine ⟨⟨rfl, ltB rfl⟩, ?_⟩
  rw [e9]
  refine ifI (fun z => ?_) (fun _ => fin)
  have q1 := (tk3 s3).mp z
  refine ⟨⟨rfl, ltB rfl⟩, ?_⟩
  rw [hz.2.2.2.2.1.1 (Or.inl q1)]
  refine ifI (fun z2 => ?_) (fun _ => fin)
  have : op = 0 := by
    by_cases e : op = 0
    · exact e
    · exact absurd ⟨⟨q1, z2⟩, by omega⟩ hc
  subst this
  exact fin
theorem st_end {T : Nat → Int32} {n key d L op : Nat} {y : Lx} {C W R : List Int32} {m : Mem} {x4 : Option Value} {Q : Qt} (hn : n ≤ 96) (ho : op ≤ 8) (hv : LV T n y) (h : ST T n key y C (W ++ R) m) (h0 : y.so = 0) (hW : bin 0 W) (hR : topOk 0 R) (hcap : C.length + (W ++ R).length ≤ y.st) (hQ : ∀ m', FS m m' → RW (C ++ W) R m' → Q (some (.int (if op = 0 then 1 else 0))) (S0 L) m') : LH (d + 4) L op (W ++ R) 0 x4 m Q := by
  have s3 := hv.2.2.2.1
  have hle := hv.1
  have hen := hv.2.1
  obtain ⟨hz, hw, hk⟩ := h
  have e9 : m 139 9 = tkV y := hz.2.2.2.1
  rw [List.length_append] at hcap
  unfold LH
  refine Xs_wp nocut t173 60 ?_
  refine ⟨⟨rfl, ltB rfl⟩, ?_⟩
  rw [e9, (tk0 s3).mpr h0]
  refine ⟨⟨rfl, ltB rfl⟩, r_settle hR W C m (fun w hw => (hW w hw).1) (by omega) (by rw [List.length_append]; omega) hw (fun m2 hF2 hw2 => ?_)⟩
  have q := hQ m2 hF2 hw2
  by_cases e : op = 0
  · subst e
    exact ⟨Or.inr rfl, q⟩
  · rw [if_neg e] at q
    refine ifI (fun z => absurd ((nI_eq (b := 0) (by omega) (by omega)).mp z) e) (fun _ => ?_)
    exact ⟨Or.inl rfl, q⟩
theorem st_close {T : Nat → Int32} {n key d L op : Nat} {y : Lx} {C W U R : List Int32} {m : Mem} {x4 : Option Value} {Q : Qt} (hn : n ≤ 96) (ho : op < 8) (hv : LV T n y) (h : ST T n key y C (W ++ -11 :: (U ++ R)) m) (hm : mrk T y 41) (hW : bin 0 W) (hU : ∀ w, w ∈ U → w = -10) (hR : topOk 6 R) (hcap : C.length + (W ++ -11 :: (U ++ R)).length ≤ y.st) (hQ : ∀ m' x4', FP m m' → m' 149 = m 149 → ST T n key (adv T n y) (C ++ W ++ U) R m' → LH (d + 4) L op R 0 x4' m' Q) : LH (d + 4) L (op + 1) (W ++ -11 :: (U ++ R)) 0 x4 m Q := by
  have s3 := hv.2.2.2.1
  have hm1 := hm.1
  have hlt := hv.2.2.1 (by omega)
  have hen := hv.2.1
  obtain ⟨hz, hw, hk⟩ := h
  have e9 : m 139 9 = tkV y := hz.2.2.2.1
  have tk : tkV y = 3 := (tk3 s3).mpr hm1
  have e10 : m 139 10 = T y.st := hz.2.2.2.2.1.1 (Or.inl hm1)
  simp only [List.length_append, List.length_cons] at hcap
  unfold LH
  refine Xs_wp (cut1 28) t173 80 ?_
  refine ⟨⟨rfl, ltB rfl⟩, ?_⟩
  rw [e9, tk]
  refine ⟨⟨rfl, ltB rfl⟩, ?_⟩
  rw [e9, tk]
  refine ⟨⟨rfl, ltB rfl⟩, ?_⟩
  rw [e10, hm.2]
  refine ifI (fun _ => ?_) (fun z => absurd (nI_lt (a := 0) (by omega) (by omega)) z)
  refine ⟨⟨rfl, ltB rfl⟩, r_settle (S0' := -11 :: (U ++ R)) (Or.inl rfl) W C m (fun w hw => (hW w hw).1) (by omega) (by simp only [List.length_append, List.length_cons]; omega) hw (fun m2 hF2 hw2 => ?_)⟩
  obtain ⟨b16, b17, b19, b147, bS⟩ := hw2
  refine ⟨⟨rfl, ltB rfl⟩, ?_⟩
  rw [b19]
  refine ⟨⟨rfl, ltB rfl⟩, ?_⟩
  have eD : nI (-11 :: (U ++ R) : List Int32).length - 1 = nI (U ++ R).length := by rw [List.length_cons]; exact pk_sub (b := 1) (by omega)
  rw [eD]
  have hF3 : FS m2 (mu m2 139 19 (nI (U ++ R).length)) := ⟨Fr.refl.mu (by simp), fun f _ _ e => mu_ne e⟩
  have hw3 : RW (C ++ W) (U ++ R) (mu m2 139 19 (nI (U ++ R).length)) := ⟨by rw [mu_ne (by decide)]; exact b16, by rw [mu_ne (by decide)]; exact b17, by rw [mu_at], fun i hi => by rw [mu_row (by decide)]; exact b147 i hi, bS.2.fr (mu_row (by decide))⟩
  refine ⟨⟨rfl, ltB rfl⟩, r_settle hR U _ _ (fun w hw => ?_) (by rw [List.length_append]; omega) (by rw [List.length_append]; omega) hw3 (fun m4 hF4 hw4 => ?_)⟩
  · rw [hU w hw]; exact ⟨by decide, rk_not, by decide⟩
  refine ⟨⟨rfl, ltB rfl⟩, r_nots (S := R) (by omega) hw4.2.2.1 hw4.2.2.2.2 ?_⟩
  have hFS : FS m m4 := (hF2.trans hF3).trans hF4
  have hz4 := hz.fs hFS
  refine ⟨⟨rfl, ltB rfl⟩, hz4.go hn hv (by omega) (fun m5 hF5 hz5 => ?_)⟩
  have hFP : FP m m5 := hFS.fp.trans hF5.fp
  have := hQ m5 x4 hFP (by rw [hF5.1 149 (by simp), hFS.1 149 (by simp)]) ⟨hz5, hw4.f7 hF5, by rw [hFP.2 12 (by omega) (by decide) (by decide) (by decide)]; exact hk⟩
  unfold LH at this
  have eop : nI op = nI (op + 1) + -1 := by
    rw [← nI_1, Int32.add_assoc]
    show nI op = nI op + 0
    exact (Int32.add_zero _).symm
  rw [eop] at this
  exact this
theorem st_open {T : Nat → Int32} {n key d L op : Nat} {x : Lx} {C S : List Int32} {m : Mem} {x4 : Option Value} {Q : Qt} (hn : n ≤ 96) (ho : op < 8) (hv : LV T n x) (h : ST T n key x C S m) (hm : mrk T x 40) (hcap : C.length + S.length ≤ x.st) (hQ : ∀ m' x4', FP m m' → (∀ j, j ≤ op → m' 149 j = m 149 j) → m' 149 (op + 1) = 0 → ST T n key (adv T n x) C (-11 :: S) m' → LH (d + 4) L (op + 1) (-11 :: S) 1 x4' m' Q) : LH (d + 4) L op S 1 x4 m Q := by
  have s3 := hv.2.2.2.1
  have hm1 := hm.1
  have hlt := hv.2.2.1 (by omega)
  have hen := hv.2.1
  obtain ⟨hz, hw, hk⟩ := h
  have e9 : m 139 9 = tkV x := hz.2.2.2.1
  have tk : tkV x = 3 := (tk3 s3).mpr hm1
  have e10 : m 139 10 = T x.st := hz.2.2.2.2.1.1 (Or.inl hm1)
  unfold LH
  refine Xs_wp (cut1 28) t173 80 ?_
  refine ⟨⟨rfl, ltB rfl⟩, ?_⟩
  rw [e9, tk]
  refine ⟨⟨rfl, ltB rfl⟩, ?_⟩
  rw [e10, hm.2]
  refine ⟨⟨rfl, ltB rfl⟩, ?_⟩
  rw [e9, tk]
  refine ⟨⟨rfl, ltB rfl⟩, ?_⟩
  rw [e10, hm.2]
  refine ifI (fun _ => ?_) (fun z => absurd (nI_lt (b := 8) ho (by omega)) z)
  refine ⟨⟨rfl, ltB rfl, neB rfl⟩, ?_⟩
  rw [rf_waits]
  refine ⟨⟨rfl, ltB rfl⟩, ?_⟩
  have e19 := hw.2.2.1
  refine ⟨⟨rfl, ltB rfl, vinK e19 (show S.length < 96 by omega) rfl⟩, ?_⟩
  rw [clK e19 (show S.length < 2 ^ 31 by omega)]
  refine ⟨⟨rfl, ltB rfl⟩, ?_⟩
  rw [mu_row (show (139 : Nat) ≠ 148 by decide), e19]
  refine ⟨⟨rfl, ltB rfl⟩, ?_⟩
  rw [nI_1]
  obtain ⟨hp1, hp2⟩ := hw.push (w := -11) (by omega)
  generalize mu (mu m 148 S.length (-11)) 139 19 (nI (S.length + 1)) = m2 at hp1 hp2
  refine ⟨⟨rfl, ltB rfl, neB rfl⟩, ?_⟩
  rw [rf_tested]
  refine ⟨⟨rfl, ltB rfl, vinK (nI_1 op) (show op + 1 < 10 by omega) rfl⟩, ?_⟩
  rw [clK (nI_1 op) (show op + 1 < 2 ^ 31 by omega)]
  have hFt : Fr [149] m2 (mu m2 149 (op + 1) 0) := Fr.refl.mu (by simp)
  have hz2 : RZ T n x (mu m2 149 (op + 1) 0) := by
    have := hz.fs hp2
    unfold RZ
    rw [mu_row (show (144 : Nat) ≠ 149 by decide), mu_row (show (139 : Nat) ≠ 149 by decide)]
    exact this
  have hw2 : RW C (-11 :: S) (mu m2 149 (op + 1) 0) := by
    obtain ⟨a, b, c, e, f⟩ := hp1
    refine ⟨by rw [mu_row (by decide)]; exact a, by rw [mu_row (by decide)]; exact b, by rw [mu_row (by decide)]; exact c, fun i hi => by rw [mu_row (by decide)]; exact e i hi, f.fr (mu_row (by decide))⟩
  refine ⟨⟨rfl, ltB rfl⟩, hz2.go hn hv (by omega) (fun m3 hF3 hz3 => ?_)⟩
  have hw3 := hw2.f7 hF3
  have hFP : FP m m3 := hp2.fp.trans (FP.trans (m' := mu m2 149 (op + 1) 0) ⟨hFt.mono (by simp), fun f _ _ _ _ => by rw [mu_row (by decide)]⟩ hF3.fp)
  have r149 : m3 149 = mu m2 149 (op + 1) 0 149 := hF3.1 149 (by simp)
  refine ⟨⟨rfl, ltB rfl⟩, r_nots (S := -11 :: S) (by rw [List.length_cons]; omega) hw3.2.2.1 hw3.2.2.2.2 ?_⟩
  have := hQ m3 x4 hFP (fun j hj => by rw [r149, mu_ne (by omega), hp2.1 149 (by simp)]) (by rw [r149, mu_at]) ⟨hz3, hw3, by rw [hFP.2 12 (by omega) (by decide) (by decide) (by decide)]; exact hk⟩
  unfold LH at this
  rw [← nI_1] at this
  exact this
theorem st_not {T : Nat → Int32} {n key d L op : Nat} {x : Lx} {C S : List Int32} {m : Mem} {x4 : Option Value} {Q : Qt} (hn : n ≤ 96) (ho : cN S < 8) (hv : LV T n x) (h : ST T n key x C S m) (hm : mrk T x 33) (hcap : C.length + S.length ≤ x.st) (hQ : ∀ m' x4', FP m m' → m' 149 = m 149 → ST T n key (adv T n x) C (-10 :: S) m' → LH (d + 4) L op (-10 :: S) 1 x4' m' Q) : LH (d + 4) L op S 1 x4 m Q := by
  have s3 := hv.2.2.2.1
  have hm1 := hm.1
  have hlt := hv.2.2.1 (by omega)
  have hen := hv.2.1
  obtain ⟨hz, hw, hk⟩ := h
  have e9 : m 139 9 = tkV x := hz.2.2.2.1
  have tk : tkV x = 3 := (tk3 s3).mpr hm1
  have e10 : m 139 10 = T x.st := hz.2.2.2.2.1.1 (Or.inl hm1)
  unfold LH
  refine Xs_wp (cut1 28) t173 80 ?_
  refine ⟨⟨rfl, ltB rfl⟩, ?_⟩
  rw [e9, tk]
  refine ⟨⟨rfl, ltB rfl⟩, ?_⟩
  rw [e10, hm.2]
  refine ifI (fun _ => ?_) (fun z => absurd (nI_lt (b := 8) ho (by omega)) z)
  refine ⟨⟨rfl, ltB rfl, neB rfl⟩, ?_⟩
  rw [rf_waits]
  refine ⟨⟨rfl, ltB rfl⟩, ?_⟩
  have e19 := hw.2.2.1
  refine ⟨⟨rfl, ltB rfl, vinK e19 (show S.length < 96 by omega) rfl⟩, ?_⟩
  rw [clK e19 (show S.length < 2 ^ 31 by omega)]
  refine ⟨⟨rfl, ltB rfl⟩, ?_⟩
  rw [mu_row (show (139 : Nat) ≠ 148 by decide), e19]
  refine ⟨⟨rfl, ltB rfl⟩, ?_⟩
  rw [nI_1]
  obtain ⟨hp1, hp2⟩ := hw.push (w := -10) (by omega)
  generalize mu (mu m 148 S.length (-10)) 139 19 (nI (S.length + 1)) = m2 at hp1 hp2
  refine ⟨⟨rfl, ltB rfl⟩, (hz.fs hp2).go hn hv (by omega) (fun m3 hF3 hz3 => ?_)⟩
  have hw3 := hp1.f7 hF3
  have hFP : FP m m3 := hp2.fp.trans hF3.fp
  refine ⟨⟨rfl, ltB rfl⟩, r_nots (S := -10 :: S) (by rw [List.length_cons]; omega) hw3.2.2.1 hw3.2.2.2.2 ?_⟩
  exact hQ m3 x4 hFP (by rw [hF3.1 149 (by simp), hp2.1 149 (by simp)]) ⟨hz3, hw3, by rw [hFP.2 12 (by omega) (by decide) (by decide) (by decide)]; exact hk⟩
theorem st_part {T : Nat → Int32} {n key d L op : Nat} {x : Lx} {C U R : List Int32} {m : Mem} {x4 : Option Value} {Q : Qt} (hn : n ≤ 96) (hkey : key < 3) (hv : LV T n x) (h : ST T n key x C (U ++ R) m) (hU : ∀ w, w ∈ U → w = -10) (hR : topOk 6 R) (hcap : C.length + (U ++ R).length ≤ x.st) (n1 : ¬ (mrk T x 33 ∧ cN (U ++ R) < 8)) (n2 : ¬ (mrk T x 40 ∧ op < 8)) (ho : op ≤ 8) (hc : cN (U ++ R) ≤ 96)
    (h1 : (x.so = 2 ∨ x.so = 3) → ¬ (x.gl = true ∨ atm T key x < 0) → ∀ m' x4', FP m m' → m' 149 = m 149 → ST T n key (adv T n x) (C ++ atm T key x :: U) R m' → LH (d + 4) L op R 0 x4' m' Q)
    (h0 : ¬ ((x.so = 2 ∨ x.so = 3) ∧ ¬ (x.gl = true ∨ atm T key x < 0)) → Q (some (.int 0)) (S0 L) m) : LH (d + 4) L op (U ++ R) 1 x4 m Q := by
  have s3 := hv.2.2.2.1
  have hle := hv.1
  have hen := hv.2.1
  obtain ⟨hz, hw, hk⟩ := h
  have e9 : m 139 9 = tkV x := hz.2.2.2.1
  have fin : Xs (d + 4) 173 158 [some (.ref 139), some (.int (nI op)), some (.int (nI (cN (U ++ R)))), some (.int 1), x4] [] (S0 L) (0, 0) m Q := by
    refine Xs_wp (cut1 28) t173 60 ?_
    refine ⟨⟨rfl, ltB rfl⟩, r_part hn hv hz hw hkey hk hU hR hcap (fun a1 a2 m2 hF2 e2 hz2 hw2 => ?_) (fun a => ?_)⟩
    · refine ⟨⟨rfl, ltB rfl⟩, r_nots (S := R) (by rw [List.length_append] at hcap; omega) hw2.2.2.1 hw2.2.2.2.2 ?_⟩
      exact h1 a1 a2 m2 x4 hF2 e2 ⟨hz2, hw2, by rw [hF2.2 12 (by omega) (by decide) (by decide) (by decide)]; exact hk⟩
    · exact ⟨Or.inl rfl, h0 a⟩
  have brk : Xs (d + 4) 173 97 [some (.ref 139), some (.int (nI op)), some (.int (nI (cN (U ++ R)))), some (.int 1), x4] [] (S0 L) (0, 0) m Q := by
    refine Xs_wp (cut1 158) t173 60 ?_
    refine ⟨⟨rfl, ltB rfl⟩, ?_⟩
    rw [e9]
    refine ifI (fun z => ?_) (fun _ => fin)
    have q1 := (tk3 s3).mp z
    refine ⟨⟨rfl, ltB rfl⟩, ?_⟩
    rw [hz.2.2.2.2.1.1 (Or.inl q1)]
    refine ifI (fun z2 => ?_) (fun _ => fin)
    refine ifI (fun z3 => absurd ⟨⟨q1, z2⟩, ?_⟩ n2) (fun _ => fin)
    rw [tI_lt, nI_toInt (by omega)] at z3
    have e8 : (8 : Int32).toInt = 8 := rfl
    omega
  unfold LH
  refine Xs_wp (cut1 97) t173 60 ?_
  refine ⟨⟨rfl, ltB rfl⟩, ?_⟩
  rw [e9]
  refine ifI (fun z => ?_) (fun _ => brk)
  have q1 := (tk3 s3).mp z
  refine ⟨⟨rfl, ltB rfl⟩, ?_⟩
  rw [hz.2.2.2.2.1.1 (Or.inl q1)]
  refine ifI (fun z2 => ?_) (fun _ => brk)
  refine ifI (fun z3 => absurd ⟨⟨q1, z2⟩, ?_⟩ n1) (fun _ => brk)
  rw [tI_lt, nI_toInt (by omega)] at z3
  have e8 : (8 : Int32).toInt = 8 := rfl
  omega
