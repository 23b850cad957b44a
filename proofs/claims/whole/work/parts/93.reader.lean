-- texts: the class's reader, key and fault
def wordIs (T : Nat → Int32) (x : Lx) (k : Nat) : Prop := x.so = 3 ∧ x.en - x.st = SLEN.getD k 0 ∧ ∀ i, i < SLEN.getD k 0 → T (x.st + i) = byt k i
theorem c_word {d L r n k : Nat} {m : Mem} {Q : Qt} {x : Lx} {T : Nat → Int32} (hk : k < 6) (hn : n ≤ 96) (hv : LV T n x) (hT : m 107 = T) (hx : RX n x m) (h1 : wordIs T x k → Q (some (.int 1)) (SR L r) m) (h0 : ¬ wordIs T x k → Q (some (.int 0)) (SR L r) m) : Mc (d + 5) 29 [.ref 161, .retAddr k] (SR L r) m Q := by
  obtain ⟨e1, e3, e4, e5, e6⟩ := hx
  have s3 := hv.2.2.2.1
  have hle := hv.1
  have hen := hv.2.1
  have hl : SLEN.getD k 0 ≤ 4 := by rcases k6 hk with rfl | rfl | rfl | rfl | rfl | rfl <;> decide
  have es : (nI x.en - nI x.st : Int32) = nI (x.en - x.st) := pk_sub hle
  refine Mc_wp (cut1 28) t29 rfl rfl rfl 60 ?_
  refine ⟨srO, ?_⟩
  rw [e5]
  by_cases q : x.so = 3
  rotate_left 1
  · refine ifI (fun z => absurd ((nI_eq (b := 3) (by omega) (by omega)).mp z) q) (fun _ => ?_)
    exact ⟨Or.inl rfl, h0 (fun w => q w.1)⟩
  refine ifI (fun _ => ?_) (fun z => absurd (by rw [q]; rfl) z)
  refine ⟨srO, ?_⟩
  rw [e4]
  refine ⟨srO, ?_⟩
  rw [e3]
  refine ⟨⟨hk, rfl⟩, c_len hk ?_⟩
  by_cases q2 : x.en - x.st = SLEN.getD k 0
  rotate_left 1
  · refine ifI (fun z => absurd ((nI_eq (by omega) (by omega)).mp (es.symm.trans z)) q2) (fun _ => ?_)
    exact ⟨Or.inl rfl, h0 (fun w => q2 w.2.1)⟩
  refine ifI (fun _ => ?_) (fun z => absurd (by rw [es, q2]) z)
  have loop : ∀ j i, i + j = SLEN.getD k 0 → (∀ a, a < i → T (x.st + a) = byt k a) → Xs (d + 5) 29 28 [some (.ref 161), some (.retAddr k), some (.int (nI i))] [] (SR L r) (0, 0) m Q := by
    intro j
    induction j with
    | zero =>
      intro i hi ha
      refine Xs_wp (cut1 28) t29 60 ?_
      refine ⟨⟨hk, rfl⟩, c_len hk ?_⟩
      refine ifI (fun z => absurd z (nI_nlt (by omega) (by omega))) (fun _ => ?_)
      exact ⟨Or.inr rfl, h1 ⟨q, q2, fun a h => ha a (by omega)⟩⟩
    | succ j ih =>
      intro i hi ha
      have ex : (nI x.st + nI i : Int32) = nI (x.st + i) := nI_add _ _
      refine Xs_wp (cut1 28) t29 60 ?_
      refine ⟨⟨hk, rfl⟩, c_len hk ?_⟩
      refine ifI (fun _ => ?_) (fun z => absurd (nI_lt (by omega) (by omega)) z)
      refine ⟨srT, ?_⟩
      rw [srTV]
      refine ⟨srO, ?_⟩
      rw [e3]
      refine ⟨srP ex (by omega), ?_⟩
      rw [clK ex (by omega), hT]
      refine ⟨⟨hk, rfl⟩, c_charAt hk (by omega) ?_⟩
      refine ifI (fun z => ?_) (fun z => ?_)
      · have := ih (i + 1) (by omega) (fun a h => by
          by_cases e : a = i
          · rw [e]; exact z
          · exact ha a (by omega))
        rw [← nI_1] at this
        exact this
      · exact ⟨Or.inl rfl, h0 (fun w => z (w.2.2 i (by omega)))⟩
  exact loop (SLEN.getD k 0) 0 (by omega) (fun a h => absurd h (by omega))
/-- the first of the three keys that it is -/
def keyIs (T : Nat → Int32) (x : Lx) (k : Nat) : Prop := k < 3 ∧ wordIs T x k ∧ ∀ j, j < k → ¬ wordIs T x j
theorem c_key {d L r n : Nat} {m : Mem} {Q : Qt} {x : Lx} {T : Nat → Int32} (hr : r < 15) (hn : n ≤ 96) (hv : LV T n x) (hT : m 107 = T) (hx : RX n x m) (h1 : ∀ k m', keyIs T x k → Fr (FL r) m m' → m' (5 + 2 * r) 1 = m (5 + 2 * r) 1 → m' (5 + 2 * r) 2 = nI k → m' (5 + 2 * r) 3 = m (5 + 2 * r) 3 → m' 107 = T → RX n (adv T n x) m' → Q (some (.int 1)) (SR L r) m') (h0 : (∀ k, k < 3 → ¬ wordIs T x k) → Q (some (.int 0)) (SR L r) m) : Mc (d + 6) 28 [.ref 161] (SR L r) m Q := by
  have go : ∀ k, keyIs T x k → Xs (d + 6) 28 62 [some (.ref 161)] [] (SR L r) (0, 0) (mu m (5 + 2 * r) 2 (nI k)) Q := by
    intro k hk
    refine Xs_wp nocut t28 60 ?_
    have hT2 : mu m (5 + 2 * r) 2 (nI k) 107 = T := by rw [mu_row (by omega)]; exact hT
    have e161 : mu m (5 + 2 * r) 2 (nI k) 161 = m 161 := mu_row (by omega)
    refine ⟨srO, c_advance (x := x) hn hv.2.1 hv.2.2.2.1 (by rw [e161]; exact hx.1) (by rw [e161]; exact hx.2.2.1) (by rw [e161]; exact hx.2.2.2.1) (fun m' hF hx' => ?_)⟩
    rw [hT2] at hx'
    have e5 : m' (5 + 2 * r) = mu m (5 + 2 * r) 2 (nI k) (5 + 2 * r) := hF _ (by simp; omega)
    refine ⟨Or.inr rfl, h1 k m' hk ?_ (by rw [e5, mu_ne (by decide)]) (by rw [e5, mu_at]) (by rw [e5, mu_ne (by decide)]) (by rw [hF 107 (by simp)]; exact hT2) hx'⟩
    intro a ha
    simp [FL] at ha
    rw [hF a (by simp; omega), mu_row (by omega)]
  refine Mc_wp (cut1 62) t28 rfl rfl rfl 60 ?_
  refine ⟨srO, c_word (k := 0) (by omega) hn hv hT hx (fun q => ?_) (fun q0 => ?_)⟩
  · refine ⟨srI, ?_⟩
    rw [srIV]
    refine ⟨srX hr, ?_⟩
    exact go 0 ⟨by omega, q, fun j hj => absurd hj (by omega)⟩
  refine ⟨srO, c_word (k := 1) (by omega) hn hv hT hx (fun q => ?_) (fun q1 => ?_)⟩
  · refine ⟨srI, ?_⟩
    rw [srIV]
    refine ⟨srX hr, ?_⟩
    refine go 1 ⟨by omega, q, fun j hj => ?_⟩
    have : j = 0 := by omega
    rw [this]; exact q0
  refine ⟨srO, c_word (k := 2) (by omega) hn hv hT hx (fun q => ?_) (fun q2 => ?_)⟩
  · refine ⟨srI, ?_⟩
    rw [srIV]
    refine ⟨srX hr, ?_⟩
    refine go 2 ⟨by omega, q, fun j hj => ?_⟩
    have : j = 0 ∨ j = 1 := by omega
    rcases this with e | e <;> rw [e]
    · exact q0
    · exact q1
  refine ⟨Or.inl rfl, h0 (fun k hk => ?_)⟩
  have : k = 0 ∨ k = 1 ∨ k = 2 := by omega
  rcases this with e | e | e <;> rw [e]
  · exact q0
  · exact q1
  · exact q2
def lx0 : Lx := (0, 0, 0, false)
/-- what the whole tape says behind its key -/
def tell (T : Nat → Int32) (n k : Nat) : Rs := rdJ T n (rdP T n k 17 0 0) 5 (adv T n (adv T n lx0))
theorem c_fault {d L r n : Nat} {m : Mem} {Q : Qt} {T : Nat → Int32} (hr : r < 15) (hn : n ≤ 96) (hT : m 107 = T) (e1 : m 161 1 = nI n) (e4 : m 161 4 = 0) (e5 : m 161 5 = 0)
    (hA : ∀ m', (∀ k, k < 3 → ¬ wordIs T (adv T n lx0) k) → Fr (FL r) m m' → Q (some (.int (nI (adv T n lx0).st))) (SR L r) m')
    (hB : ∀ k p m', keyIs T (adv T n lx0) k → tell T n k = .inl p → Fr (FL r) m m' → Q (some (.int (nI p))) (SR L r) m')
    (hC : ∀ k y cs m', keyIs T (adv T n lx0) k → tell T n k = .inr (y, cs) → y.so ≠ 0 → Fr (FL r) m m' → Q (some (.int (nI y.st))) (SR L r) m')
    (hD : ∀ k y cs m', keyIs T (adv T n lx0) k → tell T n k = .inr (y, cs) → y.so = 0 → Fr (FL r) m m' → TXT r k cs m' → Q (some (.int (-1))) (SR L r) m') : Mc (d + 150) 25 [.ref 161] (SR L r) m Q := by
  refine Mc_wp nocut t25 rfl rfl rfl 60 ?_
  refine ⟨srI, ?_⟩
  rw [srIV]
  refine ⟨srX hr, Mc_wp nocut t44 rfl rfl rfl 40 ?_⟩
  refine ⟨srX hr, ?_⟩
  refine ⟨srX hr, ?_⟩
  generalize hm1 : mu (mu m (5 + 2 * r) 1 0) (5 + 2 * r) 3 0 = m1
  have e161 : m1 161 = m 161 := by rw [← hm1, mu_row (by omega), mu_row (by omega)]
  have e107 : m1 107 = T := by rw [← hm1, mu_row (by omega), mu_row (by omega)]; exact hT
  have hF1 : Fr (FL r) m m1 := by rw [← hm1]; exact (Fr.refl.mu (by simp [FL])).mu (by simp [FL])
  have t1 : m1 (5 + 2 * r) 1 = 0 := by rw [← hm1, mu_ne (by decide), mu_at]
  have t3 : m1 (5 + 2 * r) 3 = 0 := by rw [← hm1, mu_at]
  clear hm1
  refine ⟨srO, c_advance (x := lx0) hn (Nat.zero_le _) (Nat.zero_le _) (by rw [e161]; exact e1) (by rw [e161]; exact e4) (by rw [e161]; exact e5) (fun m2 hF2 hx2 => ?_)⟩
  rw [e107] at hx2
  have ha := (adv_lv (T := T) (n := n) (x := lx0) (Nat.zero_le _)).1
  have T2 : m2 107 = T := by rw [hF2 107 (by simp)]; exact e107
  have hF2' : Fr (FL r) m m2 := hF1.trans (hF2.mono (by simp [FL]))
  have e5r : m2 (5 + 2 * r) = m1 (5 + 2 * r) := hF2 _ (by simp; omega)
  refine ⟨srO, c_key hr hn ha T2 hx2 (fun k m3 hk hF3 t31 t32 t33 hT3 hx3 => ?_) (fun hno => ?_)⟩
  rotate_left 1
  · refine ⟨srO, ?_⟩
    rw [hx2.2.1]
    exact hA m2 hno hF2'
  have ha2 := (adv_lv (T := T) (n := n) (x := adv T n lx0) ha.2.1).1
  have hc3 : CS T n r k (adv T n (adv T n lx0)) [] m3 := ⟨hT3, hx3, by rw [t31, e5r, t1]; rfl, t32, by rw [t33, e5r, t3]; rfl, fun i hi => absurd hi (by simp)⟩
  have hp := rd_piece hr hn hk.1 17 0 0 (d + 133) (Nat.zero_le _) (Nat.zero_le _) (by omega) (by omega) (T := T)
  have ih := rd_joined (d := d + 140) hr hn (rdP_gd 17 0 0) hp 5 (Nat.le_refl _)
  rw [show d + 140 + 5 + 4 = d + 149 by omega] at ih
  refine ⟨srO, ih L _ [] m3 _ ha2 (Nat.zero_le _) hc3 (fun y cs m4 e hF4 hC4 => ?_) (fun p m4 e hF4 h3 => ?_)⟩
  · have hF : Fr (FL r) m m4 := (hF2'.trans hF3).trans hF4
    obtain ⟨gd1, gd2, gd3⟩ := rdJ_gd (rdP_gd 17 0 0) 5 (Nat.le_refl _) _ ha2 y cs e
    refine ⟨srO, ?_⟩
    rw [hC4.2.1.2.2.2.1]
    by_cases q : y.so = 0
    · refine ifI (fun _ => ?_) (fun z => absurd (by rw [q]; rfl) z)
      exact hD k y cs m4 hk e q hF hC4.2.2
    · refine ifI (fun z => absurd ((nI_eq (b := 0) (by have := gd1.2.2.2.1; omega) (by omega)).mp z) q) (fun _ => ?_)
      refine ⟨srO, ?_⟩
      rw [hC4.2.1.2.1]
      exact hC k y cs m4 hk e q hF
  · refine ⟨srO, ?_⟩
    rw [h3]
    exact hB k p m4 hk e ((hF2'.trans hF3).trans hF4)
