-- texts: the class's reader, its small parts
theorem c_lo {d L r n : Nat} {m : Mem} {Q : Qt} {x : Lx} {T : Nat → Int32} (hn : n ≤ 96) (hv : LV T n x) (hT : m 107 = T) (hx : RX n x m) (hQ : Q (some (.int (lo T x))) (SR L r) m) : Mc (d + 1) 31 [.ref 161] (SR L r) m Q := by
  obtain ⟨e1, e3, e4, e5, e6⟩ := hx
  have h3 := hv.2.2.2.1
  refine Mc_wp nocut t31 rfl rfl rfl 40 ?_
  refine ⟨srO, ?_⟩
  rw [e5]
  unfold lo at hQ
  by_cases q : x.so = 1
  · rw [if_pos q] at hQ
    have hlt := hv.2.2.1 (by omega)
    have hen := hv.2.1
    refine ifI (fun _ => ?_) (fun z => absurd (by rw [q]; rfl) z)
    refine ⟨srT, ?_⟩
    rw [srTV]
    refine ⟨srO, ?_⟩
    refine ⟨srP e3 (by omega), ?_⟩
    rw [clK e3 (by omega), hT]
    unfold loV at hQ
    generalize T x.st = b at hQ
    by_cases q1 : b = 38
    · rw [if_pos q1] at hQ; exact ifI (fun _ => hQ) (fun z => absurd q1 z)
    rw [if_neg q1] at hQ
    refine ifI (fun z => absurd z q1) (fun _ => ?_)
    by_cases q2 : b = 42
    · rw [if_pos q2] at hQ; exact ifI (fun _ => hQ) (fun z => absurd q2 z)
    rw [if_neg q2] at hQ
    refine ifI (fun z => absurd z q2) (fun _ => ?_)
    by_cases q3 : b = 43
    · rw [if_pos q3] at hQ; exact ifI (fun _ => hQ) (fun z => absurd q3 z)
    rw [if_neg q3] at hQ
    refine ifI (fun z => absurd z q3) (fun _ => ?_)
    by_cases q4 : b = 45
    · rw [if_pos q4] at hQ; exact ifI (fun _ => hQ) (fun z => absurd q4 z)
    rw [if_neg q4] at hQ
    refine ifI (fun z => absurd z q4) (fun _ => ?_)
    by_cases q5 : b = 47
    · rw [if_pos q5] at hQ; exact ifI (fun _ => hQ) (fun z => absurd q5 z)
    rw [if_neg q5] at hQ
    refine ifI (fun z => absurd z q5) (fun _ => ?_)
    by_cases q6 : b = 60
    · rw [if_pos q6] at hQ; exact ifI (fun _ => hQ) (fun z => absurd q6 z)
    rw [if_neg q6] at hQ
    refine ifI (fun z => absurd z q6) (fun _ => ?_)
    by_cases q7 : b = 61
    · rw [if_pos q7] at hQ; exact ifI (fun _ => hQ) (fun z => absurd q7 z)
    rw [if_neg q7] at hQ
    refine ifI (fun z => absurd z q7) (fun _ => ?_)
    by_cases q8 : b = 62
    · rw [if_pos q8] at hQ; exact ifI (fun _ => hQ) (fun z => absurd q8 z)
    rw [if_neg q8] at hQ
    refine ifI (fun z => absurd z q8) (fun _ => ?_)
    by_cases q9 : b = 124
    · rw [if_pos q9] at hQ; exact ifI (fun _ => hQ) (fun z => absurd q9 z)
    rw [if_neg q9] at hQ
    exact ifI (fun z => absurd z q9) (fun _ => hQ)
  · rw [if_neg q] at hQ
    exact ifI (fun z => absurd ((nI_eq (b := 1) (by omega) (by omega)).mp z) q) (fun _ => hQ)
theorem c_mark {d L r n : Nat} {m : Mem} {Q : Qt} {x : Lx} {T : Nat → Int32} {b : Int32} (hn : n ≤ 96) (hv : LV T n x) (hT : m 107 = T) (hx : RX n x m) (h1 : mrk T x b → Q (some (.int 1)) (SR L r) m) (h0 : ¬ mrk T x b → Q (some (.int 0)) (SR L r) m) : Mc (d + 1) 33 [.ref 161, .int b] (SR L r) m Q := by
  obtain ⟨e1, e3, e4, e5, e6⟩ := hx
  have h3 := hv.2.2.2.1
  refine Mc_wp nocut t33 rfl rfl rfl 40 ?_
  refine ⟨srO, ?_⟩
  rw [e5]
  by_cases q : x.so = 1
  · have hlt := hv.2.2.1 (by omega)
    have hen := hv.2.1
    refine ifI (fun _ => ?_) (fun z => absurd (by rw [q]; rfl) z)
    refine ⟨srT, ?_⟩
    rw [srTV]
    refine ⟨srO, ?_⟩
    refine ⟨srP e3 (by omega), ?_⟩
    rw [clK e3 (by omega), hT]
    exact ifI (fun z => ⟨Or.inr rfl, h1 ⟨q, z⟩⟩) (fun z => ⟨Or.inl rfl, h0 (fun w => z w.2)⟩)
  · exact ifI (fun z => absurd ((nI_eq (b := 1) (by omega) (by omega)).mp z) q) (fun _ => ⟨Or.inl rfl, h0 (fun w => q w.1)⟩)
theorem c_numb {d L r n : Nat} {m : Mem} {Q : Qt} {x : Lx} {T : Nat → Int32} (hn : n ≤ 96) (hv : LV T n x) (hT : m 107 = T) (hx : RX n x m) (hQ : Q (some (.int (if 4 < x.en - x.st then -1 else nv T x.st (x.en - x.st)))) (SR L r) m) : Mc (d + 1) 34 [.ref 161] (SR L r) m Q := by
  obtain ⟨e1, e3, e4, e5, e6⟩ := hx
  have hle := hv.1
  have hen := hv.2.1
  have es : (nI x.en - nI x.st : Int32) = nI (x.en - x.st) := pk_sub hle
  obtain ⟨f1, f2⟩ := qif hQ
  refine Mc_wp (cut1 22) t34 rfl rfl rfl 40 ?_
  refine ⟨srO, ?_⟩
  rw [e4]
  refine ⟨srO, ?_⟩
  rw [e3]
  by_cases q : 4 < x.en - x.st
  · exact ifI (fun _ => f1 q) (fun z => absurd (by rw [es]; exact nI_lt (a := 4) q (by omega)) z)
  refine ifI (fun z => absurd (by rw [es] at z; exact z) (nI_nlt (a := 4) (b := x.en - x.st) (by omega) (by omega))) (fun _ => ?_)
  have f := f2 q
  refine ⟨srO, ?_⟩
  rw [e3]
  have loop : ∀ j i, i + j = x.en - x.st → Xs (d + 1) 34 22 [some (.ref 161), some (.int (nv T x.st i)), some (.int (nI (x.st + i)))] [] (SR L r) (0, 0) m Q := by
    intro j
    induction j with
    | zero =>
      intro i hi
      refine Xs_wp (cut1 22) t34 40 ?_
      refine ⟨srO, ?_⟩
      rw [e4]
      refine ifI (fun z => absurd z (nI_nlt (by omega) (by omega))) (fun _ => ?_)
      have hi : i = x.en - x.st := by omega
      rw [hi]; exact f
    | succ j ih =>
      intro i hi
      refine Xs_wp (cut1 22) t34 40 ?_
      refine ⟨srO, ?_⟩
      rw [e4]
      refine ifI (fun _ => ?_) (fun z => absurd (nI_lt (by omega) (by omega)) z)
      refine ⟨srT, ?_⟩
      rw [srTV]
      refine ⟨srP (rfl : nI (x.st + i) = nI (x.st + i)) (by omega), ?_⟩
      rw [clK (rfl : nI (x.st + i) = nI (x.st + i)) (by omega), hT]
      have := ih (i + 1) (by omega)
      rw [show x.st + (i + 1) = x.st + i + 1 by omega, ← nI_1] at this
      exact this
  exact loop (x.en - x.st) 0 (by omega)
theorem slen_ok : ∀ k, k < 6 → Int32.ofNat (SLEN.getD k 0) >>> ((0 : Int32) &&& 31) = nI (SLEN.getD k 0) := by decide
theorem k6 {k : Nat} (h : k < 6) : k = 0 ∨ k = 1 ∨ k = 2 ∨ k = 3 ∨ k = 4 ∨ k = 5 := by omega
theorem c_len {d k : Nat} {S : Shp} {m : Mem} {Q : Qt} (hk : k < 6) (hQ : Q (some (.int (nI (SLEN.getD k 0)))) S m) : Mc (d + 2) 203 [.retAddr k] S m Q := by
  have e := slen_ok k hk
  rw [← e] at hQ
  rcases k6 hk with rfl | rfl | rfl | rfl | rfl | rfl
  all_goals
    refine Mc_wp nocut t203 rfl rfl rfl 40 ?_
    refine ⟨hk, ?_⟩
    refine ⟨⟨by omega, by omega⟩, ?_⟩
    refine ⟨⟨hk, rfl⟩, Mc_wp nocut t207 rfl rfl rfl 40 ?_⟩
    refine ⟨hk, ?_⟩
    refine ⟨rfl, ?_⟩
    exact hQ
theorem c_lat {d k : Nat} {S : Shp} {m : Mem} {Q : Qt} (hk : k < 6) (hQ : Q (some (.int 1)) S m) : Mc (d + 1) 208 [.retAddr k] S m Q := by
  refine Mc_wp nocut t208 rfl rfl rfl 40 ?_
  refine ⟨hk, ?_⟩
  exact ⟨Or.inr rfl, hQ⟩
def byt (k i : Nat) : Int32 := (SBYT.getD k []).getD i 0
theorem byt_ok : ∀ k, k < 6 → ∀ i, i < SLEN.getD k 0 → (((byt k i) &&& 255).toUInt32 % 65536).toInt32 = byt k i ∧ narrow .char (.int (byt k i)) = .int (byt k i) := by decide
theorem c_charAt {d k i : Nat} {S : Shp} {m : Mem} {Q : Qt} (hk : k < 6) (hi : i < SLEN.getD k 0) (hQ : Q (some (.int (byt k i))) S m) : Mc (d + 4) 204 [.retAddr k, .int (nI i)] S m Q := by
  have hb := byt_ok k hk i hi
  have hl : SLEN.getD k 0 ≤ 4 := by rcases k6 hk with rfl | rfl | rfl | rfl | rfl | rfl <;> decide
  have e1 : (((SBYT.getD k []).getD i 0 &&& 255).toUInt32 % 65536).toInt32 = byt k i := hb.1
  have vi : vp_in (nI i) (SLEN.getD k 0) := vinN hi (by simpa using (show SLEN.getD k 0 < 2147483648 by omega))
  have lt : nI i < nI (SLEN.getD k 0) := nI_lt hi (by omega)
  rcases k6 hk with rfl | rfl | rfl | rfl | rfl | rfl
  all_goals
    refine Mc_wp nocut t204 rfl rfl rfl 40 ?_
    refine ⟨⟨hk, rfl⟩, c_lat hk ?_⟩
    refine ⟨hk, ?_⟩
    refine Mc_wp nocut t210 rfl rfl rfl 40 ?_
    refine ⟨⟨by omega, by omega⟩, ?_⟩
    refine Mc_wp nocut t209 rfl rfl rfl 40 ?_
    refine Mc_wp nocut t214 rfl rfl rfl 40 ?_
    refine ifI (fun z => absurd z (nI_pos (by omega))) (fun _ => ?_)
    refine ifI (fun _ => ?_) (fun z => absurd lt z)
    refine ⟨⟨by omega, by omega, vi⟩, ?_⟩
    rw [nI_clamp (by omega)]
    refine ⟨by rw [e1]; exact hb.2, ?_⟩
    refine ⟨by rw [e1]; exact hb.2, ?_⟩
    rw [e1]
    exact hQ
