-- texts: the reference's small parts
theorem r_nameOf {d L key : Nat} {m : Mem} {Q : Qt} {b : Int32} (hk : key < 3) (ek : m 139 12 = nI key) (hQ : Q (some (.int (nmI key b))) (S0 L) m) : Mc (d + 1) 168 [.ref 139, .int b] (S0 L) m Q := by
  refine Mc_wp nocut t168 rfl rfl rfl 40 ?_
  refine ⟨⟨rfl, ltB rfl⟩, ?_⟩
  rw [ek]
  unfold nmI at hQ
  have : key = 0 ∨ key = 1 ∨ key = 2 := by omega
  rcases this with rfl | rfl | rfl
  · obtain ⟨a1, a2⟩ := qif hQ
    refine ifI (fun z => a1 z) (fun z => ?_)
    obtain ⟨b1, b2⟩ := qif (a2 z)
    refine ifI (fun z => b1 z) (fun z => ?_)
    obtain ⟨c1, c2⟩ := qif (b2 z)
    refine ifI (fun z => c1 z) (fun z => ?_)
    obtain ⟨d1, d2⟩ := qif (c2 z)
    exact ifI (fun z => d1 z) (fun z => d2 z)
  · obtain ⟨a1, a2⟩ := qif hQ
    refine ifI (fun z => a1 z) (fun z => ?_)
    obtain ⟨b1, b2⟩ := qif (a2 z)
    refine ifI (fun z => b1 z) (fun z => ?_)
    obtain ⟨c1, c2⟩ := qif (b2 z)
    exact ifI (fun z => c1 z) (fun z => c2 z)
  · obtain ⟨a1, a2⟩ := qif hQ
    refine ifI (fun z => a1 z) (fun z => ?_)
    obtain ⟨b1, b2⟩ := qif (a2 z)
    exact ifI (fun z => b1 z) (fun z => b2 z)
def rkV (s : Int32) : Int32 := if s = -1 then 1 else if s = -2 then 2 else if s < -5 then (if s < -7 then (if s < -9 then 6 else 5) else 4) else 3
theorem r_rank {d : Nat} {S : Shp} {m : Mem} {Q : Qt} {s : Int32} (hQ : Q (some (.int (rkV s))) S m) : Mc (d + 1) 169 [.int s] S m Q := by
  refine Mc_wp nocut t169 rfl rfl rfl 40 ?_
  unfold rkV at hQ
  obtain ⟨a1, a2⟩ := qif hQ
  refine ifI (fun z => a1 z) (fun z => ?_)
  obtain ⟨b1, b2⟩ := qif (a2 z)
  refine ifI (fun z => b1 z) (fun z => ?_)
  obtain ⟨c1, c2⟩ := qif (b2 z)
  refine ifI (fun z => ?_) (fun z => c2 z)
  obtain ⟨d1, d2⟩ := qif (c1 z)
  refine ifI (fun z => ?_) (fun z => d2 z)
  obtain ⟨e1, e2⟩ := qif (d1 z)
  exact ifI (fun z => e1 z) (fun z => e2 z)
def sgV (b : Int32) : Int32 := if b = 38 then -2 else if b = 42 then -8 else if b = 43 then -6 else if b = 45 then -7 else if b = 47 then -9 else if b = 60 then -3 else if b = 61 then -4 else if b = 62 then -5 else if b = 124 then -1 else 0
def sg (T : Nat → Int32) (x : Lx) : Int32 := if x.so = 1 then sgV (T x.st) else 0
theorem tk3 {x : Lx} (h : x.so ≤ 3) : tkV x = 3 ↔ x.so = 1 := by
  unfold tkV
  have n1 : ¬ (0 : Int32) = 3 := by decide
  have n2 : ¬ (4 : Int32) = 3 := by decide
  have n3 : ¬ (1 : Int32) = 3 := by decide
  have n4 : ¬ (2 : Int32) = 3 := by decide
  by_cases q0 : x.so = 0
  · rw [if_pos q0]; exact ⟨fun z => absurd z n1, fun z => by omega⟩
  rw [if_neg q0]
  by_cases q1 : x.so = 1
  · rw [if_pos q1]; exact ⟨fun _ => q1, fun _ => rfl⟩
  rw [if_neg q1]
  refine ⟨fun z => ?_, fun z => absurd z q1⟩
  split at z
  · split at z
    · exact absurd z n2
    · exact absurd z n3
  · split at z
    · exact absurd z n2
    · exact absurd z n4
theorem tk0 {x : Lx} (h : x.so ≤ 3) : tkV x = 0 ↔ x.so = 0 := by
  unfold tkV
  have n1 : ¬ (3 : Int32) = 0 := by decide
  have n2 : ¬ (4 : Int32) = 0 := by decide
  have n3 : ¬ (1 : Int32) = 0 := by decide
  have n4 : ¬ (2 : Int32) = 0 := by decide
  by_cases q0 : x.so = 0
  · rw [if_pos q0]; exact ⟨fun _ => q0, fun _ => rfl⟩
  rw [if_neg q0]
  refine ⟨fun z => ?_, fun z => absurd z q0⟩
  split at z
  · exact absurd z n1
  · split at z
    · split at z
      · exact absurd z n2
      · exact absurd z n3
    · split at z
      · exact absurd z n2
      · exact absurd z n4
theorem tk1 {x : Lx} (h : x.so ≤ 3) : tkV x = 1 ↔ x.so = 3 ∧ x.gl = false := by
  unfold tkV
  have n1 : ¬ (3 : Int32) = 1 := by decide
  have n2 : ¬ (4 : Int32) = 1 := by decide
  have n3 : ¬ (0 : Int32) = 1 := by decide
  have n4 : ¬ (2 : Int32) = 1 := by decide
  by_cases q0 : x.so = 0
  · rw [if_pos q0]; exact ⟨fun z => absurd z n3, fun z => by omega⟩
  rw [if_neg q0]
  by_cases q1 : x.so = 1
  · rw [if_pos q1]; exact ⟨fun z => absurd z n1, fun z => by omega⟩
  rw [if_neg q1]
  by_cases q3 : x.so = 3
  · rw [if_pos q3]
    cases hg : x.gl
    · exact ⟨fun _ => ⟨q3, rfl⟩, fun _ => rfl⟩
    · exact ⟨fun z => absurd z n2, fun z => by cases z.2⟩
  · rw [if_neg q3]
    refine ⟨fun z => ?_, fun z => absurd z.1 q3⟩
    split at z
    · exact absurd z n2
    · exact absurd z n4
theorem tk2 {x : Lx} (h : x.so ≤ 3) : tkV x = 2 ↔ x.so = 2 ∧ x.gl = false ∧ x.en - x.st ≤ 4 := by
  unfold tkV
  have n1 : ¬ (3 : Int32) = 2 := by decide
  have n2 : ¬ (4 : Int32) = 2 := by decide
  have n3 : ¬ (0 : Int32) = 2 := by decide
  have n4 : ¬ (1 : Int32) = 2 := by decide
  by_cases q0 : x.so = 0
  · rw [if_pos q0]; exact ⟨fun z => absurd z n3, fun z => by omega⟩
  rw [if_neg q0]
  by_cases q1 : x.so = 1
  · rw [if_pos q1]; exact ⟨fun z => absurd z n1, fun z => by omega⟩
  rw [if_neg q1]
  by_cases q3 : x.so = 3
  · rw [if_pos q3]
    refine ⟨fun z => ?_, fun z => by omega⟩
    split at z
    · exact absurd z n2
    · exact absurd z n4
  · rw [if_neg q3]
    by_cases q : x.gl = true ∨ 4 < x.en - x.st
    · rw [if_pos q]
      refine ⟨fun z => absurd z n2, fun z => ?_⟩
      rcases q with q | q
      · rw [z.2.1] at q; cases q
      · omega
    · rw [if_neg q]
      refine ⟨fun _ => ⟨by omega, ?_, ?_⟩, fun _ => rfl⟩
      · cases hg : x.gl
        · rfl
        · exact absurd (Or.inl hg) q
      · have : ¬ 4 < x.en - x.st := fun w => q (Or.inr w)
        omega
theorem r_sign {d L n : Nat} {m : Mem} {Q : Qt} {x : Lx} {T : Nat → Int32} (hv : LV T n x) (hx : RZ T n x m) (hQ : Q (some (.int (sg T x))) (S0 L) m) : Mc (d + 1) 171 [.ref 139] (S0 L) m Q := by
  refine Mc_wp nocut t171 rfl rfl rfl 40 ?_
  refine ⟨⟨rfl, ltB rfl⟩, ?_⟩
  rw [hx.2.2.2.1]
  unfold sg at hQ
  by_cases q : x.so = 1
  · rw [if_pos q] at hQ
    refine ifI (fun _ => ?_) (fun z => absurd ((tk3 hv.2.2.2.1).mpr q) z)
    refine ⟨⟨rfl, ltB rfl⟩, ?_⟩
    rw [hx.2.2.2.2.1.1 (Or.inl q)]
    unfold sgV at hQ
    generalize T x.st = b at hQ
    obtain ⟨a1, a2⟩ := qif hQ
    refine ifI (fun z => a1 z) (fun z => ?_)
    obtain ⟨b1, b2⟩ := qif (a2 z)
    refine ifI (fun z => b1 z) (fun z => ?_)
    obtain ⟨c1, c2⟩ := qif (b2 z)
    refine ifI (fun z => c1 z) (fun z => ?_)
    obtain ⟨d1, d2⟩ := qif (c2 z)
    refine ifI (fun z => d1 z) (fun z => ?_)
    obtain ⟨e1, e2⟩ := qif (d2 z)
    refine ifI (fun z => e1 z) (fun z => ?_)
    obtain ⟨f1, f2⟩ := qif (e2 z)
    refine ifI (fun z => f1 z) (fun z => ?_)
    obtain ⟨g1, g2⟩ := qif (f2 z)
    refine ifI (fun z => g1 z) (fun z => ?_)
    obtain ⟨h1, h2⟩ := qif (g2 z)
    refine ifI (fun z => h1 z) (fun z => ?_)
    obtain ⟨i1, i2⟩ := qif (h2 z)
    exact ifI (fun z => i1 z) (fun z => i2 z)
  · rw [if_neg q] at hQ
    exact ifI (fun z => absurd ((tk3 hv.2.2.2.1).mp z) q) (fun _ => hQ)
/-- the signs that wait, the last one first -/
def SM : List Int32 → Mem → Prop
  | [], _ => True
  | w :: S, m => m 148 S.length = w ∧ SM S m
theorem SM.fr {m m' : Mem} (hF : m' 148 = m 148) : ∀ {S : List Int32}, SM S m → SM S m'
  | [], _ => trivial
  | w :: S, h => ⟨by rw [hF]; exact h.1, SM.fr hF h.2⟩
theorem SM.put {m : Mem} {j : Nat} {v : Int32} : ∀ {S : List Int32}, S.length ≤ j → SM S m → SM S (mu m 148 j v)
  | [], _, _ => trivial
  | w :: S, hj, h => ⟨by rw [mu_ne (by simp only [List.length_cons] at hj; omega)]; exact h.1, SM.put (by simp only [List.length_cons] at hj; omega) h.2⟩
theorem SM.app {m : Mem} : ∀ {U S : List Int32}, SM (U ++ S) m → SM S m
  | [], _, h => h
  | _ :: _, _, h => SM.app h.2
def RW (C S : List Int32) (m : Mem) : Prop := m 139 16 = nI C.length ∧ m 139 17 = nI (C.countP (fun c => decide (¬ c < 0))) ∧ m 139 19 = nI S.length ∧ (∀ i, i < C.length → m 147 i = C.getD i 0) ∧ SM S m
/-- only what reading uses has changed -/
def FP (m m' : Mem) : Prop := Fr [139, 147, 148, 149] m m' ∧ ∀ f, (f < 7 ∨ 11 < f) → f ≠ 16 → f ≠ 17 → f ≠ 19 → m' 139 f = m 139 f
theorem FP.refl {m : Mem} : FP m m := ⟨Fr.refl, fun _ _ _ _ _ => rfl⟩
theorem FP.trans {m m' m'' : Mem} (h : FP m m') (h' : FP m' m'') : FP m m'' := ⟨h.1.trans h'.1, fun f a b c e => (h'.2 f a b c e).trans (h.2 f a b c e)⟩
theorem F7.fp {m m' : Mem} (h : F7 m m') : FP m m' := ⟨h.1.mono (by simp), fun f a _ _ _ => h.2 f a⟩
/-- as FP, and the tape's words and what was tested stay -/
def FS (m m' : Mem) : Prop := Fr [139, 147, 148] m m' ∧ ∀ f, f ≠ 16 → f ≠ 17 → f ≠ 19 → m' 139 f = m 139 f
theorem FS.refl {m : Mem} : FS m m := ⟨Fr.refl, fun _ _ _ _ => rfl⟩
theorem FS.trans {m m' m'' : Mem} (h : FS m m') (h' : FS m' m'') : FS m m'' := ⟨h.1.trans h'.1, fun f b c e => (h'.2 f b c e).trans (h.2 f b c e)⟩
theorem FS.fp {m m' : Mem} (h : FS m m') : FP m m' := ⟨h.1.mono (by simp), fun f _ b c e => h.2 f b c e⟩
theorem RZ.fs {T : Nat → Int32} {n : Nat} {x : Lx} {m m' : Mem} (h : RZ T n x m) (hF : FS m m') : RZ T n x m' := by
  unfold RZ
  rw [hF.1 144 (by simp), hF.2 6 (by decide) (by decide) (by decide), hF.2 7 (by decide) (by decide) (by decide), hF.2 8 (by decide) (by decide) (by decide), hF.2 9 (by decide) (by decide) (by decide), hF.2 10 (by decide) (by decide) (by decide), hF.2 11 (by decide) (by decide) (by decide)]
  exact h
theorem RW.f7 {C S : List Int32} {m m' : Mem} (h : RW C S m) (hF : F7 m m') : RW C S m' := by
  have a := hF.1 147 (by simp)
  have b := hF.1 148 (by simp)
  refine ⟨by rw [hF.2 16 (by omega)]; exact h.1, by rw [hF.2 17 (by omega)]; exact h.2.1, by rw [hF.2 19 (by omega)]; exact h.2.2.1, fun i hi => by rw [a]; exact h.2.2.2.1 i hi, h.2.2.2.2.fr b⟩
def topOk (l : Int32) : List Int32 → Prop
  | [] => True
  | w :: _ => w = -11 ∨ rkV w < l
theorem r_settle {d L : Nat} {l : Int32} {S0' : List Int32} {Q : Qt} (ht : topOk l S0') : ∀ (U C : List Int32) (m : Mem), (∀ w, w ∈ U → ¬ w = -11 ∧ ¬ rkV w < l ∧ w < 0) → C.length + U.length ≤ 96 → (U ++ S0').length ≤ 96 → RW C (U ++ S0') m → (∀ m', FS m m' → RW (C ++ U) S0' m' → Q none (S0 L) m') → Mc (d + 2) 170 [.ref 139, .int l] (S0 L) m Q := by
  intro U C m h1 h2 h3 h4 h5
  refine Mc_wp nocut t170 rfl rfl rfl 0 ?_
  have loop : ∀ (U C : List Int32) (m2 : Mem), FS m m2 → (∀ w, w ∈ U → ¬ w = -11 ∧ ¬ rkV w < l ∧ w < 0) → C.length + U.length ≤ 96 → (U ++ S0').length ≤ 96 → RW C (U ++ S0') m2 → (∀ m', FS m m' → RW (C ++ U) S0' m' → Q none (S0 L) m') → Xs (d + 2) 170 0 [some (.ref 139), some (.int l)] [] (S0 L) (0, 0) m2 Q := by
    intro U
    induction U with
    | nil =>
      intro C m2 hF h1 h2 h3 h4 h5
      obtain ⟨a16, a17, a19, a147, aS⟩ := id h4
      rw [List.append_nil] at h5
      refine Xs_wp (cut1 0) t170 60 ?_
      refine ⟨⟨rfl, ltB rfl⟩, ?_⟩
      rw [a19]
      cases hs : S0' with
      | nil => rw [hs] at h4 h5; exact h5 m2 hF h4
      | cons w R =>
        rw [hs] at aS h3 ht
        have hR : R.length < 96 := by simp only [List.nil_append, List.length_cons] at h3; omega
        have eN : nI (([] : List Int32) ++ w :: R).length - 1 = nI R.length := by rw [List.nil_append, List.length_cons]; exact pk_sub (b := 1) (by omega)
        have fin : Q none (S0 L) m2 := by rw [hs] at h4 h5; exact h5 m2 hF h4
        refine ifI (fun _ => ?_) (fun _ => fin)
        refine ⟨⟨rfl, ltB rfl, neB rfl⟩, ?_⟩
        rw [rf_waits]
        refine ⟨⟨rfl, ltB rfl⟩, ?_⟩
        rw [hs] at a19
        have eI : m2 139 19 - 1 = nI R.length := by rw [a19]; exact eN
        refine ⟨⟨rfl, ltB rfl, vinK eI (show R.length < 96 by omega) rfl⟩, ?_⟩
        rw [clK eI (show R.length < 2 ^ 31 by omega)]
        rw [aS.1]
        refine ifI (fun _ => fin) (fun z => ?_)
        refine ⟨⟨rfl, ltB rfl, neB rfl⟩, ?_⟩
        rw [rf_waits]
        refine ⟨⟨rfl, ltB rfl⟩, ?_⟩
        refine ⟨⟨rfl, ltB rfl, vinK eI (show R.length < 96 by omega) rfl⟩, ?_⟩
        rw [clK eI (show R.length < 2 ^ 31 by omega)]
        rw [aS.1]
        refine r_rank ?_
        have hlt : rkV w < l := by
          rcases ht with e | e
          · exact absurd e z
          · exact e
        exact ifI (fun _ => fin) (fun z2 => absurd hlt z2)
    | cons w U ih =>
      intro C m2 hF h1 h2 h3 h4 h5
      obtain ⟨a16, a17, a19, a147, aS⟩ := id h4
      obtain ⟨w1, w2, w3⟩ := h1 w (by simp)
      have hl : ((w :: U) ++ S0').length = (U ++ S0').length + 1 := by simp
      rw [hl] at a19 h3
      simp only [List.length_cons] at h2
      have eI : m2 139 19 - 1 = nI (U ++ S0').length := by rw [a19]; exact pk_sub (b := 1) (by omega)
      have aS1 : m2 148 (U ++ S0').length = w := aS.1
      refine Xs_wp (cut1 0) t170 60 ?_
      refine ⟨⟨rfl, ltB rfl⟩, ?_⟩
      rw [a19]
      refine ifI (fun _ => ?_) (fun z => absurd (nI_lt (a := 0) (by omega) (by omega)) z)
      refine ⟨⟨rfl, ltB rfl, neB rfl⟩, ?_⟩
      rw [rf_waits]
      refine ⟨⟨rfl, ltB rfl⟩, ?_⟩
      refine ⟨⟨rfl, ltB rfl, vinK eI (show (U ++ S0').length < 96 by omega) rfl⟩, ?_⟩
      rw [clK eI (show (U ++ S0').length < 2 ^ 31 by omega)]
      rw [aS1]
      refine ifI (fun z => absurd z w1) (fun _ => ?_)
      refine ⟨⟨rfl, ltB rfl, neB rfl⟩, ?_⟩
      rw [rf_waits]
      refine ⟨⟨rfl, ltB rfl⟩, ?_⟩
      refine ⟨⟨rfl, ltB rfl, vinK eI (show (U ++ S0').length < 96 by omega) rfl⟩, ?_⟩
      rw [clK eI (show (U ++ S0').length < 2 ^ 31 by omega)]
      rw [aS1]
      refine r_rank ?_
      refine ifI (fun z => absurd z w2) (fun _ => ?_)
      refine ⟨⟨rfl, ltB rfl⟩, ?_⟩
      rw [a19]
      refine ⟨⟨rfl, ltB rfl⟩, ?_⟩
      have eD : nI ((U ++ S0').length + 1) - 1 = nI (U ++ S0').length := pk_sub (b := 1) (by omega)
      rw [eD]
      refine ⟨⟨rfl, ltB rfl, neB rfl⟩, ?_⟩
      rw [rf_code]
      refine ⟨⟨rfl, ltB rfl⟩, ?_⟩
      have e16 : mu m2 139 19 (nI (U ++ S0').length) 139 16 = nI C.length := by rw [mu_ne (by decide)]; exact a16
      rw [e16]
      refine ⟨⟨rfl, ltB rfl, neB rfl⟩, ?_⟩
      rw [rf_waits]
      refine ⟨⟨rfl, ltB rfl⟩, ?_⟩
      have e19 : mu m2 139 19 (nI (U ++ S0').length) 139 19 = nI (U ++ S0').length := mu_at
      refine ⟨⟨rfl, ltB rfl, vinK e19 (show (U ++ S0').length < 96 by omega) rfl⟩, ?_⟩
      rw [clK e19 (show (U ++ S0').length < 2 ^ 31 by omega)]
      rw [mu_row (show (148 : Nat) ≠ 139 by decide), aS1]
      refine ⟨⟨rfl, ltB rfl, vinK (rfl : nI C.length = nI C.length) (show C.length < 96 by omega) rfl⟩, ?_⟩
      rw [clK (rfl : nI C.length = nI C.length) (show C.length < 2 ^ 31 by omega)]
      refine ⟨⟨rfl, ltB rfl⟩, ?_⟩
      have e16b : mu (mu m2 139 19 (nI (U ++ S0').length)) 147 C.length w 139 16 = nI C.length := by rw [mu_row (by decide)]; exact e16
      rw [e16b]
      refine ⟨⟨rfl, ltB rfl⟩, ?_⟩
      rw [nI_1]
      have hlC : (C ++ [w]).length = C.length + 1 := by simp
      refine ih (C ++ [w]) _ (hF.trans ⟨((Fr.refl.mu (by simp)).mu (by simp)).mu (by simp), fun f b c e => ?_⟩) (fun v hv => h1 v (by simp [hv])) (by rw [hlC]; omega) (by omega) ⟨?_, ?_, ?_, fun i hi => ?_, ?_⟩ (fun m' hF' hR' => h5 m' hF' (by rw [List.append_assoc] at hR'; exact hR'))
      · rw [mu_ne b, mu_row (by decide), mu_ne e]
      · rw [mu_at, hlC]
      · rw [mu_ne (by decide), mu_row (by decide), mu_ne (by decide), a17, List.countP_append]
        simp [w3]
      · rw [mu_ne (by decide), mu_row (by decide), mu_at]
      · rw [mu_row (by decide)]
        by_cases q : i = C.length
        · rw [q, mu_at]; simp [List.getD]
        · rw [hlC] at hi
          rw [mu_ne q, mu_row (by decide), a147 i (by omega)]
          simp only [List.getD, List.getElem?_append_left (show i < C.length by omega)]
      · exact aS.2.fr (by rw [mu_row (by decide), mu_row (by decide), mu_row (by decide)])
  exact loop U C m FS.refl h1 h2 h3 h4 h5
def cN (S : List Int32) : Nat := S.countP (fun c => decide (c = -10))
theorem r_nots {d L : Nat} {m : Mem} {Q : Qt} {S : List Int32} (hl : S.length ≤ 96) (h19 : m 139 19 = nI S.length) (hS : SM S m) (hQ : Q (some (.int (nI (cN S)))) (S0 L) m) : Mc (d + 1) 174 [.ref 139] (S0 L) m Q := by
  have loop : ∀ (R V : List Int32), S = V ++ R → SM R m → Xs (d + 1) 174 4 [some (.ref 139), some (.int (nI (cN R))), some (.int (nI R.length))] [] (S0 L) (0, 0) m Q → Xs (d + 1) 174 4 [some (.ref 139), some (.int 0), some (.int 0)] [] (S0 L) (0, 0) m Q := by
    intro R
    induction R with
    | nil => intro V _ _ h; exact h
    | cons w R ih =>
      intro V hV hR h
      have hlen : R.length + 1 ≤ S.length := by rw [hV]; simp
      refine ih (V ++ [w]) (by rw [hV]; simp) hR.2 ?_
      refine Xs_wp (cut1 4) t174 40 ?_
      refine ⟨⟨rfl, ltB rfl⟩, ?_⟩
      rw [h19]
      refine ifI (fun _ => ?_) (fun z => absurd (nI_lt (by omega) (by omega)) z)
      refine ⟨⟨rfl, ltB rfl, neB rfl⟩, ?_⟩
      rw [rf_waits]
      refine ⟨⟨rfl, ltB rfl, vinK (rfl : nI R.length = nI R.length) (show R.length < 96 by omega) rfl⟩, ?_⟩
      rw [clK (rfl : nI R.length = nI R.length) (show R.length < 2 ^ 31 by omega)]
      rw [hR.1]
      rw [List.length_cons, ← nI_1] at h
      refine ifI (fun z => ?_) (fun z => ?_)
      · have e : cN (w :: R) = cN R + 1 := by unfold cN; rw [List.countP_cons]; simp [z]
        rw [e, ← nI_1] at h
        exact h
      · have e : cN (w :: R) = cN R := by unfold cN; rw [List.countP_cons]; simp [z]
        rw [e, ← Int32.add_zero (nI (cN R))] at h
        exact h
  refine Mc_wp (cut1 4) t174 rfl rfl rfl 40 ?_
  refine loop S [] rfl hS ?_
  refine Xs_wp (cut1 4) t174 40 ?_
  refine ⟨⟨rfl, ltB rfl⟩, ?_⟩
  rw [h19]
  exact ifI (fun z => absurd z (nI_nlt (Nat.le_refl _) (by omega))) (fun _ => hQ)
