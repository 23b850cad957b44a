-- texts: the reference's words and signs
theorem sor_3 {b : Int32} : sor b = 3 ↔ (¬ b < 97 ∧ ¬ 122 < b) := by
  constructor
  · intro h
    have := sor_let h
    have e1 : (97 : Int32).toInt = 97 := rfl
    have e2 : (122 : Int32).toInt = 122 := rfl
    rw [tI_lt, tI_lt, e1, e2]; omega
  · intro h
    unfold sor
    rw [if_neg h.1, if_neg h.2]
theorem sor_2 {b : Int32} : sor b = 2 ↔ (¬ b < 48 ∧ ¬ 57 < b) := by
  constructor
  · intro h
    have := sor_dig h
    have e1 : (48 : Int32).toInt = 48 := rfl
    have e2 : (57 : Int32).toInt = 57 := rfl
    rw [tI_lt, tI_lt, e1, e2]; omega
  · intro h
    have h2 : sor2 b = 2 := by unfold sor2; rw [if_neg h.1, if_neg h.2]
    have l : b < 97 := by
      have h57 := h.2
      rw [tI_lt] at h57 ⊢
      have e1 : (97 : Int32).toInt = 97 := rfl
      have e2 : (57 : Int32).toInt = 57 := rfl
      omega
    unfold sor
    rw [if_pos l]; exact h2
theorem r_let {d L p n : Nat} {m : Mem} {Q : Qt} {T : Nat → Int32} (hn : n ≤ 96) (hp : p ≤ n) (e6 : m 139 6 = nI n) (ht : ∀ i, i < 96 → m 144 i = T i) (h1 : p < n → sor (T p) = 3 → Q (some (.int 1)) (S0 L) m) (h0 : ¬ (p < n ∧ sor (T p) = 3) → Q (some (.int 0)) (S0 L) m) : Mc (d + 1) 164 [.ref 139, .int (nI p)] (S0 L) m Q := by
  refine Mc_wp nocut t164 rfl rfl rfl 40 ?_
  refine ⟨⟨rfl, ltB rfl⟩, ?_⟩
  rw [e6]
  by_cases q : p < n
  · refine ifI (fun _ => ?_) (fun z => absurd (nI_lt q (by omega)) z)
    refine ⟨⟨rfl, ltB rfl, neB rfl⟩, ?_⟩
    rw [rf_tape]
    refine ⟨⟨rfl, ltB rfl, vinK (rfl : nI p = nI p) (show p < 96 by omega) rfl⟩, ?_⟩
    rw [clK (rfl : nI p = nI p) (show p < 2 ^ 31 by omega)]
    rw [ht p (by omega)]
    refine ifI (fun z => ?_) (fun z => ?_)
    · exact ⟨Or.inl rfl, h0 (fun w => (sor_3.mp w.2).1 z)⟩
    refine ⟨⟨rfl, ltB rfl, neB rfl⟩, ?_⟩
    rw [rf_tape]
    refine ⟨⟨rfl, ltB rfl, vinK (rfl : nI p = nI p) (show p < 96 by omega) rfl⟩, ?_⟩
    rw [clK (rfl : nI p = nI p) (show p < 2 ^ 31 by omega)]
    rw [ht p (by omega)]
    refine ifI (fun z2 => ?_) (fun z2 => ?_)
    · exact ⟨Or.inl rfl, h0 (fun w => (sor_3.mp w.2).2 z2)⟩
    · exact ⟨Or.inr rfl, h1 q (sor_3.mpr ⟨z, z2⟩)⟩
  · refine ifI (fun z => absurd z (nI_nlt (by omega) (by omega))) (fun _ => ?_)
    exact ⟨Or.inl rfl, h0 (fun w => q w.1)⟩
theorem r_fig {d L p n : Nat} {m : Mem} {Q : Qt} {T : Nat → Int32} (hn : n ≤ 96) (hp : p ≤ n) (e6 : m 139 6 = nI n) (ht : ∀ i, i < 96 → m 144 i = T i) (h1 : p < n → sor (T p) = 2 → Q (some (.int 1)) (S0 L) m) (h0 : ¬ (p < n ∧ sor (T p) = 2) → Q (some (.int 0)) (S0 L) m) : Mc (d + 1) 165 [.ref 139, .int (nI p)] (S0 L) m Q := by
  refine Mc_wp nocut t165 rfl rfl rfl 40 ?_
  refine ⟨⟨rfl, ltB rfl⟩, ?_⟩
  rw [e6]
  by_cases q : p < n
  · refine ifI (fun _ => ?_) (fun z => absurd (nI_lt q (by omega)) z)
    refine ⟨⟨rfl, ltB rfl, neB rfl⟩, ?_⟩
    rw [rf_tape]
    refine ⟨⟨rfl, ltB rfl, vinK (rfl : nI p = nI p) (show p < 96 by omega) rfl⟩, ?_⟩
    rw [clK (rfl : nI p = nI p) (show p < 2 ^ 31 by omega)]
    rw [ht p (by omega)]
    refine ifI (fun z => ?_) (fun z => ?_)
    · exact ⟨Or.inl rfl, h0 (fun w => (sor_2.mp w.2).1 z)⟩
    refine ⟨⟨rfl, ltB rfl, neB rfl⟩, ?_⟩
    rw [rf_tape]
    refine ⟨⟨rfl, ltB rfl, vinK (rfl : nI p = nI p) (show p < 96 by omega) rfl⟩, ?_⟩
    rw [clK (rfl : nI p = nI p) (show p < 2 ^ 31 by omega)]
    rw [ht p (by omega)]
    refine ifI (fun z2 => ?_) (fun z2 => ?_)
    · exact ⟨Or.inl rfl, h0 (fun w => (sor_2.mp w.2).2 z2)⟩
    · exact ⟨Or.inr rfl, h1 q (sor_2.mpr ⟨z, z2⟩)⟩
  · refine ifI (fun z => absurd z (nI_nlt (by omega) (by omega))) (fun _ => ?_)
    exact ⟨Or.inl rfl, h0 (fun w => q w.1)⟩
def tkV (x : Lx) : Int32 := if x.so = 0 then 0 else if x.so = 1 then 3 else if x.so = 3 then (if x.gl = true then 4 else 1) else (if x.gl = true ∨ 4 < x.en - x.st then 4 else 2)
/-- the reference stands at x -/
def RZ (T : Nat → Int32) (n : Nat) (x : Lx) (m : Mem) : Prop := (m 139 6 = nI n ∧ ∀ i, i < 96 → m 144 i = T i) ∧ m 139 7 = nI x.en ∧ m 139 8 = nI x.st ∧ m 139 9 = tkV x ∧ ((x.so = 1 ∨ x.so = 3 → m 139 10 = T x.st) ∧ (x.so = 2 → x.en - x.st ≤ 4 → m 139 10 = nv T x.st (x.en - x.st))) ∧ (bwd x = true → m 139 11 = nI x.en) ∧ (x.so = 1 → (m 139 11).toInt < x.en)
/-- only the words' fields change -/
def F7 (m m' : Mem) : Prop := Fr [139] m m' ∧ ∀ f, f < 7 ∨ 11 < f → m' 139 f = m 139 f
theorem F7.refl {m : Mem} : F7 m m := ⟨Fr.refl, fun _ _ => rfl⟩
theorem F7.trans {m m' m'' : Mem} (h : F7 m m') (h' : F7 m' m'') : F7 m m'' := ⟨h.1.trans h'.1, fun f hf => (h'.2 f hf).trans (h.2 f hf)⟩
theorem F7.mu {m m' : Mem} {f : Nat} {v : Int32} (h : F7 m m') (hf : 7 ≤ f ∧ f ≤ 11) : F7 m (mu m' 139 f v) := ⟨h.1.mu (by simp), fun g hg => by rw [mu_ne (by omega)]; exact h.2 g hg⟩
theorem mul10 (v t : Int32) : 10 * v + t - 48 = v * 10 + t - 48 := by rw [Int32.mul_comm]
theorem r_go {d L n : Nat} {m : Mem} {Q : Qt} {x : Lx} {T : Nat → Int32} (hn : n ≤ 96) (hx : x.en ≤ n) (e6 : m 139 6 = nI n) (ht : ∀ i, i < 96 → m 144 i = T i) (e7 : m 139 7 = nI x.en) (hb1 : bwd x = true → m 139 11 = nI x.en) (hb0 : bwd x = false → (m 139 11).toInt < x.en) (hQ : ∀ m', F7 m m' → RZ T n (adv T n x) m' → Q none (S0 L) m') : Mc (d + 2) 166 [.ref 139] (S0 L) m Q := by
  have hs := advS_rng (T := T) hx
  have hE := advE_rng (T := T) hs.2
  have hal := (adv_lv (T := T) hx)
  generalize hsd : advS T n x.en = s at hs hE
  have a1 : (adv T n x).st = s := hsd
  have a2 : (adv T n x).en = advE T n s := by rw [← hsd]; rfl
  have a3 : (adv T n x).so = advK T n s := by rw [← hsd]; rfl
  have a4 : (adv T n x).gl = (bwd x && Nat.beq s x.en) := by rw [← hsd]; rfl
  have v11 : (m 139 11).toInt ≤ x.en := by
    cases hb : bwd x
    · have := hb0 hb; omega
    · rw [hb1 hb, nI_toInt (by omega)]; omega
  have cl : (nI s = m 139 11) ↔ (adv T n x).gl = true := by
    rw [a4]
    cases hb : bwd x
    · constructor
      · intro z
        have := hb0 hb
        rw [← z, nI_toInt (by omega)] at this; omega
      · intro z; cases z
    · rw [hb1 hb, nI_eq (by omega) (by omega)]
      constructor
      · intro z; rw [z]; simp
      · intro z; simpa using z
  -- what a mark leaves
  have tail : ∀ m2, F7 m m2 → m2 139 7 = nI s → m2 139 11 = m 139 11 → Xs (d + 2) 166 38 [some (.ref 139), none] [] (S0 L) (0, 0) m2 Q := by
    intro m2 hF e7 e11
    have f6 : ∀ m3, F7 m m3 → m3 139 6 = nI n := fun m3 h3 => (h3.2 6 (by omega)).trans e6
    have ft : ∀ m3, F7 m m3 → ∀ i, i < 96 → m3 144 i = T i := fun m3 h3 i hi => by rw [h3.1 144 (by simp)]; exact ht i hi
    have body : ∀ (c : Int32) (m3 : Mem), F7 m m3 → m3 139 7 = nI s → m3 139 8 = nI s → m3 139 11 = m 139 11 → (c = 0 ∧ (adv T n x).gl = false ∨ c = 1 ∧ (adv T n x).gl = true) → Xs (d + 2) 166 63 [some (.ref 139), some (.int c)] [] (S0 L) (0, 0) m3 Q := by
      intro c m3 hF3 g7 g8 g11 hc
      by_cases q0 : advK T n s = 0
      · have hsn := hE.2.2.2.1 q0
        refine Xs_wp nocut t166 60 ?_
        refine ⟨⟨rfl, ltB rfl⟩, ?_⟩
        rw [g8]
        refine ⟨⟨rfl, ltB rfl⟩, ?_⟩
        rw [f6 m3 hF3]
        refine ifI (fun _ => ?_) (fun z => absurd (by rw [hsn]) z)
        refine ⟨⟨rfl, ltB rfl⟩, ?_⟩
        have ee : advE T n s = s := if_pos q0
        refine hQ _ (hF3.mu (by omega)) ⟨⟨by rw [mu_ne (by decide)]; exact f6 m3 hF3, fun i hi => by rw [mu_row (by decide)]; exact ft m3 hF3 i hi⟩, ?_, ?_, ?_, ⟨fun z => absurd z (by rw [a3]; omega), fun z => absurd z (by rw [a3]; omega)⟩, fun z => ?_, fun z => absurd z (by rw [a3]; omega)⟩
        · rw [mu_ne (by decide), a2, ee]; exact g7
        · rw [mu_ne (by decide), a1]; exact g8
        · rw [mu_at]; unfold tkV; rw [a3, if_pos q0]
        · unfold bwd at z; rw [a3, q0] at z; cases z
      have hsn := hE.2.2.1 q0
      have ek : advK T n s = sor (T s) := if_pos hsn.1
      by_cases q3 : sor (T s) = 3
      · -- a word
        have ee : advE T n s = rn T 3 (n - (s + 1)) (s + 1) := by
          have : advE T n s = rn T (advK T n s) (n - (s + 1)) (s + 1) := (if_neg q0).trans (if_neg (by rw [ek, q3]; decide))
          rw [this, ek, q3]
        have fin : ∀ m4, F7 m m4 → m4 139 7 = nI (advE T n s) → m4 139 8 = nI s → Xs (d + 2) 166 117 [some (.ref 139), some (.int c)] [] (S0 L) (0, 0) m4 Q := by
          intro m4 hF4 k7 k8
          have last : ∀ tk : Int32, tk = tkV (adv T n x) → Q none (S0 L) (mu (mu (mu m4 139 9 tk) 139 10 (T s)) 139 11 (nI (advE T n s))) := by
            intro tk htk
            refine hQ _ (((hF4.mu (by omega)).mu (by omega)).mu (by omega)) ⟨⟨?_, fun i hi => ?_⟩, ?_, ?_, ?_, ⟨fun _ => ?_, fun z => absurd z (by rw [a3]; omega)⟩, fun _ => ?_, fun z => absurd z (by rw [a3]; omega)⟩
            · rw [mu_ne (by decide), mu_ne (by decide), mu_ne (by decide)]; exact f6 m4 hF4
            · rw [mu_row (by decide), mu_row (by decide), mu_row (by decide)]; exact ft m4 hF4 i hi
            · rw [mu_ne (by decide), mu_ne (by decide), mu_ne (by decide), a2]; exact k7
            · rw [mu_ne (by decide), mu_ne (by decide), mu_ne (by decide), a1]; exact k8
            · rw [mu_ne (by decide), mu_ne (by decide), mu_at]; exact htk
            · rw [mu_ne (by decide), mu_at, a1]
            · rw [mu_at, a2]
          have etk : tkV (adv T n x) = if (adv T n x).gl = true then 4 else 1 := by
            unfold tkV
            rw [a3, if_neg q0, if_neg (by omega), if_pos (by omega)]
          have step : ∀ tk : Int32, tk = tkV (adv T n x) → Xs (d + 2) 166 130 [some (.ref 139), some (.int c)] [] (S0 L) (0, 0) (mu m4 139 9 tk) Q := by
            intro tk htk
            refine Xs_wp nocut t166 60 ?_
            refine ⟨⟨rfl, ltB rfl, neB rfl⟩, ?_⟩
            rw [rf_tape]
            refine ⟨⟨rfl, ltB rfl⟩, ?_⟩
            have e8 : mu m4 139 9 tk 139 8 = nI s := by rw [mu_ne (by decide)]; exact k8
            refine ⟨⟨rfl, ltB rfl, vinK e8 (show s < 96 by omega) rfl⟩, ?_⟩
            rw [clK e8 (show s < 2 ^ 31 by omega)]
            have et : mu m4 139 9 tk 144 s = T s := by rw [mu_row (by decide)]; exact ft m4 hF4 s (by omega)
            rw [et]
            refine ⟨⟨rfl, ltB rfl⟩, ?_⟩
            refine ⟨⟨rfl, ltB rfl⟩, ?_⟩
            have e7' : mu (mu m4 139 9 tk) 139 10 (T s) 139 7 = nI (advE T n s) := by rw [mu_ne (by decide), mu_ne (by decide)]; exact k7
            rw [e7']
            refine ⟨⟨rfl, ltB rfl⟩, ?_⟩
            exact last tk htk
          refine Xs_wp (cut1 130) t166 60 ?_
          rcases hc with ⟨rfl, hg⟩ | ⟨rfl, hg⟩
          · refine ⟨⟨rfl, ltB rfl⟩, step 1 ?_⟩
            rw [etk, hg]; rfl
          · refine ⟨⟨rfl, ltB rfl⟩, step 4 ?_⟩
            rw [etk, hg]; rfl
        have loop : ∀ k p, p + k = n → s ≤ p → ∀ m4, F7 m m4 → m4 139 7 = nI p → m4 139 8 = nI s → advE T n s = rn T 3 k p → Xs (d + 2) 166 93 [some (.ref 139), some (.int c)] [] (S0 L) (0, 0) m4 Q := by
          intro k
          induction k with
          | zero =>
            intro p hp hsp m4 hF4 k7 k8 er
            refine Xs_wp (cut2 93 117) t166 60 ?_
            refine ⟨⟨rfl, ltB rfl⟩, ?_⟩
            rw [k7]
            refine ⟨⟨rfl, ltB rfl⟩, r_let hn (by omega) (f6 m4 hF4) (ft m4 hF4) (fun z => absurd z (by omega)) (fun _ => ?_)⟩
            exact fin m4 hF4 (by rw [er]; exact k7) k8
          | succ k ih =>
            intro p hp hsp m4 hF4 k7 k8 er
            refine Xs_wp (cut2 93 117) t166 60 ?_
            refine ⟨⟨rfl, ltB rfl⟩, ?_⟩
            rw [k7]
            refine ⟨⟨rfl, ltB rfl⟩, r_let hn (by omega) (f6 m4 hF4) (ft m4 hF4) (fun z z3 => ?_) (fun z => ?_)⟩
            · refine ⟨⟨rfl, ltB rfl⟩, ?_⟩
              rw [k7]
              refine ⟨⟨rfl, ltB rfl⟩, ?_⟩
              rw [nI_1]
              have er2 : rn T 3 (k + 1) p = rn T 3 k (p + 1) := if_pos z3
              exact ih (p + 1) (by omega) (by omega) _ (hF4.mu (by omega)) (by rw [mu_at]) (by rw [mu_ne (by decide)]; exact k8) (er.trans er2)
            · have er2 : rn T 3 (k + 1) p = p := if_neg (fun w => z ⟨by omega, w⟩)
              exact fin m4 hF4 (by rw [er, er2]; exact k7) k8
        refine Xs_wp (cut1 93) t166 60 ?_
        refine ⟨⟨rfl, ltB rfl⟩, ?_⟩
        rw [g8]
        refine ⟨⟨rfl, ltB rfl⟩, ?_⟩
        rw [f6 m3 hF3]
        refine ifI (fun z => absurd ((nI_eq (by omega) (by omega)).mp z) (by omega)) (fun _ => ?_)
        refine ⟨⟨rfl, ltB rfl⟩, ?_⟩
        rw [g8]
        refine ⟨⟨rfl, ltB rfl⟩, r_let hn (by omega) (f6 m3 hF3) (ft m3 hF3) (fun _ _ => ?_) (fun z => absurd ⟨hsn.1, q3⟩ z)⟩
        refine loop (n - s) s (by omega) (Nat.le_refl _) m3 hF3 g7 g8 ?_
        rw [ee, show n - s = n - (s + 1) + 1 by omega]
        exact (if_pos q3).symm
      by_cases q2 : sor (T s) = 2
      · -- a number
        have ee : advE T n s = rn T 2 (n - (s + 1)) (s + 1) := by
          have : advE T n s = rn T (advK T n s) (n - (s + 1)) (s + 1) := (if_neg q0).trans (if_neg (by rw [ek, q2]; decide))
          rw [this, ek, q2]
        have hEr := hE.2.1
        have hEs := hE.1
        have fin : ∀ m4, F7 m m4 → m4 139 7 = nI (advE T n s) → m4 139 8 = nI s → (advE T n s - s ≤ 4 → m4 139 10 = nv T s (advE T n s - s)) → Xs (d + 2) 166 238 [some (.ref 139), some (.int c)] [] (S0 L) (0, 0) m4 Q := by
          intro m4 hF4 k7 k8 k10
          have etk : tkV (adv T n x) = if (adv T n x).gl = true ∨ 4 < advE T n s - s then 4 else 2 := by
            unfold tkV
            rw [a3, if_neg q0, if_neg (by omega), if_neg (by omega), a2, a1]
          have step : ∀ tk : Int32, tk = tkV (adv T n x) → Xs (d + 2) 166 264 [some (.ref 139), some (.int c)] [] (S0 L) (0, 0) (mu m4 139 9 tk) Q := by
            intro tk htk
            refine Xs_wp nocut t166 60 ?_
            refine ⟨⟨rfl, ltB rfl⟩, ?_⟩
            have e7' : mu m4 139 9 tk 139 7 = nI (advE T n s) := by rw [mu_ne (by decide)]; exact k7
            rw [e7']
            refine ⟨⟨rfl, ltB rfl⟩, ?_⟩
            refine hQ _ ((hF4.mu (by omega)).mu (by omega)) ⟨⟨?_, fun i hi => ?_⟩, ?_, ?_, ?_, ⟨fun z => absurd z (by rw [a3]; omega), fun _ z => ?_⟩, fun _ => ?_, fun z => absurd z (by rw [a3]; omega)⟩
            · rw [mu_ne (by decide), mu_ne (by decide)]; exact f6 m4 hF4
            · rw [mu_row (by decide), mu_row (by decide)]; exact ft m4 hF4 i hi
            · rw [mu_ne (by decide), mu_ne (by decide), a2]; exact k7
            · rw [mu_ne (by decide), mu_ne (by decide), a1]; exact k8
            · rw [mu_ne (by decide), mu_at]; exact htk
            · rw [a1, a2] at z ⊢
              rw [mu_ne (by decide), mu_ne (by decide)]; exact k10 z
            · rw [mu_at, a2]
          have es : (nI (advE T n s) - nI s : Int32) = nI (advE T n s - s) := pk_sub hEs
          refine Xs_wp (cut1 264) t166 60 ?_
          rcases hc with ⟨rfl, hg⟩ | ⟨rfl, hg⟩
          · refine ⟨⟨rfl, ltB rfl⟩, ?_⟩
            rw [k7]
            refine ⟨⟨rfl, ltB rfl⟩, ?_⟩
            rw [k8]
            by_cases q4 : 4 < advE T n s - s
            · refine ifI (fun _ => ?_) (fun z => absurd (by rw [es]; exact nI_lt (a := 4) q4 (by omega)) z)
              refine ⟨⟨rfl, ltB rfl⟩, step 4 ?_⟩
              rw [etk, if_pos (Or.inr q4)]
            · refine ifI (fun z => absurd (by rw [es] at z; exact z) (nI_nlt (a := 4) (b := advE T n s - s) (by omega) (by omega))) (fun _ => ?_)
              refine ⟨⟨rfl, ltB rfl⟩, step 2 ?_⟩
              rw [etk, if_neg (fun w => w.elim (fun a => by rw [hg] at a; cases a) q4)]
          · refine ⟨⟨rfl, ltB rfl⟩, step 4 ?_⟩
            rw [etk, if_pos (Or.inl hg)]
        have loop : ∀ k p, p + k = n → s ≤ p → ∀ m4, F7 m m4 → m4 139 7 = nI p → m4 139 8 = nI s → (p - s ≤ 4 → m4 139 10 = nv T s (p - s)) → advE T n s = rn T 2 k p → Xs (d + 2) 166 170 [some (.ref 139), some (.int c)] [] (S0 L) (0, 0) m4 Q := by
          intro k
          induction k with
          | zero =>
            intro p hp hsp m4 hF4 k7 k8 k10 er
            refine Xs_wp (cut2 170 238) t166 60 ?_
            refine ⟨⟨rfl, ltB rfl⟩, ?_⟩
            rw [k7]
            refine ⟨⟨rfl, ltB rfl⟩, r_fig hn (by omega) (f6 m4 hF4) (ft m4 hF4) (fun z => absurd z (by omega)) (fun _ => ?_)⟩
            have er : advE T n s = p := er
            exact fin m4 hF4 (by rw [er]; exact k7) k8 (by rw [er]; exact k10)
          | succ k ih =>
            intro p hp hsp m4 hF4 k7 k8 k10 er
            refine Xs_wp (cut2 170 238) t166 60 ?_
            refine ⟨⟨rfl, ltB rfl⟩, ?_⟩
            rw [k7]
            refine ⟨⟨rfl, ltB rfl⟩, r_fig hn (by omega) (f6 m4 hF4) (ft m4 hF4) (fun z z3 => ?_) (fun z => ?_)⟩
            · have er2 : rn T 2 (k + 1) p = rn T 2 k (p + 1) := if_pos z3
              have es : (nI p - nI s : Int32) = nI (p - s) := pk_sub hsp
              refine ⟨⟨rfl, ltB rfl⟩, ?_⟩
              rw [k7]
              refine ⟨⟨rfl, ltB rfl⟩, ?_⟩
              rw [k8]
              by_cases q4 : p - s < 4
              · refine ifI (fun _ => ?_) (fun z => absurd (by rw [es]; exact nI_lt (b := 4) q4 (by omega)) z)
                refine ⟨⟨rfl, ltB rfl⟩, ?_⟩
                rw [k10 (by omega)]
                refine ⟨⟨rfl, ltB rfl, neB rfl⟩, ?_⟩
                rw [rf_tape]
                refine ⟨⟨rfl, ltB rfl⟩, ?_⟩
                refine ⟨⟨rfl, ltB rfl, vinK k7 (show p < 96 by omega) rfl⟩, ?_⟩
                rw [clK k7 (show p < 2 ^ 31 by omega)]
                rw [ft m4 hF4 p (by omega)]
                refine ⟨⟨rfl, ltB rfl⟩, ?_⟩
                refine ⟨⟨rfl, ltB rfl⟩, ?_⟩
                rw [mu_ne (by decide), k7]
                refine ⟨⟨rfl, ltB rfl⟩, ?_⟩
                rw [nI_1]
                refine ih (p + 1) (by omega) (by omega) _ ((hF4.mu (by omega)).mu (by omega)) (by rw [mu_at]) (by rw [mu_ne (by decide), mu_ne (by decide)]; exact k8) (fun _ => ?_) (er.trans er2)
                rw [mu_ne (by decide), mu_at, show p + 1 - s = p - s + 1 by omega, mul10]
                show _ = nv T s (p - s) * 10 + T (s + (p - s)) - 48
                rw [show s + (p - s) = p by omega]
              · refine ifI (fun z => absurd (by rw [es] at z; exact z) (nI_nlt (a := p - s) (b := 4) (by omega) (by omega))) (fun _ => ?_)
                refine ⟨⟨rfl, ltB rfl⟩, ?_⟩
                refine ⟨⟨rfl, ltB rfl⟩, ?_⟩
                refine ⟨⟨rfl, ltB rfl⟩, ?_⟩
                rw [mu_ne (by decide), k7]
                refine ⟨⟨rfl, ltB rfl⟩, ?_⟩
                rw [nI_1]
                exact ih (p + 1) (by omega) (by omega) _ ((hF4.mu (by omega)).mu (by omega)) (by rw [mu_at]) (by rw [mu_ne (by decide), mu_ne (by decide)]; exact k8) (fun z => absurd z (by omega)) (er.trans er2)
            · have er2 : rn T 2 (k + 1) p = p := if_neg (fun w => z ⟨by omega, w⟩)
              have er : advE T n s = p := er.trans er2
              exact fin m4 hF4 (by rw [er]; exact k7) k8 (by rw [er]; exact k10)
        refine Xs_wp (cut1 170) t166 60 ?_
        refine ⟨⟨rfl, ltB rfl⟩, ?_⟩
        rw [g8]
        refine ⟨⟨rfl, ltB rfl⟩, ?_⟩
        rw [f6 m3 hF3]
        refine ifI (fun z => absurd ((nI_eq (by omega) (by omega)).mp z) (by omega)) (fun _ => ?_)
        refine ⟨⟨rfl, ltB rfl⟩, ?_⟩
        rw [g8]
        refine ⟨⟨rfl, ltB rfl⟩, r_let hn (by omega) (f6 m3 hF3) (ft m3 hF3) (fun _ z => absurd z q3) (fun _ => ?_)⟩
        refine ⟨⟨rfl, ltB rfl⟩, ?_⟩
        rw [g8]
        refine ⟨⟨rfl, ltB rfl⟩, r_fig hn (by omega) (f6 m3 hF3) (ft m3 hF3) (fun _ _ => ?_) (fun z => absurd ⟨hsn.1, q2⟩ z)⟩
        refine ⟨⟨rfl, ltB rfl⟩, ?_⟩
        refine loop (n - s) s (by omega) (Nat.le_refl _) _ (hF3.mu (by omega)) (by rw [mu_ne (by decide)]; exact g7) (by rw [mu_ne (by decide)]; exact g8) (fun _ => by rw [mu_at, Nat.sub_self]; rfl) ?_
        rw [ee, show n - s = n - (s + 1) + 1 by omega]
        exact (if_pos q2).symm
      -- a sign
      have q1 : advK T n s = 1 := by have := sor_rng (T s); omega
      have ee : advE T n s = s + 1 := (if_neg q0).trans (if_pos q1)
      refine Xs_wp nocut t166 60 ?_
      refine ⟨⟨rfl, ltB rfl⟩, ?_⟩
      rw [g8]
      refine ⟨⟨rfl, ltB rfl⟩, ?_⟩
      rw [f6 m3 hF3]
      refine ifI (fun z => absurd ((nI_eq (by omega) (by omega)).mp z) (by omega)) (fun _ => ?_)
      refine ⟨⟨rfl, ltB rfl⟩, ?_⟩
      rw [g8]
      refine ⟨⟨rfl, ltB rfl⟩, r_let hn (by omega) (f6 m3 hF3) (ft m3 hF3) (fun _ z => absurd z q3) (fun _ => ?_)⟩
      refine ⟨⟨rfl, ltB rfl⟩, ?_⟩
      rw [g8]
      refine ⟨⟨rfl, ltB rfl⟩, r_fig hn (by omega) (f6 m3 hF3) (ft m3 hF3) (fun _ z => absurd z q2) (fun _ => ?_)⟩
      refine ⟨⟨rfl, ltB rfl⟩, ?_⟩
      refine ⟨⟨rfl, ltB rfl, neB rfl⟩, ?_⟩
      rw [rf_tape]
      refine ⟨⟨rfl, ltB rfl⟩, ?_⟩
      have e8 : mu m3 139 9 3 139 8 = nI s := by rw [mu_ne (by decide)]; exact g8
      refine ⟨⟨rfl, ltB rfl, vinK e8 (show s < 96 by omega) rfl⟩, ?_⟩
      rw [clK e8 (show s < 2 ^ 31 by omega)]
      have et : mu m3 139 9 3 144 s = T s := by rw [mu_row (by decide)]; exact ft m3 hF3 s (by omega)
      rw [et]
      refine ⟨⟨rfl, ltB rfl⟩, ?_⟩
      refine ⟨⟨rfl, ltB rfl⟩, ?_⟩
      have e7' : mu (mu m3 139 9 3) 139 10 (T s) 139 7 = nI s := by rw [mu_ne (by decide), mu_ne (by decide)]; exact g7
      rw [e7']
      refine ⟨⟨rfl, ltB rfl⟩, ?_⟩
      rw [nI_1]
      refine hQ _ (((hF3.mu (by omega)).mu (by omega)).mu (by omega)) ⟨⟨?_, fun i hi => ?_⟩, ?_, ?_, ?_, ⟨fun _ => ?_, fun z => absurd z (by rw [a3]; omega)⟩, fun z => ?_, fun z => ?_⟩
      · rw [mu_ne (by decide), mu_ne (by decide), mu_ne (by decide)]; exact f6 m3 hF3
      · rw [mu_row (by decide), mu_row (by decide), mu_row (by decide)]; exact ft m3 hF3 i hi
      · rw [mu_at, a2, ee]
      · rw [mu_ne (by decide), mu_ne (by decide), mu_ne (by decide), a1]; exact g8
      · rw [mu_ne (by decide), mu_ne (by decide), mu_at]; unfold tkV; rw [a3, if_neg q0, if_pos q1]
      · rw [mu_ne (by decide), mu_at, a1]
      · unfold bwd at z; rw [a3, q1] at z; cases z
      · rw [mu_ne (by decide), mu_ne (by decide), mu_ne (by decide), g11, a2]; omega
    refine Xs_wp (cut1 63) t166 60 ?_
    refine ⟨⟨rfl, ltB rfl⟩, ?_⟩
    rw [e7]
    refine ⟨⟨rfl, ltB rfl⟩, ?_⟩
    refine ⟨⟨rfl, ltB rfl⟩, ?_⟩
    rw [mu_at]
    refine ⟨⟨rfl, ltB rfl⟩, ?_⟩
    rw [mu_ne (by decide), e11]
    refine ifI (fun z => ?_) (fun z => ?_)
    · exact body 1 _ (hF.mu (by omega)) (by rw [mu_ne (by decide)]; exact e7) (by rw [mu_at]) (by rw [mu_ne (by decide)]; exact e11) (Or.inr ⟨rfl, cl.mp z⟩)
    · exact body 0 _ (hF.mu (by omega)) (by rw [mu_ne (by decide)]; exact e7) (by rw [mu_at]) (by rw [mu_ne (by decide)]; exact e11) (Or.inl ⟨rfl, by simpa using fun w => z (cl.mpr w)⟩)
  have loop1 : ∀ k p, p + k = n → s = sk T k p → ∀ m2, F7 m m2 → m2 139 7 = nI p → m2 139 11 = m 139 11 → Xs (d + 2) 166 0 [some (.ref 139), none] [] (S0 L) (0, 0) m2 Q := by
    intro k
    induction k with
    | zero =>
      intro p hp hsk m2 hF e7 e11
      refine Xs_wp (cut2 0 38) t166 60 ?_
      refine ⟨⟨rfl, ltB rfl⟩, ?_⟩
      rw [e7]
      refine ⟨⟨rfl, ltB rfl⟩, ?_⟩
      rw [hF.2 6 (by omega), e6]
      refine ifI (fun z => absurd z (nI_nlt (by omega) (by omega))) (fun _ => ?_)
      have hsk : s = p := hsk
      exact tail m2 hF (by rw [hsk]; exact e7) e11
    | succ k ih =>
      intro p hp hsk m2 hF e7 e11
      refine Xs_wp (cut2 0 38) t166 60 ?_
      refine ⟨⟨rfl, ltB rfl⟩, ?_⟩
      rw [e7]
      refine ⟨⟨rfl, ltB rfl⟩, ?_⟩
      rw [hF.2 6 (by omega), e6]
      refine ifI (fun _ => ?_) (fun z => absurd (nI_lt (by omega) (by omega)) z)
      refine ⟨⟨rfl, ltB rfl, neB rfl⟩, ?_⟩
      rw [rf_tape]
      refine ⟨⟨rfl, ltB rfl⟩, ?_⟩
      refine ⟨⟨rfl, ltB rfl, vinK e7 (show p < 96 by omega) rfl⟩, ?_⟩
      rw [clK e7 (show p < 2 ^ 31 by omega)]
      have et : m2 144 p = T p := by rw [hF.1 144 (by simp)]; exact ht p (by omega)
      rw [et]
      refine ifI (fun z => ?_) (fun z => ?_)
      · have er : sk T (k + 1) p = sk T k (p + 1) := if_pos z
        refine ⟨⟨rfl, ltB rfl⟩, ?_⟩
        rw [e7]
        refine ⟨⟨rfl, ltB rfl⟩, ?_⟩
        rw [nI_1]
        exact ih (p + 1) (by omega) (hsk.trans er) _ (hF.mu (by omega)) (by rw [mu_at]) (by rw [mu_ne (by decide)]; exact e11)
      · have er : sk T (k + 1) p = p := if_neg z
        exact tail m2 hF (by rw [hsk, er]; exact e7) e11
  refine Mc_wp nocut t166 rfl rfl rfl 0 ?_
  exact loop1 (n - x.en) x.en (by omega) hsd.symm m F7.refl e7 rfl
