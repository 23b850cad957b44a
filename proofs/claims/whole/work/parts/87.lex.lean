-- texts: words and signs on the tape
abbrev Lx : Type := Nat × Nat × Nat × Bool
def Lx.st (x : Lx) : Nat := x.1
def Lx.en (x : Lx) : Nat := x.2.1
def Lx.so (x : Lx) : Nat := x.2.2.1
def Lx.gl (x : Lx) : Bool := x.2.2.2
def b01 (b : Bool) : Int32 := cond b 1 0
def sor2 (b : Int32) : Nat := if b < 48 then 1 else if 57 < b then 1 else 2
def sor (b : Int32) : Nat := if b < 97 then sor2 b else if 122 < b then sor2 b else 3
def sk (T : Nat → Int32) : Nat → Nat → Nat
  | 0, p => p
  | k + 1, p => if T p = 32 then sk T k (p + 1) else p
def rn (T : Nat → Int32) (c : Nat) : Nat → Nat → Nat
  | 0, p => p
  | k + 1, p => if sor (T p) = c then rn T c k (p + 1) else p
def advS (T : Nat → Int32) (n p : Nat) : Nat := sk T (n - p) p
def advK (T : Nat → Int32) (n s : Nat) : Nat := if s < n then sor (T s) else 0
def advE (T : Nat → Int32) (n s : Nat) : Nat := if advK T n s = 0 then s else if advK T n s = 1 then s + 1 else rn T (advK T n s) (n - (s + 1)) (s + 1)
def bwd (x : Lx) : Bool := Nat.beq x.so 2 || Nat.beq x.so 3
def adv (T : Nat → Int32) (n : Nat) (x : Lx) : Lx := (advS T n x.en, advE T n (advS T n x.en), advK T n (advS T n x.en), bwd x && Nat.beq (advS T n x.en) x.en)
theorem sk_rng {T : Nat → Int32} : ∀ k p, p ≤ sk T k p ∧ sk T k p ≤ p + k
  | 0, p => ⟨Nat.le_refl _, Nat.le_refl _⟩
  | k + 1, p => by
    have := sk_rng (T := T) k (p + 1)
    unfold sk
    split <;> omega
theorem rn_rng {T : Nat → Int32} {c : Nat} : ∀ k p, p ≤ rn T c k p ∧ rn T c k p ≤ p + k
  | 0, p => ⟨Nat.le_refl _, Nat.le_refl _⟩
  | k + 1, p => by
    have := rn_rng (T := T) (c := c) k (p + 1)
    unfold rn
    split <;> omega
theorem sor_rng (b : Int32) : sor b = 1 ∨ sor b = 2 ∨ sor b = 3 := by
  unfold sor sor2
  split
  · split
    · exact Or.inl rfl
    · split
      · exact Or.inl rfl
      · exact Or.inr (Or.inl rfl)
  · split
    · split
      · exact Or.inl rfl
      · split
        · exact Or.inl rfl
        · exact Or.inr (Or.inl rfl)
    · exact Or.inr (Or.inr rfl)
theorem advS_rng {T : Nat → Int32} {n p : Nat} (h : p ≤ n) : p ≤ advS T n p ∧ advS T n p ≤ n := by
  have := sk_rng (T := T) (n - p) p
  unfold advS; omega
theorem advE_rng {T : Nat → Int32} {n s : Nat} (h : s ≤ n) : s ≤ advE T n s ∧ advE T n s ≤ n ∧ (advK T n s ≠ 0 → s < n ∧ s < advE T n s) ∧ (advK T n s = 0 → s = n) ∧ advK T n s ≤ 3 := by
  have h1 := rn_rng (T := T) (c := advK T n s) (n - (s + 1)) (s + 1)
  have h2 : advK T n s = 0 → s = n := by
    intro e
    unfold advK at e
    split at e
    · have := sor_rng (T s); omega
    · omega
  have h3 : advK T n s ≠ 0 → s < n := by
    intro e
    unfold advK at e
    split at e
    · assumption
    · exact absurd rfl e
  have h4 : advK T n s ≤ 3 := by
    unfold advK
    split
    · have := sor_rng (T s); omega
    · omega
  unfold advE
  by_cases q : advK T n s = 0
  · rw [if_pos q]; have := h2 q; exact ⟨Nat.le_refl _, h, fun e => absurd q e, fun _ => this, h4⟩
  · rw [if_neg q]
    have := h3 q
    by_cases q2 : advK T n s = 1
    · rw [if_pos q2]; exact ⟨by omega, by omega, fun _ => ⟨this, by omega⟩, fun e => absurd e q, h4⟩
    · rw [if_neg q2]; exact ⟨by omega, by omega, fun _ => ⟨this, by omega⟩, fun e => absurd e q, h4⟩
/-- the shape while a tape is read into row r -/
def SR (L r : Nat) : Shp := (162, upn CLy 161 2, upn (LNy L) 161 0, ru (ru (rz RFy 161) 161 0 108) 161 2 (5 + 2 * r + 1))
theorem srO {L r : Nat} : (SR L r).2.1 161 = 2 ∧ 161 < (SR L r).1 := ⟨rfl, ltB rfl⟩
theorem srT {L r : Nat} : (SR L r).2.1 161 = 2 ∧ 161 < (SR L r).1 ∧ ¬ (SR L r).2.2.2 161 0 = 0 := ⟨rfl, ltB rfl, neB rfl⟩
theorem srTV {L r : Nat} : (SR L r).2.2.2 161 0 - 1 = 107 := rfl
theorem srI {L r : Nat} : (SR L r).2.1 161 = 2 ∧ 161 < (SR L r).1 ∧ ¬ (SR L r).2.2.2 161 2 = 0 := ⟨rfl, ltB rfl, by show ¬ 5 + 2 * r + 1 = 0; omega⟩
theorem srIV {L r : Nat} : (SR L r).2.2.2 161 2 - 1 = 5 + 2 * r := rfl
theorem srP {L r k : Nat} {i : Int32} (e : i = nI k) (hk : k < 96) : (SR L r).2.1 107 = 20 ∧ 107 < (SR L r).1 ∧ vp_in i ((SR L r).2.2.1 107) := ⟨rfl, ltB rfl, vinK e hk rfl⟩
theorem srRF {L r k f : Nat} (h : k < 161) : (SR L r).2.2.2 k f = RFy k f := by
  show ru (ru (rz RFy 161) 161 0 108) 161 2 (5 + 2 * r + 1) k f = _
  unfold ru rz
  rw [if_neg (by omega), if_neg (by omega), if_neg (by omega)]
theorem srX {L r x : Nat} (h : x < 15) : (SR L r).2.1 (5 + 2 * x) = 5 ∧ 5 + 2 * x < (SR L r).1 := ⟨(upn_ne (by omega)).trans (tx_cl x h).1, show 5 + 2 * x < 162 by omega⟩
theorem srXR {L r x : Nat} (h : x < 15) : (SR L r).2.1 (5 + 2 * x) = 5 ∧ 5 + 2 * x < (SR L r).1 ∧ ¬ (SR L r).2.2.2 (5 + 2 * x) 0 = 0 := ⟨(srX (L := L) (r := r) h).1, (srX (L := L) (r := r) h).2, by rw [srRF (by omega), (tx_cl x h).2.2.2.1]; omega⟩
theorem srXV {L r x : Nat} (h : x < 15) : (SR L r).2.2.2 (5 + 2 * x) 0 - 1 = 6 + 2 * x := by rw [srRF (by omega), (tx_cl x h).2.2.2.1]; omega
theorem srXA {L r x k : Nat} {i : Int32} (h : x < 15) (e : i = nI k) (hk : k < 96) : (SR L r).2.1 (6 + 2 * x) = 20 ∧ 6 + 2 * x < (SR L r).1 ∧ vp_in i ((SR L r).2.2.1 (6 + 2 * x)) := by
  refine ⟨(upn_ne (by omega)).trans (tx_cl x h).2.1, show 6 + 2 * x < 162 by omega, ?_⟩
  have e1 : (SR L r).2.2.1 (6 + 2 * x) = LNy L (6 + 2 * x) := upn_ne (by omega)
  have e2 : LNy L (6 + 2 * x) = LNz (6 + 2 * x) := LNy_lt (L := L) (by omega)
  rw [e1, e2, (tx_cl x h).2.2.1]
  exact vinK e hk rfl
theorem c_sortOf {d : Nat} {S : Shp} {mem : Mem} {Q : Qt} {b : Int32} (h : Q (some (.int (nI (sor b)))) S mem) : Mc (d + 1) 27 [.int b] S mem Q := by
  refine Mc_wp nocut t27 rfl rfl rfl 40 ?_
  unfold sor sor2 at h
  by_cases q : b < 97
  · rw [if_pos q] at h
    refine ifI (fun _ => ?_) (fun z => absurd q z)
    by_cases q2 : b < 48
    · rw [if_pos q2] at h
      exact ifI (fun _ => h) (fun z => absurd q2 z)
    · rw [if_neg q2] at h
      refine ifI (fun z => absurd z q2) (fun _ => ?_)
      by_cases q3 : 57 < b
      · rw [if_pos q3] at h
        exact ifI (fun _ => h) (fun z => absurd q3 z)
      · rw [if_neg q3] at h
        exact ifI (fun z => absurd z q3) (fun _ => h)
  · rw [if_neg q] at h
    refine ifI (fun z => absurd z q) (fun _ => ?_)
    by_cases q1 : 122 < b
    · rw [if_pos q1] at h
      refine ifI (fun _ => ?_) (fun z => absurd q1 z)
      by_cases q2 : b < 48
      · rw [if_pos q2] at h
        exact ifI (fun _ => h) (fun z => absurd q2 z)
      · rw [if_neg q2] at h
        refine ifI (fun z => absurd z q2) (fun _ => ?_)
        by_cases q3 : 57 < b
        · rw [if_pos q3] at h
          exact ifI (fun _ => h) (fun z => absurd q3 z)
        · rw [if_neg q3] at h
          exact ifI (fun z => absurd z q3) (fun _ => h)
    · rw [if_neg q1] at h
      exact ifI (fun z => absurd z q1) (fun _ => h)
/-- the reader stands at x -/
def RX (n : Nat) (x : Lx) (m : Mem) : Prop := m 161 1 = nI n ∧ m 161 3 = nI x.st ∧ m 161 4 = nI x.en ∧ m 161 5 = nI x.so ∧ m 161 6 = b01 x.gl
theorem c_advance {d L r n : Nat} {m : Mem} {Q : Qt} {x : Lx} (hn : n ≤ 96) (hx : x.en ≤ n) (hs : x.so ≤ 3) (h1 : m 161 1 = nI n) (h4 : m 161 4 = nI x.en) (h5 : m 161 5 = nI x.so) (hQ : ∀ m', Fr [161] m m' → RX n (adv (m 107) n x) m' → Q none (SR L r) m') : Mc (d + 2) 26 [.ref 161] (SR L r) m Q := by
  generalize hT : m 107 = T at hQ
  -- the last loop
  have loop2 : ∀ (s c : Nat) (l1 l2 : Option Value), s ≤ n → c ≠ 0 → c ≠ 1 → c ≤ 3 → ∀ k p, p + k = n → ∀ m2 : Mem, Fr [161] m m2 → m2 161 1 = nI n → m2 161 3 = nI s → m2 161 4 = nI p → m2 161 5 = nI c → (∀ m3, Fr [161] m2 m3 → m3 161 1 = nI n → m3 161 3 = nI s → m3 161 4 = nI (rn T c k p) → m3 161 5 = nI c → m3 161 6 = m2 161 6 → Q none (SR L r) m3) → Xs (d + 2) 26 146 [some (.ref 161), l1, l2] [] (SR L r) (0, 0) m2 Q := by
    intro s c l1 l2 hsn c0 c1 c3 k
    induction k with
    | zero =>
      intro p hp m2 hF e1 e3 e4 e5 hq
      refine Xs_wp (cut2 32 146) t26 60 ?_
      refine ⟨srO, ?_⟩
      rw [e5]
      refine ifI (fun z => absurd ((nI_eq (b := 1) (by omega) (by omega)).mp z) c1) (fun _ => ?_)
      refine ⟨srO, ?_⟩
      rw [e4]
      refine ⟨srO, ?_⟩
      rw [e1]
      refine ifI (fun z => absurd z (nI_nlt (by omega) (by omega))) (fun _ => ?_)
      exact hq m2 Fr.refl e1 e3 e4 e5 rfl
    | succ k ih =>
      intro p hp m2 hF e1 e3 e4 e5 hq
      have et : m2 107 = T := by rw [hF 107 (by simp)]; exact hT
      refine Xs_wp (cut2 32 146) t26 60 ?_
      refine ⟨srO, ?_⟩
      rw [e5]
      refine ifI (fun z => absurd ((nI_eq (b := 1) (by omega) (by omega)).mp z) c1) (fun _ => ?_)
      refine ⟨srO, ?_⟩
      rw [e4]
      refine ⟨srO, ?_⟩
      rw [e1]
      refine ifI (fun _ => ?_) (fun z => absurd (nI_lt (by omega) (by omega)) z)
      refine ⟨srT, ?_⟩
      rw [srTV]
      refine ⟨srO, ?_⟩
      refine ⟨srP e4 (by omega), ?_⟩
      rw [clK e4 (by omega), et]
      refine c_sortOf ?_
      refine ⟨srO, ?_⟩
      rw [e5]
      have hso := sor_rng (T p)
      by_cases q : sor (T p) = c
      · refine ifI (fun _ => ?_) (fun z => absurd (by rw [q]) z)
        refine ⟨srO, ?_⟩
        refine ⟨srO, ?_⟩
        rw [e4, nI_1]
        have er : rn T c (k + 1) p = rn T c k (p + 1) := if_pos q
        rw [er] at hq
        refine ih (p + 1) (by omega) _ (hF.mu (by simp)) (by rw [mu_ne (by decide)]; exact e1) (by rw [mu_ne (by decide)]; exact e3) (by rw [mu_at]) (by rw [mu_ne (by decide)]; exact e5) (fun m3 hF3 a b c e f => ?_)
        refine hq m3 ((Fr.refl.mu (by simp)).trans hF3) a b c e ?_
        rw [f, mu_ne (by decide)]
      · refine ifI (fun z => absurd ((nI_eq (by omega) (by omega)).mp z) q) (fun _ => ?_)
        have er : rn T c (k + 1) p = p := if_neg q
        rw [er] at hq
        exact hq m2 Fr.refl e1 e3 e4 e5 rfl
  -- behind the blanks
  have tail : ∀ s, s = advS T n x.en → ∀ m2 : Mem, Fr [161] m m2 → m2 161 1 = nI n → m2 161 3 = nI s → Xs (d + 2) 26 70 [some (.ref 161), some (.int (b01 (bwd x))), some (.int (nI x.en))] [] (SR L r) (0, 0) m2 Q := by
    intro s hs2 m2 hF e1 e3
    have hsr := advS_rng (T := T) hx
    rw [← hs2] at hsr
    have et : m2 107 = T := by rw [hF 107 (by simp)]; exact hT
    have hE := advE_rng (T := T) hsr.2
    have hgl : ∀ g : Int32, g = b01 (bwd x && Nat.beq s x.en) → ∀ m3 : Mem, Fr [161] m m3 → m3 161 1 = nI n → m3 161 3 = nI s → m3 161 5 = nI (advK T n s) → m3 161 6 = g → ∀ l1 l2 : Option Value, Xs (d + 2) 26 122 [some (.ref 161), l1, l2] [] (SR L r) (0, 0) m3 Q := by
      intro g hg m3 hF3 f1 f3 f5 f6 l1 l2
      refine Xs_wp (cut2 32 146) t26 60 ?_
      refine ⟨srO, ?_⟩
      rw [f5]
      have fin : ∀ m4, Fr [161] m m4 → m4 161 1 = nI n → m4 161 3 = nI s → m4 161 4 = nI (advE T n s) → m4 161 5 = nI (advK T n s) → m4 161 6 = g → Q none (SR L r) m4 := by
        intro m4 hF4 g1 g3 g4 g5 g6
        refine hQ m4 hF4 ⟨g1, ?_, ?_, ?_, ?_⟩
        · show _ = nI (advS T n x.en); rw [← hs2]; exact g3
        · show _ = nI (advE T n (advS T n x.en)); rw [← hs2]; exact g4
        · show _ = nI (advK T n (advS T n x.en)); rw [← hs2]; exact g5
        · show _ = b01 (bwd x && Nat.beq (advS T n x.en) x.en); rw [← hs2, g6]; exact hg
      by_cases q : advK T n s = 0
      · refine ifI (fun _ => ?_) (fun z => absurd (by rw [q]; rfl) z)
        refine ⟨srO, ?_⟩
        rw [f3]
        refine ⟨srO, ?_⟩
        refine Xs_wp (cut2 32 146) t26 60 ?_
        refine ⟨srO, ?_⟩
        rw [mu_ne (by decide), f5, q]
        refine ⟨srO, ?_⟩
        rw [mu_at]
        refine ⟨srO, ?_⟩
        rw [mu_ne (by decide), f1]
        have := hE.2.2.2.1 q
        refine ifI (fun z => absurd z (nI_nlt (by omega) (by omega))) (fun _ => ?_)
        have ee : advE T n s = s := if_pos q
        refine fin _ (hF3.mu (by simp)) (by rw [mu_ne (by decide)]; exact f1) (by rw [mu_ne (by decide)]; exact f3) (by rw [mu_at, ee]) (by rw [mu_ne (by decide)]; exact f5) (by rw [mu_ne (by decide)]; exact f6)
      · refine ifI (fun z => absurd ((nI_eq (b := 0) (by omega) (by omega)).mp z) q) (fun _ => ?_)
        refine ⟨srO, ?_⟩
        rw [f3]
        refine ⟨srO, ?_⟩
        rw [nI_1]
        have hlt := hE.2.2.1 q
        by_cases q1 : advK T n s = 1
        · refine Xs_wp (cut2 32 146) t26 60 ?_
          refine ⟨srO, ?_⟩
          rw [mu_ne (by decide), f5, q1]
          have ee : advE T n s = s + 1 := (if_neg q).trans (if_pos q1)
          refine fin _ (hF3.mu (by simp)) (by rw [mu_ne (by decide)]; exact f1) (by rw [mu_ne (by decide)]; exact f3) (by rw [mu_at, ee]) (by rw [mu_ne (by decide)]; exact f5) (by rw [mu_ne (by decide)]; exact f6)
        · have ee : advE T n s = rn T (advK T n s) (n - (s + 1)) (s + 1) := (if_neg q).trans (if_neg q1)
          refine loop2 s (advK T n s) _ _ hsr.2 q q1 hE.2.2.2.2 (n - (s + 1)) (s + 1) (by omega) _ (hF3.mu (by simp)) (by rw [mu_ne (by decide)]; exact f1) (by rw [mu_ne (by decide)]; exact f3) (by rw [mu_at]) (by rw [mu_ne (by decide)]; exact f5) (fun m4 hF4 g1 g3 g4 g5 g6 => ?_)
          refine fin m4 ((hF3.mu (by simp)).trans hF4) g1 g3 (by rw [ee]; exact g4) g5 (by rw [g6, mu_ne (by decide)]; exact f6)
    -- the glued bit
    have glu : ∀ m3 : Mem, Fr [161] m m3 → m3 161 1 = nI n → m3 161 3 = nI s → m3 161 5 = nI (advK T n s) → Xs (d + 2) 26 101 [some (.ref 161), some (.int (b01 (bwd x))), some (.int (nI x.en))] [] (SR L r) (0, 0) m3 Q := by
      intro m3 hF3 f1 f3 f5
      have put : ∀ g : Int32, g = b01 (bwd x && Nat.beq s x.en) → Xs (d + 2) 26 122 [some (.ref 161), some (.int (b01 (bwd x))), some (.int (nI x.en))] [] (SR L r) (0, 0) (mu m3 161 6 g) Q := fun g hg =>
        hgl g hg _ (hF3.mu (by simp)) (by rw [mu_ne (by decide)]; exact f1) (by rw [mu_ne (by decide)]; exact f3) (by rw [mu_ne (by decide)]; exact f5) (by rw [mu_at]) _ _
      refine Xs_wp (fun pc => Nat.beq pc 122) t26 60 ?_
      by_cases q : bwd x = true
      · rw [q] at put ⊢
        refine ⟨srO, ?_⟩
        rw [f3]
        refine ifI (fun z => ?_) (fun z => ?_)
        · have ez := (nI_eq (by omega) (by omega)).mp z
          refine ⟨⟨srO.1, srO.2, Or.inr rfl⟩, put 1 ?_⟩
          rw [ez, Nat.beq_refl]; rfl
        · have ez : Nat.beq s x.en = false := by
            cases hb : Nat.beq s x.en
            · rfl
            · exact absurd (by rw [Nat.eq_of_beq_eq_true hb]) z
          refine ⟨⟨srO.1, srO.2, Or.inl rfl⟩, put 0 ?_⟩
          rw [ez]; rfl
      · have q : bwd x = false := by simpa using q
        rw [q] at put ⊢
        exact ⟨⟨srO.1, srO.2, Or.inl rfl⟩, put 0 rfl⟩
    refine Xs_wp (fun pc => Nat.beq pc 101) t26 60 ?_
    refine ⟨srO, ?_⟩
    rw [e3]
    refine ⟨srO, ?_⟩
    rw [e1]
    by_cases q : s < n
    · refine ifI (fun _ => ?_) (fun z => absurd (nI_lt q (by omega)) z)
      refine ⟨srT, ?_⟩
      rw [srTV]
      refine ⟨srO, ?_⟩
      refine ⟨srP e3 (by omega), ?_⟩
      rw [clK e3 (by omega), et]
      refine c_sortOf ?_
      refine ⟨srO, ?_⟩
      have ek : advK T n s = sor (T s) := if_pos q
      rw [← ek]
      exact glu _ (hF.mu (by simp)) (by rw [mu_ne (by decide)]; exact e1) (by rw [mu_ne (by decide)]; exact e3) (by rw [mu_at])
    · refine ifI (fun z => absurd z (nI_nlt (by omega) (by omega))) (fun _ => ?_)
      refine ⟨srO, ?_⟩
      have ek : advK T n s = 0 := if_neg q
      exact glu _ (hF.mu (by simp)) (by rw [mu_ne (by decide)]; exact e1) (by rw [mu_ne (by decide)]; exact e3) (by rw [mu_at, ek]; rfl)
  have loop1 : ∀ k p, p + k = n → advS T n x.en = sk T k p → ∀ m2 : Mem, Fr [161] m m2 → m2 161 1 = nI n → m2 161 3 = nI p → Xs (d + 2) 26 32 [some (.ref 161), some (.int (b01 (bwd x))), some (.int (nI x.en))] [] (SR L r) (0, 0) m2 Q := by
    intro k
    induction k with
    | zero =>
      intro p hp hsk m2 hF e1 e3
      refine Xs_wp (cut2 32 70) t26 60 ?_
      refine ⟨srO, ?_⟩
      rw [e3]
      refine ⟨srO, ?_⟩
      rw [e1]
      refine ifI (fun z => absurd z (nI_nlt (by omega) (by omega))) (fun _ => ?_)
      exact tail p hsk.symm m2 hF e1 e3
    | succ k ih =>
      intro p hp hsk m2 hF e1 e3
      have et : m2 107 = T := by rw [hF 107 (by simp)]; exact hT
      refine Xs_wp (cut2 32 70) t26 60 ?_
      refine ⟨srO, ?_⟩
      rw [e3]
      refine ⟨srO, ?_⟩
      rw [e1]
      refine ifI (fun _ => ?_) (fun z => absurd (nI_lt (by omega) (by omega)) z)
      refine ⟨srT, ?_⟩
      rw [srTV]
      refine ⟨srO, ?_⟩
      refine ⟨srP e3 (by omega), ?_⟩
      rw [clK e3 (by omega), et]
      refine ifI (fun z => ?_) (fun z => ?_)
      · have er : sk T (k + 1) p = sk T k (p + 1) := if_pos z
        rw [er] at hsk
        refine ⟨srO, ?_⟩
        refine ⟨srO, ?_⟩
        rw [e3, nI_1]
        exact ih (p + 1) (by omega) hsk _ (hF.mu (by simp)) (by rw [mu_ne (by decide)]; exact e1) (by rw [mu_at])
      · have er : sk T (k + 1) p = p := if_neg z
        rw [er] at hsk
        exact tail p hsk.symm m2 hF e1 e3
  have go : ∀ b : Int32, b = b01 (bwd x) → Xs (d + 2) 26 22 [some (.ref 161), some (.int b), none] [] (SR L r) (0, 0) m Q := by
    intro b hb
    subst hb
    refine Xs_wp (cut1 32) t26 60 ?_
    refine ⟨srO, ?_⟩
    rw [h4]
    refine ⟨srO, ?_⟩
    exact loop1 (n - x.en) x.en (by omega) rfl _ (Fr.refl.mu (by simp)) (by rw [mu_ne (by decide)]; exact h1) (by rw [mu_at])
  refine Mc_wp (cut1 22) t26 rfl rfl rfl 60 ?_
  refine ⟨srO, ?_⟩
  rw [h5]
  refine ifI (fun z => ?_) (fun z => ?_)
  · have e := (nI_eq (b := 2) (by omega) (by omega)).mp z
    exact go 1 (by unfold bwd; rw [e]; rfl)
  · refine ⟨srO, ?_⟩
    rw [h5]
    have e2 : Nat.beq x.so 2 = false := by
      cases hb : Nat.beq x.so 2
      · rfl
      · exact absurd (by rw [Nat.eq_of_beq_eq_true hb]; rfl) z
    refine ifI (fun z2 => ?_) (fun z2 => ?_)
    · have e := (nI_eq (b := 3) (by omega) (by omega)).mp z2
      exact go 1 (by unfold bwd; rw [e]; rfl)
    · have e3 : Nat.beq x.so 3 = false := by
        cases hb : Nat.beq x.so 3
        · rfl
        · exact absurd (by rw [Nat.eq_of_beq_eq_true hb]; rfl) z2
      exact go 0 (by unfold bwd; rw [e2, e3]; rfl)
