-- bounds over days
theorem drawV_pos (z : Int32) : 0 ≤ (drawV z).toInt := by
  have h : (drawV z).toBitVec.toNat = (drawN z).toBitVec.toNat / 2 ^ 8 := pk_ushr (drawN z) 8 8 (by decide)
  have h2 := (drawN z).toBitVec.isLt
  have e : (drawV z).toInt = ((drawV z).toBitVec.toNat : Int) := by
    show (drawV z).toBitVec.toInt = _
    rw [BitVec.toInt_eq_toNat_of_lt]
    rw [h]; omega
  omega
theorem clamp_rng {v : Int32} {a b : Int32} (h : a.toInt ≤ b.toInt) : a.toInt ≤ (clamp v a b).toInt ∧ (clamp v a b).toInt ≤ b.toInt := by
  unfold clamp
  by_cases h1 : v < a
  · rw [if_pos h1]; omega
  · rw [if_neg h1]
    rw [tI_lt] at h1
    by_cases h2 : b < v
    · rw [if_pos h2]; omega
    · rw [if_neg h2]
      rw [tI_lt] at h2; omega
theorem plainA_rng {A : Nat → Int32} {t : Nat} {x : Int32} (hp : 0 ≤ (A (44 + 6 * t + 1)).toInt ∧ (A (44 + 6 * t + 1)).toInt ≤ 20) : 0 ≤ (plainA A t x).toInt ∧ (plainA A t x).toInt ≤ 99 := by
  unfold plainA
  split
  · omega
  · exact clamp_rng (by decide)
theorem half_rng {p : Int32} (hp : 0 ≤ p.toInt ∧ p.toInt ≤ 99) : 0 ≤ (p / 2).toInt ∧ (p / 2).toInt ≤ 49 := by
  have e2 : (2 : Int32).toInt = 2 := rfl
  rw [tI_div (by decide), e2, Int.tdiv_eq_ediv_of_nonneg hp.1]
  omega
theorem stepV_rng {kind p cold age x : Int32} (hp : 0 ≤ p.toInt ∧ p.toInt ≤ 99) (hx : 0 ≤ x.toInt ∧ x.toInt ≤ 9) (ha : 0 ≤ age.toInt) : 0 ≤ (stepV kind p cold age x).toInt ∧ (stepV kind p cold age x).toInt ≤ 111 := by
  have hh := half_rng hp
  have hq : 0 ≤ (quickV cold p).toInt ∧ (quickV cold p).toInt ≤ 102 := by
    unfold quickV
    have e3 : (3 : Int32).toInt = 3 := rfl
    split
    · rw [tI_add (by omega) (by omega), e3]; omega
    · omega
  have hr := tI_rng age
  have hg : 0 ≤ (age / 1000).toInt ∧ (age / 1000).toInt ≤ 2147483648 := by
    have e2 : (1000 : Int32).toInt = 1000 := rfl
    rw [tI_div (by decide), e2, Int.tdiv_eq_ediv_of_nonneg ha]
    omega
  have ho : 0 ≤ (oldV p age).toInt ∧ (oldV p age).toInt ≤ 49 := by
    unfold oldV
    have e0 : (0 : Int32).toInt = 0 := rfl
    by_cases q : p / 2 - age / 1000 < 0
    · rw [if_pos q, e0]; omega
    · rw [if_neg q]
      rw [tI_lt, e0] at q
      have hr2 := tI_rng (age / 1000)
      have := tI_sub (x := p / 2) (y := age / 1000) (by omega) (by omega)
      omega
  have e0 : (0 : Int32).toInt = 0 := rfl
  unfold stepV
  split
  · omega
  split
  · omega
  split
  · omega
  split
  · rw [tI_add (by omega) (by omega)]; omega
  split
  · rw [e0]; omega
  · omega
theorem farV_rng {A : Nat → Int32} {t : Nat} (hp : 0 ≤ (A (44 + 6 * t + 1)).toInt ∧ (A (44 + 6 * t + 1)).toInt ≤ 20) (ha : 0 ≤ (A (44 + 6 * t + 3)).toInt) : 0 ≤ (farV A t).toInt ∧ (farV A t).toInt ≤ 111 := by
  unfold farV
  split
  · unfold stepA
    have e3 : drawA A (44 + 6 * t + 3) = A (44 + 6 * t + 3) := pk_un (by omega)
    have e1 : drawA A (44 + 6 * t + 1) = A (44 + 6 * t + 1) := pk_un (by omega)
    have hx := rm_pos (x := drawV (A 0)) (y := 10) (by decide) (drawV_pos _)
    have e10 : (10 : Int32).toInt = 10 := rfl
    rw [e10] at hx
    exact stepV_rng (plainA_rng (by rw [e1]; exact hp)) (by omega) (by rw [e3]; exact ha)
  · exact ⟨by decide, by decide⟩
theorem wt_day {B : Int} {nt : Nat} {A : Nat → Int32} (hB : 0 ≤ B) (hB2 : B ≤ 1000000000) (h : WT B nt A) (hn : ntA A = nt) (h8 : nt ≤ 8) : WT (B + 111) nt (dayA A) := by
  intro t ht
  have h1 := h t ht
  have later : ∀ n, t < n → n ≤ 8 → ∀ f, f < 6 → dayL A n (44 + 6 * t + f) = dayT (dayL A t) t (44 + 6 * t + f) := by
    intro n
    induction n with
    | zero => intro q; omega
    | succ n ih =>
      intro q q8 f hf
      show dayT (dayL A n) n (44 + 6 * t + f) = _
      by_cases e : t = n
      · subst e; rfl
      · rw [dayT_other e hf]; exact ih (by omega) (by omega) f hf
  have e : ∀ f, f < 6 → dayA A (44 + 6 * t + f) = dayT (dayL A t) t (44 + 6 * t + f) := fun f hf => by
    unfold dayA
    rw [pk_un (by omega), hn]
    exact later nt ht h8 f hf
  have c : ∀ f, f < 6 → dayL A t (44 + 6 * t + f) = A (44 + 6 * t + f) := fun f hf => dayL_later hf (Nat.le_refl _)
  rw [e 0 (by omega), e 1 (by omega), e 2 (by omega), e 3 (by omega)]
  unfold dayT
  by_cases q : dayL A t (44 + 6 * t + 5) = 1
  · rw [if_pos q, c 0 (by omega), c 1 (by omega), c 2 (by omega), c 3 (by omega)]
    omega
  · rw [if_neg q]
    have hf := farV_rng (A := dayL A t) (t := t) (by rw [c 1 (by omega)]; exact h1.2.1) (by rw [c 3 (by omega)]; exact h1.2.2.2.1)
    have d0 : ∀ f, f < 6 → drawA (dayL A t) (44 + 6 * t + f) = A (44 + 6 * t + f) := fun f hf => (pk_un (by omega)).trans (c f hf)
    have e1 : (1 : Int32).toInt = 1 := rfl
    refine ⟨?_, ?_, ?_, ?_⟩
    · rw [pk_un (by omega), pk_un (by omega), pk_un (by omega), d0 0 (by omega)]; exact h1.1
    · rw [pk_un (by omega), pk_un (by omega), pk_un (by omega), d0 1 (by omega)]; exact h1.2.1
    · rw [pk_un (by omega), pk_un (by omega), pk_us, c 2 (by omega)]
      split
      · rw [tI_add (by rw [tI_neg (by omega)]; omega) (by rw [tI_neg (by omega)]; omega), tI_neg (by omega)]; omega
      · rw [tI_add (by omega) (by omega)]; omega
    · rw [pk_un (by omega), pk_us, c 3 (by omega), tI_add (by omega) (by omega), e1]; omega
theorem goes_out {i : Nat} (h0 : i ≠ 0) (h2 : i ≠ 2) (h : i < 44 ∨ 92 ≤ i) : ∀ (n : Nat) {A : Nat → Int32}, ntA A ≤ 8 → goesA n A i = A i
  | 0, _, _ => rfl
  | n + 1, A, hn => by
    have e : ntA (dayA A) = ntA A := by unfold ntA; rw [dayA_out (by omega) (by omega) (by omega) hn]
    show goesA n (dayA A) i = A i
    rw [goes_out h0 h2 h n (by rw [e]; exact hn), dayA_out h0 h2 h hn]
theorem goes_nt {n : Nat} {A : Nat → Int32} (hn : ntA A ≤ 8) : ntA (goesA n A) = ntA A := by unfold ntA; rw [goes_out (by omega) (by omega) (by omega) n hn]
theorem wt_goes {nt : Nat} (h8 : nt ≤ 8) : ∀ (n : Nat) {B : Int} {A : Nat → Int32}, 0 ≤ B → B + 111 * (n : Int) ≤ 1000000000 → WT B nt A → ntA A = nt → WT (B + 111 * (n : Int)) nt (goesA n A)
  | 0, B, A, hB, hB2, h, hn => by
    show WT (B + 111 * ((0 : Nat) : Int)) nt A
    exact h.mono (by omega)
  | n + 1, B, A, hB, hB2, h, hn => by
    have e : ntA (dayA A) = ntA A := by unfold ntA; rw [dayA_out (by omega) (by omega) (by omega) (by rw [hn]; exact h8)]
    have := wt_goes h8 n (B := B + 111) (A := dayA A) (by omega) (by omega) (wt_day hB (by omega) h hn h8) (by rw [e]; exact hn)
    exact this.mono (by omega)
theorem wb_goes {nt : Nat} : ∀ (n : Nat) {A : Nat → Int32}, WB nt A → WB nt (goesA n A)
  | 0, _, h => h
  | n + 1, _, h => wb_goes n (wb_dayA h)
theorem goes_day : ∀ (n : Nat) {A : Nat → Int32}, ntA A ≤ 8 → goesA n A 2 = A 2 + nI n
  | 0, A, _ => (Int32.add_zero (A 2)).symm
  | n + 1, A, hn => by
    have e : ntA (dayA A) = ntA A := by unfold ntA; rw [dayA_out (by omega) (by omega) (by omega) hn]
    show goesA n (dayA A) 2 = _
    rw [goes_day n (by rw [e]; exact hn)]
    have e2 : dayA A 2 = A 2 + 1 := by unfold dayA; exact pk_us
    rw [e2, Int32.add_assoc, ← nI_1, Int32.add_comm 1]
theorem ws_goes {nw : Nat} {A : Nat → Int32} (n : Nat) (h : WS nw A) (hw : nw ≤ 12) (hn : ntA A ≤ 8) : WS nw (goesA n A) := fun w hw' => by
  rw [goes_out (by omega) (by omega) (by omega) n hn]; exact h w hw'
theorem wa_goes {B : Int} {nt nw n : Nat} {A : Nat → Int32} (h8 : nt ≤ 8) (h12 : nw ≤ 12) (hB : 0 ≤ B) (hB2 : B + 111 * (n : Int) ≤ 1000000000) (h : WA B nt nw A) (hn : ntA A = nt) (hd : (A 2).toInt + n ≤ 9999) : WA (B + 111 * (n : Int)) nt nw (goesA n A) := by
  obtain ⟨h1, h2, h3, h4⟩ := h
  have hn8 : ntA A ≤ 8 := by rw [hn]; exact h8
  refine ⟨?_, wt_goes h8 n hB hB2 h2 hn, wb_goes n h3, ws_goes n h4 h12 hn8⟩
  unfold WR
  rw [goes_out (by omega) (by omega) (by omega) n hn8, goes_out (by omega) (by omega) (by omega) n hn8, goes_out (by omega) (by omega) (by omega) n hn8, goes_day n hn8]
  have hd2 := h1.2.2.2
  have en : (nI n).toInt = n := nI_toInt (by omega)
  refine ⟨h1.1, h1.2.1, h1.2.2.1, ?_⟩
  rw [tI_add (by omega) (by omega), en]; omega
