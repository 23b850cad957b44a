-- the class: a moat, against the reference's array A
theorem mo_all : ∀ b, MB b → CLy b = 1 ∧ CLy (b + 1) = 24 ∧ CLy (b + 2) = 25 ∧ CLy (b + 3) = 20 ∧ LNz (b + 1) = 8 ∧ LNz (b + 2) = 12 ∧ LNz (b + 3) = 3 ∧ RFy b 0 = 2 ∧ RFy b 1 = b + 2 ∧ RFy b 2 = b + 3 ∧ RFy b 3 = b + 4 := by
  intro b hb
  rcases hb with rfl | rfl | rfl <;> decide
theorem LNy_lt {L k : Nat} (h : k < 161) : (S0 L).2.2.1 k = LNz k := by
  show LNy L k = LNz k
  unfold LNy
  have : Nat.beq k 900 = false := by
    cases hq : Nat.beq k 900
    · rfl
    · have := Nat.eq_of_beq_eq_true hq; omega
  rw [this]; rfl
theorem moC {L b : Nat} (h : MB b) : (S0 L).2.1 b = 1 ∧ b < (S0 L).1 := ⟨(mo_all b h).1, by have := mb_lt h; show b < 161; omega⟩
theorem moK0 {L b : Nat} (h : MB b) : (S0 L).2.1 b = 1 ∧ b < (S0 L).1 ∧ ¬ (S0 L).2.2.2 b 0 = 0 := ⟨(moC (L := L) h).1, (moC (L := L) h).2, by show ¬ RFy b 0 = 0; rw [(mo_all b h).2.2.2.2.2.2.2.1]; omega⟩
theorem moK1 {L b : Nat} (h : MB b) : (S0 L).2.1 b = 1 ∧ b < (S0 L).1 ∧ ¬ (S0 L).2.2.2 b 1 = 0 := ⟨(moC (L := L) h).1, (moC (L := L) h).2, by show ¬ RFy b 1 = 0; rw [(mo_all b h).2.2.2.2.2.2.2.2.1]; omega⟩
theorem moK2 {L b : Nat} (h : MB b) : (S0 L).2.1 b = 1 ∧ b < (S0 L).1 ∧ ¬ (S0 L).2.2.2 b 2 = 0 := ⟨(moC (L := L) h).1, (moC (L := L) h).2, by show ¬ RFy b 2 = 0; rw [(mo_all b h).2.2.2.2.2.2.2.2.2.1]; omega⟩
theorem moK3 {L b : Nat} (h : MB b) : (S0 L).2.1 b = 1 ∧ b < (S0 L).1 ∧ ¬ (S0 L).2.2.2 b 3 = 0 := ⟨(moC (L := L) h).1, (moC (L := L) h).2, by show ¬ RFy b 3 = 0; rw [(mo_all b h).2.2.2.2.2.2.2.2.2.2]; omega⟩
theorem moV0 {L b : Nat} (h : MB b) : (S0 L).2.2.2 b 0 - 1 = 1 := by show RFy b 0 - 1 = _; rw [(mo_all b h).2.2.2.2.2.2.2.1]
theorem moV1 {L b : Nat} (h : MB b) : (S0 L).2.2.2 b 1 - 1 = b + 1 := by show RFy b 1 - 1 = _; rw [(mo_all b h).2.2.2.2.2.2.2.2.1]; omega
theorem moV2 {L b : Nat} (h : MB b) : (S0 L).2.2.2 b 2 - 1 = b + 2 := by show RFy b 2 - 1 = _; rw [(mo_all b h).2.2.2.2.2.2.2.2.2.1]; omega
theorem moV3 {L b : Nat} (h : MB b) : (S0 L).2.2.2 b 3 - 1 = b + 3 := by show RFy b 3 - 1 = _; rw [(mo_all b h).2.2.2.2.2.2.2.2.2.2]; omega
theorem heK {L b t : Nat} {i : Int32} (h : MB b) (e : i = nI t) (ht : t < 8) : 23 ≤ (S0 L).2.1 (b + 1) ∧ b + 1 < (S0 L).1 ∧ vp_in i ((S0 L).2.2.1 (b + 1)) ∧ ¬ (S0 L).2.2.2 (b + 1) i.toNatClampNeg = 0 := by
  have hl := mb_lt h
  have a := mo_all b h
  refine ⟨by show 23 ≤ CLy (b + 1); rw [a.2.1]; omega, by show b + 1 < 161; omega, ?_, ?_⟩
  · rw [LNy_lt (by omega), a.2.2.2.2.1]
    exact vinK e ht rfl
  · rw [clK e (by omega)]
    show ¬ RFy (b + 1) t = 0
    rw [herd_at b h t ht]; omega
theorem heV {L b t : Nat} {i : Int32} (h : MB b) (e : i = nI t) (ht : t < 8) : (S0 L).2.2.2 (b + 1) i.toNatClampNeg - 1 = b + 4 + t := by
  rw [clK e (by omega)]
  show RFy (b + 1) t - 1 = _
  rw [herd_at b h t ht]; omega
theorem beK {L b t : Nat} {i : Int32} (h : MB b) (e : i = nI t) (ht : t < 12) : 23 ≤ (S0 L).2.1 (b + 2) ∧ b + 2 < (S0 L).1 ∧ vp_in i ((S0 L).2.2.1 (b + 2)) ∧ ¬ (S0 L).2.2.2 (b + 2) i.toNatClampNeg = 0 := by
  have hl := mb_lt h
  have a := mo_all b h
  refine ⟨by show 23 ≤ CLy (b + 2); rw [a.2.2.1]; omega, by show b + 2 < 161; omega, ?_, ?_⟩
  · rw [LNy_lt (by omega), a.2.2.2.2.2.1]
    exact vinK e ht rfl
  · rw [clK e (by omega)]
    show ¬ RFy (b + 2) t = 0
    rw [bets_at b h t ht]; omega
theorem beV {L b t : Nat} {i : Int32} (h : MB b) (e : i = nI t) (ht : t < 12) : (S0 L).2.2.2 (b + 2) i.toNatClampNeg - 1 = b + 12 + t := by
  rw [clK e (by omega)]
  show RFy (b + 2) t - 1 = _
  rw [bets_at b h t ht]; omega
theorem coK {L b t : Nat} {i : Int32} (h : MB b) (e : i = nI t) (ht : t < 3) : (S0 L).2.1 (b + 3) = 20 ∧ b + 3 < (S0 L).1 ∧ vp_in i ((S0 L).2.2.1 (b + 3)) := by
  have hl := mb_lt h
  have a := mo_all b h
  refine ⟨a.2.2.2.1, by show b + 3 < 161; omega, ?_⟩
  rw [LNy_lt (by omega), a.2.2.2.2.2.2.1]
  exact vinK e ht rfl
theorem heC {L b t : Nat} (h : MB b) (ht : t < 8) : tuC L (b + 4 + t) := ⟨cl_herd b h t ht, by have := mb_lt h; show b + 4 + t < 161; omega⟩
theorem beC {L b t : Nat} (h : MB b) (ht : t < 12) : waC L (b + 12 + t) := ⟨cl_bets b h t ht, by have := mb_lt h; show b + 12 + t < 161; omega⟩
/-- the moat at cell b stands for the array A -/
def RepM (b nt nw nx : Nat) (A : Nat → Int32) (m : Mem) : Prop :=
  (m b 4 = nI nt ∧ m b 5 = nI nw ∧ m b 6 = nI nx ∧ m b 7 = A 3 ∧ m b 8 = A 4 ∧ m b 9 = A 5 ∧ m b 10 = A 2 ∧ m b 11 = A 0) ∧ (A 1 = nI nt ∧ A 6 = nI nw ∧ A 7 = nI nx) ∧ (nt ≤ 8 ∧ nw ≤ 12 ∧ nx ≤ 14) ∧
  (∀ t f, t < nt → f < 6 → m (b + 4 + t) f = A (44 + 6 * t + f)) ∧ (∀ w f, w < nw → f < 3 → m (b + 12 + w) f = A (8 + 3 * w + f)) ∧ (∀ k, k < 3 → m (b + 3) k = tol (opI (cntO A (nI k) nx)))
/-- the class's texts stand for those of A -/
def RepT (nx : Nat) (A : Nat → Int32) (m : Mem) : Prop := ∀ x, x < nx → ∃ key n, key < 3 ∧ n ≤ 96 ∧ A (92 + 2 * x) = nI (1000 * key + n) ∧ wfc (cdA A x) (nmK key) n ∧ m (5 + 2 * x) 1 = nI n ∧ m (5 + 2 * x) 2 = nI key ∧ m (5 + 2 * x) 3 = A (92 + 2 * x + 1) ∧ (∀ k, k < n → cdA A x k = trC (m (6 + 2 * x) k)) ∧ ∀ k, k < n → ¬ m (6 + 2 * x) k < 0
theorem RepT.tx {nx : Nat} {A : Nat → Int32} {m : Mem} (h : RepT nx A m) : TX A nx := fun k hk => by
  obtain ⟨key, n, h1, h2, h3, h4, _⟩ := h k hk
  exact ⟨key, n, h1, h2, h3, h4⟩
theorem RepT.fr {nx : Nat} {A : Nat → Int32} {m m' : Mem} (hx : nx ≤ 14) (h : RepT nx A m) (hf : ∀ r, 5 ≤ r → r ≤ 34 → m' r = m r) : RepT nx A m' := fun x hk => by
  obtain ⟨key, n, h1, h2, h3, h4, h5, h6, h7, h8, h9⟩ := h x hk
  have e1 := hf (5 + 2 * x) (by omega) (by omega)
  have e2 := hf (6 + 2 * x) (by omega) (by omega)
  exact ⟨key, n, h1, h2, h3, h4, by rw [e1]; exact h5, by rw [e1]; exact h6, by rw [e1]; exact h7, by rw [e2]; exact h8, by rw [e2]; exact h9⟩
theorem RepT.congr {nx : Nat} {A B : Nat → Int32} {m : Mem} (h : RepT nx A m) (hf : ∀ i, 92 ≤ i → B i = A i) : RepT nx B m := fun x hk => by
  obtain ⟨key, n, h1, h2, h3, h4, h5, h6, h7, h8, h9⟩ := h x hk
  have e : cdA B x = cdA A x := by funext i; exact hf _ (by omega)
  exact ⟨key, n, h1, h2, by rw [hf _ (by omega)]; exact h3, by rw [e]; exact h4, h5, h6, by rw [hf _ (by omega)]; exact h7, by rw [e]; exact h8, h9⟩
theorem RepM.fr {b nt nw nx : Nat} {A : Nat → Int32} {m m' : Mem} (h : RepM b nt nw nx A m) (hf : ∀ r, b ≤ r → r < b + 24 → m' r = m r) : RepM b nt nw nx A m' := by
  obtain ⟨h1, h2, h3, h4, h5, h6⟩ := h
  refine ⟨?_, h2, h3, fun t f ht hf' => ?_, fun t f ht hf' => ?_, fun k hk => ?_⟩
  · rw [hf b (by omega) (by omega)]; exact h1
  · rw [hf _ (by omega) (by omega)]; exact h4 t f ht hf'
  · rw [hf _ (by omega) (by omega)]; exact h5 t f ht hf'
  · rw [hf _ (by omega) (by omega)]; exact h6 k hk
theorem c_hasWager {d L : Nat} {mem : Mem} {Q : Qt} {v : Int32} {b n : Nat} (hb : MB b) (hn : mem b 5 = nI n) (hn12 : n ≤ 12) (h1 : ∀ k, k < n → v = nI k → Q (some (.int 1)) (S0 L) mem) (h0 : (v < 0 ∨ nI n ≤ v) → Q (some (.int 0)) (S0 L) mem) : Mc (d + 2) 5 [.ref b, .int v] (S0 L) mem Q := by
  refine Mc_wp nocut t5 rfl rfl rfl 30 ?_
  refine ⟨moC hb, ?_⟩
  rw [hn]
  refine c_within (fun q1 q2 => ⟨Or.inr rfl, ?_⟩) (fun q => ⟨Or.inl rfl, ?_⟩)
  · obtain ⟨k, hk, e⟩ := ix_good (by omega) q1 q2
    exact h1 k hk e
  · exact h0 ((ix_bad (by omega)).mpr q)
theorem c_draw {d L : Nat} {mem : Mem} {Q : Qt} {b : Nat} (hb : MB b) (h : Q (some (.int (drawV (mem b 11)))) (S0 L) (mu mem b 11 (drawN (mem b 11)))) : Mc (d + 1) 8 [.ref b] (S0 L) mem Q := by
  refine Mc_wp nocut t8 rfl rfl rfl 30 ?_
  refine ⟨moC hb, ?_⟩
  refine ⟨moC hb, ?_⟩
  refine ⟨moC hb, ?_⟩
  rw [mu_at]
  exact h
