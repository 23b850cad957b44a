-- pairs: copy
def rowOk (p y : Int32) (n : Nat) : Prop := ∃ a b : Nat, p = nI a ∧ y = nI b ∧ a + b ≤ n
theorem rowOk_iff {p y : Int32} {n : Nat} (hn : n ≤ 24) : rowOk p y n ↔ (¬ p < 0 ∧ ¬ y < 0 ∧ ¬ nI n - y < p) := by
  constructor
  · rintro ⟨a, b, rfl, rfl, h⟩
    refine ⟨nI_pos (by omega), nI_pos (by omega), ?_⟩
    rw [pk_sub (by omega)]
    exact nI_nlt (by omega) (by omega)
  · rintro ⟨h1, h2, h3⟩
    obtain ⟨a, ha, rfl⟩ := nI_of h1
    obtain ⟨b, hb, rfl⟩ := nI_of h2
    refine ⟨a, b, rfl, rfl, ?_⟩
    rw [tI_lt] at h3
    have e : (nI n - nI b : Int32).toInt = (n : Int) - b := by rw [tI_sub (by rw [nI_toInt (by omega), nI_toInt hb]; omega) (by rw [nI_toInt (by omega), nI_toInt hb]; omega), nI_toInt (by omega), nI_toInt hb]
    rw [e, nI_toInt ha] at h3
    omega
theorem c_hasRow {d L c n : Nat} {mem : Mem} {Q : Qt} {p y : Int32} (hc : shC L c) (hn : mem c 1 = nI n) (h24 : n ≤ 24) (h1 : rowOk p y n → Q (some (.int 1)) (S0 L) mem) (h0 : ¬ rowOk p y n → Q (some (.int 0)) (S0 L) mem) : Mc (d + 2) 41 [.ref c, .int p, .int y] (S0 L) mem Q := by
  refine Mc_wp nocut t41 rfl rfl rfl 60 ?_
  refine ⟨shO hc, ?_⟩
  rw [hn]
  refine c_within (fun q1 q2 => ?_) (fun q => ?_)
  · refine ⟨shO hc, ?_⟩
    rw [hn]
    refine c_within (fun q3 q4 => ?_) (fun q => ?_)
    · exact ⟨Or.inr rfl, h1 ((rowOk_iff h24).mpr ⟨Int32.not_lt.mpr q3, Int32.not_lt.mpr q1, Int32.not_lt.mpr q4⟩)⟩
    · refine ⟨Or.inl rfl, h0 (fun z => ?_)⟩
      have z' := (rowOk_iff h24).mp z
      rcases q with q | q
      · exact z'.1 q
      · exact z'.2.2 q
  · refine ⟨Or.inl rfl, h0 (fun z => ?_)⟩
    obtain ⟨a, b, rfl, rfl, hab⟩ := z
    rcases q with q | q
    · exact nI_pos (by omega) q
    · exact nI_nlt (by omega) (by omega) q
