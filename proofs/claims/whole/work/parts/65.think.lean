-- what will be: common ground
theorem back_eq {A X G : Nat → Int32} (h : ∀ i, 92 ≤ i → G i = A i) : cpRow (cpRow A X 92) G 92 = A := by
  funext i
  unfold cpRow
  by_cases q : i < 92
  · rw [if_pos q, if_pos q]
  · rw [if_neg q]; exact h i (by omega)
theorem goes_tx {A : Nat → Int32} {n : Nat} (hn : ntA A ≤ 8) : ∀ i, 92 ≤ i → goesA n A i = A i := fun i hi => goes_out (by omega) (by omega) (by omega) n hn
/-- what the class's thought moat is, behind some days -/
def Th (nt nw nx : Nat) (m m1 : Mem) (G : Nat → Int32) : Prop := FrB 83 m m1 ∧ RepM 83 nt nw nx G m1 ∧ RepT nx G m1 ∧ WB nt G
theorem Th.day {d L : Nat} {Q : Qt} {nt nw nx : Nat} {m m1 : Mem} {G : Nat → Int32} (h : Th nt nw nx m m1 G) (hQ : ∀ m2, Th nt nw nx m m2 (dayA G) → Q none (S0 L) m2) : Mc (d + 6) 15 [.ref 83] (S0 L) m1 Q := by
  obtain ⟨h1, h2, h3, h4⟩ := h
  refine c_goDay mb83 h2 h3 h4 (fun m2 hF hR => hQ m2 ⟨h1.trans hF, hR, ?_, wb_dayA h4⟩)
  exact (h3.frB mb83 h2.2.2.1.2.2 hF).congr (dayA_tx (nt_of h2.2.1.1 h2.2.2.1.1) h2.2.2.1.1)
theorem Th.days {d L : Nat} {Q : Qt} {nt nw nx n : Nat} {m m1 : Mem} {G : Nat → Int32} (h : Th nt nw nx m m1 G) (hn : n < 2 ^ 31) (hQ : ∀ m2, Th nt nw nx m m2 (goesA n G) → Q none (S0 L) m2) : Mc (d + 7) 14 [.ref 83, .int (nI n)] (S0 L) m1 Q := by
  obtain ⟨h1, h2, h3, h4⟩ := h
  refine c_goDays mb83 h2 h3 h4 hn (fun m2 hF hR => hQ m2 ⟨h1.trans hF, hR, ?_, wb_goes n h4⟩)
  exact (h3.frB mb83 h2.2.2.1.2.2 hF).congr (goes_tx (by rw [nt_of h2.2.1.1 h2.2.2.1.1]; exact h2.2.2.1.1))
theorem Th.make {d L : Nat} {B : Int} {Q : Qt} {nt nw nx : Nat} {m m1 : Mem} {b : Nat} {A : Nat → Int32} (hb : MB b) (hne : 83 ≠ b) (hM : Mo B b nt nw nx A m) (hF0 : FrB 83 m m1) (hQ : ∀ m2, Th nt nw nx m m2 A → Q none (S0 L) m2) : Mc (d + 2) 3 [.ref 83, .ref b] (S0 L) m1 Q := by
  have hg := mb_ge hb
  have hfar := mb_far mb83 hb hne
  refine c_become mb83 hb hne (hM.1.fr (fun r q1 q2 => hF0 r (by omega) (by omega) (by omega))) hM.2.2.2.2.1 (fun m2 hF hR => hQ m2 ⟨hF0.trans hF, hR, ?_, hM.2.2.2.2.1⟩)
  exact hM.2.1.frB mb83 hM.1.2.2.1.2.2 (hF0.trans hF)
theorem Th.sc {nt nw nx : Nat} {m m1 : Mem} {G : Nat → Int32} (h : Th nt nw nx m m1 G) : ∀ r, ¬ scrap r → m1 r = m r := fun r hr => h.1 r (by intro e; apply hr; unfold scrap; omega) (by intro e; apply hr; unfold scrap; omega) (by unfold scrap at hr; omega)
theorem Th.e140 {nt nw nx : Nat} {m m1 : Mem} {G : Nat → Int32} (h : Th nt nw nx m m1 G) : m1 140 = m 140 := h.1 140 (by decide) (by decide) (by omega)
/-- the reference thinks: rows besides 140, 143, 150, 151 as before, now G, and what was in before -/
def Tr (m m1 : Mem) (G : Nat → Int32) : Prop := Fr [140, 143, 150, 151] m m1 ∧ m1 140 = G ∧ (∀ i, i < 92 → m1 143 i = m 140 i) ∧ ∀ i, 92 ≤ i → G i = m 140 i
theorem Tr.think {d L : Nat} {Q : Qt} {m : Mem} (hQ : ∀ m1, Tr m m1 (m 140) → Q none (S0 L) m1) : Mc (d + 1) 149 [.ref 139] (S0 L) m Q := by
  refine r_thinks (hQ _ ⟨Fr.refl.mr (by simp), mr_ne (by decide), fun i hi => ?_, fun i hi => rfl⟩)
  rw [mr_at]; exact if_pos hi
theorem Tr.day {d L nt nx : Nat} {Q : Qt} {m m1 : Mem} {G : Nat → Int32} (h : Tr m m1 G) (h1 : G 1 = nI nt) (h8 : nt ≤ 8) (h7 : G 7 = nI nx) (h14 : nx ≤ 14) (hT : TX G nx) (hQ : ∀ m2, Tr m m2 (dayA G) → Q none (S0 L) m2) : Mc (d + 4) 136 [.ref 139] (S0 L) m1 Q := by
  obtain ⟨a, b, c, e⟩ := h
  refine r_day (nt := nt) (nx := nx) (by rw [b]; exact h1) h8 (by rw [b]; exact h7) h14 (by rw [b]; exact hT) (fun m2 hF hm => hQ m2 ⟨a.trans (hF.mono (by simp)), by rw [hm, b], fun i hi => ?_, fun i hi => ?_⟩)
  · rw [hF 143 (by simp)]; exact c i hi
  · rw [dayA_tx (nt_of h1 h8) h8 i hi]; exact e i hi
theorem Tr.days {d L nt nx n : Nat} {Q : Qt} {m m1 : Mem} {G : Nat → Int32} (h : Tr m m1 G) (hn : n < 2 ^ 31) (h1 : G 1 = nI nt) (h8 : nt ≤ 8) (h7 : G 7 = nI nx) (h14 : nx ≤ 14) (hT : TX G nx) (hQ : ∀ m2, Tr m m2 (goesA n G) → Q none (S0 L) m2) : Mc (d + 5) 137 [.ref 139, .int (nI n)] (S0 L) m1 Q := by
  obtain ⟨a, b, c, e⟩ := h
  refine r_goesOn (nt := nt) (nx := nx) h8 h14 hn (by rw [b]; exact h1) (by rw [b]; exact h7) (by rw [b]; exact hT) (fun m2 hF hm => hQ m2 ⟨a.trans (hF.mono (by simp)), by rw [hm, b], fun i hi => ?_, fun i hi => ?_⟩)
  · rw [hF 143 (by simp)]; exact c i hi
  · rw [goes_tx (by rw [nt_of h1 h8]; exact h8) i hi]; exact e i hi
theorem Tr.back {d L : Nat} {Q : Qt} {m m1 : Mem} {G : Nat → Int32} (h : Tr m m1 G) (hQ : ∀ m2, Tr m m2 (m 140) → Q none (S0 L) m2) : Mc (d + 1) 150 [.ref 139] (S0 L) m1 Q := by
  obtain ⟨a, b, c, e⟩ := h
  refine r_putsBack (hQ _ ⟨a.mr (by simp), ?_, fun i hi => ?_, fun i hi => rfl⟩)
  · rw [mr_at]
    funext i
    unfold cpRow
    by_cases q : i < 92
    · rw [if_pos q]; exact c i q
    · rw [if_neg q, b]; exact e i (by omega)
  · rw [mr_ne (by decide)]; exact c i hi
theorem Tr.sim {scr : Nat → Int32} {k nt nw nx : Nat} {m m1 m2 : Mem} {G : Nat → Int32} (h : Sim scr k m) (hC : Th nt nw nx m m1 G) (hT : Tr m1 m2 (m1 140)) : Sim scr (k + 1) m2 := by
  refine sim_scrap h (fun r hr => ?_)
  by_cases e : r = 140
  · subst e; rw [hT.2.1, hC.e140]
  · rw [hT.1 r (by simp; unfold scrap at hr; omega)]
    exact hC.sc r hr
theorem Tr.tx {m m1 : Mem} {G : Nat → Int32} {nx : Nat} (h : Tr m m1 G) (hT : TX (m 140) nx) : TX G nx := TX_congr h.2.2.2 hT
