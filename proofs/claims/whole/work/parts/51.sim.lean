-- class and reference side by side
def bd (k : Nat) : Int := 10000 + 40000 * (k : Int)
def WT (B : Int) (nt : Nat) (A : Nat → Int32) : Prop := ∀ t, t < nt → (0 ≤ (A (44 + 6 * t + 0)).toInt ∧ (A (44 + 6 * t + 0)).toInt ≤ 5) ∧ (0 ≤ (A (44 + 6 * t + 1)).toInt ∧ (A (44 + 6 * t + 1)).toInt ≤ 20) ∧ (-B ≤ (A (44 + 6 * t + 2)).toInt ∧ (A (44 + 6 * t + 2)).toInt ≤ B) ∧ (0 ≤ (A (44 + 6 * t + 3)).toInt ∧ (A (44 + 6 * t + 3)).toInt ≤ B)
def WR (A : Nat → Int32) : Prop := (10 ≤ (A 3).toInt ∧ (A 3).toInt ≤ 999) ∧ (0 ≤ (A 4).toInt ∧ (A 4).toInt ≤ 99) ∧ (1 ≤ (A 5).toInt ∧ (A 5).toInt ≤ 9999) ∧ (0 ≤ (A 2).toInt ∧ (A 2).toInt ≤ 9999)
/-- an array as it can come to be -/
def WA (B : Int) (nt nw : Nat) (A : Nat → Int32) : Prop := WR A ∧ WT B nt A ∧ WB nt A ∧ WS nw A
theorem WT.mono {B B' : Int} {nt : Nat} {A : Nat → Int32} (h : WT B nt A) (hB : B ≤ B') : WT B' nt A := fun t ht => by
  have := h t ht
  omega
theorem WA.mono {B B' : Int} {nt nw : Nat} {A : Nat → Int32} (h : WA B nt nw A) (hB : B ≤ B') : WA B' nt nw A := ⟨h.1, h.2.1.mono hB, h.2.2⟩
/-- the moat at b, with its array -/
def Mo (B : Int) (b nt nw nx : Nat) (A : Nat → Int32) (m : Mem) : Prop := RepM b nt nw nx A m ∧ RepT nx A m ∧ WA B nt nw A
def SimM (B : Int) (m : Mem) : Prop := (∃ nt nw nx, Mo B 35 nt nw nx (m 140) m ∧ (m 0 4 = 0 ∨ (m 0 4 = 1 ∧ ∃ it iw ix, Mo B 59 it iw ix (m 141) m ∧ ix ≤ nx))) ∧ m 139 3 = m 0 4
def SimT (m : Mem) : Prop := (∃ n, n ≤ 96 ∧ m 0 6 = nI n) ∧ m 139 6 = m 0 6 ∧ ∀ i, i < 96 → m 144 i = m 107 i ∧ ∃ v, v < 256 ∧ m 107 i = nI v
def okPl (v : Int32) : Prop := v = NONEv ∨ (-99999 ≤ v.toInt ∧ v.toInt ≤ 99999)
def SimS (m : Mem) : Prop := ∀ i, i < 4 → m 152 i = m (111 + 2 * i) 0 ∧ m 153 i = m (111 + 2 * i) 1 ∧ (m (111 + 2 * i) 0 = -1 ∨ m (111 + 2 * i) 0 = 0 ∨ m (111 + 2 * i) 0 = 1) ∧ (∃ n, n ≤ 24 ∧ m (111 + 2 * i) 1 = nI n) ∧ ∀ j, j < 24 → m 154 (24 * i + j) = m (112 + 2 * i) j ∧ okPl (m (112 + 2 * i) j)
def SimL (m : Mem) : Prop := ∀ i, i < 5 → m 155 i = m (119 + 4 * i) 0 ∧ (m 155 i = 0 ∨ (m 155 i = 1 ∧ (∃ k, k < 6 ∧ m (120 + 4 * i) 0 = nI k) ∧ m 156 i = m (120 + 4 * i) 0 ∧ m 157 i = worthV (m (120 + 4 * i) 0) (m (120 + 4 * i) 1))
  ∨ (m 155 i = 2 ∧ (∃ n, n ≤ 24 ∧ m (121 + 4 * i) 1 = nI n) ∧ m 156 i = m (121 + 4 * i) 1 ∧ ∀ j, j < 24 → m 158 (24 * i + j) = m (122 + 4 * i) j) ∨ (m 155 i = 3 ∧ m 156 i = m (119 + 4 * i) 3))
def SimW (m : Mem) : Prop := (∃ n, n ≤ 60 ∧ m 0 10 = nI n) ∧ m 139 32 = m 0 10 ∧ ∀ i, i < 60 → m 160 i = m 110 i
def kyC (i : Nat) : Int32 := ([112, 97, 99, 101, 112, 97, 121, 102, 105, 110, 101] : List Int32).getD i 0
def kaC (i : Nat) : Int32 := ([0, 4, 7, 11] : List Int32).getD i 0
def SimC (scr : Nat → Int32) (m : Mem) : Prop := (∀ i, i < 11 → m 145 i = kyC i) ∧ (∀ i, i < 4 → m 146 i = kaC i) ∧ m 900 = scr
/-- class and reference agree, k calls in -/
def Sim (scr : Nat → Int32) (k : Nat) (m : Mem) : Prop := SimM (bd k) m ∧ SimT m ∧ SimS m ∧ SimL m ∧ SimW m ∧ SimC scr m
/-- rows that no call leaves anything in: scratch -/
def scrap (r : Nat) : Prop := r = 3 ∨ r = 4 ∨ (83 ≤ r ∧ r ≤ 106) ∨ r = 142 ∨ r = 143 ∨ (147 ≤ r ∧ r ≤ 151) ∨ r = 159
theorem Mo.fr {B : Int} {b nt nw nx : Nat} {A : Nat → Int32} {m m' : Mem} (h : Mo B b nt nw nx A m) (h1 : ∀ r, 5 ≤ r → r ≤ 34 → m' r = m r) (h2 : ∀ r, b ≤ r → r < b + 24 → m' r = m r) : Mo B b nt nw nx A m' := ⟨h.1.fr h2, h.2.1.fr h.1.2.2.1.2.2 h1, h.2.2⟩
theorem SimM.fr {B : Int} {m m' : Mem} (h : SimM B m) (h1 : ∀ r, 5 ≤ r → r ≤ 82 → m' r = m r) (h2 : m' 140 = m 140) (h3 : m' 141 = m 141) (h4 : m' 0 4 = m 0 4) (h5 : m' 139 3 = m 139 3) : SimM B m' := by
  obtain ⟨⟨nt, nw, nx, a, b⟩, c⟩ := h
  refine ⟨⟨nt, nw, nx, ?_, ?_⟩, by rw [h4, h5]; exact c⟩
  · rw [h2]; exact a.fr (fun r q1 q2 => h1 r q1 (by omega)) (fun r q1 q2 => h1 r (by omega) (by omega))
  · rw [h4]
    rcases b with b | ⟨b, it, iw, ix, e, f⟩
    · exact Or.inl b
    · refine Or.inr ⟨b, it, iw, ix, ?_, f⟩
      rw [h3]; exact e.fr (fun r q1 q2 => h1 r q1 (by omega)) (fun r q1 q2 => h1 r (by omega) (by omega))
theorem SimM.mono {B B' : Int} {m : Mem} (h : SimM B m) (hB : B ≤ B') : SimM B' m := by
  obtain ⟨⟨nt, nw, nx, a, b⟩, c⟩ := h
  refine ⟨⟨nt, nw, nx, ⟨a.1, a.2.1, a.2.2.mono hB⟩, ?_⟩, c⟩
  rcases b with b | ⟨b, it, iw, ix, e, f⟩
  · exact Or.inl b
  · exact Or.inr ⟨b, it, iw, ix, ⟨e.1, e.2.1, e.2.2.mono hB⟩, f⟩
theorem SimT.fr {m m' : Mem} (h : SimT m) (h1 : m' 107 = m 107) (h2 : m' 144 = m 144) (h3 : m' 0 6 = m 0 6) (h4 : m' 139 6 = m 139 6) : SimT m' := by
  unfold SimT
  rw [h1, h2, h3, h4]; exact h
theorem SimS.fr {m m' : Mem} (h : SimS m) (h1 : ∀ r, 111 ≤ r → r ≤ 118 → m' r = m r) (h2 : m' 152 = m 152) (h3 : m' 153 = m 153) (h4 : m' 154 = m 154) : SimS m' := fun i hi => by
  rw [h1 (111 + 2 * i) (by omega) (by omega), h1 (112 + 2 * i) (by omega) (by omega), h2, h3, h4]; exact h i hi
theorem SimL.fr {m m' : Mem} (h : SimL m) (h1 : ∀ r, 119 ≤ r → r ≤ 138 → m' r = m r) (h2 : m' 155 = m 155) (h3 : m' 156 = m 156) (h4 : m' 157 = m 157) (h5 : m' 158 = m 158) : SimL m' := fun i hi => by
  rw [h1 (119 + 4 * i) (by omega) (by omega), h1 (120 + 4 * i) (by omega) (by omega), h1 (121 + 4 * i) (by omega) (by omega), h1 (122 + 4 * i) (by omega) (by omega), h2, h3, h4, h5]; exact h i hi
theorem SimW.fr {m m' : Mem} (h : SimW m) (h1 : m' 110 = m 110) (h2 : m' 160 = m 160) (h3 : m' 0 10 = m 0 10) (h4 : m' 139 32 = m 139 32) : SimW m' := by
  unfold SimW
  rw [h1, h2, h3, h4]; exact h
theorem SimC.fr {scr : Nat → Int32} {m m' : Mem} (h : SimC scr m) (h1 : m' 145 = m 145) (h2 : m' 146 = m 146) (h3 : m' 900 = m 900) : SimC scr m' := by
  unfold SimC
  rw [h1, h2, h3]; exact h
theorem bd_mono {k : Nat} : bd k ≤ bd (k + 1) := by unfold bd; omega
/-- only scratch has changed -/
theorem sim_scrap {scr : Nat → Int32} {k : Nat} {m m' : Mem} (h : Sim scr k m) (hf : ∀ r, ¬ scrap r → m' r = m r) : Sim scr (k + 1) m' := by
  obtain ⟨a, b, c, d, e, f⟩ := h
  have g : ∀ r, (5 ≤ r ∧ r ≤ 82) ∨ (107 ≤ r ∧ r ≤ 141) ∨ (144 ≤ r ∧ r ≤ 146) ∨ (152 ≤ r ∧ r ≤ 158) ∨ r = 0 ∨ r = 160 ∨ r = 900 → m' r = m r := fun r hr => hf r (by unfold scrap; omega)
  refine ⟨(a.fr (fun r q1 q2 => g r (by omega)) (g _ (by omega)) (g _ (by omega)) (by rw [g 0 (by omega)]) (by rw [g 139 (by omega)])).mono bd_mono, b.fr (g _ (by omega)) (g _ (by omega)) (by rw [g 0 (by omega)]) (by rw [g 139 (by omega)]), c.fr (fun r q1 q2 => g r (by omega)) (g _ (by omega)) (g _ (by omega)) (g _ (by omega)), d.fr (fun r q1 q2 => g r (by omega)) (g _ (by omega)) (g _ (by omega)) (g _ (by omega)) (g _ (by omega)), e.fr (g _ (by omega)) (g _ (by omega)) (by rw [g 0 (by omega)]) (by rw [g 139 (by omega)]), f.fr (g _ (by omega)) (g _ (by omega)) (g _ (by omega))⟩
theorem Sim.next {scr : Nat → Int32} {k : Nat} {m : Mem} (h : Sim scr k m) : Sim scr (k + 1) m := sim_scrap h (fun _ _ => rfl)
/-- the class's call answers, and the reference's behind it answers the same and leaves them agreeing -/
def Pair (scr : Nat → Int32) (L D jc jr : Nat) (as : List Value) (k : Nat) (m : Mem) : Prop :=
  ∀ Q : Qt, (∀ r m1, (∀ Q' : Qt, (∀ m2, Sim scr (k + 1) m2 → Q' (some (.int r)) (S0 L) m2) → Mc D jr (.ref 139 :: as) (S0 L) m1 Q') → Q (some (.int r)) (S0 L) m1) → Mc D jc (.ref 0 :: as) (S0 L) m Q
