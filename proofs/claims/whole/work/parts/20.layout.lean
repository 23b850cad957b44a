-- the layout behind the two constructors: classes, lengths, references (wip/gen/mk20.py)
def CLl : List Nat := [8, 0, 23, 20, 20, 5, 20, 5, 20, 5, 20, 5, 20, 5, 20, 5, 20, 5, 20, 5, 20, 5, 20, 5, 20, 5, 20, 5, 20, 5, 20, 5, 20, 5, 20, 1, 24, 25, 20, 6, 6, 6, 6, 6, 6, 6, 6, 7, 7, 7, 7, 7, 7, 7, 7, 7, 7, 7, 7, 1, 24, 25, 20, 6, 6, 6, 6, 6, 6, 6, 6, 7, 7, 7, 7, 7, 7, 7, 7, 7, 7, 7, 7, 1, 24, 25, 20, 6, 6, 6, 6, 6, 6, 6, 6, 7, 7, 7, 7, 7, 7, 7, 7, 7, 7, 7, 7, 20, 26, 27, 20, 3, 20, 3, 20, 3, 20, 3, 20, 4, 6, 3, 20, 4, 6, 3, 20, 4, 6, 3, 20, 4, 6, 3, 20, 4, 6, 3, 20, 9, 20, 20, 20, 20, 20, 22, 20, 20, 20, 21, 20, 20, 20, 20, 20, 20, 20, 20, 20, 20, 20]
def LNl : List Nat := [0, 0, 15, 4, 96, 0, 96, 0, 96, 0, 96, 0, 96, 0, 96, 0, 96, 0, 96, 0, 96, 0, 96, 0, 96, 0, 96, 0, 96, 0, 96, 0, 96, 0, 96, 0, 8, 12, 3, 0, 0, 0, 0, 0, 0, 0, 0, 0, 0, 0, 0, 0, 0, 0, 0, 0, 0, 0, 0, 0, 8, 12, 3, 0, 0, 0, 0, 0, 0, 0, 0, 0, 0, 0, 0, 0, 0, 0, 0, 0, 0, 0, 0, 0, 8, 12, 3, 0, 0, 0, 0, 0, 0, 0, 0, 0, 0, 0, 0, 0, 0, 0, 0, 0, 0, 0, 0, 96, 4, 5, 60, 0, 24, 0, 24, 0, 24, 0, 24, 0, 0, 0, 24, 0, 0, 0, 24, 0, 0, 0, 24, 0, 0, 0, 24, 0, 0, 0, 24, 0, 1464, 1464, 1464, 92, 96, 11, 4, 96, 96, 10, 96, 4, 4, 4, 96, 5, 5, 5, 120, 24, 60]
def RFl : List (List Nat) := [[2, 36, 60, 84, 0, 108, 0, 109, 110, 111], [3, 4, 5], [6, 8, 10, 12, 14, 16, 18, 20, 22, 24, 26, 28, 30, 32, 34], [], [], [7], [], [9], [], [11], [], [13], [], [15], [], [17], [], [19], [], [21], [], [23], [], [25], [], [27], [], [29], [], [31], [], [33], [], [35], [], [2, 37, 38, 39], [40, 41, 42, 43, 44, 45, 46, 47], [48, 49, 50, 51, 52, 53, 54, 55, 56, 57, 58, 59], [], [], [], [], [], [], [], [], [], [], [], [], [], [], [], [], [], [], [], [], [], [2, 61, 62, 63], [64, 65, 66, 67, 68, 69, 70, 71], [72, 73, 74, 75, 76, 77, 78, 79, 80, 81, 82, 83], [], [], [], [], [], [], [], [], [], [], [], [], [], [], [], [], [], [], [], [], [], [2, 85, 86, 87], [88, 89, 90, 91, 92, 93, 94, 95], [96, 97, 98, 99, 100, 101, 102, 103, 104, 105, 106, 107], [], [], [], [], [], [], [], [], [], [], [], [], [], [], [], [], [], [], [], [], [], [], [112, 114, 116, 118], [120, 124, 128, 132, 136], [], [0, 0, 113], [], [0, 0, 115], [], [0, 0, 117], [], [0, 0, 119], [], [0, 121, 122], [], [0, 0, 123], [], [0, 125, 126], [], [0, 0, 127], [], [0, 129, 130], [], [0, 0, 131], [], [0, 133, 134], [], [0, 0, 135], [], [0, 137, 138], [], [0, 0, 139], [], [141, 142, 143, 0, 144, 145, 0, 0, 0, 0, 0, 0, 0, 146, 147, 148, 0, 0, 149, 0, 150, 151, 152, 153, 154, 155, 156, 157, 158, 159, 160, 161, 0], [], [], [], [], [], [], [], [], [], [], [], [], [], [], [], [], [], [], [], [], []]
def CLy (k : Nat) : Nat := CLl.getD k 0
def LNy (L k : Nat) : Nat := cond (Nat.beq k 900) L (LNl.getD k 0)
def RFy (k f : Nat) : Nat := (RFl.getD k []).getD f 0
/-- the world between calls; L: the script's length -/
def S0 (L : Nat) : Shp := (161, CLy, LNy L, RFy)
def MB (b : Nat) : Prop := b = 35 ∨ b = 59 ∨ b = 83
theorem Mc_wp {d j n : Nat} {I : Nat → Option En} (cut : Nat → Bool) {as : List Value} {S : Shp} {mem : Mem} {Q : Qt} (hI : tok j I n = true) (hj : Nat.blt j 224 = true) (hc : as.all (fun v => Nat.beq v.category 1) = true) (hlen : Nat.ble as.length (mxN j) = true) (f : Nat)
    (h : wp j (tabI n I) cut d Q f 0 (entL as (mxN j)) [] S (0, 0) mem) : Mc (d + 1) j as S mem Q :=
  Mc_of (by simpa using hj) hc (Nat.le_of_ble_eq_true hlen) (wp_ok hI f 0 _ _ _ _ _ ⟨Nat.zero_le _, Nat.zero_le _⟩ h)
theorem Xs_wp {d j n : Nat} {I : Nat → Option En} (cut : Nat → Bool) {pc : Nat} {L : Lvs} {st : List Value} {S : Shp} {mem : Mem} {Q : Qt} (hI : tok j I n = true) (f : Nat)
    (h : wp j (tabI n I) cut d Q f pc L st S (0, 0) mem) : Xs (d + 1) j pc L st S (0, 0) mem Q :=
  wp_ok hI f pc _ _ _ _ _ ⟨Nat.zero_le _, Nat.zero_le _⟩ h
def nocut : Nat → Bool := fun _ => false
def cut1 (a : Nat) : Nat → Bool := fun pc => Nat.beq pc a
def cut2 (a b : Nat) : Nat → Bool := fun pc => Nat.beq pc a || Nat.beq pc b
theorem ltB {a n : Nat} (h : Nat.blt a n = true) : a < n := by simpa using h
/-- rows that stay -/
def Fr (l : List Nat) (m m' : Mem) : Prop := ∀ a, a ∉ l → m' a = m a
theorem Fr.refl {l : List Nat} {m : Mem} : Fr l m m := fun _ _ => rfl
theorem Fr.trans {l : List Nat} {m m' m'' : Mem} (h : Fr l m m') (h' : Fr l m' m'') : Fr l m m'' := fun a ha => (h' a ha).trans (h a ha)
theorem Fr.mono {l l' : List Nat} {m m' : Mem} (h : Fr l m m') (hl : ∀ a, a ∈ l → a ∈ l') : Fr l' m m' := fun a ha => h a (fun q => ha (hl a q))
theorem Fr.mu {l : List Nat} {m m' : Mem} {a i : Nat} {v : Int32} (h : Fr l m m') (ha : a ∈ l) : Fr l m (mu m' a i v) := fun b hb => (mu_row (b := b) (a := a) (fun e => hb (by rw [e]; exact ha))).trans (h b hb)
theorem herd_at : ∀ b, MB b → ∀ t, t < 8 → RFy (b + 1) t = b + 5 + t := by
  intro b hb t ht
  rcases hb with rfl | rfl | rfl <;> (revert t; decide)
theorem bets_at : ∀ b, MB b → ∀ w, w < 12 → RFy (b + 2) w = b + 13 + w := by
  intro b hb t ht
  rcases hb with rfl | rfl | rfl <;> (revert t; decide)
theorem cl_herd : ∀ b, MB b → ∀ t, t < 8 → CLy (b + 4 + t) = 6 := by
  intro b hb t ht
  rcases hb with rfl | rfl | rfl <;> (revert t; decide)
theorem cl_bets : ∀ b, MB b → ∀ t, t < 12 → CLy (b + 12 + t) = 7 := by
  intro b hb t ht
  rcases hb with rfl | rfl | rfl <;> (revert t; decide)
theorem mb_lt {b : Nat} (h : MB b) : b ≤ 83 := by rcases h with rfl | rfl | rfl <;> omega
theorem c_within {d : Nat} {S : Shp} {mem : Mem} {Q : Qt} {v a b : Int32} (h1 : a ≤ v → v ≤ b → Q (some (.int 1)) S mem) (h0 : (v < a ∨ b < v) → Q (some (.int 0)) S mem) : Mc (d + 1) 102 [.int v, .int a, .int b] S mem Q := by
  refine Mc_wp nocut t102 rfl rfl rfl 30 ?_
  refine ifI (fun q1 => ?_) (fun q1 => ?_)
  · exact ⟨Or.inl rfl, h0 (Or.inl q1)⟩
  · refine ifI (fun q2 => ?_) (fun q2 => ?_)
    · exact ⟨Or.inl rfl, h0 (Or.inr q2)⟩
    · exact ⟨Or.inr rfl, h1 (Int32.not_lt.mp q1) (Int32.not_lt.mp q2)⟩
theorem c_hasTurtle {d L : Nat} {mem : Mem} {Q : Qt} {v : Int32} {b n : Nat} (hb : MB b) (hn : mem b 4 = nI n) (hn8 : n ≤ 8) (h1 : ∀ k, k < n → v = nI k → Q (some (.int 1)) (S0 L) mem) (h0 : (v < 0 ∨ nI n ≤ v) → Q (some (.int 0)) (S0 L) mem) : Mc (d + 2) 4 [.ref b, .int v] (S0 L) mem Q := by
  have key : ∀ x : Int32, x = nI n → (0 ≤ v → v ≤ x - 1 → Q (some (.int 1)) (S0 L) mem) ∧ ((v < 0 ∨ x - 1 < v) → Q (some (.int 0)) (S0 L) mem) := by
    intro x hx
    subst hx
    have e1 : (nI n - 1).toInt = (n : Int) - 1 := by
      have := pk_sub_toInt (a := n) (b := 1) (by omega) (by omega)
      exact this
    have e2 : (nI n).toInt = (n : Int) := nI_toInt (by omega)
    have e0 : (0 : Int32).toInt = 0 := rfl
    constructor
    · intro q1 q2
      rw [Int32.le_iff_toInt_le] at q1 q2
      rw [e1] at q2
      rw [e0] at q1
      obtain ⟨k, hk, hk2⟩ := nI_of (x := v) (by rw [Int32.lt_iff_toInt_lt, e0]; omega)
      refine h1 k ?_ hk2
      rw [hk2, nI_toInt hk] at q2
      omega
    · intro q
      refine h0 (q.imp id (fun z => ?_))
      rw [Int32.lt_iff_toInt_lt, e1] at z
      rw [Int32.le_iff_toInt_le, e2]
      omega
  rcases hb with rfl | rfl | rfl
  all_goals
    refine Mc_wp nocut t4 rfl rfl rfl 30 ?_
    refine ⟨⟨rfl, ltB rfl⟩, ?_⟩
    exact c_within (fun q1 q2 => ⟨Or.inr rfl, (key _ hn).1 q1 q2⟩) (fun q => ⟨Or.inl rfl, (key _ hn).2 q⟩)
