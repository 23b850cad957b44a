-- the layout behind the two constructors: classes, lengths, references (wip/gen/mk20.py)
def CLy (k : Nat) : Nat := cond (Nat.blt k 161) (cond (Nat.ble k 79) (cond (Nat.ble k 39) (cond (Nat.ble k 19) (cond (Nat.ble k 9) (cond (Nat.ble k 4) (cond (Nat.ble k 1) (cond (Nat.ble k 0) 8 0) (cond (Nat.ble k 2) 23 20)) (cond (Nat.ble k 6) (cond (Nat.ble k 5) 5 20) (cond (Nat.ble k 7) 5 (cond (Nat.ble k 8) 20 5)))) (cond (Nat.ble k 14) (cond (Nat.ble k 11) (cond (Nat.ble k 10) 20 5) (cond (Nat.ble k 12) 20 (cond (Nat.ble k 13) 5 20))) (cond (Nat.ble k 16) (cond (Nat.ble k 15) 5 20) (cond (Nat.ble k 17) 5 (cond (Nat.ble k 18) 20 5))))) (cond (Nat.ble k 29) (cond (Nat.ble k 24) (cond (Nat.ble k 21) (cond (Nat.ble k 20) 20 5) (cond (Nat.ble k 22) 20 (cond (Nat.ble k 23) 5 20))) (cond (Nat.ble k 26) (cond (Nat.ble k 25) 5 20) (cond (Nat.ble k 27) 5 (cond (Nat.ble k 28) 20 5)))) (cond (Nat.ble k 34) (cond (Nat.ble k 31) (cond (Nat.ble k 30) 20 5) (cond (Nat.ble k 32) 20 (cond (Nat.ble k 33) 5 20))) (cond (Nat.ble k 36) (cond (Nat.ble k 35) 1 24) (cond (Nat.ble k 37) 25 (cond (Nat.ble k 38) 20 6)))))) (cond (Nat.ble k 59) (cond (Nat.ble k 49) (cond (Nat.ble k 44) 6 (cond (Nat.ble k 46) 6 7)) (cond (Nat.ble k 54) 7 (cond (Nat.ble k 56) 7 (cond (Nat.ble k 57) 7 (cond (Nat.ble k 58) 7 1))))) (cond (Nat.ble k 69) (cond (Nat.ble k 64) (cond (Nat.ble k 61) (cond (Nat.ble k 60) 24 25) (cond (Nat.ble k 62) 20 6)) 6) (cond (Nat.ble k 74) (cond (Nat.ble k 71) (cond (Nat.ble k 70) 6 7) 7) 7)))) (cond (Nat.ble k 119) (cond (Nat.ble k 99) (cond (Nat.ble k 89) (cond (Nat.ble k 84) (cond (Nat.ble k 81) 7 (cond (Nat.ble k 82) 7 (cond (Nat.ble k 83) 1 24))) (cond (Nat.ble k 86) (cond (Nat.ble k 85) 25 20) 6)) (cond (Nat.ble k 94) 6 7)) (cond (Nat.ble k 109) (cond (Nat.ble k 104) 7 (cond (Nat.ble k 106) 7 (cond (Nat.ble k 107) 20 (cond (Nat.ble k 108) 26 27)))) (cond (Nat.ble k 114) (cond (Nat.ble k 111) (cond (Nat.ble k 110) 20 3) (cond (Nat.ble k 112) 20 (cond (Nat.ble k 113) 3 20))) (cond (Nat.ble k 116) (cond (Nat.ble k 115) 3 20) (cond (Nat.ble k 117) 3 (cond (Nat.ble k 118) 20 4)))))) (cond (Nat.ble k 139) (cond (Nat.ble k 129) (cond (Nat.ble k 124) (cond (Nat.ble k 121) (cond (Nat.ble k 120) 6 3) (cond (Nat.ble k 122) 20 (cond (Nat.ble k 123) 4 6))) (cond (Nat.ble k 126) (cond (Nat.ble k 125) 3 20) (cond (Nat.ble k 127) 4 (cond (Nat.ble k 128) 6 3)))) (cond (Nat.ble k 134) (cond (Nat.ble k 131) (cond (Nat.ble k 130) 20 4) (cond (Nat.ble k 132) 6 (cond (Nat.ble k 133) 3 20))) (cond (Nat.ble k 136) (cond (Nat.ble k 135) 4 6) (cond (Nat.ble k 137) 3 (cond (Nat.ble k 138) 20 9))))) (cond (Nat.ble k 149) (cond (Nat.ble k 144) 20 (cond (Nat.ble k 146) (cond (Nat.ble k 145) 22 20) (cond (Nat.ble k 147) 20 (cond (Nat.ble k 148) 20 21)))) 20)))) 0
def LNz (k : Nat) : Nat := cond (Nat.blt k 161) (cond (Nat.ble k 79) (cond (Nat.ble k 39) (cond (Nat.ble k 19) (cond (Nat.ble k 9) (cond (Nat.ble k 4) (cond (Nat.ble k 1) 0 (cond (Nat.ble k 2) 15 (cond (Nat.ble k 3) 4 96))) (cond (Nat.ble k 6) (cond (Nat.ble k 5) 0 96) (cond (Nat.ble k 7) 0 (cond (Nat.ble k 8) 96 0)))) (cond (Nat.ble k 14) (cond (Nat.ble k 11) (cond (Nat.ble k 10) 96 0) (cond (Nat.ble k 12) 96 (cond (Nat.ble k 13) 0 96))) (cond (Nat.ble k 16) (cond (Nat.ble k 15) 0 96) (cond (Nat.ble k 17) 0 (cond (Nat.ble k 18) 96 0))))) (cond (Nat.ble k 29) (cond (Nat.ble k 24) (cond (Nat.ble k 21) (cond (Nat.ble k 20) 96 0) (cond (Nat.ble k 22) 96 (cond (Nat.ble k 23) 0 96))) (cond (Nat.ble k 26) (cond (Nat.ble k 25) 0 96) (cond (Nat.ble k 27) 0 (cond (Nat.ble k 28) 96 0)))) (cond (Nat.ble k 34) (cond (Nat.ble k 31) (cond (Nat.ble k 30) 96 0) (cond (Nat.ble k 32) 96 (cond (Nat.ble k 33) 0 96))) (cond (Nat.ble k 36) (cond (Nat.ble k 35) 0 8) (cond (Nat.ble k 37) 12 (cond (Nat.ble k 38) 3 0)))))) (cond (Nat.ble k 59) 0 (cond (Nat.ble k 69) (cond (Nat.ble k 64) (cond (Nat.ble k 61) (cond (Nat.ble k 60) 8 12) (cond (Nat.ble k 62) 3 0)) 0) 0))) (cond (Nat.ble k 119) (cond (Nat.ble k 99) (cond (Nat.ble k 89) (cond (Nat.ble k 84) (cond (Nat.ble k 81) 0 (cond (Nat.ble k 82) 0 (cond (Nat.ble k 83) 0 8))) (cond (Nat.ble k 86) (cond (Nat.ble k 85) 12 3) 0)) 0) (cond (Nat.ble k 109) (cond (Nat.ble k 104) 0 (cond (Nat.ble k 106) 0 (cond (Nat.ble k 107) 96 (cond (Nat.ble k 108) 4 5)))) (cond (Nat.ble k 114) (cond (Nat.ble k 111) (cond (Nat.ble k 110) 60 0) (cond (Nat.ble k 112) 24 (cond (Nat.ble k 113) 0 24))) (cond (Nat.ble k 116) (cond (Nat.ble k 115) 0 24) (cond (Nat.ble k 117) 0 (cond (Nat.ble k 118) 24 0)))))) (cond (Nat.ble k 139) (cond (Nat.ble k 129) (cond (Nat.ble k 124) (cond (Nat.ble k 121) 0 (cond (Nat.ble k 122) 24 0)) (cond (Nat.ble k 126) (cond (Nat.ble k 125) 0 24) 0)) (cond (Nat.ble k 134) (cond (Nat.ble k 131) (cond (Nat.ble k 130) 24 0) (cond (Nat.ble k 132) 0 (cond (Nat.ble k 133) 0 24))) (cond (Nat.ble k 136) 0 (cond (Nat.ble k 137) 0 (cond (Nat.ble k 138) 24 0))))) (cond (Nat.ble k 149) (cond (Nat.ble k 144) (cond (Nat.ble k 141) 1464 (cond (Nat.ble k 142) 1464 (cond (Nat.ble k 143) 92 96))) (cond (Nat.ble k 146) (cond (Nat.ble k 145) 11 4) (cond (Nat.ble k 147) 96 (cond (Nat.ble k 148) 96 10)))) (cond (Nat.ble k 154) (cond (Nat.ble k 151) (cond (Nat.ble k 150) 96 4) (cond (Nat.ble k 152) 4 (cond (Nat.ble k 153) 4 96))) (cond (Nat.ble k 157) 5 (cond (Nat.ble k 158) 120 (cond (Nat.ble k 159) 24 60)))))))) 0
def RFr (k : Nat) : List Nat := cond (Nat.blt k 161) (cond (Nat.ble k 79) (cond (Nat.ble k 39) (cond (Nat.ble k 19) (cond (Nat.ble k 9) (cond (Nat.ble k 4) (cond (Nat.ble k 1) (cond (Nat.ble k 0) [2, 36, 60, 84, 0, 108, 0, 109, 110, 111] [3, 4, 5]) (cond (Nat.ble k 2) [6, 8, 10, 12, 14, 16, 18, 20, 22, 24, 26, 28, 30, 32, 34] [])) (cond (Nat.ble k 6) (cond (Nat.ble k 5) [7] []) (cond (Nat.ble k 7) [9] (cond (Nat.ble k 8) [] [11])))) (cond (Nat.ble k 14) (cond (Nat.ble k 11) (cond (Nat.ble k 10) [] [13]) (cond (Nat.ble k 12) [] (cond (Nat.ble k 13) [15] []))) (cond (Nat.ble k 16) (cond (Nat.ble k 15) [17] []) (cond (Nat.ble k 17) [19] (cond (Nat.ble k 18) [] [21]))))) (cond (Nat.ble k 29) (cond (Nat.ble k 24) (cond (Nat.ble k 21) (cond (Nat.ble k 20) [] [23]) (cond (Nat.ble k 22) [] (cond (Nat.ble k 23) [25] []))) (cond (Nat.ble k 26) (cond (Nat.ble k 25) [27] []) (cond (Nat.ble k 27) [29] (cond (Nat.ble k 28) [] [31])))) (cond (Nat.ble k 34) (cond (Nat.ble k 31) (cond (Nat.ble k 30) [] [33]) (cond (Nat.ble k 32) [] (cond (Nat.ble k 33) [35] []))) (cond (Nat.ble k 36) (cond (Nat.ble k 35) [2, 37, 38, 39] [40, 41, 42, 43, 44, 45, 46, 47]) (cond (Nat.ble k 37) [48, 49, 50, 51, 52, 53, 54, 55, 56, 57, 58, 59] []))))) (cond (Nat.ble k 59) (cond (Nat.ble k 49) [] (cond (Nat.ble k 54) [] (cond (Nat.ble k 56) [] (cond (Nat.ble k 57) [] (cond (Nat.ble k 58) [] [2, 61, 62, 63]))))) (cond (Nat.ble k 69) (cond (Nat.ble k 64) (cond (Nat.ble k 61) (cond (Nat.ble k 60) [64, 65, 66, 67, 68, 69, 70, 71] [72, 73, 74, 75, 76, 77, 78, 79, 80, 81, 82, 83]) []) []) []))) (cond (Nat.ble k 119) (cond (Nat.ble k 99) (cond (Nat.ble k 89) (cond (Nat.ble k 84) (cond (Nat.ble k 81) [] (cond (Nat.ble k 82) [] (cond (Nat.ble k 83) [2, 85, 86, 87] [88, 89, 90, 91, 92, 93, 94, 95]))) (cond (Nat.ble k 86) (cond (Nat.ble k 85) [96, 97, 98, 99, 100, 101, 102, 103, 104, 105, 106, 107] []) [])) []) (cond (Nat.ble k 109) (cond (Nat.ble k 104) [] (cond (Nat.ble k 106) [] (cond (Nat.ble k 107) [] (cond (Nat.ble k 108) [112, 114, 116, 118] [120, 124, 128, 132, 136])))) (cond (Nat.ble k 114) (cond (Nat.ble k 111) (cond (Nat.ble k 110) [] [0, 0, 113]) (cond (Nat.ble k 112) [] (cond (Nat.ble k 113) [0, 0, 115] []))) (cond (Nat.ble k 116) (cond (Nat.ble k 115) [0, 0, 117] []) (cond (Nat.ble k 117) [0, 0, 119] (cond (Nat.ble k 118) [] [0, 121, 122])))))) (cond (Nat.ble k 139) (cond (Nat.ble k 129) (cond (Nat.ble k 124) (cond (Nat.ble k 121) (cond (Nat.ble k 120) [] [0, 0, 123]) (cond (Nat.ble k 122) [] (cond (Nat.ble k 123) [0, 125, 126] []))) (cond (Nat.ble k 126) (cond (Nat.ble k 125) [0, 0, 127] []) (cond (Nat.ble k 127) [0, 129, 130] (cond (Nat.ble k 128) [] [0, 0, 131])))) (cond (Nat.ble k 134) (cond (Nat.ble k 131) (cond (Nat.ble k 130) [] [0, 133, 134]) (cond (Nat.ble k 132) [] (cond (Nat.ble k 133) [0, 0, 135] []))) (cond (Nat.ble k 136) (cond (Nat.ble k 135) [0, 137, 138] []) (cond (Nat.ble k 137) [0, 0, 139] (cond (Nat.ble k 138) [] [141, 142, 143, 0, 144, 145, 0, 0, 0, 0, 0, 0, 0, 146, 147, 148, 0, 0, 149, 0, 150, 151, 152, 153, 154, 155, 156, 157, 158, 159, 160, 161, 0]))))) []))) []
def LNy (L k : Nat) : Nat := cond (Nat.beq k 900) L (LNz k)
def RFy (k f : Nat) : Nat := (nth (RFr k) f).getD 0
/-- the world between calls; L: the script's length -/
def S0 (L : Nat) : Shp := (161, CLy, LNy L, RFy)
def MB (b : Nat) : Prop := b = 35 ∨ b = 59 ∨ b = 83
theorem Mc_wp {d j n : Nat} {I : Nat → Option En} (cut : Nat → Bool) {as : List Value} {S : Shp} {mem : Mem} {Q : Qt} (hI : tok j I n = true) (hj : Nat.blt j 224 = true) (hc : as.all (fun v => Nat.beq v.category 1) = true) (hlen : Nat.ble as.length (mxN j) = true) (f : Nat)
    (h : wp j (tabI n I) cut d Q f 0 (entL as (mxN j)) [] S (0, 0) mem) : Mc (d + 1) j as S mem Q :=
  Mc_of (by simpa using hj) hc (Nat.le_of_ble_eq_true hlen) (wp_ok hI f 0 _ _ _ _ _ ⟨Nat.zero_le _, Nat.zero_le _⟩ h)
theorem Xs_wp {d j n : Nat} {I : Nat → Option En} (cut : Nat → Bool) {pc : Nat} {L : Lvs} {st : List Value} {S : Shp} {mem : Mem} {Q : Qt} (hI : tok j I n = true) (f : Nat)
    (h : wp j (tabI n I) cut d Q f pc L st S (0, 0) mem) : Xs (d + 1) j pc L st S (0, 0) mem Q :=
  wp_ok hI f pc _ _ _ _ _ ⟨Nat.zero_le _, Nat.zero_le _⟩ h
def nocut : Nat → Bool := fun _ => false
def cut1 (a : Nat) : Nat → Bool := fun pc => Nat.beq pc a
def cut2 (a b : Nat) : Nat → Bool := fun pc => Nat.beq pc a || Nat.beq pc b
theorem ltB {a n : Nat} (h : Nat.blt a n = true) : a < n := by simpa using h
/-- rows that stay -/
def Fr (l : List Nat) (m m' : Mem) : Prop := ∀ a, a ∉ l → m' a = m a
theorem Fr.refl {l : List Nat} {m : Mem} : Fr l m m := fun _ _ => rfl
theorem Fr.trans {l : List Nat} {m m' m'' : Mem} (h : Fr l m m') (h' : Fr l m' m'') : Fr l m m'' := fun a ha => (h' a ha).trans (h a ha)
theorem Fr.mono {l l' : List Nat} {m m' : Mem} (h : Fr l m m') (hl : ∀ a, a ∈ l → a ∈ l') : Fr l' m m' := fun a ha => h a (fun q => ha (hl a q))
theorem Fr.mu {l : List Nat} {m m' : Mem} {a i : Nat} {v : Int32} (h : Fr l m m') (ha : a ∈ l) : Fr l m (mu m' a i v) := fun b hb => (mu_row (b := b) (a := a) (fun e => hb (by rw [e]; exact ha))).trans (h b hb)
theorem herd_at : ∀ b, MB b → ∀ t, t < 8 → RFy (b + 1) t = b + 5 + t := by
  intro b hb t ht
  rcases hb with rfl | rfl | rfl <;> (revert t; decide)
theorem bets_at : ∀ b, MB b → ∀ w, w < 12 → RFy (b + 2) w = b + 13 + w := by
  intro b hb t ht
  rcases hb with rfl | rfl | rfl <;> (revert t; decide)
theorem cl_herd : ∀ b, MB b → ∀ t, t < 8 → CLy (b + 4 + t) = 6 := by
  intro b hb t ht
  rcases hb with rfl | rfl | rfl <;> (revert t; decide)
theorem cl_bets : ∀ b, MB b → ∀ t, t < 12 → CLy (b + 12 + t) = 7 := by
  intro b hb t ht
  rcases hb with rfl | rfl | rfl <;> (revert t; decide)
theorem mb_lt {b : Nat} (h : MB b) : b ≤ 83 := by rcases h with rfl | rfl | rfl <;> omega
theorem c_within {d : Nat} {S : Shp} {mem : Mem} {Q : Qt} {v a b : Int32} (h1 : a ≤ v → v ≤ b → Q (some (.int 1)) S mem) (h0 : (v < a ∨ b < v) → Q (some (.int 0)) S mem) : Mc (d + 1) 102 [.int v, .int a, .int b] S mem Q := by
  refine Mc_wp nocut t102 rfl rfl rfl 30 ?_
  refine ifI (fun q1 => ?_) (fun q1 => ?_)
  · exact ⟨Or.inl rfl, h0 (Or.inl q1)⟩
  · refine ifI (fun q2 => ?_) (fun q2 => ?_)
    · exact ⟨Or.inl rfl, h0 (Or.inr q2)⟩
    · exact ⟨Or.inr rfl, h1 (Int32.not_lt.mp q1) (Int32.not_lt.mp q2)⟩
theorem c_hasTurtle {d L : Nat} {mem : Mem} {Q : Qt} {v : Int32} {b n : Nat} (hb : MB b) (hn : mem b 4 = nI n) (hn8 : n ≤ 8) (h1 : ∀ k, k < n → v = nI k → Q (some (.int 1)) (S0 L) mem) (h0 : (v < 0 ∨ nI n ≤ v) → Q (some (.int 0)) (S0 L) mem) : Mc (d + 2) 4 [.ref b, .int v] (S0 L) mem Q := by
  have key : ∀ x : Int32, x = nI n → (0 ≤ v → v ≤ x - 1 → Q (some (.int 1)) (S0 L) mem) ∧ ((v < 0 ∨ x - 1 < v) → Q (some (.int 0)) (S0 L) mem) := by
    intro x hx
    subst hx
    have e1 : (nI n - 1).toInt = (n : Int) - 1 := by
      have := pk_sub_toInt (a := n) (b := 1) (by omega) (by omega)
      exact this
    have e2 : (nI n).toInt = (n : Int) := nI_toInt (by omega)
    have e0 : (0 : Int32).toInt = 0 := rfl
    constructor
    · intro q1 q2
      rw [Int32.le_iff_toInt_le] at q1 q2
      rw [e1] at q2
      rw [e0] at q1
      obtain ⟨k, hk, hk2⟩ := nI_of (x := v) (by rw [Int32.lt_iff_toInt_lt, e0]; omega)
      refine h1 k ?_ hk2
      rw [hk2, nI_toInt hk] at q2
      omega
    · intro q
      refine h0 (q.imp id (fun z => ?_))
      rw [Int32.lt_iff_toInt_lt, e1] at z
      rw [Int32.le_iff_toInt_le, e2]
      omega
  rcases hb with rfl | rfl | rfl
  all_goals
    refine Mc_wp nocut t4 rfl rfl rfl 30 ?_
    refine ⟨⟨rfl, ltB rfl⟩, ?_⟩
    exact c_within (fun q1 q2 => ⟨Or.inr rfl, (key _ hn).1 q1 q2⟩) (fun q => ⟨Or.inl rfl, (key _ hn).2 q⟩)
