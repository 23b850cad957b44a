-- a call leaves the script
theorem Mc_scr {d j : Nat} {as : List Value} {S : Shp} {mem : Mem} {Q : Qt} (h : Mc d j as S mem (fun r S' m' => (∀ i, i < S.2.2.1 900 → m' 900 i = mem 900 i) → Q r S' m')) : Mc d j as S mem Q := by
  intro l D tA base kc ad
  refine MetFree.mono (h l D tA base kc ad) (fun _ _ h => h) (fun _ _ _ _ _ h => h) ?_
  rintro a s o t ⟨-, -, hK, -⟩ ⟨⟨r, S', mem', ad', h1, h2, h3, h4, h5, h6, h7⟩, h8⟩
  refine ⟨⟨r, S', mem', ad', h1, h2 ?_, h3, h4, h5, h6, h7⟩, h8⟩
  obtain ⟨-, -, -, -, -, -, -, -, -, -, -, hx, hg, -⟩ := hK
  obtain ⟨-, ⟨-, -, -, -, -, -, -, -, -, -, -, hx', -, -⟩, -⟩ := h3
  obtain ⟨c, c1, c2, c3, c4, c5⟩ := hx
  obtain ⟨c', e1, e2, e3, e4, e5⟩ := hx'
  have hlt : unr (kc 20) < s.heap.size := by
    rcases Nat.lt_or_ge (unr (kc 20)) s.heap.size with z | z
    · exact z
    · rw [Array.getElem?_eq_none (by exact z)] at c1; cases c1
  have hh := h7.2 _ hlt hg
  rw [c1, e1] at hh
  cases hh
  intro i hi
  have a1 := c5 i hi
  have a2 := e5 i (by rw [← e4, c4]; exact hi)
  rw [a1] at a2
  have a3 := Option.some.inj a2
  injection a3 with a4
  exact a4.symm
theorem Xs_wpc {d j n pc : Nat} {I : Nat → Option En} (cut : Nat → Bool) {L : Lvs} {st : List Value} {S : Shp} {cs : Nat × Nat} {mem : Mem} {Q : Qt} (hI : tok j I n = true) (f : Nat) (hc : cs.1 ≤ mcN j ∧ cs.2 ≤ msN j) (h : wp j (tabI n I) cut d Q f pc L st S cs mem) : Xs (d + 1) j pc L st S cs mem Q := wp_ok hI f pc L st S cs mem hc h
theorem condI {b : Bool} {A B : Prop} (h : b = true) (a : A) : cond b A B := by rw [h]; exact a
theorem bokI {j a b : Nat} (h1 : a ≤ mcN j) (h2 : b ≤ msN j) : bok j (a, b) = true := by
  unfold bok
  rw [Bool.and_eq_true]
  exact ⟨Nat.ble_eq_true_of_le h1, Nat.ble_eq_true_of_le h2⟩
