-- the world at the law's start, put together
theorem arr_p {args : Array Value} {s : State} {ty : FieldType} (h : (Cond.arrayClass ty).before args s = true) : ∃ cA, ArrOfT s cA ty ∧ s.vm.findClass ("[" ++ ty.toString) = some cA := by
  obtain ⟨c, k, comp, h1, h2, h3⟩ := Cond.arrayClass_spec (args := args) (first := s) (o := none) (s := s) (idx := []) h
  exact ⟨c, fun n z => ⟨fun k h => (by cases h), k, h2, comp, h3⟩, h1⟩
theorem arr_o {args : Array Value} {s : State} {C : String} (h : (Cond.arrayOver (.object C)).before args s = true) : ∃ cA, ArrOfT s cA (.object C) ∧ va_RA s cA (.object C) := by
  obtain ⟨comp, c, k, h1, h2, h3, h4, h5⟩ := Cond.arrayOver_spec (args := args) (first := s) (o := none) (s := s) (idx := []) h
  exact ⟨c, fun n z => ⟨fun k h => (by cases h), k, h3, comp, h4⟩, k, comp, h3, h4, h1, h5⟩
theorem st_K {b : Nat} {s : State} (hts : ∀ w ∈ lw_tbl, w.before #[Value.ref b] s = true) : ∃ D tA, Kt0 D tA s := by
  have htb : ∀ w ∈ TB, w.before #[Value.ref b] s = true := fun w hw => hts w (List.mem_filter.mp hw).1
  have h0 : ∀ k : Nat, ∃ q : ClassId × (Nat → Nat), k < 10 → u_Kn s (clC k).1 (clC k).2.1 (clC k).2.2 q.1 q.2 := by
    intro k
    by_cases hk : k < 10
    · obtain ⟨c, i, h⟩ := u_known htb (cls_in hk) (htb _ (cls_inst hk))
      exact ⟨(c, i), fun _ => h⟩
    · obtain ⟨c, i, h⟩ := u_known htb (cls_in (show 0 < 10 by omega)) (htb _ (cls_inst (show 0 < 10 by omega)))
      exact ⟨(c, i), fun z => absurd z hk⟩
  obtain ⟨f, hf⟩ := Classical.axiomOfChoice h0
  obtain ⟨w1, w2, w3, w4, w5, w6, w7, w8⟩ := w_arr
  obtain ⟨a1, g1, r1⟩ := arr_p (hts _ w1)
  obtain ⟨a2, g2, r2⟩ := arr_p (hts _ w2)
  obtain ⟨a3, g3, r3⟩ := arr_p (hts _ w3)
  obtain ⟨a4, g4, r4⟩ := arr_o (hts _ w4)
  obtain ⟨a5, g5, r5⟩ := arr_o (hts _ w5)
  obtain ⟨a6, g6, r6⟩ := arr_o (hts _ w6)
  obtain ⟨a7, g7, r7⟩ := arr_o (hts _ w7)
  obtain ⟨a8, g8, r8⟩ := arr_o (hts _ w8)
  refine ⟨(fun k => (f k).1, fun k => (f k).2), fun t => if t = 20 then a1 else if t = 21 then a2 else if t = 22 then a3 else if t = 23 then a4 else if t = 24 then a5 else if t = 25 then a6 else if t = 26 then a7 else a8, ⟨fun k q hq => ?_, fun k q hq => ?_⟩, fun w hw => ?_⟩
  · have hk : k < 10 := by
      have := (List.getElem?_eq_some_iff.mp hq).1
      exact this
    have e : clC k = q := by
      unfold clC
      rw [List.getD_eq_getElem?_getD, hq]; rfl
    have := hf k hk
    rw [e] at this
    exact this
  · match k, hq with
    | 0, hq => cases hq; exact ⟨g1, r1⟩
    | 1, hq => cases hq; exact ⟨g2, r2⟩
    | 2, hq => cases hq; exact ⟨g3, r3⟩
    | 3, hq => cases hq; exact ⟨g4, r4⟩
    | 4, hq => cases hq; exact ⟨g5, r5⟩
    | 5, hq => cases hq; exact ⟨g6, r6⟩
    | 6, hq => cases hq; exact ⟨g7, r7⟩
    | 7, hq => cases hq; exact ⟨g8, r8⟩
    | k + 8, hq => cases hq
  · obtain ⟨h1, h2⟩ := List.mem_filter.mp hw
    have h3 := hts w h1
    cases w <;> first | exact va_Nw.of (A := #[Value.ref b]) rfl h3 | (cases h2; done) | (rename_i ty; cases ty <;> first | exact va_AO.of h3 | (cases h2; done))
theorem st_W {b L : Nat} {xs : Nat → Int32} {s : State} (hL : L ≤ 384) (hts : ∀ w ∈ lw_tbl, w.before #[Value.ref b] s = true) (hg : (Jvm.Cond.and given_1 narrow_1).before #[Value.ref b] s = true) (hX : va_X b L xs s s.heap) (hb : b < s.heap.size) : ∃ D tA kc, kc 20 = .ref b ∧ Wd D tA s.heap.size kc (fun _ => 0) (Sh L 0 RFy) (ini xs) s := by
  obtain ⟨D, tA, hK⟩ := st_K hts
  have hA : ∀ a : Nat, a < s.heap.size → ¬ Gf s.heap.size a := fun a h z => by
    have : s.heap.size ≤ a := z
    omega
  obtain ⟨s1, s2, s3, s4⟩ := fl_str hg
  obtain ⟨adK, adV, hS, hE⟩ := vk_Sof (N := 6) (tm := tmS) (len := SLEN) (byt := SBYT) (A := Gf s.heap.size) (six (by decide) (by decide) (by decide) (by decide) (by decide) (by decide)) s1 s2 s3 s4 (fl_el hg) (fl_ne hg) hA
  obtain ⟨i1, i2, i3, i4, i5, i6⟩ := w_in
  obtain ⟨b1, b2, b3, b4, b5⟩ := fl_above hg
  obtain ⟨t, ht, hT⟩ := va_Tof (N := 6) (f := fun k => .int (abv k)) (A := Gf s.heap.size) (by decide) b1 (va_eqt b2) (fun j hj => va_eqt (b3 j hj)) hA
  have hZ7 := va_Zof (hts _ i1) (hts _ i4) ht hA
  have hZ1 := va_Zof (v := .int 1) (hts _ i2) (hts _ i5) (va_eqt b4) hA
  have hZ8 := va_Zqof (hts _ i3) (hts _ i6) b5 hA
  obtain ⟨v8, hv8, hZ8⟩ : ∃ v8 : Value, (v8 = .null ∨ ∃ a, v8 = .ref a) ∧ va_Z "jdk/internal/util/Preconditions" "SIOOBE_FORMATTER" "Ljava/util/function/BiFunction;" v8 (Gf s.heap.size) s s.heap := by
    rcases hZ8 with h | ⟨t8, h⟩
    · exact ⟨_, Or.inl rfl, h⟩
    · exact ⟨_, Or.inr ⟨t8, rfl⟩, h⟩
  refine ⟨D, tA, fun k => if k < 6 then .ref (adK k) else if k = 7 then .ref t else if k = 8 then v8 else if k = 20 then .ref b else if k < 16 then .ref (adV (k - 10)) else .null, rfl, hK, ⟨fun k => ?_, six ⟨_, rfl⟩ ⟨_, rfl⟩ ⟨_, rfl⟩ ⟨_, rfl⟩ ⟨_, rfl⟩ ⟨_, rfl⟩, six ⟨_, rfl⟩ ⟨_, rfl⟩ ⟨_, rfl⟩ ⟨_, rfl⟩ ⟨_, rfl⟩ ⟨_, rfl⟩, ⟨t, rfl⟩, ⟨b, rfl⟩, ?_, fun k hk => ?_, hZ7, hT, hZ1, hZ8, ?_, fun z => hA b hb z, ?_⟩, ?_⟩
  · dsimp only
    split
    · exact Or.inr ⟨_, rfl⟩
    · split
      · exact Or.inr ⟨_, rfl⟩
      · split
        · exact hv8
        · split
          · exact Or.inr ⟨_, rfl⟩
          · split
            · exact Or.inr ⟨_, rfl⟩
            · exact Or.inl rfl
  · obtain ⟨p1, p2⟩ := hS
    refine ⟨six (p1 0 (by omega)) (p1 1 (by omega)) (p1 2 (by omega)) (p1 3 (by omega)) (p1 4 (by omega)) (p1 5 (by omega)), fun i j hi hj e => p2 i j hi hj ?_⟩
    dsimp only at e
    rw [if_pos hi, if_pos hj] at e
    exact e
  · have h1 := hts _ (w_str k hk)
    have h2 := hE k hk
    refine ⟨STL.getD k (0, ""), ?_, vk_R.of h1 ?_⟩
    · rcases k6 hk with rfl | rfl | rfl | rfl | rfl | rfl <;> rfl
    · dsimp only
      rw [if_pos hk]
      exact h2
  · have e : ini xs 900 = xs := by funext i; exact if_pos rfl
    rw [e]
    exact hX
  · show L < 2 ^ 31; omega
  · exact ⟨fun k q h => (by cases h), ⟨fun i j p q h => (by cases h), fun k q h => (by cases h)⟩, ⟨show 0 ≤ 900 by omega, fun k h => absurd h (by show ¬ k < 0; omega), fun k f h => absurd h (by show ¬ k < 0; omega)⟩, Nat.le_refl _⟩
