-- the class: what a change of a moat does to the array
theorem mb_ge {b : Nat} (h : MB b) : 35 ≤ b := by rcases h with rfl | rfl | rfl <;> omega
theorem cnt_upd {A : Nat → Int32} {i nx : Nat} {v key : Int32} (hi : i < 92) : cntO (upd A i v) key nx = cntO A key nx := cntO_congr (fun k _ => pk_un (by omega))
theorem RepM.z {b nt nw nx : Nat} {A : Nat → Int32} {m : Mem} {v : Int32} (h : RepM b nt nw nx A m) : RepM b nt nw nx (upd A 0 v) (mu m b 11 v) := by
  obtain ⟨⟨a4, a5, a6, a7, a8, a9, a10, a11⟩, h2, h3, h4, h5, h6⟩ := h
  refine ⟨⟨?_, ?_, ?_, ?_, ?_, ?_, ?_, ?_⟩, ⟨?_, ?_, ?_⟩, h3, fun t f ht hf => ?_, fun t f ht hf => ?_, fun k hk => ?_⟩
  · rw [mu_ne (by decide)]; exact a4
  · rw [mu_ne (by decide)]; exact a5
  · rw [mu_ne (by decide)]; exact a6
  · rw [mu_ne (by decide), pk_un (by decide)]; exact a7
  · rw [mu_ne (by decide), pk_un (by decide)]; exact a8
  · rw [mu_ne (by decide), pk_un (by decide)]; exact a9
  · rw [mu_ne (by decide), pk_un (by decide)]; exact a10
  · rw [mu_at, pk_us]
  · rw [pk_un (by decide)]; exact h2.1
  · rw [pk_un (by decide)]; exact h2.2.1
  · rw [pk_un (by decide)]; exact h2.2.2
  · rw [mu_row (by omega), pk_un (by omega)]; exact h4 t f ht hf
  · rw [mu_row (by omega), pk_un (by omega)]; exact h5 t f ht hf
  · rw [mu_row (by omega), cnt_upd (by omega)]; exact h6 k hk
/-- a field of ints of the moat itself: 7, 8, 9 stand for 3, 4, 5; 10 for 2 -/
theorem RepM.rule {b nt nw nx i j : Nat} {A : Nat → Int32} {m : Mem} {v : Int32} (hij : (i = 7 ∧ j = 3) ∨ (i = 8 ∧ j = 4) ∨ (i = 9 ∧ j = 5) ∨ (i = 10 ∧ j = 2)) (h : RepM b nt nw nx A m) : RepM b nt nw nx (upd A j v) (mu m b i v) := by
  obtain ⟨⟨a4, a5, a6, a7, a8, a9, a10, a11⟩, h2, h3, h4, h5, h6⟩ := h
  have other : ∀ {x y : Nat}, m b x = A y → x ≠ i → y ≠ j → mu m b i v b x = upd A j v y := fun e h1 h2 => by rw [mu_ne h1, pk_un h2]; exact e
  have same : mu m b i v b i = upd A j v j := by rw [mu_at, pk_us]
  refine ⟨⟨?_, ?_, ?_, ?_, ?_, ?_, ?_, ?_⟩, ⟨?_, ?_, ?_⟩, h3, fun t f ht hf => ?_, fun t f ht hf => ?_, fun k hk => ?_⟩
  · rw [mu_ne (by omega)]; exact a4
  · rw [mu_ne (by omega)]; exact a5
  · rw [mu_ne (by omega)]; exact a6
  · rcases hij with ⟨rfl, rfl⟩ | ⟨rfl, rfl⟩ | ⟨rfl, rfl⟩ | ⟨rfl, rfl⟩
    · exact same
    all_goals exact other a7 (by decide) (by decide)
  · rcases hij with ⟨rfl, rfl⟩ | ⟨rfl, rfl⟩ | ⟨rfl, rfl⟩ | ⟨rfl, rfl⟩
    · exact other a8 (by decide) (by decide)
    · exact same
    all_goals exact other a8 (by decide) (by decide)
  · rcases hij with ⟨rfl, rfl⟩ | ⟨rfl, rfl⟩ | ⟨rfl, rfl⟩ | ⟨rfl, rfl⟩
    · exact other a9 (by decide) (by decide)
    · exact other a9 (by decide) (by decide)
    · exact same
    · exact other a9 (by decide) (by decide)
  · rcases hij with ⟨rfl, rfl⟩ | ⟨rfl, rfl⟩ | ⟨rfl, rfl⟩ | ⟨rfl, rfl⟩
    · exact other a10 (by decide) (by decide)
    · exact other a10 (by decide) (by decide)
    · exact other a10 (by decide) (by decide)
    · exact same
  · exact other a11 (by omega) (by omega)
  · rw [pk_un (by omega)]; exact h2.1
  · rw [pk_un (by omega)]; exact h2.2.1
  · rw [pk_un (by omega)]; exact h2.2.2
  · rw [mu_row (by omega), pk_un (by omega)]; exact h4 t f ht hf
  · rw [mu_row (by omega), pk_un (by omega)]; exact h5 t f ht hf
  · rw [mu_row (by omega), cnt_upd (by omega)]; exact h6 k hk
theorem RepM.tu {b nt nw nx t f : Nat} {A : Nat → Int32} {m : Mem} {v : Int32} (ht : t < nt) (hf : f < 6) (h : RepM b nt nw nx A m) : RepM b nt nw nx (upd A (44 + 6 * t + f) v) (mu m (b + 4 + t) f v) := by
  obtain ⟨h1, h2, h3, h4, h5, h6⟩ := h
  refine ⟨?_, ⟨?_, ?_, ?_⟩, h3, fun t' f' ht' hf' => ?_, fun t' f' ht' hf' => ?_, fun k hk => ?_⟩
  · rw [mu_row (by omega), pk_un (by omega), pk_un (by omega), pk_un (by omega), pk_un (by omega), pk_un (by omega)]; exact h1
  · rw [pk_un (by omega)]; exact h2.1
  · rw [pk_un (by omega)]; exact h2.2.1
  · rw [pk_un (by omega)]; exact h2.2.2
  · by_cases e : t' = t
    · subst e
      by_cases e2 : f' = f
      · subst e2; rw [mu_at, pk_us]
      · rw [mu_ne e2, pk_un (by omega)]; exact h4 t' f' ht' hf'
    · rw [mu_row (by omega), pk_un (by omega)]; exact h4 t' f' ht' hf'
  · rw [mu_row (by omega), pk_un (by omega)]; exact h5 t' f' ht' hf'
  · rw [mu_row (by omega), cnt_upd (by omega)]; exact h6 k hk
theorem RepM.wa {b nt nw nx t f : Nat} {A : Nat → Int32} {m : Mem} {v : Int32} (ht : t < nw) (hf : f < 3) (h : RepM b nt nw nx A m) : RepM b nt nw nx (upd A (8 + 3 * t + f) v) (mu m (b + 12 + t) f v) := by
  obtain ⟨h1, h2, h3, h4, h5, h6⟩ := h
  refine ⟨?_, ⟨?_, ?_, ?_⟩, h3, fun t' f' ht' hf' => ?_, fun t' f' ht' hf' => ?_, fun k hk => ?_⟩
  · rw [mu_row (by omega), pk_un (by omega), pk_un (by omega), pk_un (by omega), pk_un (by omega), pk_un (by omega)]; exact h1
  · rw [pk_un (by omega)]; exact h2.1
  · rw [pk_un (by omega)]; exact h2.2.1
  · rw [pk_un (by omega)]; exact h2.2.2
  · rw [mu_row (by omega), pk_un (by omega)]; exact h4 t' f' ht' hf'
  · by_cases e : t' = t
    · subst e
      by_cases e2 : f' = f
      · subst e2; rw [mu_at, pk_us]
      · rw [mu_ne e2, pk_un (by omega)]; exact h5 t' f' ht' hf'
    · rw [mu_row (by omega), pk_un (by omega)]; exact h5 t' f' ht' hf'
  · rw [mu_row (by omega), cnt_upd (by omega)]; exact h6 k hk
/-- only the moat at b (and the class's own stack and names) may change -/
def FrB (b : Nat) (m m' : Mem) : Prop := ∀ r, r ≠ 3 → r ≠ 4 → (r < b ∨ b + 24 ≤ r) → m' r = m r
theorem FrB.refl {b : Nat} {m : Mem} : FrB b m m := fun _ _ _ _ => rfl
theorem FrB.trans {b : Nat} {m m' m'' : Mem} (h : FrB b m m') (h' : FrB b m' m'') : FrB b m m'' := fun r a c e => (h' r a c e).trans (h r a c e)
theorem FrB.mu {b a i : Nat} {m m' : Mem} {v : Int32} (h : FrB b m m') (h1 : b ≤ a) (h2 : a < b + 24) : FrB b m (mu m' a i v) := fun r q1 q2 q3 => by rw [mu_row (by omega)]; exact h r q1 q2 q3
theorem FrB.fr {b : Nat} {m m' m'' : Mem} (h : FrB b m m') (h' : Fr [3, 4] m' m'') : FrB b m m'' := fun r a c e => by rw [h' r (by simp; omega)]; exact h r a c e
theorem RepT.frB {nx b : Nat} {A : Nat → Int32} {m m' : Mem} (hb : MB b) (hx : nx ≤ 14) (h : RepT nx A m) (hF : FrB b m m') : RepT nx A m' := h.fr hx (fun r h1 h2 => hF r (by omega) (by omega) (Or.inl (by have := mb_ge hb; omega)))
theorem RepT.upd {nx i : Nat} {A : Nat → Int32} {m : Mem} {v : Int32} (h : RepT nx A m) (hi : i < 92) : RepT nx (upd A i v) m := h.congr (fun k hk => pk_un (by omega))
def WB (nt : Nat) (A : Nat → Int32) : Prop := ∀ t, t < nt → (A (44 + 6 * t + 4) = 0 ∨ A (44 + 6 * t + 4) = 1) ∧ (A (44 + 6 * t + 5) = 0 ∨ A (44 + 6 * t + 5) = 1)
theorem wb_dayT {nt t : Nat} {A : Nat → Int32} (h : WB nt A) : WB nt (dayT A t) := by
  intro u hu
  by_cases e : u = t
  · subst e
    unfold dayT
    by_cases q : A (44 + 6 * u + 5) = 1
    · rw [if_pos q]; exact h u hu
    · rw [if_neg q]
      refine ⟨?_, ?_⟩
      · rw [pk_un (by omega), pk_un (by omega), pk_un (by omega)]
        unfold drawA
        rw [pk_un (by omega)]; exact (h u hu).1
      · rw [pk_us]
        by_cases z : A (44 + 6 * u + 3) + 1 < A 5
        · rw [if_pos z]; exact Or.inl rfl
        · rw [if_neg z]; exact Or.inr rfl
  · rw [dayT_other e (by omega), dayT_other e (by omega)]; exact h u hu
