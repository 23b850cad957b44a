-- a call that makes cells and leaves them
theorem wl_sub {tA : Nat → ClassId} {ad : Nat → Nat} {S S' : Shp} {mem : Mem} {k : Nat} {q : Nat × va_E} (h1 : S.1 ≤ S'.1) (hc : ∀ k, k < S.1 → S'.2.1 k = S.2.1 k ∧ S'.2.2.1 k = S.2.2.1 k ∧ ∀ f, S'.2.2.2 k f = S.2.2.2 k f) (h : (wl tA ad S mem)[k]? = some q) : (wl tA ad S' mem)[k]? = some q := by
  unfold wl at h ⊢
  rw [List.getElem?_map] at h ⊢
  by_cases hk : k < S.1
  · rw [List.getElem?_range hk] at h
    rw [List.getElem?_range (show k < S'.1 by omega)]
    obtain ⟨a, b, c⟩ := hc k hk
    have e : cellE tA ad S' mem k = cellE tA ad S mem k := by
      unfold cellE
      rw [a, b]
      simp only [c]
    simp only [Option.map_some] at h ⊢
    rw [e]; exact h
  · have : (List.range S.1)[k]? = none := by rw [List.getElem?_eq_none]; rw [List.length_range]; omega
    rw [this] at h; cases h
theorem s0_cl : ∀ k, k < 161 → CLy k < 10 ∨ (20 ≤ CLy k ∧ CLy k < 28) := by decide +kernel
theorem s0_rf : ∀ k, k < 161 → (RFr k).all (fun a => Nat.ble a 161) = true := by decide +kernel
theorem nth_all : ∀ {l : List Nat} {f : Nat}, l.all (fun a => Nat.ble a 161) = true → (nth l f).getD 0 ≤ 161
  | [], _, _ => Nat.zero_le _
  | a :: l, 0, h => by
    rw [List.all_cons, Bool.and_eq_true] at h
    exact Nat.le_of_ble_eq_true h.1
  | a :: l, f + 1, h => by
    rw [List.all_cons, Bool.and_eq_true] at h
    exact nth_all (l := l) (f := f) h.2
theorem s0_wf (L : Nat) : Wf (S0 L) := ⟨show 161 ≤ 900 by omega, fun k hk => s0_cl k hk, fun k f hk => nth_all (s0_rf k hk)⟩
theorem Mc_trunc {D L r : Nat} {as : List Value} {m : Mem} {Q : Qt} (h : Mc D 222 as (S0 L) m (fun v S m' => (∃ i, v = some (.int i)) ∧ S = SR L r ∧ Q v (S0 L) m')) : Mc D 222 as (S0 L) m Q := by
  intro l D' tA base kc ad
  refine MetFree.mono (h l D' tA base kc ad) (fun _ _ h => h) (fun _ _ _ _ _ h => h) ?_
  rintro a s o t - ⟨⟨v, S', mem', ad', h1, ⟨⟨i, hi⟩, hS, hq⟩, ⟨h3, h3b, h3c⟩, h4, h5, h6, h7⟩, h8⟩
  subst hS
  refine ⟨⟨v, S0 L, mem', ad', h1, hq, ⟨h3, ?_, ?_⟩, h4, Nat.le_refl _, h6, h7⟩, h8⟩
  · exact h3b
  · obtain ⟨w1, w2, w3, w4⟩ := h3c
    have sub : ∀ (k : Nat) (q : Nat × va_E), (wl tA ad' (S0 L) mem')[k]? = some q → (wl tA ad' (SR L r) mem')[k]? = some q := fun k q hq => by
      refine wl_sub (S := S0 L) (S' := SR L r) (show 161 ≤ 162 by omega) (fun k hk => ?_) hq
      have hk : k < 161 := hk
      exact ⟨upn_ne (by omega), upn_ne (by omega), fun f => srRF hk⟩
    exact ⟨fun k q hk => w1 k q (sub k q hk), ⟨fun i j p q hi hj e => w2.1 i j p q (sub i p hi) (sub j q hj) e, fun k q hk => w2.2 k q (sub k q hk)⟩, s0_wf L, w4⟩
