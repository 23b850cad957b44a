-- pairs: text
theorem trS_neg (s : Int32) : trS s < 0 ∧ ¬ trS s = -10 := by
  unfold trS
  repeat' split
  all_goals decide
theorem trC_atom {a : Int32} (h : a < 10100) : trC a = a := if_pos h
theorem trC_sig {a : Int32} (h : ¬ a < 10100) (h2 : ¬ a = 10133) : trC a < 0 ∧ ¬ trC a = -10 := by
  have : trC a = trS (a - 10100) := (if_neg h).trans (if_neg h2)
  rw [this]; exact trS_neg _
theorem okC_nn {nm : Nat} {a : Int32} (h : okC nm a) : ¬ a < 0 := by
  rw [tI_lt]; show ¬ _ < (0 : Int); have := h.1.1; omega
theorem wfl_dpt {nm e : Nat} {c : Nat → Int32} {cs : List Int32} (hc : ∀ i, i < cs.length → c i = (cs.map trC).getD i 0) : ∀ (suf pre : List Int32), cs = pre ++ suf → wfl nm (dpt c pre.length) suf e → dpt c cs.length = e ∧ ∀ k, pre.length ≤ k → k < cs.length → ((c k < 0 → (c k = -10 ∧ 1 ≤ dpt c k) ∨ (¬ c k = -10 ∧ 2 ≤ dpt c k)) ∧ (¬ c k < 0 → c k < 10000 ∨ ∃ i, i < nm ∧ c k = nI (10000 + i))) ∧ ¬ cs.getD k 0 < 0
  | [], pre, hp, h => by
    have hl : cs.length = pre.length := by rw [hp]; simp
    refine ⟨?_, fun k h1 h2 => by omega⟩
    rw [hl]
    have : e = dpt c pre.length := h
    exact this.symm
  | a :: suf, pre, hp, h => by
    have hl : cs.length = pre.length + (suf.length + 1) := by rw [hp]; simp
    have hget : cs.getD pre.length 0 = a := by rw [hp]; simp [List.getD]
    have hca : c pre.length = trC a := by
      rw [hc pre.length (by omega)]
      have : (cs.map trC).getD pre.length 0 = trC a := by rw [hp]; simp [List.getD]
      exact this
    have hp2 : cs = (pre ++ [a]) ++ suf := by rw [hp]; simp
    have hl2 : (pre ++ [a]).length = pre.length + 1 := by simp
    have next : ∀ d, dpt c (pre.length + 1) = d → wfl nm d suf e → (((c pre.length < 0 → (c pre.length = -10 ∧ 1 ≤ dpt c pre.length) ∨ (¬ c pre.length = -10 ∧ 2 ≤ dpt c pre.length)) ∧ (¬ c pre.length < 0 → c pre.length < 10000 ∨ ∃ i, i < nm ∧ c pre.length = nI (10000 + i))) ∧ ¬ a < 0) → dpt c cs.length = e ∧ ∀ k, pre.length ≤ k → k < cs.length → ((c k < 0 → (c k = -10 ∧ 1 ≤ dpt c k) ∨ (¬ c k = -10 ∧ 2 ≤ dpt c k)) ∧ (¬ c k < 0 → c k < 10000 ∨ ∃ i, i < nm ∧ c k = nI (10000 + i))) ∧ ¬ cs.getD k 0 < 0 := by
      intro d hd hw hk
      have ih := wfl_dpt hc suf (pre ++ [a]) hp2 (by rw [hl2, hd]; exact hw)
      refine ⟨ih.1, fun k h1 h2 => ?_⟩
      by_cases q : k = pre.length
      · subst q; rw [hget]; exact hk
      · exact ih.2 k (by rw [hl2]; omega) h2
    unfold wfl at h
    by_cases q : a < 10100
    · rw [if_pos q] at h
      have nn := okC_nn h.1
      have e1 : c pre.length = a := by rw [hca, trC_atom q]
      have n1 : ¬ c pre.length < 0 := by rw [e1]; exact nn
      refine next (dpt c pre.length + 1) ?_ h.2 ⟨⟨fun z => absurd z n1, fun _ => by rw [e1]; exact h.1.2⟩, nn⟩
      show (if c pre.length < 0 then _ else _) = _
      rw [if_neg n1]
    · rw [if_neg q] at h
      have nn : ¬ a < 0 := by
        intro z
        apply q
        rw [tI_lt] at z ⊢
        have e0 : (0 : Int32).toInt = 0 := rfl
        have e1 : (10100 : Int32).toInt = 10100 := rfl
        omega
      by_cases q2 : a = 10133
      · rw [if_pos q2] at h
        have e1 : c pre.length = -10 := by rw [hca, q2]; decide
        have n1 : c pre.length < 0 := by rw [e1]; decide
        refine next (dpt c pre.length) ?_ h.2 ⟨⟨fun _ => Or.inl ⟨e1, h.1⟩, fun z => absurd n1 z⟩, nn⟩
        show (if c pre.length < 0 then (if c pre.length = -10 then _ else _) else _) = _
        rw [if_pos n1, if_pos e1]
      · rw [if_neg q2] at h
        have hs := trC_sig q q2
        rw [← hca] at hs
        refine next (dpt c pre.length - 1) ?_ h.2.2 ⟨⟨fun _ => Or.inr ⟨hs.2, h.1⟩, fun z => absurd hs.1 z⟩, nn⟩
        show (if c pre.length < 0 then (if c pre.length = -10 then _ else _) else _) = _
        rw [if_pos hs.1, if_neg hs.2]
theorem wfl_wfc {nm : Nat} {c : Nat → Int32} {cs : List Int32} (hl : cs.length ≤ 96) (h : wfl nm 0 cs 1) (hc : ∀ i, i < cs.length → c i = (cs.map trC).getD i 0) : wfc c nm cs.length ∧ ∀ k, k < cs.length → ¬ cs.getD k 0 < 0 := by
  have := wfl_dpt (nm := nm) (e := 1) hc cs [] rfl h
  exact ⟨⟨hl, this.1, fun k hk => (this.2 k (Nat.zero_le _) hk).1⟩, fun k hk => (this.2 k (Nat.zero_le _) hk).2⟩
theorem wfl_cnt {nm : Nat} : ∀ {cs : List Int32} {d e : Nat}, wfl nm d cs e → (cs.map trC).countP (fun c => decide (¬ c < 0)) = cs.countP (fun c => decide (c < 10100))
  | [], _, _, _ => rfl
  | a :: cs, d, e, h => by
    unfold wfl at h
    rw [List.map_cons, List.countP_cons, List.countP_cons]
    by_cases q : a < 10100
    · rw [if_pos q] at h
      rw [wfl_cnt h.2, trC_atom q]
      have nn := okC_nn h.1
      have e1 : decide (¬ a < 0) = true := decide_eq_true nn
      have e2 : decide (a < 10100) = true := decide_eq_true q
      rw [e1, e2]
    · rw [if_neg q] at h
      have e2 : decide (a < 10100) = false := decide_eq_false q
      have hn : trC a < 0 := by
        by_cases q2 : a = 10133
        · rw [q2]; decide
        · exact (trC_sig q q2).1
      have e1 : decide (¬ trC a < 0) = false := decide_eq_false (fun z => z hn)
      rw [e1, e2]
      by_cases q2 : a = 10133
      · rw [if_pos q2] at h; rw [wfl_cnt h.2]
      · rw [if_neg q2] at h; rw [wfl_cnt h.2.2]
theorem RepT.frx {nx : Nat} {A : Nat → Int32} {m m' : Mem} (h : RepT nx A m) (hf : ∀ x, x < nx → m' (5 + 2 * x) = m (5 + 2 * x) ∧ m' (6 + 2 * x) = m (6 + 2 * x)) : RepT nx A m' := fun x hk => by
  obtain ⟨key, n, h1, h2, h3, h4, h5, h6, h7, h8, h9⟩ := h x hk
  obtain ⟨e1, e2⟩ := hf x hk
  exact ⟨key, n, h1, h2, h3, h4, by rw [e1]; exact h5, by rw [e1]; exact h6, by rw [e1]; exact h7, by rw [e2]; exact h8, by rw [e2]; exact h9⟩
theorem Mo.frx {B : Int} {b nt nw nx : Nat} {A : Nat → Int32} {m m' : Mem} (h : Mo B b nt nw nx A m) (hf : ∀ x, x < nx → m' (5 + 2 * x) = m (5 + 2 * x) ∧ m' (6 + 2 * x) = m (6 + 2 * x)) (h2 : ∀ r, b ≤ r → r < b + 24 → m' r = m r) : Mo B b nt nw nx A m' := ⟨h.1.fr h2, h.2.1.frx hf, h.2.2⟩
theorem RepT.more {nx k : Nat} {A A' : Nat → Int32} {m : Mem} {cs : List Int32} (h : RepT nx A m) (hk : k < 3) (hl : cs.length ≤ 96) (hw : wfl (nmK k) 0 cs 1) (hT : TXT nx k cs m)
    (h1 : ∀ i, i ≠ 7 → i ≠ 92 + 2 * nx → i ≠ 93 + 2 * nx → (i < 120 + 96 * nx ∨ 120 + 96 * nx + cs.length ≤ i) → A' i = A i) (hnx : nx < 14) (h2 : A' (92 + 2 * nx) = nI (1000 * k + cs.length)) (h3 : A' (93 + 2 * nx) = nI ((cs.map trC).countP (fun c => decide (¬ c < 0)))) (h4 : ∀ i, i < cs.length → A' (120 + 96 * nx + i) = (cs.map trC).getD i 0) : RepT (nx + 1) A' m := fun x hx => by
  by_cases q : x = nx
  · subst q
    obtain ⟨t1, t2, t3, t4⟩ := hT
    obtain ⟨w1, w2⟩ := wfl_wfc (c := cdA A' x) hl hw h4
    refine ⟨k, cs.length, hk, hl, h2, w1, t1, t2, ?_, fun i hi => ?_, fun i hi => ?_⟩
    · rw [t3, show 92 + 2 * x + 1 = 93 + 2 * x by omega, h3, wfl_cnt hw]
    · show A' (120 + 96 * x + i) = _
      rw [h4 i hi, t4 i hi]
      simp [List.getD, List.getElem?_map, List.getElem?_eq_getElem hi]
    · rw [t4 i hi]; exact w2 i hi
  · obtain ⟨key, n, a1, a2, a3, a4, a5, a6, a7, a8, a9⟩ := h x (by omega)
    have e : ∀ i, i < n → cdA A' x i = cdA A x i := fun i hi => h1 _ (by omega) (by omega) (by omega) (by omega)
    exact ⟨key, n, a1, a2, by rw [h1 _ (by omega) (by omega) (by omega) (by omega)]; exact a3, wfc_congr e a4, a5, a6, by rw [h1 _ (by omega) (by omega) (by omega) (by omega)]; exact a7, fun i hi => by rw [e i hi]; exact a8 i hi, a9⟩
