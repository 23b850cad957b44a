-- soundness, first part: the world as a list of cells, names, constants
theorem nth_eq {α : Type} : ∀ (l : List α) (i : Nat), nth l i = l[i]?
  | [], _ => rfl
  | _ :: _, 0 => rfl
  | _ :: l, k + 1 => by rw [List.getElem?_cons_succ]; exact nth_eq l k
theorem wl_get {tA : Nat → ClassId} {ad : Nat → Nat} {S : Shp} {mem : Mem} {k : Nat} (h : k < S.1) : (wl tA ad S mem)[k]? = some (ad k, cellE tA ad S mem k) := by
  unfold wl
  rw [List.getElem?_map, List.getElem?_range h]
  rfl
theorem wl_len {tA : Nat → ClassId} {ad : Nat → Nat} {S : Shp} {mem : Mem} : (wl tA ad S mem).length = S.1 := by
  unfold wl
  rw [List.length_map, List.length_range]
theorem wl_out {tA : Nat → ClassId} {ad : Nat → Nat} {S : Shp} {mem : Mem} {k : Nat} (h : S.1 ≤ k) : (wl tA ad S mem)[k]? = none := by
  rw [List.getElem?_eq_none_iff, wl_len]; exact h
theorem wl_set {tA : Nat → ClassId} {ad : Nat → Nat} {S S' : Shp} {mem mem' : Mem} {a : Nat} {e : va_E} (hn : S'.1 = S.1) (he : cellE tA ad S' mem' a = e) (ho : ∀ k, k < S.1 → k ≠ a → cellE tA ad S' mem' k = cellE tA ad S mem k) :
    (wl tA ad S mem).set a (ad a, e) = wl tA ad S' mem' := by
  apply List.ext_getElem?
  intro k
  rcases Nat.lt_or_ge k S.1 with hk | hk
  · by_cases hka : k = a
    · subst hka
      rw [wl_get (S := S') (by rw [hn]; exact hk), he, List.getElem?_set_self (by rw [wl_len]; exact hk)]
    · rw [List.getElem?_set_ne (fun q => hka q.symm), wl_get hk, wl_get (S := S') (by rw [hn]; exact hk), ho k hk hka]
  · rw [wl_out (S := S') (by rw [hn]; exact hk), List.getElem?_eq_none_iff, List.length_set, wl_len]
    exact hk
def fsL (ad : Nat → Nat) (S : Shp) (mem : Mem) (ci k : Nat) : List Value := (List.range (clC ci).2.2).map (fun f => fval ad (tyN ci f) (S.2.2.2 k f) (mem k f))
theorem cellE_obj {tA : Nat → ClassId} {ad : Nat → Nat} {S : Shp} {mem : Mem} {k ci : Nat} (h : S.2.1 k = ci) (hc : ci < 10) : cellE tA ad S mem k = .inr (ci, fsL ad S mem ci k) := by
  unfold cellE fsL
  rw [h, if_pos (by omega)]
theorem cellE_int {tA : Nat → ClassId} {ad : Nat → Nat} {S : Shp} {mem : Mem} {k t : Nat} (h : S.2.1 k = t) (h1 : 20 ≤ t) (h2 : t < 23) : cellE tA ad S mem k = .inl (tA t, S.2.2.1 k, .inl (mem k)) := by
  unfold cellE
  rw [h, if_neg (by omega), if_pos h2]
theorem cellE_ref {tA : Nat → ClassId} {ad : Nat → Nat} {S : Shp} {mem : Mem} {k t : Nat} (h : S.2.1 k = t) (h1 : 23 ≤ t) : cellE tA ad S mem k = .inl (tA t, S.2.2.1 k, .inr (.inr (.inr (.inr (fun i => rop ad (S.2.2.2 k i)))))) := by
  unfold cellE
  rw [h, if_neg (by omega), if_neg (by omega)]
theorem fsL_get {ad : Nat → Nat} {S : Shp} {mem : Mem} {ci k f : Nat} (hf : f < (clC ci).2.2) : (fsL ad S mem ci k)[f]? = some (fval ad (tyN ci f) (S.2.2.2 k f) (mem k f)) := by
  unfold fsL
  rw [List.getElem?_map, List.getElem?_range hf]
  rfl
theorem fsL_len {ad : Nat → Nat} {S : Shp} {mem : Mem} {ci k : Nat} : (fsL ad S mem ci k).length = (clC ci).2.2 := by
  unfold fsL
  rw [List.length_map, List.length_range]
theorem fsL_set {ad : Nat → Nat} {S S' : Shp} {mem mem' : Mem} {ci k f : Nat} {v : Value} (hv : fval ad (tyN ci f) (S'.2.2.2 k f) (mem' k f) = v) (ho : ∀ g, g ≠ f → S'.2.2.2 k g = S.2.2.2 k g ∧ mem' k g = mem k g) :
    (fsL ad S mem ci k).set f v = fsL ad S' mem' ci k := by
  apply List.ext_getElem?
  intro g
  rcases Nat.lt_or_ge g (clC ci).2.2 with hg | hg
  · by_cases hgf : g = f
    · subst hgf
      rw [fsL_get hg, List.getElem?_set_self (by rw [fsL_len]; exact hg), hv]
    · rw [List.getElem?_set_ne (fun q => hgf q.symm), fsL_get hg, fsL_get hg, (ho g hgf).1, (ho g hgf).2]
  · rw [List.getElem?_eq_none_iff.mpr (by rw [List.length_set, fsL_len]; exact hg), List.getElem?_eq_none_iff.mpr (by rw [fsL_len]; exact hg)]
-- names
def lva (kc : Nat → Value) (ad : Nat → Nat) (L : Lvs) : List (Nat × Value) := (List.range L.length).filterMap (fun i => match nth L i with
  | some (some v) => some (i, cv kc ad v)
  | _ => none)
theorem lva_mem {kc : Nat → Value} {ad : Nat → Nat} {L : Lvs} {i : Nat} {v : Value} (h : nth L i = some (some v)) : (i, cv kc ad v) ∈ lva kc ad L := by
  refine List.mem_filterMap.mpr ⟨i, List.mem_range.mpr ?_, by rw [h]⟩
  rw [nth_eq] at h
  exact (List.getElem?_eq_some_iff.mp h).1
theorem lva_of {kc : Nat → Value} {ad : Nat → Nat} {L : Lvs} {q : Nat × Value} (h : q ∈ lva kc ad L) : ∃ v, nth L q.1 = some (some v) ∧ q.2 = cv kc ad v := by
  obtain ⟨i, -, hi⟩ := List.mem_filterMap.mp h
  split at hi
  · rename_i v hv
    cases hi
    exact ⟨v, hv, rfl⟩
  · cases hi
theorem lvh.has {kc : Nat → Value} {ad : Nat → Nat} {ls : Array Slot} {n : Nat} {L : Lvs} (h : lvh kc ad ls n L) : lv_has ls n (lva kc ad L) := by
  refine ⟨h.1, h.2.1, fun q hq => ?_⟩
  obtain ⟨v, h1, h2⟩ := lva_of hq
  rw [h2]
  exact h.2.2 q.1 v h1
theorem cv_cat {kc : Nat → Value} {ad : Nat → Nat} (hk : ∀ k, kc k = .null ∨ ∃ a, kc k = .ref a) (v : Value) : (cv kc ad v).category = v.category := by
  cases v with
  | retAddr k =>
    show (kc k).category = _
    rcases hk k with h | ⟨a, h⟩ <;> rw [h] <;> rfl
  | _ => rfl
theorem set_nth {α : Type} {l : List α} {i j : Nat} {x : α} : nth (l.set i x) j = if i = j ∧ i < l.length then some x else nth l j := by
  rw [nth_eq, nth_eq]
  by_cases h : i = j
  · subst h
    by_cases h2 : i < l.length
    · rw [if_pos ⟨rfl, h2⟩, List.getElem?_set_self h2]
    · rw [if_neg (fun q => h2 q.2), List.getElem?_eq_none_iff.mpr (by rw [List.length_set]; omega), List.getElem?_eq_none_iff.mpr (by omega)]
  · rw [if_neg (fun q => h q.1), List.getElem?_set_ne h]
theorem kil_some {a : Option Value} {w : Value} (h : kil a = some w) : a = some w ∧ ¬ w.category = 2 := by
  unfold kil at h
  split at h
  · cases h
  · cases h
  · rename_i h1 h2
    subst h
    refine ⟨rfl, ?_⟩
    cases w with
    | long x => exact absurd rfl (h1 x)
    | double x => exact absurd rfl (h2 x)
    | _ => simp [Value.category]
theorem st1_nth : ∀ {L : Lvs} {i j : Nat} {v w : Value}, nth (st1 L i v) j = some (some w) → (j = i ∧ w = v) ∨ (j ≠ i ∧ nth L j = some (some w) ∧ ¬ (j + 1 = i ∧ w.category = 2))
  | [], _, _, _, _, h => by simp [st1, nth] at h
  | _ :: L, 0, 0, v, w, h => by
    simp only [st1, nth, Option.some.injEq] at h
    exact Or.inl ⟨rfl, h.symm⟩
  | _ :: L, 0, j + 1, v, w, h => Or.inr ⟨by omega, h, by omega⟩
  | a :: L, 1, 0, v, w, h => by
    simp only [st1, nth, Option.some.injEq] at h
    obtain ⟨h1, h2⟩ := kil_some h
    exact Or.inr ⟨by omega, by rw [h1]; rfl, fun q => h2 q.2⟩
  | a :: L, 1, j + 1, v, w, h => by
    have h1 : nth (st1 L 0 v) j = some (some w) := h
    rcases st1_nth h1 with ⟨q1, q2⟩ | ⟨q1, q2, q3⟩
    · exact Or.inl ⟨by omega, q2⟩
    · exact Or.inr ⟨by omega, q2, by omega⟩
  | a :: L, k + 2, 0, v, w, h => by
    simp only [st1, nth, Option.some.injEq] at h
    exact Or.inr ⟨by omega, by rw [h]; rfl, by omega⟩
  | a :: L, k + 2, j + 1, v, w, h => by
    have h1 : nth (st1 L (k + 1) v) j = some (some w) := h
    rcases st1_nth h1 with ⟨q1, q2⟩ | ⟨q1, q2, q3⟩
    · exact Or.inl ⟨by omega, q2⟩
    · exact Or.inr ⟨by omega, q2, fun q => q3 ⟨by omega, q.2⟩⟩
theorem st1_len : ∀ (L : Lvs) (i : Nat) (v : Value), (st1 L i v).length = L.length
  | [], _, _ => rfl
  | _ :: L, 0, _ => rfl
  | _ :: L, 1, v => by simp [st1, st1_len L 0 v]
  | _ :: L, k + 2, v => by simp [st1, st1_len L (k + 1) v]
theorem lvh_st1 {kc : Nat → Value} {ad : Nat → Nat} (hk : ∀ k, kc k = .null ∨ ∃ a, kc k = .ref a) {ls' : Array Slot} {n i : Nat} {L : Lvs} {v : Value} {w : Value} (hw : w = cv kc ad v) (h : lv_has ls' n ((i, w) :: (lva kc ad L).filter (fun q => !(q.1 == i) && !(q.1 + 1 == i && q.2.category == 2)))) : lvh kc ad ls' n (st1 L i v) := by
  refine ⟨h.1, h.2.1, fun j u hu => ?_⟩
  subst hw
  rcases st1_nth hu with ⟨rfl, rfl⟩ | ⟨h1, h2, h3⟩
  · exact h.2.2 _ List.mem_cons_self
  · refine h.2.2 (j, cv kc ad u) (List.mem_cons_of_mem _ (List.mem_filter.mpr ⟨lva_mem h2, ?_⟩))
    simp only [cv_cat hk]
    simp [h1]
    exact Decidable.not_and_iff_or_not.mp h3
theorem lvh_st2 {kc : Nat → Value} {ad : Nat → Nat} (hk : ∀ k, kc k = .null ∨ ∃ a, kc k = .ref a) {ls' : Array Slot} {n i : Nat} {L : Lvs} {v : Value} {w : Value} (hw : w = cv kc ad v) (h : lv_has ls' n ((i, w) :: (lva kc ad L).filter (fun q => !(q.1 == i) && (!(q.1 == i + 1) && !(q.1 + 1 == i && q.2.category == 2))))) (hi : i + 1 < L.length) : lvh kc ad ls' n (st2 L i v) := by
  refine ⟨h.1, h.2.1, fun j u hu => ?_⟩
  subst hw
  unfold st2 at hu
  rw [set_nth] at hu
  split at hu
  · cases hu
  · rename_i q
    have hlen : (st1 L i v).length = L.length := st1_len L i v
    have hj : j ≠ i + 1 := fun z => q ⟨z.symm, by rw [hlen]; exact hi⟩
    rcases st1_nth hu with ⟨rfl, rfl⟩ | ⟨h1, h2, h3⟩
    · exact h.2.2 _ List.mem_cons_self
    · refine h.2.2 (j, cv kc ad u) (List.mem_cons_of_mem _ (List.mem_filter.mpr ⟨lva_mem h2, ?_⟩))
      simp only [cv_cat hk]
      simp [h1, hj]
      exact Decidable.not_and_iff_or_not.mp h3
-- constants and tables under movements
theorem Kt0.same {D : va_G} {tA : Nat → ClassId} {u U : State} (hv : u.vm = U.vm) (h : Kt0 D tA u) : Kt0 D tA U := by
  refine ⟨va_K.moved (by rw [hv]; exact Vm.Alike.refl _) h.1, fun w hw => ?_⟩
  have h1 := h.2 w hw
  have h2 := (List.mem_filter.mp hw).2
  cases w with
  | methodLinkNest a b c d => exact va_Nw.same rfl hv h1
  | fieldLinkNest a b c d e f => exact va_Nw.same rfl hv h1
  | arrayOver ty =>
    cases ty with
    | object C => exact va_AO.moved (C := C) (by rw [hv]; exact Vm.Alike.refl _) h1
    | _ => simp at h2
  | _ => simp at h2

theorem Kt0.warm {D : va_G} {tA : Nat → ClassId} {s U : State} (hW : s.WarmedH U.vm) (h : Kt0 D tA s) : Kt0 D tA U := by
  refine ⟨va_K.moved hW.alike h.1, fun w hw => ?_⟩
  have h1 := h.2 w hw
  have h2 := (List.mem_filter.mp hw).2
  cases w with
  | methodLinkNest a b c d => exact va_Nw.warmM hW h1
  | fieldLinkNest a b c d e f => exact va_Nw.warmF hW h1
  | arrayOver ty =>
    cases ty with
    | object C => exact va_AO.moved (C := C) hW.alike h1
    | _ => simp at h2
  | _ => simp at h2
/-- the constants in a later heap and under warmer tables -/
theorem Kst.warm {base : Nat} {kc : Nat → Value} {L : Nat} {xs : Nat → Int32} {s U : State} {H : Heap} (hW : s.WarmedH U.vm) (hq : ∀ a : Nat, a < s.heap.size → ¬ Gf base a → H[a]? = s.heap[a]?) (h : Kst base kc L xs s s.heap) : Kst base kc L xs U H := by
  obtain ⟨h1, h2, h3, h4, h5, h6, h7, h8, h9, h10, h11, h12, h13, h14⟩ := h
  refine ⟨h1, h2, h3, h4, h5, (h6.kept hq).moved hW.alike, fun k hk => ?_, (h8.kept hq).moved hW.alike, (h9.kept hq).moved hW.alike, (h10.kept hq).moved hW.alike, (h11.kept hq).moved hW.alike, ?_, h13, h14⟩
  · obtain ⟨q, a, b⟩ := h7 k hk
    exact ⟨q, a, b.warm hW⟩
  · refine va_X.moved hW.alike (h12.kept ?_)
    obtain ⟨scr, z, -⟩ := h12
    exact hq _ (Array.getElem?_eq_some_iff.mp z).1 h13
theorem Kst.same {base : Nat} {kc : Nat → Value} {L : Nat} {xs : Nat → Int32} {u U : State} {H : Heap} (hv : u.vm = U.vm) (h : Kst base kc L xs u H) : Kst base kc L xs U H := by
  have hA : u.vm.Alike U.vm := by rw [hv]; exact Vm.Alike.refl _
  obtain ⟨h1, h2, h3, h4, h5, h6, h7, h8, h9, h10, h11, h12, h13, h14⟩ := h
  refine ⟨h1, h2, h3, h4, h5, h6.moved hA, fun k hk => ?_, h8.moved hA, h9.moved hA, h10.moved hA, h11.moved hA, va_X.moved hA h12, h13, h14⟩
  obtain ⟨q, a, b⟩ := h7 k hk
  exact ⟨q, a, b.same hv.symm⟩
/-- the script is the same, whatever the memory calls it -/
theorem Kst.swap {base : Nat} {kc : Nat → Value} {L L' : Nat} {xs xs' : Nat → Int32} {s t : State} {H : Heap} (h : Kst base kc L xs s s.heap) (hq : ∀ a : Nat, a < s.heap.size → ¬ Gf base a → H[a]? = s.heap[a]?) (h' : va_X (unr (kc 20)) L' xs' t H) : Kst base kc L' xs' s s.heap := by
  obtain ⟨h1, h2, h3, h4, h5, h6, h7, h8, h9, h10, h11, h12, h13, h14⟩ := h
  obtain ⟨scr, q1, q2, q3, q4, q5⟩ := h12
  obtain ⟨scr', r1, r2, r3, r4, r5⟩ := h'
  rw [hq _ (Array.getElem?_eq_some_iff.mp q1).1 h13, q1] at r1
  cases r1
  have e : L' = L := r4.symm.trans q4
  refine ⟨h1, h2, h3, h4, h5, h6, h7, h8, h9, h10, h11, ⟨scr, q1, q2, q3, r4, r5⟩, h13, by rw [e]; exact h14⟩
theorem Kst.ext {base : Nat} {kc : Nat → Value} {L : Nat} {xs xs' : Nat → Int32} {s : State} {H : Heap} (h : Kst base kc L xs s H) (e : xs' = xs) : Kst base kc L xs' s H := e ▸ h
