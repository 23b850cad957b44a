-- texts: faults
def FdT (T : Nat → Int32) (n : Nat) (f : Lx → Rs) : Prop := ∀ x, LV T n x → ∀ p, f x = .inl p → p ≤ n
theorem rdL_fd {T : Nat → Int32} {n nm l : Nat} {sub : Lx → Rs} (hs : Gd T n nm sub) (hf : FdT T n sub) : ∀ i x cs, LV T n x → ∀ p, rdL T n sub l i x cs = .inl p → p ≤ n
  | 0, x, cs, hx, p, h => by unfold rdL at h; cases h
  | i + 1, x, cs, hx, p, h => by
    unfold rdL at h
    by_cases q : lo T x = nI l
    · rw [if_pos q] at h
      have ha := adv_lv (T := T) hx.2.1
      cases hr : sub (adv T n x) with
      | inl p' => rw [hr] at h; cases h; exact hf _ ha.1 _ hr
      | inr ze =>
        obtain ⟨z, es⟩ := ze
        rw [hr] at h
        dsimp only at h
        exact rdL_fd hs hf i z _ (hs _ ha.1 z es hr).1 p h
    · rw [if_neg q] at h; cases h
theorem rdJ_fd {T : Nat → Int32} {n nm : Nat} {pc : Lx → Rs} (hp : Gd T n nm pc) (hf : FdT T n pc) : ∀ r, r ≤ 5 → FdT T n (rdJ T n pc r)
  | 0, _ => hf
  | r + 1, hr => by
    intro x hx p h
    have ih := rdJ_fd hp hf r (by omega)
    have ig := rdJ_gd hp r (by omega)
    unfold rdJ at h
    cases hq : rdJ T n pc r x with
    | inl p' => rw [hq] at h; cases h; exact ih x hx _ hq
    | inr ze =>
      obtain ⟨z, es⟩ := ze
      rw [hq] at h
      dsimp only at h
      exact rdL_fd ig ih _ z es (ig x hx z es hq).1 p h
theorem rdP_fd {T : Nat → Int32} {n key : Nat} : ∀ g op ns, FdT T n (rdP T n key g op ns)
  | 0, op, ns => by intro x hx p h; unfold rdP at h; cases h; have := hx.1; have := hx.2.1; omega
  | g + 1, op, ns => by
    intro x hx p h
    have h1 := hx.1
    have h2 := hx.2.1
    have ha := adv_lv (T := T) hx.2.1
    unfold rdP at h
    by_cases q : x.so = 2 ∨ x.so = 3
    · rw [if_pos q] at h
      by_cases q2 : x.gl = true ∨ atm T key x < 0
      · rw [if_pos q2] at h; cases h; omega
      · rw [if_neg q2] at h; cases h
    · rw [if_neg q] at h
      by_cases q3 : mrk T x 33 ∧ ns < 8
      · rw [if_pos q3] at h
        cases hr : rdP T n key g op (ns + 1) (adv T n x) with
        | inl p' => rw [hr] at h; cases h; exact rdP_fd g op (ns + 1) _ ha.1 _ hr
        | inr ze => rw [hr] at h; cases h
      · rw [if_neg q3] at h
        by_cases q4 : mrk T x 40 ∧ op < 8
        · rw [if_pos q4] at h
          cases hr : rdJ T n (rdP T n key g (op + 1) ns) 5 (adv T n x) with
          | inl p' => rw [hr] at h; cases h; exact rdJ_fd (rdP_gd g (op + 1) ns) (rdP_fd g (op + 1) ns) 5 (Nat.le_refl _) _ ha.1 _ hr
          | inr ze =>
            obtain ⟨z, es⟩ := ze
            rw [hr] at h
            dsimp only at h
            have hz := (rdJ_gd (rdP_gd g (op + 1) ns) 5 (Nat.le_refl _) _ ha.1 z es hr).1
            by_cases q5 : mrk T z 41
            · rw [if_pos q5] at h; cases h
            · rw [if_neg q5] at h; cases h; have := hz.1; have := hz.2.1; omega
        · rw [if_neg q4] at h; cases h; omega
/-- the tape goes wrong at p -/
def faultT (T : Nat → Int32) (n p : Nat) : Prop := ((∀ k, k < 3 → ¬ wordIs T (adv T n lx0) k) ∧ p = (adv T n lx0).st) ∨ (∃ k, keyIs T (adv T n lx0) k ∧ tell T n k = .inl p) ∨ ∃ k y cs, keyIs T (adv T n lx0) k ∧ tell T n k = .inr (y, cs) ∧ y.so ≠ 0 ∧ p = y.st
def goodT (T : Nat → Int32) (n k : Nat) (cs : List Int32) : Prop := keyIs T (adv T n lx0) k ∧ ∃ y, tell T n k = .inr (y, cs) ∧ y.so = 0
theorem key_one {T : Nat → Int32} {x : Lx} {k k' : Nat} (h : keyIs T x k) (h' : keyIs T x k') : k = k' := by
  by_cases a : k < k'
  · exact absurd h.2.1 (h'.2.2 k a)
  · by_cases b : k' < k
    · exact absurd h'.2.1 (h.2.2 k' b)
    · omega
theorem lv0 {T : Nat → Int32} {n : Nat} : LV T n (adv T n lx0) := (adv_lv (T := T) (n := n) (x := lx0) (Nat.zero_le _)).1
theorem lv1 {T : Nat → Int32} {n : Nat} : LV T n (adv T n (adv T n lx0)) := (adv_lv (T := T) (n := n) lv0.2.1).1
theorem fault_one {T : Nat → Int32} {n p p' : Nat} (h : faultT T n p) (h' : faultT T n p') : p = p' := by
  rcases h with ⟨h, e⟩ | ⟨k, h, e⟩ | ⟨k, y, cs, h, e, e0, ep⟩
  · rcases h' with ⟨h', e'⟩ | ⟨k', h', _⟩ | ⟨k', _, _, h', _⟩
    · rw [e, e']
    · exact absurd h'.2.1 (h k' h'.1)
    · exact absurd h'.2.1 (h k' h'.1)
  · rcases h' with ⟨h', e'⟩ | ⟨k', h', e'⟩ | ⟨k', y', cs', h', e', _, _⟩
    · exact absurd h.2.1 (h' k h.1)
    · rw [key_one h h', e'] at e; cases e; rfl
    · rw [key_one h h', e'] at e; cases e
  · rcases h' with ⟨h', e'⟩ | ⟨k', h', e'⟩ | ⟨k', y', cs', h', e', _, ep'⟩
    · exact absurd h.2.1 (h' k h.1)
    · rw [key_one h h', e'] at e; cases e
    · rw [key_one h h', e'] at e; cases e; rw [ep, ep']
theorem fault_good {T : Nat → Int32} {n p k : Nat} {cs : List Int32} (h : faultT T n p) (g : goodT T n k cs) : False := by
  obtain ⟨g1, y', g2, g3⟩ := g
  rcases h with ⟨h, e⟩ | ⟨k', h, e⟩ | ⟨k', y, ds, h, e, e0, ep⟩
  · exact h k g1.1 g1.2.1
  · rw [key_one h g1, g2] at e; cases e
  · rw [key_one h g1, g2] at e; cases e; exact e0 g3
theorem good_one {T : Nat → Int32} {n k k' : Nat} {cs cs' : List Int32} (h : goodT T n k cs) (h' : goodT T n k' cs') : k = k' ∧ cs = cs' := by
  obtain ⟨g1, y, g2, g3⟩ := h
  obtain ⟨g1', y', g2', g3'⟩ := h'
  have e := key_one g1 g1'
  subst e
  rw [g2'] at g2
  cases g2
  exact ⟨rfl, rfl⟩
theorem fault_le {T : Nat → Int32} {n p : Nat} (h : faultT T n p) : p ≤ n := by
  rcases h with ⟨h, e⟩ | ⟨k, h, e⟩ | ⟨k, y, cs, h, e, e0, ep⟩
  · have := (lv0 (T := T) (n := n)).1
    have := (lv0 (T := T) (n := n)).2.1
    omega
  · exact rdJ_fd (rdP_gd (key := k) 17 0 0) (rdP_fd 17 0 0) 5 (Nat.le_refl _) _ lv1 p e
  · have := (rdJ_gd (rdP_gd (key := k) 17 0 0) 5 (Nat.le_refl _) _ lv1 y cs e).1
    have := this.1
    have : y.en ≤ n := (rdJ_gd (rdP_gd (key := k) 17 0 0) 5 (Nat.le_refl _) _ lv1 y cs e).1.2.1
    omega
theorem good_wf {T : Nat → Int32} {n k : Nat} {cs : List Int32} (hn : n ≤ 96) (h : goodT T n k cs) : k < 3 ∧ cs.length ≤ 96 ∧ wfl (nmK k) 0 cs 1 := by
  obtain ⟨g1, y, g2, g3⟩ := h
  obtain ⟨a, b, c⟩ := rdJ_gd (rdP_gd (key := k) 17 0 0) 5 (Nat.le_refl _) _ lv1 y cs g2
  have := a.1
  have := a.2.1
  exact ⟨g1.1, by omega, c 0⟩
