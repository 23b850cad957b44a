-- texts: what a tape says
def LV (T : Nat → Int32) (n : Nat) (x : Lx) : Prop := x.st ≤ x.en ∧ x.en ≤ n ∧ (x.so ≠ 0 → x.st < x.en) ∧ x.so ≤ 3 ∧ (x.so = 0 → x.st = n) ∧ (∀ i, x.st ≤ i → i < x.en → sor (T i) = x.so)
theorem rn_all {T : Nat → Int32} {c : Nat} : ∀ k p i, p ≤ i → i < rn T c k p → sor (T i) = c
  | 0, p, i, h1, h2 => by unfold rn at h2; omega
  | k + 1, p, i, h1, h2 => by
    unfold rn at h2
    split at h2
    · rename_i q
      by_cases e : i = p
      · rw [e]; exact q
      · exact rn_all k (p + 1) i (by omega) h2
    · omega
theorem adv_lv {T : Nat → Int32} {n : Nat} {x : Lx} (h : x.en ≤ n) : LV T n (adv T n x) ∧ x.en ≤ (adv T n x).st := by
  have h1 := advS_rng (T := T) h
  have h2 := advE_rng (T := T) h1.2
  refine ⟨⟨h2.1, h2.2.1, fun e => (h2.2.2.1 e).2, h2.2.2.2.2, h2.2.2.2.1, ?_⟩, h1.1⟩
  show ∀ i, advS T n x.en ≤ i → i < advE T n (advS T n x.en) → sor (T i) = advK T n (advS T n x.en)
  generalize advS T n x.en = s at *
  intro i i1 i2
  by_cases q0 : advK T n s = 0
  · have : advE T n s = s := if_pos q0
    omega
  have hs := h2.2.2.1 q0
  have es : advK T n s = sor (T s) := if_pos hs.1
  by_cases q1 : advK T n s = 1
  · have : advE T n s = s + 1 := (if_neg q0).trans (if_pos q1)
    have : i = s := by omega
    rw [this, es]
  · have ee : advE T n s = rn T (advK T n s) (n - (s + 1)) (s + 1) := (if_neg q0).trans (if_neg q1)
    rw [ee] at i2
    by_cases e : i = s
    · rw [e, es]
    · exact rn_all _ _ i (by omega) i2
def loV (b : Int32) : Int32 := if b = 38 then 1 else if b = 42 then 4 else if b = 43 then 3 else if b = 45 then 3 else if b = 47 then 4 else if b = 60 then 2 else if b = 61 then 2 else if b = 62 then 2 else if b = 124 then 0 else -1
def lo (T : Nat → Int32) (x : Lx) : Int32 := if x.so = 1 then loV (T x.st) else -1
abbrev mrk (T : Nat → Int32) (x : Lx) (b : Int32) : Prop := x.so = 1 ∧ T x.st = b
def nmI (key : Nat) (b : Int32) : Int32 := match key with
  | 0 => if b = 112 then 0 else if b = 97 then 1 else if b = 99 then 2 else if b = 120 then 3 else -1
  | 1 => if b = 119 then 0 else if b = 115 then 1 else if b = 116 then 2 else -1
  | _ => if b = 108 then 0 else if b = 112 then 1 else -1
def nv (T : Nat → Int32) (s : Nat) : Nat → Int32
  | 0 => 0
  | k + 1 => nv T s k * 10 + T (s + k) - 48
def atm (T : Nat → Int32) (key : Nat) (x : Lx) : Int32 := if x.so = 2 then (if 4 < x.en - x.st then -1 else nv T x.st (x.en - x.st)) else if x.en - x.st = 1 then (if nmI key (T x.st) < 0 then -1 else 10000 + nmI key (T x.st)) else -1
abbrev Rs : Type := Nat ⊕ (Lx × List Int32)
def rdL (T : Nat → Int32) (n : Nat) (sub : Lx → Rs) (l : Nat) : Nat → Lx → List Int32 → Rs
  | 0, x, cs => .inr (x, cs)
  | i + 1, x, cs => if lo T x = nI l then (match sub (adv T n x) with
      | .inl p => .inl p
      | .inr (y, ds) => rdL T n sub l i y (cs ++ ds ++ [10100 + T x.st])) else .inr (x, cs)
def rdJ (T : Nat → Int32) (n : Nat) (pc : Lx → Rs) : Nat → Lx → Rs
  | 0, x => pc x
  | r + 1, x => match rdJ T n pc r x with
    | .inl p => .inl p
    | .inr (y, cs) => rdL T n (rdJ T n pc r) (4 - r) (if 4 - r = 2 then 1 else 96) y cs
def rdP (T : Nat → Int32) (n key : Nat) : Nat → Nat → Nat → Lx → Rs
  | 0, _, _, x => .inl x.st
  | g + 1, op, ns, x => if x.so = 2 ∨ x.so = 3 then (if x.gl = true ∨ atm T key x < 0 then .inl x.st else .inr (adv T n x, [atm T key x]))
    else if mrk T x 33 ∧ ns < 8 then (match rdP T n key g op (ns + 1) (adv T n x) with
      | .inl p => .inl p
      | .inr (y, cs) => .inr (y, cs ++ [10133]))
    else if mrk T x 40 ∧ op < 8 then (match rdJ T n (rdP T n key g (op + 1) ns) 5 (adv T n x) with
      | .inl p => .inl p
      | .inr (y, cs) => if mrk T y 41 then .inr (adv T n y, cs) else .inl y.st)
    else .inl x.st
theorem nmI_rng (key : Nat) (b : Int32) : nmI key b = -1 ∨ ∃ i, i < nmK key ∧ nmI key b = nI i := by
  unfold nmI
  split
  · split
    · exact Or.inr ⟨0, by decide, rfl⟩
    · split
      · exact Or.inr ⟨1, by decide, rfl⟩
      · split
        · exact Or.inr ⟨2, by decide, rfl⟩
        · split
          · exact Or.inr ⟨3, by decide, rfl⟩
          · exact Or.inl rfl
  · split
    · exact Or.inr ⟨0, by decide, rfl⟩
    · split
      · exact Or.inr ⟨1, by decide, rfl⟩
      · split
        · exact Or.inr ⟨2, by decide, rfl⟩
        · exact Or.inl rfl
  · rename_i k0 k1
    have hk : nmK key = 2 := by
      unfold nmK
      split
      · rename_i e; exact absurd rfl k0
      · rename_i e; exact absurd rfl k1
      · rfl
    rw [hk]
    split
    · exact Or.inr ⟨0, by decide, rfl⟩
    · split
      · exact Or.inr ⟨1, by decide, rfl⟩
      · exact Or.inl rfl
theorem sor_dig {b : Int32} (h : sor b = 2) : 48 ≤ b.toInt ∧ b.toInt ≤ 57 := by
  have key : sor2 b = 2 → 48 ≤ b.toInt ∧ b.toInt ≤ 57 := by
    intro h
    unfold sor2 at h
    split at h
    · omega
    · split at h
      · omega
      · rename_i q1 q2
        rw [tI_lt] at q1 q2
        have e1 : (48 : Int32).toInt = 48 := rfl
        have e2 : (57 : Int32).toInt = 57 := rfl
        omega
  unfold sor at h
  split at h
  · exact key h
  · split at h
    · exact key h
    · omega
theorem nv_rng {T : Nat → Int32} {s : Nat} : ∀ k, k ≤ 4 → (∀ i, i < k → sor (T (s + i)) = 2) → 0 ≤ (nv T s k).toInt ∧ (nv T s k).toInt < 10 ^ k
  | 0, _, _ => by show (0 : Int) ≤ 0 ∧ (0 : Int) < 1; omega
  | k + 1, hk, h => by
    have ih := nv_rng k (by omega) (fun i hi => h i (by omega))
    have hd := sor_dig (h k (by omega))
    have hp : (10 : Int) ^ k ≤ 1000 := by
      have : k = 0 ∨ k = 1 ∨ k = 2 ∨ k = 3 := by omega
      rcases this with e | e | e | e <;> rw [e] <;> decide
    have e10 : (10 : Int32).toInt = 10 := rfl
    have e48 : (48 : Int32).toInt = 48 := rfl
    have e1 : (nv T s k * 10).toInt = (nv T s k).toInt * 10 := by rw [tI_mul (by rw [e10]; omega) (by rw [e10]; omega), e10]
    have e2 : (nv T s k * 10 + T (s + k)).toInt = (nv T s k).toInt * 10 + (T (s + k)).toInt := by rw [tI_add (by rw [e1]; omega) (by rw [e1]; omega), e1]
    show 0 ≤ (nv T s k * 10 + T (s + k) - 48).toInt ∧ (nv T s k * 10 + T (s + k) - 48).toInt < _
    rw [tI_sub (by rw [e2, e48]; omega) (by rw [e2, e48]; omega), e2, e48, Int.pow_succ]
    omega
/-- a word's code -/
def okC (nm : Nat) (c : Int32) : Prop := (0 ≤ c.toInt ∧ c.toInt < 10100) ∧ (c < 10000 ∨ ∃ i, i < nm ∧ c = nI (10000 + i))
theorem nmK_le (key : Nat) : nmK key ≤ 4 := by
  unfold nmK
  split <;> omega
theorem atm_ok {T : Nat → Int32} {n key : Nat} {x : Lx} (hx : LV T n x) (h : ¬ atm T key x < 0) : okC (nmK key) (atm T key x) := by
  unfold atm at h ⊢
  have m1 : ((-1 : Int32) < 0) := by decide
  by_cases q : x.so = 2
  · rw [if_pos q] at h ⊢
    by_cases q4 : 4 < x.en - x.st
    · rw [if_pos q4] at h; exact absurd m1 h
    · rw [if_neg q4] at h ⊢
      have hr := nv_rng (T := T) (s := x.st) (x.en - x.st) (by omega) (fun i hi => by rw [hx.2.2.2.2.2 (x.st + i) (by omega) (by omega)]; exact q)
      have hp : (10 : Int) ^ (x.en - x.st) ≤ 10000 := by
        have : x.en - x.st = 0 ∨ x.en - x.st = 1 ∨ x.en - x.st = 2 ∨ x.en - x.st = 3 ∨ x.en - x.st = 4 := by omega
        rcases this with e | e | e | e | e <;> rw [e] <;> decide
      refine ⟨by omega, Or.inl ?_⟩
      rw [tI_lt]; show _ < (10000 : Int); omega
  · rw [if_neg q] at h ⊢
    by_cases q1 : x.en - x.st = 1
    · rw [if_pos q1] at h ⊢
      rcases nmI_rng key (T x.st) with e | ⟨i, hi, e⟩
      · rw [e, if_pos m1] at h; exact absurd m1 h
      · have := nmK_le key
        have nz : ¬ nmI key (T x.st) < 0 := by rw [e]; exact nI_pos (by omega)
        rw [if_neg nz, e, show (10000 : Int32) = nI 10000 from rfl, nI_add]
        refine ⟨by rw [nI_toInt (by omega)]; omega, Or.inr ⟨i, hi, rfl⟩⟩
    · rw [if_neg q1] at h; exact absurd m1 h
/-- codes in order: from d values to the result's number of values -/
def wfl (nm : Nat) : Nat → List Int32 → Nat → Prop
  | d, [], e => e = d
  | d, c :: cs, e => if c < 10100 then okC nm c ∧ wfl nm (d + 1) cs e else if c = 10133 then 1 ≤ d ∧ wfl nm d cs e else 2 ≤ d ∧ c.toInt < 10500 ∧ wfl nm (d - 1) cs e
theorem wfl_app {nm : Nat} : ∀ {cs : List Int32} {d e f : Nat} {ds : List Int32}, wfl nm d cs e → wfl nm e ds f → wfl nm d (cs ++ ds) f
  | [], d, e, f, ds, h1, h2 => by
    have : e = d := h1
    rw [this] at h2; exact h2
  | c :: cs, d, e, f, ds, h1, h2 => by
    show wfl nm d (c :: (cs ++ ds)) f
    unfold wfl at h1 ⊢
    by_cases q : c < 10100
    · rw [if_pos q] at h1 ⊢
      exact ⟨h1.1, wfl_app h1.2 h2⟩
    · rw [if_neg q] at h1 ⊢
      by_cases q2 : c = 10133
      · rw [if_pos q2] at h1 ⊢
        exact ⟨h1.1, wfl_app h1.2 h2⟩
      · rw [if_neg q2] at h1 ⊢
        exact ⟨h1.1, h1.2.1, wfl_app h1.2.2 h2⟩
/-- what a good reading is: it stands behind, no more codes than bytes, one value more -/
def Gd (T : Nat → Int32) (n nm : Nat) (f : Lx → Rs) : Prop := ∀ x, LV T n x → ∀ y cs, f x = .inr (y, cs) → LV T n y ∧ cs.length + x.st ≤ y.st ∧ ∀ d, wfl nm d cs (d + 1)
theorem lo_mark {T : Nat → Int32} {x : Lx} {l : Nat} (h : lo T x = nI l) (hl : l ≤ 4) : x.so = 1 := by
  unfold lo at h
  split at h
  · assumption
  · have := congrArg Int32.toInt h
    rw [nI_toInt (by omega)] at this
    have e : (-1 : Int32).toInt = -1 := rfl
    omega
theorem loV_byte {b : Int32} {l : Nat} (h : loV b = nI l) (hl : l ≤ 4) : 38 ≤ b.toInt ∧ b.toInt ≤ 124 := by
  unfold loV at h
  have e38 : (38 : Int32).toInt = 38 := rfl
  have e42 : (42 : Int32).toInt = 42 := rfl
  have e43 : (43 : Int32).toInt = 43 := rfl
  have e45 : (45 : Int32).toInt = 45 := rfl
  have e47 : (47 : Int32).toInt = 47 := rfl
  have e60 : (60 : Int32).toInt = 60 := rfl
  have e61 : (61 : Int32).toInt = 61 := rfl
  have e62 : (62 : Int32).toInt = 62 := rfl
  have e124 : (124 : Int32).toInt = 124 := rfl
  split at h
  · rename_i q; rw [q]; omega
  split at h
  · rename_i q; rw [q]; omega
  split at h
  · rename_i q; rw [q]; omega
  split at h
  · rename_i q; rw [q]; omega
  split at h
  · rename_i q; rw [q]; omega
  split at h
  · rename_i q; rw [q]; omega
  split at h
  · rename_i q; rw [q]; omega
  split at h
  · rename_i q; rw [q]; omega
  split at h
  · rename_i q; rw [q]; omega
  have := congrArg Int32.toInt h
  rw [nI_toInt (by omega)] at this
  have e : (-1 : Int32).toInt = -1 := rfl
  omega
theorem sgn_big {b : Int32} (h : 38 ≤ b.toInt ∧ b.toInt ≤ 124) : (10100 + b).toInt = 10100 + b.toInt := by
  have e : (10100 : Int32).toInt = 10100 := rfl
  rw [tI_add (by rw [e]; omega) (by rw [e]; omega), e]
theorem rdL_gd {T : Nat → Int32} {n nm l : Nat} {sub : Lx → Rs} (hs : Gd T n nm sub) (hl : l ≤ 4) : ∀ i x cs (s : Nat), LV T n x → cs.length + s ≤ x.st → (∀ d, wfl nm d cs (d + 1)) → ∀ y ds, rdL T n sub l i x cs = .inr (y, ds) → LV T n y ∧ ds.length + s ≤ y.st ∧ ∀ d, wfl nm d ds (d + 1)
  | 0, x, cs, s, hx, hc, hw, y, ds, h => by
    unfold rdL at h
    cases h
    exact ⟨hx, hc, hw⟩
  | i + 1, x, cs, s, hx, hc, hw, y, ds, h => by
    unfold rdL at h
    by_cases q : lo T x = nI l
    · rw [if_pos q] at h
      have hm := lo_mark q hl
      have ha := adv_lv (T := T) hx.2.1
      have hlt := hx.2.2.1 (by omega)
      cases hr : sub (adv T n x) with
      | inl p => rw [hr] at h; cases h
      | inr ze =>
        obtain ⟨z, es⟩ := ze
        rw [hr] at h
        dsimp only at h
        obtain ⟨g1, g2, g3⟩ := hs _ ha.1 z es hr
        refine rdL_gd hs hl i z _ s g1 ?_ ?_ y ds h
        · simp only [List.length_append, List.length_cons, List.length_nil]; omega
        · intro d
          refine wfl_app (wfl_app (hw d) (g3 (d + 1))) ?_
          have hb : 38 ≤ (T x.st).toInt ∧ (T x.st).toInt ≤ 124 := by
            unfold lo at q; rw [if_pos hm] at q; exact loV_byte q hl
          have e := sgn_big hb
          have e2 : (10100 : Int32).toInt = 10100 := rfl
          have e3 : (10133 : Int32).toInt = 10133 := rfl
          unfold wfl
          rw [if_neg (by rw [tI_lt, e, e2]; omega), if_neg (by rw [tI_eq, e, e3]; intro z2; have : (T x.st).toInt = 33 := by omega
                                                               omega)]
          refine ⟨by omega, by rw [e]; omega, ?_⟩
          show d + 1 = d + 1 + 1 - 1; omega
    · rw [if_neg q] at h
      cases h
      exact ⟨hx, hc, hw⟩
theorem rdJ_gd {T : Nat → Int32} {n nm : Nat} {pc : Lx → Rs} (hp : Gd T n nm pc) : ∀ r, r ≤ 5 → Gd T n nm (rdJ T n pc r)
  | 0, _ => hp
  | r + 1, hr => by
    intro x hx y cs h
    have ih := rdJ_gd hp r (by omega)
    unfold rdJ at h
    cases hq : rdJ T n pc r x with
    | inl p => rw [hq] at h; cases h
    | inr ze =>
      obtain ⟨z, es⟩ := ze
      rw [hq] at h
      dsimp only at h
      obtain ⟨g1, g2, g3⟩ := ih x hx z es hq
      exact rdL_gd ih (by omega) _ z es x.st g1 g2 g3 y cs h
theorem rdP_gd {T : Nat → Int32} {n key : Nat} : ∀ g op ns, Gd T n (nmK key) (rdP T n key g op ns)
  | 0, op, ns => by intro x hx y cs h; unfold rdP at h; cases h
  | g + 1, op, ns => by
    intro x hx y cs h
    have ha := adv_lv (T := T) hx.2.1
    unfold rdP at h
    by_cases q : x.so = 2 ∨ x.so = 3
    · rw [if_pos q] at h
      by_cases q2 : x.gl = true ∨ atm T key x < 0
      · rw [if_pos q2] at h; cases h
      · rw [if_neg q2] at h
        cases h
        have := hx.2.2.1 (by omega)
        have hok := atm_ok (key := key) hx (fun z => q2 (Or.inr z))
        refine ⟨ha.1, by show 1 + _ ≤ _; omega, fun d => ?_⟩
        unfold wfl
        rw [if_pos (by rw [tI_lt]; show _ < (10100 : Int); exact hok.1.2)]
        exact ⟨hok, rfl⟩
    · rw [if_neg q] at h
      by_cases q3 : mrk T x 33 ∧ ns < 8
      · rw [if_pos q3] at h
        have := hx.2.2.1 (by have := q3.1.1; omega)
        cases hr : rdP T n key g op (ns + 1) (adv T n x) with
        | inl p => rw [hr] at h; cases h
        | inr ze =>
          obtain ⟨z, es⟩ := ze
          rw [hr] at h
          cases h
          obtain ⟨g1, g2, g3⟩ := rdP_gd g op (ns + 1) _ ha.1 _ es hr
          refine ⟨g1, by rw [List.length_append]; show es.length + 1 + _ ≤ _; omega, fun d => wfl_app (g3 d) ?_⟩
          unfold wfl
          rw [if_neg (by decide), if_pos rfl]
          exact ⟨by omega, rfl⟩
      · rw [if_neg q3] at h
        by_cases q4 : mrk T x 40 ∧ op < 8
        · rw [if_pos q4] at h
          have := hx.2.2.1 (by have := q4.1.1; omega)
          cases hr : rdJ T n (rdP T n key g (op + 1) ns) 5 (adv T n x) with
          | inl p => rw [hr] at h; cases h
          | inr ze =>
            obtain ⟨z, es⟩ := ze
            rw [hr] at h
            dsimp only at h
            obtain ⟨g1, g2, g3⟩ := rdJ_gd (rdP_gd g (op + 1) ns) 5 (Nat.le_refl _) _ ha.1 z es hr
            by_cases q5 : mrk T z 41
            · rw [if_pos q5] at h
              cases h
              have hb := adv_lv (T := T) g1.2.1
              have := g1.1
              exact ⟨hb.1, by omega, g3⟩
            · rw [if_neg q5] at h; cases h
        · rw [if_neg q4] at h; cases h
