-- texts: both readings say the same
/-- the reference, where a piece is wanted, does what f says -/
def SP (T : Nat → Int32) (n key : Nat) (f : Lx → Rs) (op ns : Nat) : Prop :=
  ∀ (L d : Nat) (x : Lx) (C U R : List Int32) (m : Mem) (x4 : Option Value) (Q : Qt), LV T n x → ST T n key x C (U ++ R) m → (∀ w, w ∈ U → w = -10) → topOk 6 R → cN (U ++ R) = ns → C.length + (U ++ R).length ≤ x.st →
    (∀ y cs m' x4', f x = .inr (y, cs) → FP m m' → (∀ j, j ≤ op → m' 149 j = m 149 j) → ST T n key y (C ++ (cs.map trC ++ U)) R m' → LH (d + 4) L op R 0 x4' m' Q) →
    (∀ p m', f x = .inl p → FP m m' → m' 139 8 = nI p → Q (some (.int 0)) (S0 L) m') → LH (d + 4) L op (U ++ R) 1 x4 m Q
/-- the same for what is joined by signs of level l and tighter -/
def SJ (T : Nat → Int32) (n key l : Nat) (f : Lx → Rs) (op ns : Nat) : Prop :=
  ∀ (L d : Nat) (x : Lx) (C R : List Int32) (m : Mem) (x4 : Option Value) (Q : Qt), LV T n x → ST T n key x C R m → topOk (nI (l + 1)) R → cN R = ns → C.length + R.length ≤ x.st → (m 149 op = 0 ∨ m 149 op = 1) → (l ≤ 2 → m 149 op = 0) →
    (∀ y cs c0 W m' x4', f x = .inr (y, cs) → c0 ++ W = cs.map trC → bin (nI (l + 1)) W → FP m m' → (∀ j, j < op → m' 149 j = m 149 j) → (m' 149 op = 0 ∨ m' 149 op = 1) → (3 ≤ l → m' 149 op = m 149 op) → (∀ l', l ≤ l' → l' ≤ 4 → lo T y = nI l' → l' = 2 ∧ m' 149 op = 1) → ST T n key y (C ++ c0) (W ++ R) m' → LH (d + 4) L op (W ++ R) 0 x4' m' Q) →
    (∀ p m', f x = .inl p → FP m m' → m' 139 8 = nI p → Q (some (.int 0)) (S0 L) m') → LH (d + 4) L op R 1 x4 m Q
theorem bin_mono {l l' : Nat} {W : List Int32} (h : bin (nI l) W) (hl : l' ≤ l) (hb : l < 2 ^ 31) : bin (nI l') W := fun w hw => by
  obtain ⟨⟨a, b, c⟩, e⟩ := h w hw
  refine ⟨⟨a, ?_, c⟩, e⟩
  rw [tI_lt, nI_toInt (by omega)] at b ⊢
  omega
theorem trC_atm {T : Nat → Int32} {n key : Nat} {x : Lx} (hx : LV T n x) (h : ¬ atm T key x < 0) : trC (atm T key x) = atm T key x := by
  have := (atm_ok (key := key) hx h).1.2
  unfold trC
  rw [if_pos (by rw [tI_lt]; exact this)]
theorem sj_all {T : Nat → Int32} {n key op ns : Nat} {pc : Lx → Rs} (hn : n ≤ 96) (ho : op ≤ 8) (hg : Gd T n (nmK key) pc) (hp : SP T n key pc op ns) : ∀ k, k ≤ 5 → SJ T n key (5 - k) (rdJ T n pc k) op ns
  | 0, _ => by
    intro L d x C R m x4 Q hv hst ht hc hcap ht0 ht2 h1 h0
    refine hp L d x C [] R m x4 Q hv hst (fun w hw => by cases hw) ht hc hcap (fun y cs m' x4' e hF h149 hs => ?_) (fun p m' e => h0 p m' e)
    rw [List.append_nil] at hs
    exact h1 y cs (cs.map trC) [] m' x4' e (List.append_nil _) (fun w hw => by cases hw) hF (fun j hj => h149 j (by omega)) (by rw [h149 op (Nat.le_refl _)]; exact ht0) (fun _ => h149 op (Nat.le_refl _)) (fun l' a b => by omega) hs
  | k + 1, hk => by
    intro L d x C R m x4 Q hv hst ht hc hcap ht0 ht2 h1 h0
    have ih := sj_all hn ho hg hp k (by omega)
    have hgj := rdJ_gd hg k (by omega)
    generalize el : 5 - (k + 1) = l at *
    have el1 : 5 - k = l + 1 := by omega
    have el4 : 4 - k = l := by omega
    have hl4 : l ≤ 4 := by omega
    rw [el1] at ih
    unfold rdJ at h1 h0
    rw [el4] at h1 h0
    -- the loop
    have loop : ∀ (c : Nat) (y : Lx) (cs c0 W : List Int32) (m2 : Mem) (x4 : Option Value), LV T n y → cs.length + x.st ≤ y.st → c0 ++ W = cs.map trC → bin (nI (l + 1)) W → FP m m2 → (∀ j, j < op → m2 149 j = m 149 j) → (m2 149 op = 0 ∨ m2 149 op = 1) → (3 ≤ l → m2 149 op = m 149 op) → (l = 2 → c = 1 ∧ m2 149 op = 0 ∨ c = 0 ∧ m2 149 op = 1) → (l ≠ 2 → 96 ≤ c + y.st) → (∀ l', l + 1 ≤ l' → l' ≤ 4 → lo T y = nI l' → l' = 2 ∧ m2 149 op = 1) → ST T n key y (C ++ c0) (W ++ R) m2 →
        (∀ z ds c1 V m' x4', rdL T n (rdJ T n pc k) l c y cs = .inr (z, ds) → c1 ++ V = ds.map trC → bin (nI (l + 1)) V → FP m m' → (∀ j, j < op → m' 149 j = m 149 j) → (m' 149 op = 0 ∨ m' 149 op = 1) → (3 ≤ l → m' 149 op = m 149 op) → (∀ l', l ≤ l' → l' ≤ 4 → lo T z = nI l' → l' = 2 ∧ m' 149 op = 1) → ST T n key z (C ++ c1) (V ++ R) m' → LH (d + 4) L op (V ++ R) 0 x4' m' Q) →
        (∀ p m', rdL T n (rdJ T n pc k) l c y cs = .inl p → FP m m' → m' 139 8 = nI p → Q (some (.int 0)) (S0 L) m') → LH (d + 4) L op (W ++ R) 0 x4 m2 Q := by
      intro c
      induction c with
      | zero =>
        intro y cs c0 W m2 x4 hvy hcs hcw hW hF h149 ht1 ht3 hl2 hln hla hs g1 g0
        refine g1 y cs c0 W m2 x4 rfl hcw hW hF h149 ht1 ht3 (fun l' a b e => ?_) hs
        by_cases q : l' = l
        · subst q
          by_cases q2 : l' = 2
          · rcases hl2 q2 with z | z
            · omega
            · exact ⟨q2, z.2⟩
          · have hm := lo_mark e b
            have := hvy.2.2.1 (by omega)
            have := hvy.2.1
            have := hln q2
            omega
        · exact hla l' (by omega) b e
      | succ c ihc =>
        intro y cs c0 W m2 x4 hvy hcs hcw hW hF h149 ht1 ht3 hl2 hln hla hs g1 g0
        unfold rdL at g1 g0
        by_cases q : lo T y = nI l
        · rw [if_pos q] at g1 g0
          have hm1 := lo_mark q hl4
          have hlt := hvy.2.2.1 (by omega)
          have hen := hvy.2.1
          have hav := adv_lv (T := T) (n := n) (x := y) hen
          have hlb : loV (T y.st) = nI l := by have q' := q; unfold lo at q'; rw [if_pos hm1] at q'; exact q'
          obtain ⟨s1, s2, s3, s4, s5, s6, s7⟩ := sg_ok hlb hl4
          have hlen : c0.length + W.length = cs.length := by
            have := congrArg List.length hcw
            rw [List.length_append, List.length_map] at this; exact this
          have hcap2 : (C ++ c0).length + (W ++ R).length ≤ y.st := by rw [List.length_append, List.length_append]; omega
          refine st_sign hn ho hl4 hvy hs q hW ht hcap2 ht1 (fun e => ?_) (fun m3 x5 hF3 h3 ht5 hs3 => ?_)
          · rcases hl2 e with z | z
            · exact z.2
            · omega
          -- behind the sign
          have hcN : cN (sgV (T y.st) :: R) = ns := by
            unfold cN at hc ⊢
            rw [List.countP_cons]
            simp [s5, hc]
          have eC : C ++ c0 ++ W = C ++ cs.map trC := by rw [List.append_assoc, hcw]
          rw [eC] at hs3
          refine ih L d (adv T n y) (C ++ cs.map trC) (sgV (T y.st) :: R) m3 x5 Q hav.1 hs3 (Or.inr ?_) hcN ?_ ?_ (fun h => ?_) (fun z ds c1 V m4 x6 e eV hV hF4 h4 ht4 ht43 hla4 hs4 => ?_) (fun p m4 e hF4 h8 => ?_)
          · rw [s2, tI_lt, nI_toInt (by omega), nI_toInt (by omega)]; omega
          · rw [List.length_append, List.length_map, List.length_cons]; have := hav.2; omega
          · rw [ht5]
            by_cases e2 : l = 2
            · rw [if_pos e2]; exact Or.inr rfl
            · rw [if_neg e2]
              by_cases e3 : l < 2
              · rw [if_pos e3]; exact Or.inl rfl
              · rw [if_neg e3]; exact ht1
          · rw [ht5, if_neg (by omega), if_pos (by omega)]
          · rw [e] at g1 g0
            dsimp only at g1 g0
            obtain ⟨gd1, gd2, gd3⟩ := hgj _ hav.1 z ds e
            have hlt2 := hav.2
            have eS : V ++ sgV (T y.st) :: R = (V ++ [sgV (T y.st)]) ++ R := by simp
            rw [eS] at hs4 ⊢
            have eC2 : C ++ cs.map trC ++ c1 = C ++ (cs.map trC ++ c1) := List.append_assoc _ _ _
            rw [eC2] at hs4
            refine ihc z (cs ++ ds ++ [10100 + T y.st]) (cs.map trC ++ c1) (V ++ [sgV (T y.st)]) m4 x6 gd1 ?_ ?_ ?_ (hF.trans (hF3.trans hF4)) (fun j hj => by rw [h4 j hj, h3 j hj]; exact h149 j hj) ht4 (fun h => ?_) (fun h => ?_) (fun h => ?_) hla4 hs4 g1 g0
            · simp only [List.length_append, List.length_cons, List.length_nil]; omega
            · simp only [List.map_append, List.map_cons, List.map_nil, s7]
              rw [← eV]; simp
            · intro w hw
              rcases List.mem_append.mp hw with hw | hw
              · exact bin_mono hV (show l + 1 ≤ l + 1 + 1 by omega) (by omega) w hw
              · have : w = sgV (T y.st) := by simpa using hw
                rw [this]
                refine ⟨⟨s6, ?_, s4⟩, s5⟩
                rw [s2]; exact nI_nlt (Nat.le_refl _) (by omega)
            · rw [ht43 (by omega), ht5, if_neg (by omega), if_neg (by omega)]; exact ht3 h
            · rcases hl2 h with z2 | z2
              · refine Or.inr ⟨by omega, ?_⟩
                rw [ht43 (by omega), ht5, if_pos h]
              · omega
            · have := hln h
              omega
          · rw [e] at g0
            dsimp only at g0
            exact g0 p m4 rfl (hF.trans (hF3.trans hF4)) h8
        · rw [if_neg q] at g1
          refine g1 y cs c0 W m2 x4 rfl hcw hW hF h149 ht1 ht3 (fun l' a b e => ?_) hs
          by_cases q2 : l' = l
          · subst q2; exact absurd e q
          · exact hla l' (by omega) b e
    refine ih L d x C R m x4 Q hv hst (ht1 ht (by rw [nI_toInt (by omega), nI_toInt (by omega)]; omega)) hc hcap ht0 (fun h => ht2 (by omega)) (fun y cs c0 W m' x4' e ec hW hF h149 hta ht3 hla hs => ?_) (fun p m' e hF h8 => ?_)
    · rw [e] at h1 h0
      dsimp only at h1 h0
      obtain ⟨gd1, gd2, gd3⟩ := hgj x hv y cs e
      have hen := gd1.2.1
      refine loop (if l = 2 then 1 else 96) y cs c0 W m' x4' gd1 gd2 ec (bin_mono hW (by omega) (by omega)) hF h149 hta (fun h => ht3 (by omega)) (fun h => ?_) (fun h => ?_) hla hs h1 h0
      · refine Or.inl ⟨by rw [if_pos h], ?_⟩
        rw [ht3 (by omega)]; exact ht2 (by omega)
      · rw [if_neg h]; omega
    · rw [e] at h0
      dsimp only at h0
      exact h0 p m' rfl hF h8
theorem sp_all {T : Nat → Int32} {n key : Nat} (hn : n ≤ 96) (hkey : key < 3) : ∀ g op ns, op ≤ 8 → ns ≤ 8 → 17 ≤ g + op + ns → SP T n key (rdP T n key g op ns) op ns
  | 0, op, ns, h1, h2, h3 => by omega
  | g + 1, op, ns, ho, hs, h3 => by
    intro L d x C U R m x4 Q hv hst hU hR hc hcap h1 h0
    have hav := adv_lv (T := T) (n := n) (x := x) hv.2.1
    have hz := hst.1
    have e8 : m 139 8 = nI x.st := hz.2.2.1
    unfold rdP at h1 h0
    by_cases q : x.so = 2 ∨ x.so = 3
    · rw [if_pos q] at h1 h0
      refine st_part hn hkey hv hst hU hR hcap (fun z => by have := z.1.1; omega) (fun z => by have := z.1.1; omega) ho (by omega) (fun _ hok m' x4' hF e149 hs2 => ?_) (fun hno => ?_)
      · rw [if_neg hok] at h1
        refine h1 _ _ m' x4' rfl hF (fun j _ => by rw [e149]) ?_
        have : [atm T key x].map trC ++ U = atm T key x :: U := by
          rw [List.map_cons, List.map_nil, trC_atm hv (fun z => hok (Or.inr z))]; rfl
        rw [this]; exact hs2
      · have hok : x.gl = true ∨ atm T key x < 0 := by
          by_cases z : x.gl = true ∨ atm T key x < 0
          · exact z
          · exact absurd ⟨q, z⟩ hno
        rw [if_pos hok] at h0
        exact h0 x.st m rfl FP.refl e8
    rw [if_neg q] at h1 h0
    by_cases q3 : mrk T x 33 ∧ ns < 8
    · rw [if_pos q3] at h1 h0
      have hlt := hv.2.2.1 (by have := q3.1.1; omega)
      refine st_not hn (by rw [hc]; exact q3.2) hv hst q3.1 hcap (fun m2 x5 hF2 e149 hs2 => ?_)
      have ih := sp_all hn hkey g op (ns + 1) ho (by omega) (by omega) (T := T)
      refine ih L d (adv T n x) C (-10 :: U) R m2 x5 Q hav.1 hs2 (fun w hw => ?_) hR ?_ ?_ (fun y cs m3 x6 e hF3 h149 hs3 => ?_) (fun p m3 e hF3 h8 => ?_)
      · rcases List.mem_cons.mp hw with hw | hw
        · exact hw
        · exact hU w hw
      · show cN (-10 :: (U ++ R)) = ns + 1
        unfold cN at hc ⊢
        rw [List.countP_cons, hc]; simp
      · show C.length + (-10 :: (U ++ R) : List Int32).length ≤ _
        rw [List.length_cons]; have := hav.2; omega
      · rw [e] at h1
        dsimp only at h1
        refine h1 y _ m3 x6 rfl (hF2.trans hF3) (fun j hj => by rw [h149 j hj, e149]) ?_
        have : (cs ++ [10133]).map trC ++ U = cs.map trC ++ (-10 :: U) := by
          rw [List.map_append, List.append_assoc]; rfl
        rw [this]; exact hs3
      · rw [e] at h0
        dsimp only at h0
        exact h0 p m3 rfl (hF2.trans hF3) h8
    rw [if_neg q3] at h1 h0
    by_cases q4 : mrk T x 40 ∧ op < 8
    · rw [if_pos q4] at h1 h0
      have hlt := hv.2.2.1 (by have := q4.1.1; omega)
      refine st_open hn q4.2 hv hst q4.1 hcap (fun m2 x5 hF2 h149 ht2 hs2 => ?_)
      have hp := sp_all hn hkey g (op + 1) ns (by omega) hs (by omega) (T := T)
      have ih := sj_all hn (show op + 1 ≤ 8 by omega) (rdP_gd g (op + 1) ns) hp 5 (Nat.le_refl _)
      refine ih L d (adv T n x) C (-11 :: (U ++ R)) m2 x5 Q hav.1 hs2 (Or.inl rfl) ?_ ?_ (Or.inl ht2) (fun _ => ht2) (fun y cs c0 W m3 x6 e ec hW hF3 h3 _ _ hla hs3 => ?_) (fun p m3 e hF3 h8 => ?_)
      · unfold cN at hc ⊢
        rw [List.countP_cons, hc]; simp
      · rw [List.length_cons]; have := hav.2; omega
      · rw [e] at h1 h0
        dsimp only at h1 h0
        obtain ⟨gd1, gd2, gd3⟩ := rdJ_gd (rdP_gd g (op + 1) ns) 5 (Nat.le_refl _) _ hav.1 y cs e
        have hW0 : bin 0 W := fun w hw => ⟨⟨(hW w hw).1.1, rk_pos w, (hW w hw).1.2.2⟩, (hW w hw).2⟩
        have hlen : c0.length + W.length = cs.length := by
          have := congrArg List.length ec
          rw [List.length_append, List.length_map] at this; exact this
        have hcap3 : (C ++ c0).length + (W ++ -11 :: (U ++ R)).length ≤ y.st := by
          have := hav.2
          simp only [List.length_append, List.length_cons] at hcap ⊢; omega
        by_cases q5 : mrk T y 41
        · rw [if_pos q5] at h1
          refine st_close hn q4.2 gd1 hs3 q5 hW0 hU hR hcap3 (fun m4 x7 hF4 e149 hs4 => ?_)
          refine h1 _ cs m4 x7 rfl (hF2.trans (hF3.trans hF4)) (fun j hj => by rw [e149, h3 j (by omega)]; exact h149 j hj) ?_
          have : C ++ c0 ++ W ++ U = C ++ (cs.map trC ++ U) := by rw [← ec]; simp
          rw [this] at hs4; exact hs4
        · rw [if_neg q5] at h0
          have e8y : m3 139 8 = nI y.st := hs3.1.2.2.1
          by_cases q0 : y.so = 0
          · refine st_end hn (by omega) gd1 hs3 q0 hW0 (Or.inl rfl) hcap3 (fun m4 hF4 hw4 => ?_)
            rw [if_neg (by omega)]
            refine h0 _ m4 rfl (hF2.trans (hF3.trans hF4.fp)) ?_
            rw [hF4.2 8 (by decide) (by decide) (by decide)]; exact e8y
          · refine st_stuck (by omega) gd1 hs3 q0 (fun z => q5 z.1) (fun l hl e => hla l (Nat.zero_le _) hl e) ?_
            exact h0 _ m3 rfl (hF2.trans hF3) e8y
      · rw [e] at h0
        dsimp only at h0
        exact h0 p m3 rfl (hF2.trans hF3) h8
    rw [if_neg q4] at h0
    refine st_part hn hkey hv hst hU hR hcap (fun z => q3 ⟨z.1, by have := z.2; omega⟩) q4 ho (by omega) (fun z => absurd z q) (fun _ => ?_)
    exact h0 x.st m rfl FP.refl e8
