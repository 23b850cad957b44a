-- texts: the class's reader
/-- the reader at x, the row holding pre -/
def CS (T : Nat → Int32) (n r key : Nat) (x : Lx) (pre : List Int32) (m : Mem) : Prop := m 107 = T ∧ RX n x m ∧ TXT r key pre m
def FL (r : Nat) : List Nat := [161, 5 + 2 * r, 6 + 2 * r]
theorem TXT.fr {r key : Nat} {pre : List Int32} {m m' : Mem} (hr : r < 15) (h : TXT r key pre m) (hF : Fr [161] m m') : TXT r key pre m' := by
  have a := hF (5 + 2 * r) (by simp; omega)
  have b := hF (6 + 2 * r) (by simp; omega)
  unfold TXT
  rw [a, b]; exact h
theorem RX.fr {n r : Nat} {x : Lx} {m m' : Mem} (hr : r < 15) (h : RX n x m) (hF : Fr [5 + 2 * r, 6 + 2 * r] m m') : RX n x m' := by
  have a := hF 161 (by simp; omega)
  unfold RX
  rw [a]; exact h
theorem CS.adv {T : Nat → Int32} {n r key : Nat} {x : Lx} {pre : List Int32} {m : Mem} {d L : Nat} {Q : Qt} (hr : r < 15) (hn : n ≤ 96) (hv : LV T n x) (h : CS T n r key x pre m) (hQ : ∀ m', Fr (FL r) m m' → CS T n r key (adv T n x) pre m' → Q none (SR L r) m') : Mc (d + 2) 26 [.ref 161] (SR L r) m Q := by
  obtain ⟨h1, h2, h3⟩ := h
  refine c_advance hn hv.2.1 hv.2.2.2.1 h2.1 h2.2.2.1 h2.2.2.2.1 (fun m' hF hx => ?_)
  rw [h1] at hx
  exact hQ m' (hF.mono (by simp [FL])) ⟨by rw [hF 107 (by simp)]; exact h1, hx, h3.fr hr hF⟩
/-- a reading of the class, by method j with these arguments, does what f says -/
def Rd (T : Nat → Int32) (n r key : Nat) (f : Lx → Rs) (j : Nat) (as : List Value) (D : Nat) : Prop :=
  ∀ (L : Nat) (x : Lx) (pre : List Int32) (m : Mem) (Q : Qt), LV T n x → pre.length ≤ x.st → CS T n r key x pre m → (∀ y cs m', f x = .inr (y, cs) → Fr (FL r) m m' → CS T n r key y (pre ++ cs) m' → Q (some (.int 1)) (SR L r) m') → (∀ p m', f x = .inl p → Fr (FL r) m m' → m' 161 3 = nI p → Q (some (.int 0)) (SR L r) m') → Mc D j (.ref 161 :: as) (SR L r) m Q
theorem CS.fr {T : Nat → Int32} {n r key : Nat} {x : Lx} {pre pre' : List Int32} {m m' : Mem} (hr : r < 15) (h : CS T n r key x pre m) (hF : Fr [5 + 2 * r, 6 + 2 * r] m m') (hT : TXT r key pre' m') : CS T n r key x pre' m' := ⟨by rw [hF 107 (by simp; omega)]; exact h.1, h.2.1.fr hr hF, hT⟩
theorem fl_mono {r : Nat} : ∀ a, a ∈ [5 + 2 * r, 6 + 2 * r] → a ∈ FL r := by intro a h; simp [FL] at h ⊢; omega
theorem rd_joined {T : Nat → Int32} {n r key op ns d : Nat} {pc : Lx → Rs} (hr : r < 15) (hn : n ≤ 96) (hg : Gd T n (nmK key) pc) (hp : Rd T n r key pc 32 [.int (nI op), .int (nI ns)] (d + 3)) : ∀ k, k ≤ 5 → Rd T n r key (rdJ T n pc k) 30 [.int (nI (5 - k)), .int (nI op), .int (nI ns)] (d + k + 4)
  | 0, _ => by
    intro L x pre m Q hv hl hc h1 h0
    refine Mc_wp nocut t30 rfl rfl rfl 40 ?_
    refine ⟨srO, hp L x pre m _ hv hl hc (fun y cs m' e hF hC => ?_) (fun p m' e hF h3 => ?_)⟩
    · exact ⟨Or.inr rfl, h1 y cs m' e hF hC⟩
    · exact ⟨Or.inl rfl, h0 p m' e hF h3⟩
  | k + 1, hk => by
    intro L x pre m Q hv hl hc h1 h0
    have ih := rd_joined hr hn hg hp k (by omega)
    rw [show d + k + 4 = d + (k + 1) + 3 by omega] at ih
    have hgj := rdJ_gd hg k (by omega)
    have el : 5 - (k + 1) = 4 - k := by omega
    have el2 : nI (4 - k) + 1 = nI (5 - k) := by rw [nI_1, show 4 - k + 1 = 5 - k by omega]
    rw [el]
    -- the loop
    have loop : ∀ (most c i : Nat), c + i = most → most ≤ 96 → ∀ (x6 : Option Value) (y : Lx) (cs : List Int32) (m2 : Mem), LV T n y → cs.length + x.st ≤ y.st → (∀ d, wfl (nmK key) d cs (d + 1)) → Fr (FL r) m m2 → CS T n r key y (pre ++ cs) m2 → (∀ z ds m', rdL T n (rdJ T n pc k) (4 - k) c y cs = .inr (z, ds) → Fr (FL r) m m' → CS T n r key z (pre ++ ds) m' → Q (some (.int 1)) (SR L r) m') → (∀ p m', rdL T n (rdJ T n pc k) (4 - k) c y cs = .inl p → Fr (FL r) m m' → m' 161 3 = nI p → Q (some (.int 0)) (SR L r) m') → Xs (d + (k + 1) + 4) 30 42 [some (.ref 161), some (.int (nI (4 - k))), some (.int (nI op)), some (.int (nI ns)), some (.int (nI most)), some (.int (nI i)), x6] [] (SR L r) (0, 0) m2 Q := by
      intro most c
      induction c with
      | zero =>
        intro i hi hm x6 y cs m2 hvy hcs hw hF hC g1 g0
        refine Xs_wp (cut1 42) t30 60 ?_
        refine ifI (fun z => absurd z (nI_nlt (by omega) (by omega))) (fun _ => ?_)
        exact ⟨Or.inr rfl, g1 y cs m2 rfl hF hC⟩
      | succ c ihc =>
        intro i hi hm x6 y cs m2 hvy hcs hw hF hC g1 g0
        refine Xs_wp (cut1 42) t30 60 ?_
        refine ifI (fun _ => ?_) (fun z => absurd (nI_lt (by omega) (by omega)) z)
        refine ⟨srO, c_lo hn hvy hC.1 hC.2.1 ?_⟩
        unfold rdL at g1 g0
        by_cases q : lo T y = nI (4 - k)
        · rw [if_pos q] at g1 g0
          refine ifI (fun _ => ?_) (fun z => absurd q z)
          have hm1 := lo_mark q (by omega)
          have hlt := hvy.2.2.1 (by omega)
          have hen := hvy.2.1
          have e3 := hC.2.1.2.1
          refine ⟨srT, ?_⟩
          rw [srTV]
          refine ⟨srO, ?_⟩
          refine ⟨srP e3 (by omega), ?_⟩
          rw [clK e3 (by omega), hC.1]
          refine ⟨srO, hC.adv hr hn hvy (fun m3 hF3 hC3 => ?_)⟩
          have hav := adv_lv (T := T) (n := n) (x := y) hen
          refine ⟨srO, ?_⟩
          rw [el2]
          refine ih L (Lx.st (adv T n y), Lx.en (adv T n y), Lx.so (adv T n y), Lx.gl (adv T n y)) (pre ++ cs) m3 _ hav.1 (by rw [List.length_append]; show _ ≤ (adv T n y).st; omega) hC3 (fun z es m4 e hF4 hC4 => ?_) (fun p m4 e hF4 h3 => ?_)
          · have e : rdJ T n pc k (adv T n y) = .inr (z, es) := e
            rw [e] at g1 g0
            dsimp only at g1 g0
            obtain ⟨gd1, gd2, gd3⟩ := hgj _ hav.1 z es e
            have hb : 38 ≤ (T y.st).toInt ∧ (T y.st).toInt ≤ 124 := by
              unfold lo at q; rw [if_pos hm1] at q; exact loV_byte q (by omega)
            have eb := sgn_big hb
            have e10 : (10100 : Int32).toInt = 10100 := rfl
            have ez := gd1.1
            have ezn := gd1.2.1
            refine ⟨srI, ?_⟩
            rw [srIV]
            have ea : pre ++ cs ++ es ++ [10100 + T y.st] = pre ++ (cs ++ es ++ [10100 + T y.st]) := by simp [List.append_assoc]
            refine ⟨srX hr, c_addS (pre := pre ++ cs ++ es) hr (by simp only [List.length_append]; omega) (by rw [tI_lt, eb, e10]; omega) hC4.2.2 (fun m5 hF5 hT5 => ?_)⟩
            have hC5 := hC4.fr hr hF5 hT5
            rw [ea] at hC5
            have := ihc (i + 1) (by omega) hm (some (.int (T y.st))) z (cs ++ es ++ [10100 + T y.st]) m5 gd1 (by simp only [List.length_append, List.length_cons, List.length_nil]; omega) (fun d => ?_) ((hF.trans hF3).trans (hF4.trans (hF5.mono fl_mono))) hC5 g1 g0
            · rw [← nI_1] at this
              exact this
            · refine wfl_app (wfl_app (hw d) (gd3 (d + 1))) ?_
              have e33 : (10133 : Int32).toInt = 10133 := rfl
              have e33' : (33 : Int32).toInt = 33 := rfl
              have nb : T y.st ≠ 33 := by
                intro zz
                unfold lo at q; rw [if_pos hm1, zz] at q
                have : k = 0 ∨ k = 1 ∨ k = 2 ∨ k = 3 ∨ k = 4 := by omega
                rcases this with rfl | rfl | rfl | rfl | rfl <;> exact absurd q (by decide)
              unfold wfl
              rw [if_neg (by rw [tI_lt, eb, e10]; omega), if_neg (by rw [tI_eq, eb, e33]; intro z2; apply nb; rw [tI_eq, e33']; omega)]
              refine ⟨by omega, by rw [eb]; omega, ?_⟩
              show d + 1 = d + 1 + 1 - 1; omega
          · have e : rdJ T n pc k (adv T n y) = .inl p := e
            rw [e] at g0
            dsimp only at g0
            exact ⟨Or.inl rfl, g0 p m4 rfl ((hF.trans hF3).trans hF4) h3⟩
        · rw [if_neg q] at g1 g0
          refine ifI (fun z => absurd z q) (fun _ => ?_)
          exact ⟨Or.inr rfl, g1 y cs m2 rfl hF hC⟩
    refine Mc_wp (cut1 42) t30 rfl rfl rfl 60 ?_
    refine ifI (fun z => absurd z (nI_nlt (a := 4) (b := 4 - k) (by omega) (by omega))) (fun _ => ?_)
    refine ⟨srO, ?_⟩
    rw [el2]
    unfold rdJ at h1 h0
    refine ih L x pre m _ hv hl hc (fun y cs m' e hF hC => ?_) (fun p m' e hF h3 => ?_)
    · rw [e] at h1 h0
      dsimp only at h1 h0
      obtain ⟨gd1, gd2, gd3⟩ := hgj x hv y cs e
      by_cases q : 4 - k = 2
      · rw [if_pos q] at h1 h0
        refine ifI (fun _ => ?_) (fun z => absurd (by rw [q]; rfl) z)
        exact loop 1 1 0 (by omega) (by omega) none y cs m' gd1 gd2 gd3 hF hC h1 h0
      · rw [if_neg q] at h1 h0
        refine ifI (fun z => absurd ((nI_eq (b := 2) (by omega) (by omega)).mp z) q) (fun _ => ?_)
        exact loop 96 96 0 (by omega) (by omega) none y cs m' gd1 gd2 gd3 hF hC h1 h0
    · rw [e] at h0
      dsimp only at h0
      exact ⟨Or.inl rfl, h0 p m' rfl hF h3⟩
