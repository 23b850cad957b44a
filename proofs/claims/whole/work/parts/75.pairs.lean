-- pairs: reads
/-- a row of a sheet does not fit: it is a number, and no turtle's yard -/
def badY (nt : Nat) (A : Nat → Int32) (v : Int32) (j : Nat) : Prop := ¬ v = NONEv ∧ (nt ≤ j ∨ ¬ yardA A j = v)
theorem pr_reads {scr : Nat → Int32} {L d k : Nat} {m : Mem} {v : Int32} (h : Sim scr k m) : Pair scr L (d + 20) 89 186 [.int v] k m := by
  intro Q hQ
  obtain ⟨nt, nw, nx, hM, hI⟩ := h.1.1
  have hR := hM.1
  have hn8 := hR.2.2.1.1
  have hy := hM.2.2.1.y
  have h7 : m 35 7 = m 140 3 := hR.1.2.2.2.1
  refine Mc_wp (cut1 29) t89 rfl rfl rfl 60 ?_
  by_cases q1 : 0 ≤ v ∧ v ≤ 3
  rotate_left 1
  · refine c_sF q1 ?_
    refine hQ _ m (fun Q' hQ' => ?_)
    refine Mc_wp nocut t186 rfl rfl rfl 60 ?_
    exact r_sF q1 (hQ' m h.next)
  refine c_sT q1 ?_
  obtain ⟨i, hi, rfl⟩ := ix_split (b := 3) (n := 3) rfl q1.1 q1.2
  have hc : shC L (111 + 2 * i) := shI (by omega)
  have ei : nI i = nI i := rfl
  obtain ⟨e0, e1, e2, ⟨n, hn, en⟩, e3⟩ := h.2.2.1 i (by omega)
  refine ⟨⟨rfl, ltB rfl, neB rfl⟩, ?_⟩
  rw [rf_csheets]
  refine ⟨sheK (by omega), ?_⟩
  rw [sheV (by omega)]
  by_cases s1 : m (111 + 2 * i) 0 = -1
  · refine ⟨shO hc, c_missT hc s1 ?_⟩
    refine hQ _ m (fun Q' hQ' => ?_)
    refine Mc_wp nocut t186 rfl rfl rfl 60 ?_
    refine r_sT q1 ?_
    refine ⟨⟨rfl, ltB rfl, neB rfl⟩, ?_⟩
    rw [rf_sorts]
    refine ⟨⟨rfl, ltB rfl, vinK ei (show i < 4 by omega) rfl⟩, ?_⟩
    rw [clK ei (show i < 2 ^ 31 by omega)]
    rw [e0, s1]
    exact hQ' m h.next
  refine ⟨shO hc, c_missF hc s1 ?_⟩
  have s0 : ¬ m (111 + 2 * i) 0 < 0 := by
    rcases e2 with z | z | z
    · exact absurd z s1
    · rw [z]; decide
    · rw [z]; decide
  have pl : ∀ j, m (112 + 2 * i) j = m (111 + 2 * i + 1) j := fun j => by rw [show 112 + 2 * i = 111 + 2 * i + 1 by omega]
  -- the reference: g the first row that does not fit, or n
  have ref : ∀ (V : Int32) (g : Nat), g ≤ n → (∀ j, j < g → ¬ badY nt (m 140) (m (111 + 2 * i + 1) j) j) → (g = n ∧ V = NONEv ∨ g < n ∧ V = nI g ∧ badY nt (m 140) (m (111 + 2 * i + 1) g) g) → Q (some (.int V)) (S0 L) m := by
    intro V g hg hno hV
    refine hQ V m (fun Q' hQ' => ?_)
    have loop : ∀ j x, x + j = g → ∀ s3, Xs (d + 20) 186 24 [some (.ref 139), some (.int (nI i)), some (.int (nI x)), s3] [] (S0 L) (0, 0) m Q' := by
      intro j
      induction j with
      | zero =>
        intro x hx s3
        have hx : x = g := by omega
        subst hx
        rcases hV with ⟨e, eV⟩ | ⟨e, eV, ⟨b1, b2⟩⟩
        · subst e
          refine Xs_wp (cut1 24) t186 60 ?_
          refine ⟨⟨rfl, ltB rfl, neB rfl⟩, ?_⟩
          rw [rf_sizes]
          refine ⟨⟨rfl, ltB rfl, vinK ei (show i < 4 by omega) rfl⟩, ?_⟩
          rw [clK ei (show i < 2 ^ 31 by omega)]
          rw [e1, en]
          refine ifI (fun q => absurd q (nI_nlt (Nat.le_refl _) (by omega))) (fun _ => ?_)
          have := hQ' m h.next
          rw [eV] at this
          exact this
        · have ex : (24 * nI i + nI x : Int32) = nI (24 * i + x) := by rw [show (24 : Int32) = nI 24 from rfl, pk_mul, nI_add]
          refine Xs_wp (cut1 24) t186 60 ?_
          refine ⟨⟨rfl, ltB rfl, neB rfl⟩, ?_⟩
          rw [rf_sizes]
          refine ⟨⟨rfl, ltB rfl, vinK ei (show i < 4 by omega) rfl⟩, ?_⟩
          rw [clK ei (show i < 2 ^ 31 by omega)]
          rw [e1, en]
          refine ifI (fun _ => ?_) (fun q => absurd (nI_lt (by omega) (by omega)) q)
          refine ⟨⟨rfl, ltB rfl, neB rfl⟩, ?_⟩
          rw [rf_cells]
          refine ⟨⟨rfl, ltB rfl, vinK ex (show 24 * i + x < 96 by omega) rfl⟩, ?_⟩
          rw [clK ex (show 24 * i + x < 2 ^ 31 by omega)]
          rw [(e3 x (by omega)).1, pl]
          refine ifI (fun z => absurd z b1) (fun _ => ?_)
          have hq := hQ' m h.next
          rw [eV] at hq
          by_cases t8 : x < nt
          · refine ⟨⟨rfl, ltB rfl⟩, r_hT hR.2.1.1 hn8 t8 ?_⟩
            refine ⟨⟨rfl, ltB rfl⟩, r_yardOf (by omega) hy.2.2 ?_⟩
            refine ifI (fun z => ?_) (fun _ => hq)
            rcases b2 with b2 | b2
            · omega
            · exact absurd z.symm b2
          · refine ⟨⟨rfl, ltB rfl⟩, r_hF hR.2.1.1 hn8 (Or.inr ((nI_leI (by omega) (by omega)).mpr (by omega))) ?_⟩
            exact hq
      | succ j ih =>
        intro x hx s3
        have ex : (24 * nI i + nI x : Int32) = nI (24 * i + x) := by rw [show (24 : Int32) = nI 24 from rfl, pk_mul, nI_add]
        have nx' := ih (x + 1) (by omega) (some (.int (m (111 + 2 * i + 1) x)))
        rw [← nI_1] at nx'
        refine Xs_wp (cut1 24) t186 60 ?_
        refine ⟨⟨rfl, ltB rfl, neB rfl⟩, ?_⟩
        rw [rf_sizes]
        refine ⟨⟨rfl, ltB rfl, vinK ei (show i < 4 by omega) rfl⟩, ?_⟩
        rw [clK ei (show i < 2 ^ 31 by omega)]
        rw [e1, en]
        refine ifI (fun _ => ?_) (fun q => absurd (nI_lt (by omega) (by omega)) q)
        refine ⟨⟨rfl, ltB rfl, neB rfl⟩, ?_⟩
        rw [rf_cells]
        refine ⟨⟨rfl, ltB rfl, vinK ex (show 24 * i + x < 96 by omega) rfl⟩, ?_⟩
        rw [clK ex (show 24 * i + x < 2 ^ 31 by omega)]
        rw [(e3 x (by omega)).1, pl]
        have hb := hno x (by omega)
        refine ifI (fun _ => nx') (fun z => ?_)
        have hb2 : x < nt ∧ yardA (m 140) x = m (111 + 2 * i + 1) x := by
          refine ⟨?_, ?_⟩
          · by_cases t8 : x < nt
            · exact t8
            · exact absurd ⟨z, Or.inl (by omega)⟩ hb
          · by_cases t9 : yardA (m 140) x = m (111 + 2 * i + 1) x
            · exact t9
            · exact absurd ⟨z, Or.inr t9⟩ hb
        refine ⟨⟨rfl, ltB rfl⟩, r_hT hR.2.1.1 hn8 hb2.1 ?_⟩
        refine ⟨⟨rfl, ltB rfl⟩, r_yardOf (by omega) hy.2.2 ?_⟩
        exact ifI (fun _ => nx') (fun z => absurd hb2.2.symm z)
    refine Mc_wp (cut1 24) t186 rfl rfl rfl 60 ?_
    refine r_sT q1 ?_
    refine ⟨⟨rfl, ltB rfl, neB rfl⟩, ?_⟩
    rw [rf_sorts]
    refine ⟨⟨rfl, ltB rfl, vinK ei (show i < 4 by omega) rfl⟩, ?_⟩
    rw [clK ei (show i < 2 ^ 31 by omega)]
    rw [e0]
    refine ifI (fun z => absurd z s0) (fun _ => ?_)
    exact loop g 0 (by omega) none
  have loop : ∀ j x, x + j = n → (∀ y, y < x → ¬ badY nt (m 140) (m (111 + 2 * i + 1) y) y) → Xs (d + 20) 89 29 [some (.ref 0), some (.int (nI i)), some (.ref (111 + 2 * i)), some (.int (nI x))] [] (S0 L) (0, 0) m Q := by
    intro j
    induction j with
    | zero =>
      intro x hx hno
      have hx : x = n := by omega
      subst hx
      refine Xs_wp (cut1 29) t89 60 ?_
      refine ⟨shO hc, ?_⟩
      rw [en]
      refine ifI (fun q => absurd q (nI_nlt (Nat.le_refl _) (by omega))) (fun _ => ?_)
      exact ref _ x (Nat.le_refl _) hno (Or.inl ⟨rfl, rfl⟩)
    | succ j ih =>
      intro x hx hno
      have more : ¬ badY nt (m 140) (m (111 + 2 * i + 1) x) x → Xs (d + 20) 89 29 [some (.ref 0), some (.int (nI i)), some (.ref (111 + 2 * i)), some (.int (nI x + 1))] [] (S0 L) (0, 0) m Q := by
        intro hb
        have := ih (x + 1) (by omega) (fun y hy => by
          by_cases e : y = x
          · subst e; exact hb
          · exact hno y (by omega))
        rw [← nI_1] at this
        exact this
      refine Xs_wp (cut1 29) t89 60 ?_
      refine ⟨shO hc, ?_⟩
      rw [en]
      refine ifI (fun _ => ?_) (fun q => absurd (nI_lt (by omega) (by omega)) q)
      refine ⟨shO hc, c_number hc en hn (by omega) (fun z => ?_) (fun z => more (fun b => b.1 z))⟩
      refine ⟨shK hc, ?_⟩
      rw [shV hc]
      refine ⟨shP hc (rfl : nI x = nI x) (by omega), ?_⟩
      rw [nI_clamp (show x < 2 ^ 31 by omega)]
      refine ⟨⟨rfl, ltB rfl⟩, ?_⟩
      refine Mc_wp nocut t90 rfl rfl rfl 60 ?_
      refine ⟨⟨rfl, ltB rfl, neB rfl⟩, ?_⟩
      rw [rf_cnow]
      by_cases t8 : x < nt
      · refine ⟨moC mb35, c_hT mb35 hR.1.1 hn8 t8 ?_⟩
        refine ⟨⟨rfl, ltB rfl, neB rfl⟩, ?_⟩
        rw [rf_cnow]
        refine ⟨⟨rfl, ltB rfl, neB rfl⟩, ?_⟩
        rw [rf_cnow]
        refine ⟨moK1 mb35, ?_⟩
        rw [moV1 mb35]
        refine ⟨heK mb35 (rfl : nI x = nI x) (by omega), ?_⟩
        rw [heV mb35 (rfl : nI x = nI x) (show x < 8 by omega)]
        refine ⟨moC mb35, c_yardOf mb35 (heC mb35 (by omega)) (by rw [h7]; exact hy.2.2) ?_⟩
        rw [h7, hR.2.2.2.1 x 2 t8 (by omega), fm_eq hy.1]
        refine ifI (fun y => ⟨Or.inr rfl, ?_⟩) (fun y => ⟨Or.inl rfl, ?_⟩)
        · exact more (fun b => by
            rcases b.2 with b2 | b2
            · omega
            · exact b2 y)
        · exact ref _ x (by omega) hno (Or.inr ⟨by omega, rfl, z, Or.inr y⟩)
      · refine ⟨moC mb35, c_hF mb35 hR.1.1 hn8 (Or.inr ((nI_leI (by omega) (by omega)).mpr (by omega))) ?_⟩
        exact ⟨Or.inl rfl, ref _ x (by omega) hno (Or.inr ⟨by omega, rfl, z, Or.inl (by omega)⟩)⟩
  exact loop n 0 (by omega) (fun y hy => absurd hy (by omega))
