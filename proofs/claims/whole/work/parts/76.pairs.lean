-- pairs: pour
def toV (A : Nat → Int32) (v : Int32) (x : Nat) : Int32 := if v = NONEv then A (44 + 6 * x + 1) else clamp v 0 20
def poA (A f : Nat → Int32) : Nat → Nat → Int32
  | 0 => A
  | x + 1 => upd (poA A f x) (44 + 6 * x + 1) (toV A (f x) x)
def poC (A f : Nat → Int32) : Nat → Int32
  | 0 => 0
  | x + 1 => poC A f x + (if A (44 + 6 * x + 1) = toV A (f x) x then 0 else 1)
theorem poA_ne {A f : Nat → Int32} {i : Nat} : ∀ {x : Nat}, (∀ y, y < x → i ≠ 44 + 6 * y + 1) → poA A f x i = A i
  | 0, _ => rfl
  | x + 1, h => by
    show upd (poA A f x) _ _ i = A i
    rw [pk_un (h x (by omega)), poA_ne (fun y hy => h y (by omega))]
theorem toV_rng {A : Nat → Int32} {v : Int32} {x : Nat} (h : 0 ≤ (A (44 + 6 * x + 1)).toInt ∧ (A (44 + 6 * x + 1)).toInt ≤ 20) : 0 ≤ (toV A v x).toInt ∧ (toV A v x).toInt ≤ 20 := by
  unfold toV
  split
  · exact h
  · exact clamp_rng (by decide)
theorem wa_po {B : Int} {nt nw : Nat} {A f : Nat → Int32} (h : WA B nt nw A) (hw : nw ≤ 12) : ∀ x, x ≤ nt → WA B nt nw (poA A f x)
  | 0, _ => h
  | x + 1, hx => wa_tu (wa_po h hw x (by omega)) (by omega) hw ⟨by omega, fun _ => toV_rng (h.2.1 x (by omega)).2.1, by omega, by omega, by omega, by omega⟩
theorem upd_same {A : Nat → Int32} {i : Nat} {v : Int32} (h : A i = v) : upd A i v = A := by
  funext j
  by_cases e : j = i
  · subst e; rw [pk_us, h]
  · rw [pk_un e]
theorem pr_pour {scr : Nat → Int32} {L d k : Nat} {m : Mem} {v : Int32} (h : Sim scr k m) : Pair scr L (d + 20) 88 185 [.int v] k m := by
  intro Q hQ
  obtain ⟨nt, nw, nx, hM, hI⟩ := h.1.1
  have hR := hM.1
  have hn8 := hR.2.2.1.1
  refine Mc_wp (cut1 32) t88 rfl rfl rfl 60 ?_
  by_cases q1 : 0 ≤ v ∧ v ≤ 3
  rotate_left 1
  · refine c_sF q1 ?_
    refine hQ _ m (fun Q' hQ' => ?_)
    refine Mc_wp nocut t185 rfl rfl rfl 60 ?_
    exact r_sF q1 (hQ' m h.next)
  refine c_sT q1 ?_
  obtain ⟨i, hi, rfl⟩ := ix_split (b := 3) (n := 3) rfl q1.1 q1.2
  have hc : shC L (111 + 2 * i) := shI (by omega)
  have ei : nI i = nI i := rfl
  obtain ⟨e0, e1, e2, ⟨n, hn, en⟩, e3⟩ := h.2.2.1 i (by omega)
  refine ⟨⟨rfl, ltB rfl, neB rfl⟩, ?_⟩
  rw [rf_csheets]
  refine ⟨sheK (by omega), ?_⟩
  rw [sheV (by omega)]
  by_cases s1 : m (111 + 2 * i) 0 = -1
  · refine ⟨shO hc, c_missT hc s1 ?_⟩
    refine hQ _ m (fun Q' hQ' => ?_)
    refine Mc_wp nocut t185 rfl rfl rfl 60 ?_
    refine r_sT q1 ?_
    refine ⟨⟨rfl, ltB rfl, neB rfl⟩, ?_⟩
    rw [rf_sorts]
    refine ⟨⟨rfl, ltB rfl, vinK ei (show i < 4 by omega) rfl⟩, ?_⟩
    rw [clK ei (show i < 2 ^ 31 by omega)]
    rw [e0, s1]
    exact hQ' m h.next
  refine ⟨shO hc, c_missF hc s1 ?_⟩
  have s0 : ¬ m (111 + 2 * i) 0 < 0 := by
    rcases e2 with z | z | z
    · exact absurd z s1
    · rw [z]; decide
    · rw [z]; decide
  have pl : ∀ j, m (112 + 2 * i) j = m (111 + 2 * i + 1) j := fun j => by rw [show 112 + 2 * i = 111 + 2 * i + 1 by omega]
  obtain ⟨N, hN, hNt, hNn, hNe⟩ : ∃ N, N ≤ 8 ∧ N ≤ nt ∧ N ≤ n ∧ (N = nt ∨ N = n) := by
    by_cases q : nt ≤ n
    · exact ⟨nt, hn8, Nat.le_refl _, q, Or.inl rfl⟩
    · exact ⟨n, by omega, by omega, Nat.le_refl _, Or.inr rfl⟩
  have pc : ∀ x, poA (m 140) (m (111 + 2 * i + 1)) x (44 + 6 * x + 1) = m 140 (44 + 6 * x + 1) := fun x => poA_ne (fun y hy => by omega)
  have ref : ∀ m3, FrB 35 m m3 → RepM 35 nt nw nx (poA (m 140) (m (111 + 2 * i + 1)) N) m3 → Q (some (.int (poC (m 140) (m (111 + 2 * i + 1)) N))) (S0 L) m3 := by
    intro m3 hF hR3
    have row : ∀ r, 59 ≤ r → m3 r = m r := fun r hr => hF r (by omega) (by omega) (by omega)
    refine hQ _ m3 (fun Q' hQ' => ?_)
    have fin : ∀ m4, Fr [140] m3 m4 → m4 140 = poA (m 140) (m (111 + 2 * i + 1)) N → Q' (some (.int (poC (m 140) (m (111 + 2 * i + 1)) N))) (S0 L) m4 := by
      intro m4 hF4 h4
      refine hQ' m4 (h.now hM (nt' := nt) (nw' := nw) ?_ ?_ ?_ ?_)
      · rw [h4]; exact hR3.fr (fun r q1 q2 => hF4 r (by simp; omega))
      · intro j hj; rw [h4]; exact poA_ne (fun y hy => by omega)
      · rw [h4]; exact wa_po (hM.2.2.mono bd_mono) hR.2.2.1.2.1 N hNt
      · intro r a1 a2 a3
        rw [hF4 r (by simpa using a3)]
        exact Fr_of_B hF r a1 a2
    have loop : ∀ j x, x + j = N → ∀ m4 s4 s5, Fr [140] m3 m4 → m4 140 = poA (m 140) (m (111 + 2 * i + 1)) x → Xs (d + 20) 185 26 [some (.ref 139), some (.int (nI i)), some (.int (poC (m 140) (m (111 + 2 * i + 1)) x)), some (.int (nI x)), s4, s5] [] (S0 L) (0, 0) m4 Q' := by
      intro j
      induction j with
      | zero =>
        intro x hx m4 s4 s5 hF4 h4
        have hx : x = N := by omega
        subst hx
        have r153 : m4 153 i = nI n := by rw [hF4 153 (by simp), row 153 (by omega), e1, en]
        have r1 : m4 140 1 = nI nt := by rw [h4, poA_ne (fun y hy => by omega)]; exact hR.2.1.1
        refine Xs_wp (cut1 26) t185 60 ?_
        refine ⟨⟨rfl, ltB rfl, neB rfl⟩, ?_⟩
        rw [rf_sizes]
        refine ⟨⟨rfl, ltB rfl, vinK ei (show i < 4 by omega) rfl⟩, ?_⟩
        rw [clK ei (show i < 2 ^ 31 by omega)]
        rw [r153]
        by_cases q : x = n
        · refine ifI (fun z => absurd z (nI_nlt (by omega) (by omega))) (fun _ => ?_)
          exact fin m4 hF4 h4
        · refine ifI (fun _ => ?_) (fun z => absurd (nI_lt (by omega) (by omega)) z)
          refine ⟨⟨rfl, ltB rfl, neB rfl⟩, ?_⟩
          rw [rf_now]
          refine ⟨⟨rfl, ltB rfl, vinB rfl⟩, ?_⟩
          rw [lc1]
          rw [r1]
          refine ifI (fun z => absurd z (nI_nlt (by omega) (by omega))) (fun _ => ?_)
          exact fin m4 hF4 h4
      | succ j ih =>
        intro x hx m4 s4 s5 hF4 h4
        have r153 : m4 153 i = nI n := by rw [hF4 153 (by simp), row 153 (by omega), e1, en]
        have r1 : m4 140 1 = nI nt := by rw [h4, poA_ne (fun y hy => by omega)]; exact hR.2.1.1
        have ex : (24 * nI i + nI x : Int32) = nI (24 * i + x) := by rw [show (24 : Int32) = nI 24 from rfl, pk_mul, nI_add]
        have e6 : (44 + 6 * nI x + 1 : Int32) = nI (44 + 6 * x + 1) := ix3 (a := 44) (b := 6) x 1
        have r154 : m4 154 (24 * i + x) = m (111 + 2 * i + 1) x := by rw [hF4 154 (by simp), row 154 (by omega), (e3 x (by omega)).1, pl]
        have main : ∀ z : Int32, z = toV (m 140) (m (111 + 2 * i + 1) x) x → Xs (d + 20) 185 83 [some (.ref 139), some (.int (nI i)), some (.int (poC (m 140) (m (111 + 2 * i + 1)) x)), some (.int (nI x)), some (.int (m (111 + 2 * i + 1) x)), s5] [.int z] (S0 L) (0, 0) m4 Q' := by
          intro z hz
          have nxt := ih (x + 1) (by omega) (mu m4 140 (44 + 6 * x + 1) z) (some (.int (m (111 + 2 * i + 1) x))) (some (.int z)) (hF4.mu (by simp)) (by rw [mu_upd, h4, hz]; rfl)
          rw [← nI_1, poC.eq_2, ← hz] at nxt
          refine Xs_wp (cut1 26) t185 60 ?_
          refine ⟨⟨rfl, ltB rfl⟩, r_becomesE e6 (by omega) ?_⟩
          rw [h4, pc]
          refine ifI (fun y => ?_) (fun y => ?_)
          · rw [if_pos y] at nxt; exact nxt
          · rw [if_neg y] at nxt; exact nxt
        refine Xs_wp (cut2 26 83) t185 60 ?_
        refine ⟨⟨rfl, ltB rfl, neB rfl⟩, ?_⟩
        rw [rf_sizes]
        refine ⟨⟨rfl, ltB rfl, vinK ei (show i < 4 by omega) rfl⟩, ?_⟩
        rw [clK ei (show i < 2 ^ 31 by omega)]
        rw [r153]
        refine ifI (fun _ => ?_) (fun z => absurd (nI_lt (by omega) (by omega)) z)
        refine ⟨⟨rfl, ltB rfl, neB rfl⟩, ?_⟩
        rw [rf_now]
        refine ⟨⟨rfl, ltB rfl, vinB rfl⟩, ?_⟩
        rw [lc1]
        rw [r1]
        refine ifI (fun _ => ?_) (fun z => absurd (nI_lt (by omega) (by omega)) z)
        refine ⟨⟨rfl, ltB rfl, neB rfl⟩, ?_⟩
        rw [rf_cells]
        refine ⟨⟨rfl, ltB rfl, vinK ex (show 24 * i + x < 96 by omega) rfl⟩, ?_⟩
        rw [clK ex (show 24 * i + x < 2 ^ 31 by omega)]
        rw [r154]
        refine ifI (fun z => ?_) (fun z => ?_)
        · refine ⟨⟨rfl, ltB rfl⟩, r_of (w := 1) (by omega) (by omega) ?_⟩
          rw [h4, pc]
          exact main _ (by unfold toV; rw [if_pos (show m (111 + 2 * i + 1) x = NONEv from z)])
        · refine r_within ?_
          exact main _ (by unfold toV; rw [if_neg (show ¬ m (111 + 2 * i + 1) x = NONEv from z)])
    refine Mc_wp (cut1 26) t185 rfl rfl rfl 60 ?_
    refine r_sT q1 ?_
    refine ⟨⟨rfl, ltB rfl, neB rfl⟩, ?_⟩
    rw [rf_sorts]
    refine ⟨⟨rfl, ltB rfl, vinK ei (show i < 4 by omega) rfl⟩, ?_⟩
    rw [clK ei (show i < 2 ^ 31 by omega)]
    rw [row 152 (by omega), e0]
    refine ifI (fun z => absurd z s0) (fun _ => ?_)
    exact loop N 0 (by omega) m3 none none Fr.refl (row 140 (by omega))
  have loop : ∀ j x, x + j = N → ∀ m3 s5 s6, FrB 35 m m3 → RepM 35 nt nw nx (poA (m 140) (m (111 + 2 * i + 1)) x) m3 → Xs (d + 20) 88 32 [some (.ref 0), some (.int (nI i)), some (.ref (111 + 2 * i)), some (.int (poC (m 140) (m (111 + 2 * i + 1)) x)), some (.int (nI x)), s5, s6] [] (S0 L) (0, 0) m3 Q := by
    intro j
    induction j with
    | zero =>
      intro x hx m3 s5 s6 hF hR3
      have hx : x = N := by omega
      subst hx
      refine Xs_wp (cut1 32) t88 60 ?_
      refine ⟨⟨rfl, ltB rfl, neB rfl⟩, ?_⟩
      rw [rf_cnow]
      refine ⟨moC mb35, ?_⟩
      rw [hR3.1.1]
      by_cases q : x = nt
      · refine ifI (fun z => absurd z (nI_nlt (by omega) (by omega))) (fun _ => ?_)
        exact ref m3 hF hR3
      · refine ifI (fun _ => ?_) (fun z => absurd (nI_lt (by omega) (by omega)) z)
        refine ⟨shO hc, ?_⟩
        rw [hF (111 + 2 * i) (by omega) (by omega) (by omega), en]
        refine ifI (fun z => absurd z (nI_nlt (by omega) (by omega))) (fun _ => ?_)
        exact ref m3 hF hR3
    | succ j ih =>
      intro x hx m3 s5 s6 hF hR3
      have hcx : tuC L (35 + 4 + x) := heC mb35 (by omega)
      have rs : m3 (111 + 2 * i) = m (111 + 2 * i) := hF _ (by omega) (by omega) (by omega)
      have rp : m3 (111 + 2 * i + 1) = m (111 + 2 * i + 1) := hF _ (by omega) (by omega) (by omega)
      have en3 : m3 (111 + 2 * i) 1 = nI n := by rw [rs]; exact en
      have hp : m3 (35 + 4 + x) 1 = m 140 (44 + 6 * x + 1) := by rw [hR3.2.2.2.1 x 1 (by omega) (by omega), pc]
      have main : ∀ z : Int32, z = toV (m 140) (m (111 + 2 * i + 1) x) x → Xs (d + 20) 88 94 [some (.ref 0), some (.int (nI i)), some (.ref (111 + 2 * i)), some (.int (poC (m 140) (m (111 + 2 * i + 1)) x)), some (.int (nI x)), some (.ref (35 + 4 + x)), s6] [.int z] (S0 L) (0, 0) m3 Q := by
        intro z hz
        have eA : poA (m 140) (m (111 + 2 * i + 1)) (x + 1) = upd (poA (m 140) (m (111 + 2 * i + 1)) x) (44 + 6 * x + 1) z := by rw [hz]; rfl
        refine Xs_wp (cut1 32) t88 60 ?_
        refine ⟨hcx, ?_⟩
        rw [hp]
        refine ifI (fun y => ?_) (fun y => ?_)
        · have := ih (x + 1) (by omega) m3 (some (.ref (35 + 4 + x))) (some (.int z)) hF (by rw [eA, upd_same (by rw [pc]; exact y.symm)]; exact hR3)
          rw [← nI_1, poC.eq_2, ← hz, if_pos y.symm, Int32.add_zero] at this
          exact this
        · refine ⟨hcx, ?_⟩
          have := ih (x + 1) (by omega) (mu m3 (35 + 4 + x) 1 z) (some (.ref (35 + 4 + x))) (some (.int z)) (hF.mu (by omega) (by omega)) (by rw [eA]; exact hR3.tu (by omega) (by omega))
          rw [← nI_1, poC.eq_2, ← hz, if_neg (fun e => y e.symm)] at this
          exact this
      refine Xs_wp (cut2 32 94) t88 60 ?_
      refine ⟨⟨rfl, ltB rfl, neB rfl⟩, ?_⟩
      rw [rf_cnow]
      refine ⟨moC mb35, ?_⟩
      rw [hR3.1.1]
      refine ifI (fun _ => ?_) (fun z => absurd (nI_lt (by omega) (by omega)) z)
      refine ⟨shO hc, ?_⟩
      rw [en3]
      refine ifI (fun _ => ?_) (fun z => absurd (nI_lt (by omega) (by omega)) z)
      refine ⟨⟨rfl, ltB rfl, neB rfl⟩, ?_⟩
      rw [rf_cnow]
      refine ⟨moK1 mb35, ?_⟩
      rw [moV1 mb35]
      refine ⟨heK mb35 (rfl : nI x = nI x) (by omega), ?_⟩
      rw [heV mb35 (rfl : nI x = nI x) (show x < 8 by omega)]
      refine ⟨shO hc, c_number hc en3 hn (by omega) (fun z => ?_) (fun z => ?_)⟩
      · refine ⟨shK hc, ?_⟩
        rw [shV hc]
        refine ⟨shP hc (rfl : nI x = nI x) (by omega), ?_⟩
        rw [nI_clamp (show x < 2 ^ 31 by omega), rp]
        rw [rp] at z
        refine c_held ?_
        rw [held_clamp (by decide)]
        exact main _ (by unfold toV; rw [if_neg z])
      · refine ⟨hcx, ?_⟩
        rw [hp]
        rw [rp] at z
        exact main _ (by unfold toV; rw [if_pos z])
  exact loop N 0 (by omega) m none none FrB.refl hR
