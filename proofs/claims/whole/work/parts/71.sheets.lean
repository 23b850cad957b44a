-- the class: sheets and slots
def shC (L c : Nat) : Prop := (S0 L).2.1 c = 3 ∧ c < (S0 L).1 ∧ (S0 L).2.2.2 c 2 = c + 2 ∧ (S0 L).2.1 (c + 1) = 20 ∧ c + 1 < (S0 L).1 ∧ (S0 L).2.2.1 (c + 1) = 24
theorem shO {L c : Nat} (h : shC L c) : (S0 L).2.1 c = 3 ∧ c < (S0 L).1 := ⟨h.1, h.2.1⟩
theorem shK {L c : Nat} (h : shC L c) : (S0 L).2.1 c = 3 ∧ c < (S0 L).1 ∧ ¬ (S0 L).2.2.2 c 2 = 0 := ⟨h.1, h.2.1, by rw [h.2.2.1]; omega⟩
theorem shV {L c : Nat} (h : shC L c) : (S0 L).2.2.2 c 2 - 1 = c + 1 := by rw [h.2.2.1]; omega
theorem shP {L c j : Nat} {i : Int32} (h : shC L c) (e : i = nI j) (hj : j < 24) : (S0 L).2.1 (c + 1) = 20 ∧ c + 1 < (S0 L).1 ∧ vp_in i ((S0 L).2.2.1 (c + 1)) := ⟨h.2.2.2.1, h.2.2.2.2.1, by rw [h.2.2.2.2.2]; exact vinK e hj rfl⟩
theorem sh_all : ∀ i, i < 4 → CLy (111 + 2 * i) = 3 ∧ RFy (111 + 2 * i) 2 = 111 + 2 * i + 2 ∧ CLy (111 + 2 * i + 1) = 20 ∧ LNz (111 + 2 * i + 1) = 24 ∧ RFy 108 i = 112 + 2 * i := by decide
theorem sl_all : ∀ i, i < 5 → CLy (121 + 4 * i) = 3 ∧ RFy (121 + 4 * i) 2 = 121 + 4 * i + 2 ∧ CLy (121 + 4 * i + 1) = 20 ∧ LNz (121 + 4 * i + 1) = 24 ∧ RFy 109 i = 120 + 4 * i ∧ CLy (119 + 4 * i) = 4 ∧ RFy (119 + 4 * i) 1 = 121 + 4 * i ∧ RFy (119 + 4 * i) 2 = 122 + 4 * i ∧ CLy (120 + 4 * i) = 6 := by decide
theorem shI {L i : Nat} (h : i < 4) : shC L (111 + 2 * i) := by
  have a := sh_all i h
  exact ⟨a.1, show 111 + 2 * i < 161 by omega, a.2.1, a.2.2.1, show 111 + 2 * i + 1 < 161 by omega, by rw [LNy_lt (by omega)]; exact a.2.2.2.1⟩
theorem slI {L i : Nat} (h : i < 5) : shC L (121 + 4 * i) := by
  have a := sl_all i h
  exact ⟨a.1, show 121 + 4 * i < 161 by omega, a.2.1, a.2.2.1, show 121 + 4 * i + 1 < 161 by omega, by rw [LNy_lt (by omega)]; exact a.2.2.2.1⟩
theorem sheK {L i : Nat} (h : i < 4) : 23 ≤ (S0 L).2.1 108 ∧ 108 < (S0 L).1 ∧ vp_in (nI i) ((S0 L).2.2.1 108) ∧ ¬ (S0 L).2.2.2 108 (nI i).toNatClampNeg = 0 := by
  refine ⟨leB rfl, ltB rfl, vinN (n := 4) h rfl, ?_⟩
  rw [nI_clamp (by omega)]
  show ¬ RFy 108 i = 0
  rw [(sh_all i h).2.2.2.2]; omega
theorem sheV {L i : Nat} (h : i < 4) : (S0 L).2.2.2 108 (nI i).toNatClampNeg - 1 = 111 + 2 * i := by
  rw [nI_clamp (by omega)]
  show RFy 108 i - 1 = _
  rw [(sh_all i h).2.2.2.2]; omega
theorem sloK {L i : Nat} (h : i < 5) : 23 ≤ (S0 L).2.1 109 ∧ 109 < (S0 L).1 ∧ vp_in (nI i) ((S0 L).2.2.1 109) ∧ ¬ (S0 L).2.2.2 109 (nI i).toNatClampNeg = 0 := by
  refine ⟨leB rfl, ltB rfl, vinN (n := 5) h rfl, ?_⟩
  rw [nI_clamp (by omega)]
  show ¬ RFy 109 i = 0
  rw [(sl_all i h).2.2.2.2.1]; omega
theorem sloV {L i : Nat} (h : i < 5) : (S0 L).2.2.2 109 (nI i).toNatClampNeg - 1 = 119 + 4 * i := by
  rw [nI_clamp (by omega)]
  show RFy 109 i - 1 = _
  rw [(sl_all i h).2.2.2.2.1]; omega
theorem sloC {L i : Nat} (h : i < 5) : (S0 L).2.1 (119 + 4 * i) = 4 ∧ 119 + 4 * i < (S0 L).1 := ⟨(sl_all i h).2.2.2.2.2.1, show 119 + 4 * i < 161 by omega⟩
theorem sloT {L i : Nat} (h : i < 5) : (S0 L).2.1 (119 + 4 * i) = 4 ∧ 119 + 4 * i < (S0 L).1 ∧ ¬ (S0 L).2.2.2 (119 + 4 * i) 1 = 0 := ⟨(sloC (L := L) h).1, (sloC (L := L) h).2, by show ¬ RFy (119 + 4 * i) 1 = 0; rw [(sl_all i h).2.2.2.2.2.2.1]; omega⟩
theorem sloTV {L i : Nat} (h : i < 5) : (S0 L).2.2.2 (119 + 4 * i) 1 - 1 = 120 + 4 * i := by show RFy (119 + 4 * i) 1 - 1 = _; rw [(sl_all i h).2.2.2.2.2.2.1]; omega
theorem sloS {L i : Nat} (h : i < 5) : (S0 L).2.1 (119 + 4 * i) = 4 ∧ 119 + 4 * i < (S0 L).1 ∧ ¬ (S0 L).2.2.2 (119 + 4 * i) 2 = 0 := ⟨(sloC (L := L) h).1, (sloC (L := L) h).2, by show ¬ RFy (119 + 4 * i) 2 = 0; rw [(sl_all i h).2.2.2.2.2.2.2.1]; omega⟩
theorem sloSV {L i : Nat} (h : i < 5) : (S0 L).2.2.2 (119 + 4 * i) 2 - 1 = 121 + 4 * i := by show RFy (119 + 4 * i) 2 - 1 = _; rw [(sl_all i h).2.2.2.2.2.2.2.1]; omega
theorem sloTu {L i : Nat} (h : i < 5) : tuC L (120 + 4 * i) := ⟨(sl_all i h).2.2.2.2.2.2.2.2, show 120 + 4 * i < 161 by omega⟩
theorem c_missT {d L c : Nat} {mem : Mem} {Q : Qt} (hc : shC L c) (h : mem c 0 = -1) (hQ : Q (some (.int 1)) (S0 L) mem) : Mc (d + 1) 39 [.ref c] (S0 L) mem Q := by
  refine Mc_wp nocut t39 rfl rfl rfl 30 ?_
  refine ⟨shO hc, ?_⟩
  rw [h]
  exact ⟨Or.inr rfl, hQ⟩
theorem c_missF {d L c : Nat} {mem : Mem} {Q : Qt} (hc : shC L c) (h : ¬ mem c 0 = -1) (hQ : Q (some (.int 0)) (S0 L) mem) : Mc (d + 1) 39 [.ref c] (S0 L) mem Q := by
  refine Mc_wp nocut t39 rfl rfl rfl 30 ?_
  refine ⟨shO hc, ?_⟩
  exact ifI (fun z => absurd z h) (fun _ => ⟨Or.inl rfl, hQ⟩)
theorem nn_bad {v : Int32} {n : Nat} (hn : n < 2 ^ 30) (h : nonum v n) : ¬ (0 ≤ v ∧ v ≤ nI n - 1) := fun q => by
  obtain ⟨k, hk, e⟩ := ix_good hn q.1 q.2
  exact nonum_not (by omega) h hk e
theorem nn_good {n j : Nat} (hn : n < 2 ^ 30) (h : j < n) : 0 ≤ nI j ∧ nI j ≤ nI n - 1 := by
  have e1 : (nI n - 1 : Int32) = nI (n - 1) := pk_sub (b := 1) (by omega)
  rw [e1]
  exact ⟨Int32.not_lt.mp (nI_pos (by omega)), (nI_leI (by omega) (by omega)).mpr (by omega)⟩
theorem c_placeT {d L c n j : Nat} {mem : Mem} {Q : Qt} (hc : shC L c) (hn : mem c 1 = nI n) (h24 : n ≤ 24) (hj : j < n) (hQ : Q (some (.int 1)) (S0 L) mem) : Mc (d + 2) 40 [.ref c, .int (nI j)] (S0 L) mem Q := by
  refine Mc_wp nocut t40 rfl rfl rfl 30 ?_
  refine ⟨shO hc, ?_⟩
  rw [hn]
  exact c_wT (nn_good (by omega) hj) ⟨Or.inr rfl, hQ⟩
theorem c_placeF {d L c n : Nat} {v : Int32} {mem : Mem} {Q : Qt} (hc : shC L c) (hn : mem c 1 = nI n) (h24 : n ≤ 24) (hj : nonum v n) (hQ : Q (some (.int 0)) (S0 L) mem) : Mc (d + 2) 40 [.ref c, .int v] (S0 L) mem Q := by
  refine Mc_wp nocut t40 rfl rfl rfl 30 ?_
  refine ⟨shO hc, ?_⟩
  rw [hn]
  exact c_wF (nn_bad (by omega) hj) ⟨Or.inl rfl, hQ⟩
theorem c_number {d L c n j : Nat} {mem : Mem} {Q : Qt} (hc : shC L c) (hn : mem c 1 = nI n) (h24 : n ≤ 24) (hj : j < n) (h1 : ¬ mem (c + 1) j = NONEv → Q (some (.int 1)) (S0 L) mem) (h0 : mem (c + 1) j = NONEv → Q (some (.int 0)) (S0 L) mem) : Mc (d + 3) 42 [.ref c, .int (nI j)] (S0 L) mem Q := by
  refine Mc_wp nocut t42 rfl rfl rfl 30 ?_
  refine ⟨shO hc, c_placeT hc hn h24 hj ?_⟩
  refine ⟨shK hc, ?_⟩
  rw [shV hc]
  refine ⟨shP hc (rfl : nI j = nI j) (by omega), ?_⟩
  rw [nI_clamp (by omega)]
  exact ifI (fun z => ⟨Or.inl rfl, h0 z⟩) (fun z => ⟨Or.inr rfl, h1 z⟩)
theorem c_finding {d L i : Nat} {mem : Mem} {Q : Qt} (hi : i < 5) (hQ : Q (some (.int (if mem (119 + 4 * i) 0 = 0 then -1000000011 else -1000000012))) (S0 L) mem) : Mc (d + 1) 43 [.ref (119 + 4 * i)] (S0 L) mem Q := by
  refine Mc_wp nocut t43 rfl rfl rfl 30 ?_
  refine ⟨sloC hi, ?_⟩
  obtain ⟨h1, h2⟩ := qif hQ
  exact ifI (fun z => h1 z) (fun z => h2 z)
theorem pr_rest {scr : Nat → Int32} {L d k : Nat} {m : Mem} {v w : Int32} (h : Sim scr k m) : Pair scr L (d + 20) 95 191 [.int v, .int w] k m := by
  intro Q hQ
  refine Mc_wp nocut t95 rfl rfl rfl 60 ?_
  by_cases q1 : 0 ≤ v ∧ v ≤ 4
  rotate_left 1
  · refine c_lF q1 ?_
    refine hQ _ m (fun Q' hQ' => ?_)
    refine Mc_wp nocut t191 rfl rfl rfl 60 ?_
    exact r_lF q1 (hQ' m h.next)
  refine c_lT q1 ?_
  obtain ⟨i, hi, rfl⟩ := ix_split (b := 4) (n := 4) rfl q1.1 q1.2
  have hL := h.2.2.2.1 i (by omega)
  have e0 := hL.1
  refine ⟨⟨rfl, ltB rfl, neB rfl⟩, ?_⟩
  rw [rf_cslots]
  refine ⟨sloK (by omega), ?_⟩
  rw [sloV (by omega)]
  refine ⟨sloC (by omega), ?_⟩
  have ei : nI i = nI i := rfl
  rcases hL.2 with q | ⟨q, _⟩ | ⟨q, _⟩ | ⟨q, hq⟩
  · have q' : m (119 + 4 * i) 0 = 0 := e0.symm.trans q
    rw [q']
    refine ⟨sloC (by omega), c_finding (by omega) ?_⟩
    rw [if_pos q']
    refine hQ _ m (fun Q' hQ' => ?_)
    refine Mc_wp nocut t191 rfl rfl rfl 60 ?_
    refine r_lT q1 ?_
    refine ⟨⟨rfl, ltB rfl, neB rfl⟩, ?_⟩
    rw [rf_holds]
    refine ⟨⟨rfl, ltB rfl, vinK ei (show i < 5 by omega) rfl⟩, ?_⟩
    rw [clK ei (show i < 2 ^ 31 by omega)]
    rw [q]
    exact hQ' m h.next
  · have q' : m (119 + 4 * i) 0 = 1 := e0.symm.trans q
    rw [q']
    refine ⟨sloC (by omega), c_finding (by omega) ?_⟩
    rw [if_neg (by rw [q']; decide)]
    refine hQ _ m (fun Q' hQ' => ?_)
    refine Mc_wp nocut t191 rfl rfl rfl 60 ?_
    refine r_lT q1 ?_
    refine ⟨⟨rfl, ltB rfl, neB rfl⟩, ?_⟩
    rw [rf_holds]
    refine ⟨⟨rfl, ltB rfl, vinK ei (show i < 5 by omega) rfl⟩, ?_⟩
    rw [clK ei (show i < 2 ^ 31 by omega)]
    rw [q]
    refine ⟨⟨rfl, ltB rfl, neB rfl⟩, ?_⟩
    rw [rf_holds]
    refine ⟨⟨rfl, ltB rfl, vinK ei (show i < 5 by omega) rfl⟩, ?_⟩
    rw [clK ei (show i < 2 ^ 31 by omega)]
    rw [q]
    exact hQ' m h.next
  · have q' : m (119 + 4 * i) 0 = 2 := e0.symm.trans q
    rw [q']
    refine ⟨sloC (by omega), c_finding (by omega) ?_⟩
    rw [if_neg (by rw [q']; decide)]
    refine hQ _ m (fun Q' hQ' => ?_)
    refine Mc_wp nocut t191 rfl rfl rfl 60 ?_
    refine r_lT q1 ?_
    refine ⟨⟨rfl, ltB rfl, neB rfl⟩, ?_⟩
    rw [rf_holds]
    refine ⟨⟨rfl, ltB rfl, vinK ei (show i < 5 by omega) rfl⟩, ?_⟩
    rw [clK ei (show i < 2 ^ 31 by omega)]
    rw [q]
    refine ⟨⟨rfl, ltB rfl, neB rfl⟩, ?_⟩
    rw [rf_holds]
    refine ⟨⟨rfl, ltB rfl, vinK ei (show i < 5 by omega) rfl⟩, ?_⟩
    rw [clK ei (show i < 2 ^ 31 by omega)]
    rw [q]
    exact hQ' m h.next
  · have q' : m (119 + 4 * i) 0 = 3 := e0.symm.trans q
    rw [q']
    have ref : ∀ V : Int32, (∀ Q' : Qt, Q' (some (.int V)) (S0 L) m → Xs (d + 20) 191 35 [some (.ref 139), some (.int (nI i)), some (.int w)] [] (S0 L) (0, 0) m Q') → Q (some (.int V)) (S0 L) m := by
      intro V hX
      refine hQ V m (fun Q' hQ' => ?_)
      refine Mc_wp (cut1 35) t191 rfl rfl rfl 60 ?_
      refine r_lT q1 ?_
      refine ⟨⟨rfl, ltB rfl, neB rfl⟩, ?_⟩
      rw [rf_holds]
      refine ⟨⟨rfl, ltB rfl, vinK ei (show i < 5 by omega) rfl⟩, ?_⟩
      rw [clK ei (show i < 2 ^ 31 by omega)]
      rw [q]
      refine ⟨⟨rfl, ltB rfl, neB rfl⟩, ?_⟩
      rw [rf_holds]
      refine ⟨⟨rfl, ltB rfl, vinK ei (show i < 5 by omega) rfl⟩, ?_⟩
      rw [clK ei (show i < 2 ^ 31 by omega)]
      rw [q]
      exact hX Q' (hQ' m h.next)
    by_cases w0 : w = 0
    · subst w0
      refine ref _ (fun Q' hq' => ?_)
      refine Xs_wp nocut t191 60 ?_
      exact hq'
    refine ifI (fun z => absurd z w0) (fun _ => ?_)
    refine ⟨sloC (by omega), ?_⟩
    refine ⟨w0, ?_⟩
    rw [← hq]
    refine ref _ (fun Q' hq' => ?_)
    refine Xs_wp nocut t191 60 ?_
    refine ifI (fun z => absurd z w0) (fun _ => ?_)
    by_cases w1 : w = -1
    · subst w1
      have e : m 156 i - m 156 i / -1 * -1 = 0 := by
        have : ∀ x : Int32, x - x / -1 * -1 = 0 := by
          intro x
          have hx := tI_rng x
          have e1 : (-1 : Int32).toInt = -1 := rfl
          rw [tI_eq, Int32.toInt_sub, Int32.toInt_mul, Int32.toInt_div, e1]
          show _ = (0 : Int)
          rw [Int.tdiv_neg, Int.tdiv_one, Int.bmod_mul_bmod, Int.neg_mul_neg, Int.mul_one]
          rw [Int.sub_bmod_bmod, Int.sub_self]; rfl
        exact this _
      rw [e] at hq'
      exact hq'
    · refine ifI (fun z => absurd z w1) (fun _ => ?_)
      refine ⟨⟨rfl, ltB rfl, neB rfl⟩, ?_⟩
      rw [rf_holdsA]
      refine ⟨⟨rfl, ltB rfl, vinK ei (show i < 5 by omega) rfl⟩, ?_⟩
      rw [clK ei (show i < 2 ^ 31 by omega)]
      exact ⟨w0, hq'⟩
