-- contracts for the two cases apart
theorem not_in {v a b : Int32} (h : ¬ (a ≤ v ∧ v ≤ b)) (q1 : a ≤ v) (q2 : v ≤ b) : False := h ⟨q1, q2⟩
theorem is_in {v a b : Int32} (h : a ≤ v ∧ v ≤ b) (q : v < a ∨ b < v) : False := by
  rcases q with q | q
  · exact absurd q (Int32.not_lt.mpr h.1)
  · exact absurd q (Int32.not_lt.mpr h.2)
theorem c_wT {d : Nat} {S : Shp} {mem : Mem} {Q : Qt} {v a b : Int32} (h : a ≤ v ∧ v ≤ b) (hQ : Q (some (.int 1)) S mem) : Mc (d + 1) 102 [.int v, .int a, .int b] S mem Q := c_within (fun _ _ => hQ) (fun q => (is_in h q).elim)
theorem c_wF {d : Nat} {S : Shp} {mem : Mem} {Q : Qt} {v a b : Int32} (h : ¬ (a ≤ v ∧ v ≤ b)) (hQ : Q (some (.int 0)) S mem) : Mc (d + 1) 102 [.int v, .int a, .int b] S mem Q := c_within (fun q1 q2 => (not_in h q1 q2).elim) (fun _ => hQ)
theorem r_iT {d : Nat} {S : Shp} {mem : Mem} {Q : Qt} {v a b : Int32} (h : a ≤ v ∧ v ≤ b) (hQ : Q (some (.int 1)) S mem) : Mc (d + 1) 108 [.int v, .int a, .int b] S mem Q := r_in (fun _ _ => hQ) (fun q => (is_in h q).elim)
theorem r_iF {d : Nat} {S : Shp} {mem : Mem} {Q : Qt} {v a b : Int32} (h : ¬ (a ≤ v ∧ v ≤ b)) (hQ : Q (some (.int 0)) S mem) : Mc (d + 1) 108 [.int v, .int a, .int b] S mem Q := r_in (fun q1 q2 => (not_in h q1 q2).elim) (fun _ => hQ)
theorem c_kT {d : Nat} {S : Shp} {mem : Mem} {Q : Qt} {v : Int32} (h : 0 ≤ v ∧ v ≤ 5) (hQ : Q (some (.int 1)) S mem) : Mc (d + 2) 104 [.int v] S mem Q := c_isKind (fun _ _ => hQ) (fun q => (is_in h q).elim)
theorem c_kF {d : Nat} {S : Shp} {mem : Mem} {Q : Qt} {v : Int32} (h : ¬ (0 ≤ v ∧ v ≤ 5)) (hQ : Q (some (.int 0)) S mem) : Mc (d + 2) 104 [.int v] S mem Q := c_isKind (fun q1 q2 => (not_in h q1 q2).elim) (fun _ => hQ)
theorem c_oT {d : Nat} {S : Shp} {mem : Mem} {Q : Qt} {v : Int32} (h : 0 ≤ v ∧ v ≤ 7) (hQ : Q (some (.int 1)) S mem) : Mc (d + 2) 105 [.int v] S mem Q := c_isOwner (fun _ _ => hQ) (fun q => (is_in h q).elim)
theorem c_oF {d : Nat} {S : Shp} {mem : Mem} {Q : Qt} {v : Int32} (h : ¬ (0 ≤ v ∧ v ≤ 7)) (hQ : Q (some (.int 0)) S mem) : Mc (d + 2) 105 [.int v] S mem Q := c_isOwner (fun q1 q2 => (not_in h q1 q2).elim) (fun _ => hQ)
theorem c_sT {d : Nat} {S : Shp} {mem : Mem} {Q : Qt} {v : Int32} (h : 0 ≤ v ∧ v ≤ 3) (hQ : Q (some (.int 1)) S mem) : Mc (d + 2) 106 [.int v] S mem Q := c_isSheet (fun _ _ => hQ) (fun q => (is_in h q).elim)
theorem c_sF {d : Nat} {S : Shp} {mem : Mem} {Q : Qt} {v : Int32} (h : ¬ (0 ≤ v ∧ v ≤ 3)) (hQ : Q (some (.int 0)) S mem) : Mc (d + 2) 106 [.int v] S mem Q := c_isSheet (fun q1 q2 => (not_in h q1 q2).elim) (fun _ => hQ)
theorem c_lT {d : Nat} {S : Shp} {mem : Mem} {Q : Qt} {v : Int32} (h : 0 ≤ v ∧ v ≤ 4) (hQ : Q (some (.int 1)) S mem) : Mc (d + 2) 107 [.int v] S mem Q := c_isSlot (fun _ _ => hQ) (fun q => (is_in h q).elim)
theorem c_lF {d : Nat} {S : Shp} {mem : Mem} {Q : Qt} {v : Int32} (h : ¬ (0 ≤ v ∧ v ≤ 4)) (hQ : Q (some (.int 0)) S mem) : Mc (d + 2) 107 [.int v] S mem Q := c_isSlot (fun q1 q2 => (not_in h q1 q2).elim) (fun _ => hQ)
theorem r_sT {d : Nat} {S : Shp} {mem : Mem} {Q : Qt} {v : Int32} (h : 0 ≤ v ∧ v ≤ 3) (hQ : Q (some (.int 1)) S mem) : Mc (d + 2) 181 [.int v] S mem Q := by
  refine Mc_wp nocut t181 rfl rfl rfl 30 ?_
  exact r_iT h ⟨Or.inr rfl, hQ⟩
theorem r_sF {d : Nat} {S : Shp} {mem : Mem} {Q : Qt} {v : Int32} (h : ¬ (0 ≤ v ∧ v ≤ 3)) (hQ : Q (some (.int 0)) S mem) : Mc (d + 2) 181 [.int v] S mem Q := by
  refine Mc_wp nocut t181 rfl rfl rfl 30 ?_
  exact r_iF h ⟨Or.inl rfl, hQ⟩
theorem r_lT {d : Nat} {S : Shp} {mem : Mem} {Q : Qt} {v : Int32} (h : 0 ≤ v ∧ v ≤ 4) (hQ : Q (some (.int 1)) S mem) : Mc (d + 2) 182 [.int v] S mem Q := by
  refine Mc_wp nocut t182 rfl rfl rfl 30 ?_
  exact r_iT h ⟨Or.inr rfl, hQ⟩
theorem r_lF {d : Nat} {S : Shp} {mem : Mem} {Q : Qt} {v : Int32} (h : ¬ (0 ≤ v ∧ v ≤ 4)) (hQ : Q (some (.int 0)) S mem) : Mc (d + 2) 182 [.int v] S mem Q := by
  refine Mc_wp nocut t182 rfl rfl rfl 30 ?_
  exact r_iF h ⟨Or.inl rfl, hQ⟩
/-- a number that names none of n -/
def nonum (v : Int32) (n : Nat) : Prop := v < 0 ∨ nI n ≤ v
theorem nonum_not {v : Int32} {n t : Nat} (hn : n < 2 ^ 31) (h : nonum v n) (ht : t < n) (e : v = nI t) : False := by
  subst e
  rcases h with q | q
  · exact nI_pos (by omega) q
  · have := (nI_leI (by omega) (by omega)).mp q; omega
theorem num_or {n : Nat} (v : Int32) (hn : n < 2 ^ 31) : nonum v n ∨ ∃ t, t < n ∧ v = nI t := by
  rcases pk_ix v hn with q | q | q
  · exact Or.inl (Or.inl q)
  · exact Or.inl (Or.inr q)
  · exact Or.inr q
theorem c_hT {d L : Nat} {mem : Mem} {Q : Qt} {t b n : Nat} (hb : MB b) (hn : mem b 4 = nI n) (hn8 : n ≤ 8) (ht : t < n) (hQ : Q (some (.int 1)) (S0 L) mem) : Mc (d + 2) 4 [.ref b, .int (nI t)] (S0 L) mem Q := c_hasTurtle hb hn hn8 (fun _ _ _ => hQ) (fun q => (nonum_not (by omega) q ht rfl).elim)
theorem c_hF {d L : Nat} {mem : Mem} {Q : Qt} {v : Int32} {b n : Nat} (hb : MB b) (hn : mem b 4 = nI n) (hn8 : n ≤ 8) (h : nonum v n) (hQ : Q (some (.int 0)) (S0 L) mem) : Mc (d + 2) 4 [.ref b, .int v] (S0 L) mem Q := c_hasTurtle hb hn hn8 (fun _ q e => (nonum_not (by omega) h q e).elim) (fun _ => hQ)
theorem c_gT {d L : Nat} {mem : Mem} {Q : Qt} {t b n : Nat} (hb : MB b) (hn : mem b 5 = nI n) (hn8 : n ≤ 12) (ht : t < n) (hQ : Q (some (.int 1)) (S0 L) mem) : Mc (d + 2) 5 [.ref b, .int (nI t)] (S0 L) mem Q := c_hasWager hb hn hn8 (fun _ _ _ => hQ) (fun q => (nonum_not (by omega) q ht rfl).elim)
theorem c_gF {d L : Nat} {mem : Mem} {Q : Qt} {v : Int32} {b n : Nat} (hb : MB b) (hn : mem b 5 = nI n) (hn8 : n ≤ 12) (h : nonum v n) (hQ : Q (some (.int 0)) (S0 L) mem) : Mc (d + 2) 5 [.ref b, .int v] (S0 L) mem Q := c_hasWager hb hn hn8 (fun _ q e => (nonum_not (by omega) h q e).elim) (fun _ => hQ)
theorem r_hT {d L : Nat} {mem : Mem} {Q : Qt} {t n : Nat} (hn : mem 140 1 = nI n) (hn8 : n ≤ 8) (ht : t < n) (hQ : Q (some (.int 1)) (S0 L) mem) : Mc (d + 2) 112 [.ref 139, .int (nI t)] (S0 L) mem Q := r_isTurtle hn hn8 (fun _ _ _ => hQ) (fun q => (nonum_not (by omega) q ht rfl).elim)
theorem r_hF {d L : Nat} {mem : Mem} {Q : Qt} {v : Int32} {n : Nat} (hn : mem 140 1 = nI n) (hn8 : n ≤ 8) (h : nonum v n) (hQ : Q (some (.int 0)) (S0 L) mem) : Mc (d + 2) 112 [.ref 139, .int v] (S0 L) mem Q := r_isTurtle hn hn8 (fun _ q e => (nonum_not (by omega) h q e).elim) (fun _ => hQ)
theorem r_gT {d L : Nat} {mem : Mem} {Q : Qt} {t n : Nat} (hn : mem 140 6 = nI n) (hn8 : n ≤ 12) (ht : t < n) (hQ : Q (some (.int 1)) (S0 L) mem) : Mc (d + 2) 113 [.ref 139, .int (nI t)] (S0 L) mem Q := r_isWager hn hn8 (fun _ _ _ => hQ) (fun q => (nonum_not (by omega) q ht rfl).elim)
theorem r_gF {d L : Nat} {mem : Mem} {Q : Qt} {v : Int32} {n : Nat} (hn : mem 140 6 = nI n) (hn8 : n ≤ 12) (h : nonum v n) (hQ : Q (some (.int 0)) (S0 L) mem) : Mc (d + 2) 113 [.ref 139, .int v] (S0 L) mem Q := r_isWager hn hn8 (fun _ q e => (nonum_not (by omega) h q e).elim) (fun _ => hQ)
theorem rf_cnow {L : Nat} : (S0 L).2.2.2 0 1 - 1 = 35 := rfl
theorem rf_cimage {L : Nat} : (S0 L).2.2.2 0 2 - 1 = 59 := rfl
theorem rf_cthought {L : Nat} : (S0 L).2.2.2 0 3 - 1 = 83 := rfl
theorem rf_ctape {L : Nat} : (S0 L).2.2.2 0 5 - 1 = 107 := rfl
theorem rf_csheets {L : Nat} : (S0 L).2.2.2 0 7 - 1 = 108 := rfl
theorem rf_cslots {L : Nat} : (S0 L).2.2.2 0 8 - 1 = 109 := rfl
theorem rf_cwaiting {L : Nat} : (S0 L).2.2.2 0 9 - 1 = 110 := rfl
theorem rf_claws {L : Nat} : (S0 L).2.2.2 0 0 - 1 = 1 := rfl
theorem mb35 : MB 35 := Or.inl rfl
theorem mb59 : MB 59 := Or.inr (Or.inl rfl)
theorem mb83 : MB 83 := Or.inr (Or.inr rfl)
/-- the array of now and its moat have changed together -/
theorem Sim.now {scr : Nat → Int32} {k nt nw nx nt' nw' : Nat} {m m' : Mem} (h : Sim scr k m) (h0 : Mo (bd k) 35 nt nw nx (m 140) m) (hR : RepM 35 nt' nw' nx (m' 140) m') (hT : ∀ i, 92 ≤ i → m' 140 i = m 140 i) (hW : WA (bd (k + 1)) nt' nw' (m' 140))
    (hf : ∀ r, ¬ scrap r → (r < 35 ∨ 58 < r) → r ≠ 140 → m' r = m r) : Sim scr (k + 1) m' := by
  obtain ⟨⟨⟨nt0, nw0, nx0, a1, a2⟩, a3⟩, b, c, d, e, f⟩ := h
  have hx : nx0 = nx := (nI_eq (by have := a1.1.2.2.1.2.2; omega) (by have := h0.1.2.2.1.2.2; omega)).mp (a1.1.2.1.2.2.symm.trans h0.1.2.1.2.2)
  subst hx
  have g : ∀ r, (5 ≤ r ∧ r ≤ 34) ∨ (59 ≤ r ∧ r ≤ 82) ∨ (107 ≤ r ∧ r ≤ 139) ∨ r = 141 ∨ (144 ≤ r ∧ r ≤ 146) ∨ (152 ≤ r ∧ r ≤ 158) ∨ r = 0 ∨ r = 160 ∨ r = 900 → m' r = m r := fun r hr => hf r (by unfold scrap; omega) (by omega) (by omega)
  refine ⟨⟨⟨nt', nw', nx0, ⟨hR, (a1.2.1.fr a1.1.2.2.1.2.2 (fun r q1 q2 => g r (by omega))).congr hT, hW⟩, ?_⟩, by rw [g 139 (by omega), g 0 (by omega)]; exact a3⟩, b.fr (g _ (by omega)) (g _ (by omega)) (by rw [g 0 (by omega)]) (by rw [g 139 (by omega)]), c.fr (fun r q1 q2 => g r (by omega)) (g _ (by omega)) (g _ (by omega)) (g _ (by omega)), d.fr (fun r q1 q2 => g r (by omega)) (g _ (by omega)) (g _ (by omega)) (g _ (by omega)) (g _ (by omega)), e.fr (g _ (by omega)) (g _ (by omega)) (by rw [g 0 (by omega)]) (by rw [g 139 (by omega)]), f.fr (g _ (by omega)) (g _ (by omega)) (g _ (by omega))⟩
  rw [g 0 (by omega), g 141 (by omega)]
  rcases a2 with a2 | ⟨a2, it, iw, ix, a4, a5⟩
  · exact Or.inl a2
  · exact Or.inr ⟨a2, it, iw, ix, ⟨(a4.fr (fun r q1 q2 => g r (by omega)) (fun r q1 q2 => g r (by omega))).1, (a4.fr (fun r q1 q2 => g r (by omega)) (fun r q1 q2 => g r (by omega))).2.1, a4.2.2.mono bd_mono⟩, a5⟩
