-- the class: gives
theorem trS_cases (s : Int32) : trS s < 0 ∧ ¬ trS s = -10 := by
  unfold trS
  by_cases h1 : s = 124
  · rw [if_pos h1]; decide
  rw [if_neg h1]
  by_cases h1 : s = 38
  · rw [if_pos h1]; decide
  rw [if_neg h1]
  by_cases h1 : s = 60
  · rw [if_pos h1]; decide
  rw [if_neg h1]
  by_cases h1 : s = 61
  · rw [if_pos h1]; decide
  rw [if_neg h1]
  by_cases h1 : s = 62
  · rw [if_pos h1]; decide
  rw [if_neg h1]
  by_cases h1 : s = 43
  · rw [if_pos h1]; decide
  rw [if_neg h1]
  by_cases h1 : s = 45
  · rw [if_pos h1]; decide
  rw [if_neg h1]
  by_cases h1 : s = 42
  · rw [if_pos h1]; decide
  rw [if_neg h1]; decide
theorem nm_ix : ∀ i, i < 4 → ((nI (10000 + i) - 10000) &&& 3 : Int32) = nI i := by decide
theorem rf_lnames {L : Nat} : (S0 L).2.2.2 1 1 - 1 = 3 := rfl
theorem rf_lstack {L : Nat} : (S0 L).2.2.2 1 2 - 1 = 4 := rfl
theorem c_gives {d L : Nat} {mem : Mem} {Q : Qt} {x n nm : Nat} {a1 a2 a3 a4 : Int32} {c : Nat → Int32} (hx : x < 15) (hn : mem (5 + 2 * x) 1 = nI n) (hc : ∀ k, k < n → c k = trC (mem (6 + 2 * x) k)) (hp : ∀ k, k < n → ¬ mem (6 + 2 * x) k < 0) (hw : wfc c nm n) (hnm : nm ≤ 4)
    (h : ∀ m', Fr [3, 4] mem m' → Q (some (.int (evR c (fa4 a1 a2 a3 a4) n))) (S0 L) m') : Mc (d + 3) 1 [.ref 1, .int (nI x), .int a1, .int a2, .int a3, .int a4] (S0 L) mem Q := by
  obtain ⟨hn96, hd1, hwk⟩ := hw
  have hlen : ∀ k, k ≤ n → (evL c (fa4 a1 a2 a3 a4) k).length = dpt c k := evL_len (fun k hk => (hwk k hk).1)
  have row : ∀ {m : Mem} {r : Nat}, Fr [3, 4] mem m → 5 ≤ r → m r = mem r := fun hF hr => hF _ (by simp; omega)
  have loop : ∀ m k, k + m = n → ∀ (M : Mem) (sv : Option Value) (tp : Int32), Fr [3, 4] mem M → (∀ i, i < 4 → M 3 i = fa4 a1 a2 a3 a4 i) → tp = nI (dpt c k) → okS (evL c (fa4 a1 a2 a3 a4) k) (M 4) →
      Xs (d + 3) 1 43 [some (.ref 1), some (.int (nI x)), some (.int a1), some (.int a2), some (.int a3), some (.int a4), some (.ref (5 + 2 * x)), some (.int tp), some (.int (nI k)), sv] [] (S0 L) (0, 0) M Q := by
    intro m
    induction m with
    | zero =>
      intro k hk M sv tp hF h3 htp hok
      have hk : k = n := by omega
      subst hk
      refine Xs_wp (cut1 43) t1 60 ?_
      refine ⟨txC hx, ?_⟩
      rw [row hF (by omega), hn]
      refine ifI (fun q => absurd q (nI_nlt (Nat.le_refl _) (by omega))) (fun _ => ?_)
      refine ⟨⟨rfl, ltB rfl, neB rfl⟩, ?_⟩
      rw [rf_lstack]
      refine ⟨⟨rfl, ltB rfl, vinB rfl⟩, ?_⟩
      have hl := hlen k (Nat.le_refl _)
      have h9 := h M hF
      unfold evR at h9
      match hev : evL c (fa4 a1 a2 a3 a4) k, hl, hok with
      | [], hl, _ => rw [hd1] at hl; cases hl
      | [v], _, hok =>
        rw [hev] at h9
        have e0 : M 4 0 = v := hok.1
        show Q (some (.int (M 4 0))) (S0 L) M
        rw [e0]
        exact h9
      | _ :: _ :: _, hl, _ => rw [hd1] at hl; simp at hl
    | succ m ih =>
      intro k hk M sv tp hF h3 htp hok
      subst htp
      have hdk : dpt c k ≤ k := dpt_le k
      have hl := hlen k (by omega)
      obtain ⟨w1, w2⟩ := hwk k (by omega)
      have hS : evL c (fa4 a1 a2 a3 a4) (k + 1) = _ := evL.eq_2 c (fa4 a1 a2 a3 a4) k
      have hD : dpt c (k + 1) = _ := dpt.eq_2 c k
      have hck := hc k (by omega)
      have hpk := hp k (by omega)
      refine Xs_wp (cut2 43 159) t1 200 ?_
      refine ⟨txC hx, ?_⟩
      rw [row hF (by omega), hn]
      refine ifI (fun _ => ?_) (fun q => absurd (nI_lt (by omega) (by omega)) q)
      refine ⟨txR hx, ?_⟩
      rw [txV hx]
      refine ⟨txA hx (rfl : nI k = nI k) (by omega), ?_⟩
      rw [nI_clamp (by omega), row hF (by omega)]
      refine ifI (fun q => ?_) (fun q => ?_)
      · have ec : c k = mem (6 + 2 * x) k := by rw [hck]; unfold trC; exact if_pos q
        rw [ec] at hS hD w2
        rw [if_neg hpk] at hS hD
        refine ifI (fun _ => ?_) (fun z => absurd (nI_lt (a := dpt c k) (b := 96) (by omega) (by omega)) z)
        refine ⟨⟨rfl, ltB rfl, neB rfl⟩, ?_⟩
        rw [rf_lstack]
        have fin : ∀ z : Int32, z = (if mem (6 + 2 * x) k < 10000 then mem (6 + 2 * x) k else fa4 a1 a2 a3 a4 (mem (6 + 2 * x) k - 10000).toNatClampNeg) → Xs (d + 3) 1 43 [some (.ref 1), some (.int (nI x)), some (.int a1), some (.int a2), some (.int a3), some (.int a4), some (.ref (5 + 2 * x)), some (.int (nI (dpt c k) + 1)), some (.int (nI k + 1)), some (.int (mem (6 + 2 * x) k))] [] (S0 L) (0, 0) (mu M 4 (dpt c k) z) Q := by
          intro z hz
          rw [nI_1, nI_1]
          refine ih (k + 1) (by omega) _ _ _ (hF.mu (by simp)) (fun i hi => by rw [mu_row (by decide)]; exact h3 i hi) (by rw [hD]) ?_
          rw [hS, ← hz, mu_upd]
          refine ⟨?_, ?_⟩
          · rw [hl]; exact pk_us
          · exact okS_upd (by omega) hok
        refine ifI (fun z => ?_) (fun z => ?_)
        · refine ⟨⟨rfl, ltB rfl, vinN (n := 96) (show dpt c k < 96 by omega) rfl⟩, ?_⟩
          rw [nI_clamp (show dpt c k < 2 ^ 31 by omega)]
          exact fin _ (by rw [if_pos z])
        · rcases w2 hpk with z2 | ⟨i, hi, ei⟩
          · exact absurd z2 z
          have e6 : (mem (6 + 2 * x) k - 10000) &&& 3 = nI i := by rw [ei]; exact nm_ix i (by omega)
          have e7 : (mem (6 + 2 * x) k - 10000 : Int32) = nI i := by
            rw [ei, show (10000 : Int32) = nI 10000 from rfl, pk_sub (by omega), show 10000 + i - 10000 = i by omega]
          refine ⟨⟨rfl, ltB rfl, neB rfl⟩, ?_⟩
          rw [rf_lnames]
          refine ⟨⟨rfl, ltB rfl, vinK e6 (show i < 4 by omega) rfl⟩, ?_⟩
          rw [clK e6 (show i < 2 ^ 31 by omega)]
          refine ⟨⟨rfl, ltB rfl, vinN (n := 96) (show dpt c k < 96 by omega) rfl⟩, ?_⟩
          rw [nI_clamp (show dpt c k < 2 ^ 31 by omega)]
          refine fin (M 3 i) ?_
          rw [if_neg z, e7, nI_clamp (by omega)]
          exact h3 i (by omega)
      have join : ¬ mem (6 + 2 * x) k = 10133 → Xs (d + 3) 1 159 [some (.ref 1), some (.int (nI x)), some (.int a1), some (.int a2), some (.int a3), some (.int a4), some (.ref (5 + 2 * x)), some (.int (nI (dpt c k))), some (.int (nI k)), some (.int (mem (6 + 2 * x) k))] [] (S0 L) (0, 0) M Q := by
        intro q2
        have ec : c k = trS (mem (6 + 2 * x) k - 10100) := by rw [hck]; unfold trC; rw [if_neg q, if_neg q2]
        have hneg : c k < 0 ∧ ¬ c k = -10 := by rw [ec]; exact trS_cases _
        have hd2 : 2 ≤ dpt c k := by
          rcases w1 hneg.1 with w | w
          · exact absurd w.1 hneg.2
          · exact w.2
        rw [if_pos hneg.1, if_neg hneg.2] at hS hD
        refine Xs_wp (cut1 43) t1 200 ?_
        refine ifI (fun _ => ?_) (fun z => absurd (nI_lt (a := 1) (b := dpt c k) (by omega) (by omega)) z)
        have et1 : (nI (dpt c k) + (-1) : Int32) = nI (dpt c k - 1) := by rw [add_m1]; exact pk_sub (b := 1) (by omega)
        have et : (nI (dpt c k) + (-1) - 1 : Int32) = nI (dpt c k - 2) := by rw [et1]; exact (pk_sub (a := dpt c k - 1) (b := 1) (by omega)).trans (by rw [show dpt c k - 1 - 1 = dpt c k - 2 by omega])
        refine ⟨⟨rfl, ltB rfl, neB rfl⟩, ?_⟩
        rw [rf_lstack]
        refine ⟨⟨rfl, ltB rfl, neB rfl⟩, ?_⟩
        rw [rf_lstack]
        refine ⟨⟨rfl, ltB rfl, vinK et (show dpt c k - 2 < 96 by omega) rfl⟩, ?_⟩
        rw [clK et (show dpt c k - 2 < 2 ^ 31 by omega)]
        refine ⟨⟨rfl, ltB rfl, neB rfl⟩, ?_⟩
        rw [rf_lstack]
        refine ⟨⟨rfl, ltB rfl, vinK et1 (show dpt c k - 1 < 96 by omega) rfl⟩, ?_⟩
        rw [clK et1 (show dpt c k - 1 < 2 ^ 31 by omega)]
        refine c_joined ?_
        refine ⟨⟨rfl, ltB rfl, vinK et (show dpt c k - 2 < 96 by omega) rfl⟩, ?_⟩
        rw [clK et (show dpt c k - 2 < 2 ^ 31 by omega)]
        match hev : evL c (fa4 a1 a2 a3 a4) k, hl, hok, hS with
        | [], hl, _, _ => simp at hl; omega
        | [_], hl, _, _ => simp at hl; omega
        | y :: w :: r, hl, hok, hS =>
          have hrl : dpt c k - 2 = r.length := by simp at hl; omega
          have ey : M 4 (dpt c k - 1) = y := by rw [show dpt c k - 1 = (w :: r).length by simp; omega]; exact hok.1
          have ew : M 4 (dpt c k - 2) = w := by rw [hrl]; exact hok.2.1
          have := ih (k + 1) (by omega) (mu M 4 (dpt c k - 2) (twoV (c k) w y)) (some (.int (mem (6 + 2 * x) k))) (nI (dpt c k) + (-1)) (hF.mu (by simp)) (fun i hi => by rw [mu_row (by decide)]; exact h3 i hi) (by rw [hD]; exact et1) (by
            rw [hS, mu_upd]
            refine ⟨?_, ?_⟩
            · rw [hrl]; exact pk_us
            · exact okS_upd (by omega) hok.2.2)
          rw [← nI_1, ec, ← ey, ← ew] at this
          exact this
      refine ifI (fun q2 => ?_) (fun q2 => ?_)
      · have ec : c k = -10 := by rw [hck, q2]; rfl
        have hneg : c k < 0 := by rw [ec]; decide
        have hd1' : 1 ≤ dpt c k := by
          rcases w1 hneg with w | w
          · exact w.2
          · omega
        rw [if_pos hneg, if_pos ec] at hS hD
        refine ifI (fun _ => ?_) (fun z => absurd (nI_lt (a := 0) (b := dpt c k) (by omega) (by omega)) z)
        have et : (nI (dpt c k) - 1 : Int32) = nI (dpt c k - 1) := pk_sub (b := 1) hd1'
        refine ⟨⟨rfl, ltB rfl, neB rfl⟩, ?_⟩
        rw [rf_lstack]
        refine ⟨⟨rfl, ltB rfl, neB rfl⟩, ?_⟩
        rw [rf_lstack]
        refine ⟨⟨rfl, ltB rfl, vinK et (show dpt c k - 1 < 96 by omega) rfl⟩, ?_⟩
        rw [clK et (show dpt c k - 1 < 2 ^ 31 by omega)]
        match hev : evL c (fa4 a1 a2 a3 a4) k, hl, hok, hS with
        | [], hl, _, _ => simp at hl; omega
        | v :: r, hl, hok, hS =>
          have hrl : dpt c k - 1 = r.length := by simp at hl; omega
          have ev : M 4 (dpt c k - 1) = v := by rw [hrl]; exact hok.1
          have fin : ∀ z : Int32, z = (if v = 0 then 1 else 0) → Xs (d + 3) 1 43 [some (.ref 1), some (.int (nI x)), some (.int a1), some (.int a2), some (.int a3), some (.int a4), some (.ref (5 + 2 * x)), some (.int (nI (dpt c k))), some (.int (nI k + 1)), some (.int (mem (6 + 2 * x) k))] [] (S0 L) (0, 0) (mu M 4 (dpt c k - 1) z) Q := by
            intro z hz
            rw [nI_1]
            refine ih (k + 1) (by omega) _ _ _ (hF.mu (by simp)) (fun i hi => by rw [mu_row (by decide)]; exact h3 i hi) (by rw [hD]) ?_
            rw [hS, hz, mu_upd]
            refine ⟨?_, ?_⟩
            · rw [hrl]; exact pk_us
            · exact okS_upd (by omega) hok.2
          refine ifI (fun z => ?_) (fun z => ?_)
          · refine ⟨⟨rfl, ltB rfl, vinK et (show dpt c k - 1 < 96 by omega) rfl⟩, ?_⟩
            rw [clK et (show dpt c k - 1 < 2 ^ 31 by omega)]
            exact fin 1 (by rw [if_pos (ev.symm.trans z)])
          · refine ⟨⟨rfl, ltB rfl, vinK et (show dpt c k - 1 < 96 by omega) rfl⟩, ?_⟩
            rw [clK et (show dpt c k - 1 < 2 ^ 31 by omega)]
            exact fin 0 (by rw [if_neg (fun e => z (ev.trans e))])
      · exact join q2
  refine Mc_wp (cut1 43) t1 rfl rfl rfl 60 ?_
  refine ⟨⟨rfl, ltB rfl, neB rfl⟩, ?_⟩
  rw [rf_lnames]
  refine ⟨⟨rfl, ltB rfl, vinB rfl⟩, ?_⟩
  refine ⟨⟨rfl, ltB rfl, neB rfl⟩, ?_⟩
  rw [rf_lnames]
  refine ⟨⟨rfl, ltB rfl, vinB rfl⟩, ?_⟩
  refine ⟨⟨rfl, ltB rfl, neB rfl⟩, ?_⟩
  rw [rf_lnames]
  refine ⟨⟨rfl, ltB rfl, vinB rfl⟩, ?_⟩
  refine ⟨⟨rfl, ltB rfl, neB rfl⟩, ?_⟩
  rw [rf_lnames]
  refine ⟨⟨rfl, ltB rfl, vinB rfl⟩, ?_⟩
  refine ⟨⟨rfl, ltB rfl⟩, c_rowOf hx ?_⟩
  refine loop n 0 (by omega) _ none 0 ((((Fr.refl.mu (by simp)).mu (by simp)).mu (by simp)).mu (by simp)) ?_ rfl trivial
  intro i hi
  rcases (show i = 0 ∨ i = 1 ∨ i = 2 ∨ i = 3 by omega) with rfl | rfl | rfl | rfl <;> rfl
