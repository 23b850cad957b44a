-- the reference: a text worked out, a step, a day
theorem r_worksOut {d L : Nat} {mem : Mem} {Q : Qt} {x n nm : Nat} (hx : x < 14) (hn : rm (mem 140 (92 + 2 * x)) 1000 = nI n) (hw : wfc (cdA (mem 140) x) nm n) (hnm : nm ≤ 4)
    (h : ∀ st, Q (some (.int (evR (cdA (mem 140) x) (mem 151) n))) (S0 L) (mr mem 150 st)) : Mc (d + 2) 180 [.ref 139, .int (nI x)] (S0 L) mem Q := by
  obtain ⟨hn96, hd1, hwk⟩ := hw
  have hlen : ∀ k, k ≤ n → (evL (cdA (mem 140) x) (mem 151) k).length = dpt (cdA (mem 140) x) k := evL_len (fun k hk => (hwk k hk).1)
  have loop : ∀ m k, k + m = n → ∀ (st : Nat → Int32) (sv : Option Value) (tp : Int32), tp = nI (dpt (cdA (mem 140) x) k) → okS (evL (cdA (mem 140) x) (mem 151) k) st →
      Xs (d + 2) 180 21 [some (.ref 139), some (.int (nI x)), some (.int tp), some (.int (nI n)), some (.int (nI k)), sv] [] (S0 L) (0, 0) (mr mem 150 st) Q := by
    intro m
    induction m with
    | zero =>
      intro k hk st sv tp htp hok
      have hk : k = n := by omega
      subst hk
      refine Xs_wp (cut1 21) t180 60 ?_
      refine ifI (fun q => absurd q (nI_nlt (Nat.le_refl _) (by omega))) (fun _ => ?_)
      refine ⟨⟨rfl, ltB rfl, neB rfl⟩, ?_⟩
      rw [rf_stack]
      refine ⟨⟨rfl, ltB rfl, vinB rfl⟩, ?_⟩
      rw [lc0]
      rw [mr_at]
      have hl := hlen k (Nat.le_refl _)
      have h9 := h st
      unfold evR at h9
      match hev : evL (cdA (mem 140) x) (mem 151) k, hl, hok with
      | [], hl, _ => rw [hd1] at hl; cases hl
      | [v], _, hok =>
        rw [hev] at h9
        have e0 : st 0 = v := hok.1
        rw [e0]
        exact h9
      | _ :: _ :: _, hl, _ => rw [hd1] at hl; simp at hl
    | succ m ih =>
      intro k hk st sv tp htp hok
      subst htp
      have hdk : dpt (cdA (mem 140) x) k ≤ k := dpt_le k
      have hl := hlen k (by omega)
      refine Xs_wp (cut1 21) t180 100 ?_
      refine ifI (fun _ => ?_) (fun q => absurd (nI_lt (by omega) (by omega)) q)
      have e : (120 + 96 * nI x + nI k : Int32) = nI (120 + 96 * x + k) := ix3 (a := 120) (b := 96) x k
      refine ⟨⟨rfl, ltB rfl, neB rfl⟩, ?_⟩
      rw [rf_now]
      refine ⟨⟨rfl, ltB rfl, vinK e (show 120 + 96 * x + k < 1464 by omega) rfl⟩, ?_⟩
      rw [clK e (show 120 + 96 * x + k < 2 ^ 31 by omega)]
      rw [mr_ne (show (140 : Nat) ≠ 150 by decide)]
      have ek : mem 140 (120 + 96 * x + k) = cdA (mem 140) x k := rfl
      rw [ek]
      obtain ⟨w1, w2⟩ := hwk k (by omega)
      have hS : evL (cdA (mem 140) x) (mem 151) (k + 1) = _ := evL.eq_2 (cdA (mem 140) x) (mem 151) k
      have hD : dpt (cdA (mem 140) x) (k + 1) = _ := dpt.eq_2 (cdA (mem 140) x) k
      refine ifI (fun q => ?_) (fun q => ?_)
      · rw [if_pos q] at hS hD
        rcases w1 q with ⟨e10, hd2⟩ | ⟨e10, hd2⟩
        · rw [if_pos e10] at hS hD
          refine ifI (fun _ => ?_) (fun z => absurd e10 z)
          have et : (nI (dpt (cdA (mem 140) x) k) - 1 : Int32) = nI (dpt (cdA (mem 140) x) k - 1) := pk_sub (b := 1) hd2
          refine ⟨⟨rfl, ltB rfl, neB rfl⟩, ?_⟩
          rw [rf_stack]
          refine ⟨⟨rfl, ltB rfl, neB rfl⟩, ?_⟩
          rw [rf_stack]
          refine ⟨⟨rfl, ltB rfl, vinK et (show dpt (cdA (mem 140) x) k - 1 < 96 by omega) rfl⟩, ?_⟩
          rw [clK et (show dpt (cdA (mem 140) x) k - 1 < 2 ^ 31 by omega)]
          rw [mr_at]
          match hev : evL (cdA (mem 140) x) (mem 151) k, hl, hok, hS with
          | [], hl, _, _ => simp at hl; omega
          | v :: r, hl, hok, hS =>
            have hrl : dpt (cdA (mem 140) x) k - 1 = r.length := by simp at hl; omega
            have ev : st (dpt (cdA (mem 140) x) k - 1) = v := by rw [hrl]; exact hok.1
            rw [ev]
            have fin : ∀ z : Int32, z = (if v = 0 then 1 else 0) → Xs (d + 2) 180 21 [some (.ref 139), some (.int (nI x)), some (.int (nI (dpt (cdA (mem 140) x) k))), some (.int (nI n)), some (.int (nI k + 1)), some (.int (cdA (mem 140) x k))] [] (S0 L) (0, 0) (mu (mr mem 150 st) 150 (dpt (cdA (mem 140) x) k - 1) z) Q := by
              intro z hz
              rw [mu_mr', nI_1]
              refine ih (k + 1) (by omega) _ _ _ (by rw [hD]) ?_
              rw [hS, hz]
              refine ⟨?_, ?_⟩
              · rw [hrl]; exact pk_us
              · exact okS_upd (by omega) hok.2
            refine ifI (fun z => ?_) (fun z => ?_)
            · refine ⟨⟨rfl, ltB rfl, vinK et (show dpt (cdA (mem 140) x) k - 1 < 96 by omega) rfl⟩, ?_⟩
              rw [clK et (show dpt (cdA (mem 140) x) k - 1 < 2 ^ 31 by omega)]
              exact fin 1 (by rw [if_pos z])
            · refine ⟨⟨rfl, ltB rfl, vinK et (show dpt (cdA (mem 140) x) k - 1 < 96 by omega) rfl⟩, ?_⟩
              rw [clK et (show dpt (cdA (mem 140) x) k - 1 < 2 ^ 31 by omega)]
              exact fin 0 (by rw [if_neg z])
        · rw [if_neg e10] at hS hD
          refine ifI (fun z => absurd z e10) (fun _ => ?_)
          have et1 : (nI (dpt (cdA (mem 140) x) k) + (-1) : Int32) = nI (dpt (cdA (mem 140) x) k - 1) := by rw [add_m1]; exact pk_sub (b := 1) (by omega)
          have et : (nI (dpt (cdA (mem 140) x) k) + (-1) - 1 : Int32) = nI (dpt (cdA (mem 140) x) k - 2) := by rw [et1]; exact (pk_sub (a := dpt (cdA (mem 140) x) k - 1) (b := 1) (by omega)).trans (by rw [show dpt (cdA (mem 140) x) k - 1 - 1 = dpt (cdA (mem 140) x) k - 2 by omega])
          refine ⟨⟨rfl, ltB rfl, neB rfl⟩, ?_⟩
          rw [rf_stack]
          refine ⟨⟨rfl, ltB rfl, neB rfl⟩, ?_⟩
          rw [rf_stack]
          refine ⟨⟨rfl, ltB rfl, vinK et (show dpt (cdA (mem 140) x) k - 2 < 96 by omega) rfl⟩, ?_⟩
          rw [clK et (show dpt (cdA (mem 140) x) k - 2 < 2 ^ 31 by omega)]
          refine ⟨⟨rfl, ltB rfl, neB rfl⟩, ?_⟩
          rw [rf_stack]
          refine ⟨⟨rfl, ltB rfl, vinK et1 (show dpt (cdA (mem 140) x) k - 1 < 96 by omega) rfl⟩, ?_⟩
          rw [clK et1 (show dpt (cdA (mem 140) x) k - 1 < 2 ^ 31 by omega)]
          rw [mr_at]
          refine r_two ?_
          refine ⟨⟨rfl, ltB rfl, vinK et (show dpt (cdA (mem 140) x) k - 2 < 96 by omega) rfl⟩, ?_⟩
          rw [clK et (show dpt (cdA (mem 140) x) k - 2 < 2 ^ 31 by omega)]
          rw [mu_mr']
          match hev : evL (cdA (mem 140) x) (mem 151) k, hl, hok, hS with
          | [], hl, _, _ => simp at hl; omega
          | [_], hl, _, _ => simp at hl; omega
          | y :: w :: r, hl, hok, hS =>
            have hrl : dpt (cdA (mem 140) x) k - 2 = r.length := by simp at hl; omega
            have ey : st (dpt (cdA (mem 140) x) k - 1) = y := by rw [show dpt (cdA (mem 140) x) k - 1 = (w :: r).length by simp; omega]; exact hok.1
            have ew : st (dpt (cdA (mem 140) x) k - 2) = w := by rw [hrl]; exact hok.2.1
            rw [ey, ew]
            have := ih (k + 1) (by omega) (upd st (dpt (cdA (mem 140) x) k - 2) (twoV (cdA (mem 140) x k) w y)) (some (.int (cdA (mem 140) x k))) (nI (dpt (cdA (mem 140) x) k) + (-1)) (by rw [hD]; exact et1) (by
              rw [hS]
              refine ⟨?_, ?_⟩
              · rw [hrl]; exact pk_us
              · exact okS_upd (by omega) hok.2.2)
            rw [← nI_1] at this
            exact this
      · rw [if_neg q] at hS hD
        have fin : ∀ z : Int32, z = (if cdA (mem 140) x k < 10000 then cdA (mem 140) x k else mem 151 (cdA (mem 140) x k - 10000).toNatClampNeg) → Xs (d + 2) 180 21 [some (.ref 139), some (.int (nI x)), some (.int (nI (dpt (cdA (mem 140) x) k) + 1)), some (.int (nI n)), some (.int (nI k + 1)), some (.int (cdA (mem 140) x k))] [] (S0 L) (0, 0) (mu (mr mem 150 st) 150 (dpt (cdA (mem 140) x) k) z) Q := by
          intro z hz
          rw [mu_mr', nI_1, nI_1]
          refine ih (k + 1) (by omega) _ _ _ (by rw [hD]) ?_
          rw [hS, ← hz]
          refine ⟨?_, ?_⟩
          · rw [hl]; exact pk_us
          · exact okS_upd (by omega) hok
        refine ⟨⟨rfl, ltB rfl, neB rfl⟩, ?_⟩
        rw [rf_stack]
        refine ifI (fun z => ?_) (fun z => ?_)
        · refine ⟨⟨rfl, ltB rfl, vinK (rfl : nI (dpt (cdA (mem 140) x) k) = _) (show dpt (cdA (mem 140) x) k < 96 by omega) rfl⟩, ?_⟩
          rw [clK (rfl : nI (dpt (cdA (mem 140) x) k) = _) (show dpt (cdA (mem 140) x) k < 2 ^ 31 by omega)]
          exact fin _ (by rw [if_pos z])
        · rcases w2 q with z2 | ⟨i, hi, ei⟩
          · exact absurd z2 z
          have e6 : (cdA (mem 140) x k - 10000 : Int32) = nI i := by
            rw [ei, show (10000 : Int32) = nI 10000 from rfl, pk_sub (by omega), show 10000 + i - 10000 = i by omega]
          refine ⟨⟨rfl, ltB rfl, neB rfl⟩, ?_⟩
          rw [rf_facts]
          refine ⟨⟨rfl, ltB rfl, vinK e6 (show i < 4 by omega) rfl⟩, ?_⟩
          rw [clK e6 (show i < 2 ^ 31 by omega)]
          refine ⟨⟨rfl, ltB rfl, vinK (rfl : nI (dpt (cdA (mem 140) x) k) = _) (show dpt (cdA (mem 140) x) k < 96 by omega) rfl⟩, ?_⟩
          rw [clK (rfl : nI (dpt (cdA (mem 140) x) k) = _) (show dpt (cdA (mem 140) x) k < 2 ^ 31 by omega)]
          rw [mr_ne (show (151 : Nat) ≠ 150 by decide)]
          exact fin _ (by rw [if_neg z, e6, nI_clamp (by omega)])
  have e : (92 + 2 * nI x : Int32) = nI (92 + 2 * x) := ix2 (a := 92) (b := 2) x
  refine Mc_wp (cut1 21) t180 rfl rfl rfl 60 ?_
  refine ⟨⟨rfl, ltB rfl, neB rfl⟩, ?_⟩
  rw [rf_now]
  refine ⟨⟨rfl, ltB rfl, vinK e (show 92 + 2 * x < 1464 by omega) rfl⟩, ?_⟩
  rw [clK e (show 92 + 2 * x < 2 ^ 31 by omega)]
  refine ⟨by decide, ?_⟩
  have := loop n 0 (by omega) (mem 150) none 0 rfl trivial
  rw [mr_self] at this
  unfold rm at hn
  rw [hn]
  exact this
