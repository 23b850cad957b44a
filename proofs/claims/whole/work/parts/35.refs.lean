-- the reference: days
theorem dayT_out {A : Nat → Int32} {t i : Nat} (h0 : i ≠ 0) (h : i < 44 ∨ 92 ≤ i) (ht : t < 8) : dayT A t i = A i := by
  unfold dayT
  split
  · rfl
  · rw [pk_un (by omega), pk_un (by omega), pk_un (by omega)]
    exact pk_un h0
theorem dayT_other {A : Nat → Int32} {t u w : Nat} (hu : u ≠ t) (hw : w < 6) : dayT A t (44 + 6 * u + w) = A (44 + 6 * u + w) := by
  unfold dayT
  split
  · rfl
  · rw [pk_un (by omega), pk_un (by omega), pk_un (by omega)]
    exact pk_un (by omega)
theorem dayL_out {A : Nat → Int32} {i : Nat} (h0 : i ≠ 0) (h : i < 44 ∨ 92 ≤ i) : ∀ {n : Nat}, n ≤ 8 → dayL A n i = A i
  | 0, _ => rfl
  | n + 1, hn => by
    show dayT (dayL A n) n i = A i
    rw [dayT_out h0 h (by omega), dayL_out h0 h (by omega)]
theorem dayL_later {A : Nat → Int32} {u w : Nat} (hw : w < 6) : ∀ {n : Nat}, n ≤ u → dayL A n (44 + 6 * u + w) = A (44 + 6 * u + w)
  | 0, _ => rfl
  | n + 1, hn => by
    show dayT (dayL A n) n _ = _
    rw [dayT_other (by omega) hw, dayL_later hw (by omega)]
theorem TX_congr {A B : Nat → Int32} {nx : Nat} (h : ∀ i, 92 ≤ i → B i = A i) (hT : TX A nx) : TX B nx := by
  intro k hk
  obtain ⟨key, n, h1, h2, h3, h4⟩ := hT k hk
  refine ⟨key, n, h1, h2, by rw [h _ (by omega)]; exact h3, ?_⟩
  have e : cdA B k = cdA A k := by funext i; exact h _ (by omega)
  rw [e]; exact h4
theorem r_dayBody {d L : Nat} {mem : Mem} {Q : Qt} {t nx : Nat} {s2 s3 : Option Value} (ht : t < 8) (hx : mem 140 7 = nI nx) (hx14 : nx ≤ 14) (hT : TX (mem 140) nx)
    (h : ∀ m' s2 s3, Fr [140, 150, 151] mem m' → m' 140 = dayT (mem 140) t → Xs (d + 4) 136 2 [some (.ref 139), some (.int (nI t + 1)), s2, s3] [] (S0 L) (0, 0) m' Q) :
    Xs (d + 4) 136 12 [some (.ref 139), some (.int (nI t)), s2, s3] [] (S0 L) (0, 0) mem Q := by
  refine Xs_wp (cut2 2 55) t136 200 ?_
  refine ⟨⟨rfl, ltB rfl⟩, r_of (w := 5) ht (by omega) ?_⟩
  refine ifI (fun q => ?_) (fun q => ?_)
  · exact h mem _ _ Fr.refl (by unfold dayT; rw [if_pos q])
  -- behind the step
  have tail : ∀ (m1 : Mem) (x : Int32), Fr [140, 150, 151] mem m1 → m1 140 = drawA (mem 140) → Xs (d + 4) 136 55 [some (.ref 139), some (.int (nI t)), some (.int x), some (.int (farV (mem 140) t))] [] (S0 L) (0, 0) m1 Q := by
    intro m1 x hF h1
    have ed : ∀ w, w < 6 → m1 140 (44 + 6 * t + w) = mem 140 (44 + 6 * t + w) := fun w hw => by rw [h1]; exact pk_un (by omega)
    have fin : ∀ far : Int32, far = (if mem 140 (44 + 6 * t + 4) = 1 then -farV (mem 140) t else farV (mem 140) t) →
        Xs (d + 4) 136 84 [some (.ref 139), some (.int (nI t)), some (.int x), some (.int (farV (mem 140) t))] [] (S0 L) (0, 0) (mu m1 140 (44 + 6 * t + 2) (m1 140 (44 + 6 * t + 2) + far)) Q := by
      intro far hf
      refine Xs_wp (cut1 2) t136 200 ?_
      refine ⟨⟨rfl, ltB rfl⟩, r_of (w := 3) ht (by omega) ?_⟩
      refine ⟨⟨rfl, ltB rfl⟩, r_put (w := 3) ht (by omega) ?_⟩
      refine ⟨⟨rfl, ltB rfl⟩, r_of (w := 3) ht (by omega) ?_⟩
      refine ⟨⟨rfl, ltB rfl, neB rfl⟩, ?_⟩
      rw [rf_now]
      refine ⟨⟨rfl, ltB rfl, vinB rfl⟩, ?_⟩
      rw [lc5]
      have e3 : mu m1 140 (44 + 6 * t + 2) (m1 140 (44 + 6 * t + 2) + far) 140 (44 + 6 * t + 3) = mem 140 (44 + 6 * t + 3) := by rw [mu_ne (by omega)]; exact ed 3 (by omega)
      rw [mu_at, e3]
      have e5 : mu (mu m1 140 (44 + 6 * t + 2) (m1 140 (44 + 6 * t + 2) + far)) 140 (44 + 6 * t + 3) (mem 140 (44 + 6 * t + 3) + 1) 140 5 = mem 140 5 := by
        rw [mu_ne (by omega), mu_ne (by omega), h1]; exact pk_un (by omega)
      rw [e5]
      have fin2 : ∀ z : Int32, z = (if mem 140 (44 + 6 * t + 3) + 1 < mem 140 5 then 0 else 1) → Xs (d + 4) 136 2 [some (.ref 139), some (.int (nI t + 1)), some (.int x), some (.int (farV (mem 140) t))] [] (S0 L) (0, 0) (mu (mu (mu m1 140 (44 + 6 * t + 2) (m1 140 (44 + 6 * t + 2) + far)) 140 (44 + 6 * t + 3) (mem 140 (44 + 6 * t + 3) + 1)) 140 (44 + 6 * t + 5) z) Q := by
        intro z hz
        refine h _ _ _ (((hF.mu (by simp)).mu (by simp)).mu (by simp)) ?_
        have q' : ¬ mem 140 (44 + 6 * t + 5) = 1 := q
        unfold dayT
        rw [if_neg q', ed 2 (by omega), hf, hz, mu_upd, mu_upd, mu_upd, h1]
      refine ifI (fun z => ?_) (fun z => ?_)
      · refine ⟨⟨rfl, ltB rfl⟩, r_put (w := 5) ht (by omega) ?_⟩
        exact fin2 0 (by rw [if_pos z])
      · refine ⟨⟨rfl, ltB rfl⟩, r_put (w := 5) ht (by omega) ?_⟩
        exact fin2 1 (by rw [if_neg z])
    refine Xs_wp (cut1 84) t136 200 ?_
    refine ⟨⟨rfl, ltB rfl⟩, r_of (w := 2) ht (by omega) ?_⟩
    refine ⟨⟨rfl, ltB rfl⟩, r_of (w := 4) ht (by omega) ?_⟩
    rw [ed 4 (by omega)]
    refine ifI (fun z => ?_) (fun z => ?_)
    · refine ⟨⟨rfl, ltB rfl⟩, r_put (w := 2) ht (by omega) ?_⟩
      exact fin _ (by rw [if_pos z])
    · refine ⟨⟨rfl, ltB rfl⟩, r_put (w := 2) ht (by omega) ?_⟩
      exact fin _ (by rw [if_neg z])
  refine ⟨⟨rfl, ltB rfl⟩, r_draw ?_⟩
  refine ⟨by decide, ?_⟩
  refine ⟨⟨rfl, ltB rfl, neB rfl⟩, ?_⟩
  rw [rf_now]
  refine ⟨⟨rfl, ltB rfl, vinB rfl⟩, ?_⟩
  rw [lc4]
  have hF : Fr [140, 150, 151] mem (mr mem 140 (drawA (mem 140))) := Fr.refl.mr (by simp)
  have e4 : mr mem 140 (drawA (mem 140)) 140 4 = mem 140 4 := by rw [mr_at]; exact pk_un (by omega)
  rw [e4]
  refine ifI (fun z => ?_) (fun z => ?_)
  · refine ⟨⟨rfl, ltB rfl⟩, r_stepBy (nx := nx) ht ?_ hx14 ?_ (fun m' hm => ?_)⟩
    · rw [mr_at]; exact (pk_un (by omega)).trans hx
    · rw [mr_at]; exact TX_congr (fun i hi => pk_un (by omega)) hT
    have h1 : m' 140 = drawA (mem 140) := by rw [hm 140 (by simp), mr_at]
    have := tail m' (rm (drawV (mem 140 0)) 10) (hF.trans (hm.mono (by simp))) h1
    have e9 : farV (mem 140) t = stepA (mr mem 140 (drawA (mem 140)) 140) t (drawV (mem 140 0) - drawV (mem 140 0) / 10 * 10) := by
      unfold farV
      rw [if_pos z, mr_at]; rfl
    rw [e9] at this
    exact this
  · have := tail _ (rm (drawV (mem 140 0)) 10) hF mr_at
    have e9 : farV (mem 140) t = 0 := by unfold farV; rw [if_neg z]
    rw [e9] at this
    exact this
theorem r_day {d L : Nat} {mem : Mem} {Q : Qt} {nt nx : Nat} (hn : mem 140 1 = nI nt) (hn8 : nt ≤ 8) (hx : mem 140 7 = nI nx) (hx14 : nx ≤ 14) (hT : TX (mem 140) nx)
    (h : ∀ m', Fr [140, 150, 151] mem m' → m' 140 = dayA (mem 140) → Q none (S0 L) m') : Mc (d + 4) 136 [.ref 139] (S0 L) mem Q := by
  have loop : ∀ n t, t + n = nt → ∀ m s2 s3, Fr [140, 150, 151] mem m → m 140 = dayL (mem 140) t → Xs (d + 4) 136 2 [some (.ref 139), some (.int (nI t)), s2, s3] [] (S0 L) (0, 0) m Q := by
    intro n
    induction n with
    | zero =>
      intro t ht m s2 s3 hF hm
      have ht : t = nt := by omega
      subst ht
      refine Xs_wp (cut1 2) t136 60 ?_
      refine ⟨⟨rfl, ltB rfl, neB rfl⟩, ?_⟩
      rw [rf_now]
      refine ⟨⟨rfl, ltB rfl, vinB rfl⟩, ?_⟩
      rw [lc1]
      have e1 : m 140 1 = nI t := by rw [hm, dayL_out (by omega) (by omega) hn8]; exact hn
      rw [e1]
      refine ifI (fun q => absurd q (nI_nlt (Nat.le_refl _) (by omega))) (fun _ => ?_)
      refine ⟨⟨rfl, ltB rfl, neB rfl⟩, ?_⟩
      rw [rf_now]
      refine ⟨⟨rfl, ltB rfl, vinB rfl⟩, ?_⟩
      rw [lc2]
      refine ⟨⟨rfl, ltB rfl, vinB rfl⟩, ?_⟩
      rw [lc2]
      have e2 : m 140 2 = mem 140 2 := by rw [hm, dayL_out (by omega) (by omega) hn8]
      rw [e2]
      refine h _ (hF.mu (by simp)) ?_
      unfold dayA
      rw [mu_upd, hm, nt_of hn hn8]
    | succ n ih =>
      intro t ht m s2 s3 hF hm
      refine Xs_wp (cut2 2 12) t136 60 ?_
      refine ⟨⟨rfl, ltB rfl, neB rfl⟩, ?_⟩
      rw [rf_now]
      refine ⟨⟨rfl, ltB rfl, vinB rfl⟩, ?_⟩
      rw [lc1]
      have e1 : m 140 1 = nI nt := by rw [hm, dayL_out (by omega) (by omega) (by omega)]; exact hn
      rw [e1]
      refine ifI (fun _ => ?_) (fun q => absurd (nI_lt (by omega) (by omega)) q)
      refine r_dayBody (nx := nx) (by omega) (by rw [hm, dayL_out (by omega) (by omega) (by omega)]; exact hx) hx14 (TX_congr (fun i hi => by rw [hm, dayL_out (by omega) (by omega) (by omega)]) hT) (fun m' s2 s3 hF' hm' => ?_)
      rw [nI_1]
      exact ih (t + 1) (by omega) m' s2 s3 (hF.trans hF') (by rw [hm', hm]; rfl)
  refine Mc_wp (cut1 2) t136 rfl rfl rfl 60 ?_
  exact loop nt 0 (by omega) mem none none Fr.refl rfl
