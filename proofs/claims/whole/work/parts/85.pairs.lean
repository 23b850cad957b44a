-- pairs: paced, the class
theorem Th.pace {nt nw nx t : Nat} {m m1 : Mem} {G : Nat → Int32} {v : Int32} (h : Th nt nw nx m m1 G) (ht : t < nt) : Th nt nw nx m (mu m1 (83 + 4 + t) 1 v) (upd G (44 + 6 * t + 1) v) := by
  have h8 := h.2.1.2.2.1.1
  refine ⟨h.1.mu (by omega) (by omega), h.2.1.tu (f := 1) ht (by omega), (h.2.2.1.frB mb83 h.2.1.2.2.1.2.2 (FrB.refl.mu (by omega) (by omega))).upd (by omega), fun x hx => ?_⟩
  rw [pk_un (by omega), pk_un (by omega)]; exact h.2.2.2 x hx
theorem c_differences {d L nt nw nx i t p n : Nat} {B : Int} {m m1 : Mem} {Q : Qt} {C : Nat → Int32} (hM : Mo B 35 nt nw nx (m 140) m) (hF0 : FrB 83 m m1) (ht : t < nt) (hi : i < 4) (hn : n ≤ 24) (hz : m (111 + 2 * i) 1 = nI n) (hC : ∀ j, j < 24 → m (112 + 2 * i) j = C j ∧ okPl (C j)) (hQ : ∀ m2, FrB 83 m m2 → Q (some (.int (nI (offS (upd (m 140) (44 + 6 * t + 1) (nI p)) C t n)))) (S0 L) m2) : Mc (d + 10) 79 [.ref 0, .ref (111 + 2 * i), .int (nI t), .int (nI p)] (S0 L) m1 Q := by
  have hR := hM.1
  have h8 := hR.2.2.1.1
  have hx14 := hR.2.2.1.2.2
  have hw := hM.2.2.1.1
  generalize hA : upd (m 140) (44 + 6 * t + 1) (nI p) = A at hQ
  have hA1 : A 1 = nI nt := by rw [← hA, pk_un (by omega)]; exact hR.2.1.1
  have hA3 : A 3 = m 140 3 := by rw [← hA, pk_un (by omega)]
  have hnt : ntA A = nt := nt_of hA1 h8
  have hy := yard_k (t := t) (A := A) (by rw [hnt]; exact h8) (by rw [hA3]; exact hw)
  have hle := offS_le (A := A) (t := t) (n := n) (fun j hj => (hC j (by omega)).2) hy
  have hc : tuC L (83 + 4 + t) := heC mb83 (by omega)
  have hsh : shC L (111 + 2 * i) := shI hi
  refine Mc_wp (cut1 34) t79 rfl rfl rfl 60 ?_
  refine ⟨⟨rfl, ltB rfl, neB rfl⟩, ?_⟩
  rw [rf_cthought]
  refine ⟨⟨rfl, ltB rfl, neB rfl⟩, ?_⟩
  rw [rf_cnow]
  refine ⟨moC mb83, Th.make mb35 (by decide) hM hF0 (fun m2 hC2 => ?_)⟩
  refine ⟨⟨rfl, ltB rfl, neB rfl⟩, ?_⟩
  rw [rf_cthought]
  refine ⟨moK1 mb83, ?_⟩
  rw [moV1 mb83]
  refine ⟨heK mb83 (rfl : nI t = nI t) (by omega), ?_⟩
  rw [heV mb83 (rfl : nI t = nI t) (show t < 8 by omega)]
  refine ⟨hc, ?_⟩
  have hC3 := hC2.pace (v := nI p) ht
  rw [hA] at hC3
  have loop : ∀ j k, k + j = n → ∀ m5, Th nt nw nx m m5 (goesA k A) → Xs (d + 10) 79 34 [some (.ref 0), some (.ref (111 + 2 * i)), some (.int (nI t)), some (.int (nI p)), some (.ref (83 + 4 + t)), some (.int (nI (offS A C t k))), some (.int (nI k))] [] (S0 L) (0, 0) m5 Q := by
    intro j
    induction j with
    | zero =>
      intro k hk m5 hT5
      have hk : k = n := by omega
      subst hk
      have es : m5 (111 + 2 * i) = m (111 + 2 * i) := hT5.1 _ (by omega) (by omega) (by omega)
      refine Xs_wp (cut1 34) t79 60 ?_
      refine ⟨shO hsh, ?_⟩
      rw [es, hz]
      refine ifI (fun z => absurd z (nI_nlt (Nat.le_refl _) (by omega))) (fun _ => ?_)
      exact hQ m5 hT5.1
    | succ j ih =>
      intro k hk m5 hT5
      have es : m5 (111 + 2 * i) = m (111 + 2 * i) := hT5.1 _ (by omega) (by omega) (by omega)
      have ep : m5 (111 + 2 * i + 1) = m (112 + 2 * i) := by rw [hT5.1 _ (by omega) (by omega) (by omega)]; congr 1; omega
      obtain ⟨c1, c2⟩ := hC k (by omega)
      have g3 : goesA k A 3 = A 3 := goes_out (by omega) (by omega) (by omega) k (by rw [hnt]; exact h8)
      have hk1 := hle (k + 1) (by omega)
      have cont : ∀ m6, Th nt nw nx m m6 (dayA (goesA k A)) → ∀ s : Int32, s = nI (offS A C t (k + 1)) → Xs (d + 10) 79 34 [some (.ref 0), some (.ref (111 + 2 * i)), some (.int (nI t)), some (.int (nI p)), some (.ref (83 + 4 + t)), some (.int s), some (.int (nI k + 1))] [] (S0 L) (0, 0) m6 Q := fun m6 hT6 s hs => by
        rw [gs_day k] at hT6
        have := ih (k + 1) (by omega) m6 hT6
        rw [← nI_1] at this
        rw [hs]
        exact this
      refine Xs_wp (cut1 34) t79 60 ?_
      refine ⟨shO hsh, ?_⟩
      rw [es, hz]
      refine ifI (fun _ => ?_) (fun z => absurd (nI_lt (by omega) (by omega)) z)
      refine ⟨shO hsh, c_number (n := n) hsh (by rw [es]; exact hz) hn (by omega) (fun q => ?_) (fun q => ?_)⟩
      · rw [ep, c1] at q
        refine ⟨⟨rfl, ltB rfl, neB rfl⟩, ?_⟩
        rw [rf_cthought]
        have h7 : m5 83 7 = A 3 := by rw [hT5.2.1.1.2.2.2.1]; exact g3
        refine ⟨moC mb83, c_yardOf mb83 hc (by rw [h7, hA3]; intro z; rw [z] at hw; exact absurd hw.1 (by decide)) ?_⟩
        refine ⟨shK hsh, ?_⟩
        rw [shV hsh]
        refine ⟨shP hsh (rfl : nI k = nI k) (by omega), ?_⟩
        rw [nI_clamp (by omega), ep, c1]
        refine c_abs ?_
        have ey : fmV (m5 (83 + 4 + t) 2) (m5 83 7) = yardA (goesA k A) t := by
          rw [h7, hT5.2.1.2.2.2.1 t 2 ht (by omega), fm_eq (by rw [tI_lt, hA3]; show (0 : Int) < _; omega)]; unfold yardA; rw [g3]
        rw [ey, abs_off c2 q (hy k)]
        refine ⟨⟨rfl, ltB rfl, neB rfl⟩, ?_⟩
        rw [rf_cthought]
        exact ⟨moC mb83, hT5.day (fun m6 hT6 => cont m6 hT6 _ (nI_add _ _))⟩
      · rw [ep, c1] at q
        refine ⟨⟨rfl, ltB rfl, neB rfl⟩, ?_⟩
        rw [rf_cthought]
        refine ⟨moC mb83, hT5.day (fun m6 hT6 => cont m6 hT6 _ ?_)⟩
        show _ = nI (offS A C t k + offN _ _)
        unfold offN; rw [if_pos q]; rfl
  exact loop n 0 (by omega) _ hC3
theorem pr_paced {scr : Nat → Int32} {L d k : Nat} {m : Mem} {v w x : Int32} (h : Sim scr k m) : Pair scr L (d + 20) 78 160 [.int v, .int w, .int x] k m := by
  intro Q hQ
  obtain ⟨nt, nw, nx, hM, hI⟩ := h.1.1
  have hR := hM.1
  have hn8 := hR.2.2.1.1
  have hx14 := hR.2.2.1.2.2
  have hw := hM.2.2.1.1
  refine Mc_wp (cut1 65) t78 rfl rfl rfl 100 ?_
  by_cases q0 : 0 ≤ v ∧ v ≤ 3
  rotate_left 1
  · refine c_sF q0 ?_
    refine hQ _ m (fun Q' hQ' => ?_)
    refine Mc_wp nocut t160 rfl rfl rfl 60 ?_
    exact r_sF q0 (hQ' m h.next)
  refine c_sT q0 ?_
  refine ⟨⟨rfl, ltB rfl, neB rfl⟩, ?_⟩
  rw [rf_cnow]
  rcases num_or (n := nt) w (by omega) with q1 | ⟨t, ht, rfl⟩
  · refine ⟨moC mb35, c_hF mb35 hR.1.1 hn8 q1 ?_⟩
    refine hQ _ m (fun Q' hQ' => ?_)
    refine Mc_wp nocut t160 rfl rfl rfl 60 ?_
    refine r_sT q0 ?_
    exact ⟨⟨rfl, ltB rfl⟩, r_hF hR.2.1.1 hn8 q1 (hQ' m h.next)⟩
  refine ⟨moC mb35, c_hT mb35 hR.1.1 hn8 ht ?_⟩
  by_cases q2 : 0 ≤ x ∧ x ≤ 1
  rotate_left 1
  · refine c_wF q2 ?_
    refine hQ _ m (fun Q' hQ' => ?_)
    refine Mc_wp nocut t160 rfl rfl rfl 60 ?_
    refine r_sT q0 ?_
    refine ⟨⟨rfl, ltB rfl⟩, r_hT hR.2.1.1 hn8 ht ?_⟩
    exact r_iF q2 (hQ' m h.next)
  refine c_wT q2 ?_
  obtain ⟨i, hi, rfl⟩ := ix_split (b := 3) (n := 3) rfl q0.1 q0.2
  obtain ⟨s0, s1, s2, ⟨n, hn, en⟩, s3⟩ := h.2.2.1 i (by omega)
  have ei : nI i = nI i := rfl
  have hsh : shC L (111 + 2 * i) := shI (by omega)
  refine ⟨⟨rfl, ltB rfl, neB rfl⟩, ?_⟩
  rw [rf_csheets]
  refine ⟨sheK (by omega), ?_⟩
  rw [sheV (by omega)]
  by_cases q3 : m (111 + 2 * i) 0 = -1
  · refine ⟨shO hsh, c_missT hsh q3 ?_⟩
    refine hQ _ m (fun Q' hQ' => ?_)
    refine Mc_wp nocut t160 rfl rfl rfl 60 ?_
    refine r_sT q0 ?_
    refine ⟨⟨rfl, ltB rfl⟩, r_hT hR.2.1.1 hn8 ht ?_⟩
    refine r_iT q2 ?_
    refine ⟨⟨rfl, ltB rfl, neB rfl⟩, ?_⟩
    rw [rf_sorts]
    refine ⟨⟨rfl, ltB rfl, vinK ei (show i < 4 by omega) rfl⟩, ?_⟩
    rw [clK ei (show i < 2 ^ 31 by omega)]
    rw [s0, q3]
    exact hQ' m h.next
  refine ⟨shO hsh, c_missF hsh q3 ?_⟩
  have q4 : ¬ m 152 i < 0 := by
    rw [s0]
    rcases s2 with z | z | z
    · exact absurd z q3
    · rw [z]; decide
    · rw [z]; decide
  -- one trial's sum
  have hsum : ∀ A : Nat → Int32, A 1 = m 140 1 → A 3 = m 140 3 → offS A (m (112 + 2 * i)) t n < 2 ^ 31 := by
    intro A e1 e3
    have hnt : ntA A = nt := nt_of (by rw [e1]; exact hR.2.1.1) hn8
    have := offS_le (A := A) (t := t) (C := m (112 + 2 * i)) (n := n) (fun j hj => (s3 j (by omega)).2) (yard_k (by rw [hnt]; exact hn8) (by rw [e3]; exact hw)) n (Nat.le_refl _)
    omega
  generalize hf : (fun p => offS (upd (m 140) (44 + 6 * t + 1) (nI p)) (m (112 + 2 * i)) t n) = f
  have hf' : ∀ p, offS (upd (m 140) (44 + 6 * t + 1) (nI p)) (m (112 + 2 * i)) t n = f p := fun p => by rw [← hf]
  have hfl : ∀ p, f p < 2 ^ 31 := fun p => by rw [← hf' p]; exact hsum _ (pk_un (by omega)) (pk_un (by omega))
  have ref : ∀ m3, FrB 83 m m3 → ∀ V : Int32, V = (if x = 0 then nI (bst f 20) else nI (f (bst f 20))) → Q (some (.int V)) (S0 L) m3 := by
    intro m3 hF V hV
    have hs : ∀ r, ¬ scrap r → m3 r = m r := fun r hr => hF r (by intro e; apply hr; unfold scrap; omega) (by intro e; apply hr; unfold scrap; omega) (by unfold scrap at hr; omega)
    have s140 : m3 140 = m 140 := hs 140 (by unfold scrap; omega)
    have s152 : m3 152 = m 152 := hs 152 (by unfold scrap; omega)
    have s153 : m3 153 = m 153 := hs 153 (by unfold scrap; omega)
    have s154 : m3 154 = m 154 := hs 154 (by unfold scrap; omega)
    refine hQ V m3 (fun Q' hQ' => ?_)
    have off : ∀ {d' p : Nat} {m4 : Mem} {Q2 : Qt}, Tr m3 m4 (m3 140) → (∀ m5, Tr m3 m5 (m3 140) → Q2 (some (.long (nI (f p)).toInt64)) (S0 L) m5) → Mc (d' + 8) 159 [.ref 139, .int (nI i), .int (nI t), .int (nI p)] (S0 L) m4 Q2 := by
      intro d' p m4 Q2 hT hq
      refine r_offBy (nt := nt) (nx := nx) (n := n) (C := m (112 + 2 * i)) hT (by rw [s140]; exact hR.2.1.1) hn8 (by rw [s140]; exact hR.2.1.2.2) hx14 (by rw [s140]; exact hM.2.1.tx) ht (by omega) hn (by rw [s153, s1]; exact en) (fun j hj => ⟨by rw [s154]; exact (s3 j hj).1, (s3 j hj).2⟩) (by rw [s140]; exact hw) (fun m5 h5 => ?_)
      rw [s140, hf' p]; exact hq m5 h5
    refine Mc_wp (cut1 58) t160 rfl rfl rfl 60 ?_
    refine r_sT q0 ?_
    refine ⟨⟨rfl, ltB rfl⟩, r_hT (by rw [s140]; exact hR.2.1.1) hn8 ht ?_⟩
    refine r_iT q2 ?_
    refine ⟨⟨rfl, ltB rfl, neB rfl⟩, ?_⟩
    rw [rf_sorts]
    refine ⟨⟨rfl, ltB rfl, vinK ei (show i < 4 by omega) rfl⟩, ?_⟩
    rw [clK ei (show i < 2 ^ 31 by omega)]
    rw [s152]
    refine ifI (fun z => absurd z q4) (fun _ => ?_)
    refine ⟨⟨rfl, ltB rfl⟩, Tr.think (fun m4 hT4 => ?_)⟩
    refine ⟨⟨rfl, ltB rfl⟩, off (p := 0) hT4 (fun m5 hT5 => ?_)⟩
    have loop : ∀ j c, c + j = 20 → ∀ m5 x8, Tr m3 m5 (m3 140) → Xs (d + 20) 160 58 [some (.ref 139), some (.int (nI i)), some (.int (nI t)), some (.int x), some (.int (nI (bst f c))), some (.long (nI (f (bst f c))).toInt64), none, some (.int (nI (c + 1))), x8, none] [] (S0 L) (0, 0) m5 Q' := by
      intro j
      induction j with
      | zero =>
        intro c hc m5 x8 hT5
        have hc : c = 20 := by omega
        subst hc
        have fin : Q' (some (.int V)) (S0 L) m5 := by
          refine hQ' m5 (sim_scrap h (fun r hr => ?_))
          by_cases e : r = 140
          · subst e; rw [hT5.2.1]; exact s140
          · rw [hT5.1 r (by simp; unfold scrap at hr; omega)]; exact hs r hr
        refine Xs_wp (cut1 58) t160 60 ?_
        refine ifI (fun z => ?_) (fun z => ?_)
        · rw [if_pos z] at hV; rw [hV] at fin; exact fin
        · rw [if_neg z] at hV; rw [hV] at fin
          rw [show nI (f (bst f 20)) = (nI (f (bst f 20))).toInt64.toInt32 from by simp] at fin
          exact fin
      | succ j ih =>
        intro c hc m5 x8 hT5
        have hb := hfl (bst f c)
        have hb2 := hfl (c + 1)
        refine Xs_wp (cut1 58) t160 60 ?_
        refine ifI (fun z => absurd z (nI_nlt (a := 20) (b := c + 1) (by omega) (by omega))) (fun _ => ?_)
        refine ⟨⟨rfl, ltB rfl⟩, off (p := c + 1) hT5 (fun m6 hT6 => ?_)⟩
        have nx2 := fun y8 => ih (c + 1) (by omega) m6 y8 hT6
        rw [show bst f (c + 1) = if f (c + 1) < f (bst f c) then c + 1 else bst f c from rfl] at nx2
        have ec : lg_cmp (nI (f (c + 1))).toInt64 (nI (f (bst f c))).toInt64 < 0 ↔ f (c + 1) < f (bst f c) := by
          rw [cmpL, L_toInt hb2, L_toInt hb]; omega
        rw [← nI_1 (a := c + 1)] at nx2
        refine ifI (fun z => ?_) (fun z => ?_)
        · refine ifI (fun _ => ?_) (fun z2 => absurd z z2)
          have z' := ec.mp z
          rw [if_pos z'] at nx2
          exact nx2 _
        · refine ifI (fun z2 => absurd z2 z) (fun _ => ?_)
          have z' := fun q => z (ec.mpr q)
          rw [if_neg z'] at nx2
          exact nx2 _
    exact loop 20 0 (by omega) m5 none hT5
  have diff : ∀ {d' p : Nat} {m4 : Mem} {Q2 : Qt}, FrB 83 m m4 → (∀ m5, FrB 83 m m5 → Q2 (some (.int (nI (f p)))) (S0 L) m5) → Mc (d' + 10) 79 [.ref 0, .ref (111 + 2 * i), .int (nI t), .int (nI p)] (S0 L) m4 Q2 := by
    intro d' p m4 Q2 hF hq
    refine c_differences (n := n) (C := m (112 + 2 * i)) hM hF ht (by omega) hn en (fun j hj => ⟨rfl, (s3 j hj).2⟩) (fun m5 h5 => ?_)
    rw [hf' p]; exact hq m5 h5
  refine ⟨⟨rfl, ltB rfl⟩, diff (p := 0) FrB.refl (fun m5 hF5 => ?_)⟩
  have loop : ∀ j c, c + j = 20 → ∀ m5 x8, FrB 83 m m5 → Xs (d + 20) 78 65 [some (.ref 0), some (.int (nI i)), some (.int (nI t)), some (.int x), some (.ref (111 + 2 * i)), some (.int (nI (bst f c))), some (.int (nI (f (bst f c)))), some (.int (nI (c + 1))), x8] [] (S0 L) (0, 0) m5 Q := by
    intro j
    induction j with
    | zero =>
      intro c hc m5 x8 hF5
      have hc : c = 20 := by omega
      subst hc
      have fin := ref m5 hF5 _ rfl
      obtain ⟨f1, f2⟩ := qif fin
      refine Xs_wp (cut1 65) t78 60 ?_
      exact ifI (fun z => f1 z) (fun z => f2 z)
    | succ j ih =>
      intro c hc m5 x8 hF5
      refine Xs_wp (cut1 65) t78 60 ?_
      refine ifI (fun z => absurd z (nI_nlt (a := 20) (b := c + 1) (by omega) (by omega))) (fun _ => ?_)
      refine ⟨⟨rfl, ltB rfl⟩, diff (p := c + 1) hF5 (fun m6 hF6 => ?_)⟩
      have nx2 := fun y8 => ih (c + 1) (by omega) m6 y8 hF6
      rw [show bst f (c + 1) = if f (c + 1) < f (bst f c) then c + 1 else bst f c from rfl] at nx2
      rw [← nI_1 (a := c + 1)] at nx2
      have hb := hfl (bst f c)
      have hb2 := hfl (c + 1)
      refine ifI (fun z => ?_) (fun z => ?_)
      · have z' : f (c + 1) < f (bst f c) := by rw [tI_lt, nI_toInt hb, nI_toInt hb2] at z; omega
        rw [if_pos z'] at nx2
        exact nx2 _
      · have z' : ¬ f (c + 1) < f (bst f c) := by rw [tI_lt, nI_toInt hb, nI_toInt hb2] at z; omega
        rw [if_neg z'] at nx2
        exact nx2 _
  exact loop 20 0 (by omega) m5 none hF5
