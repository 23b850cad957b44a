-- texts: the class's reader, a piece
theorem rd_piece {T : Nat → Int32} {n r key : Nat} (hr : r < 15) (hn : n ≤ 96) (hkey : key < 3) : ∀ g op ns d, op ≤ 8 → ns ≤ 8 → 17 ≤ g + op + ns → 7 * g ≤ d → Rd T n r key (rdP T n key g op ns) 32 [.int (nI op), .int (nI ns)] (d + 10)
  | 0, op, ns, d, h1, h2, h3, _ => by omega
  | g + 1, op, ns, d, ho, hs, h3, hd => by
    obtain ⟨e, rfl⟩ : ∃ e, d = e + 7 := ⟨d - 7, by omega⟩
    intro L x pre m Q hv hl hc h1 h0
    show Mc (e + 16 + 1) _ _ _ _ _
    obtain ⟨c1, c2, c3⟩ := id hc
    obtain ⟨e1, e3, e4, e5, e6⟩ := id c2
    have s3 := hv.2.2.2.1
    have hen := hv.2.1
    have hav := adv_lv (T := T) (n := n) (x := x) hen
    unfold rdP at h1 h0
    refine Mc_wp (cut2 36 107) t32 rfl rfl rfl 80 ?_
    -- behind a word
    have word : x.so = 2 ∨ x.so = 3 → Xs (e + 17) 32 36 [some (.ref 161), some (.int (nI op)), some (.int (nI ns)), some (.int (atm T key x))] [] (SR L r) (0, 0) m Q := by
      intro q
      rw [if_pos q] at h1 h0
      have hlt := hv.2.2.1 (by omega)
      refine Xs_wp nocut t32 80 ?_
      refine ⟨srO, ?_⟩
      rw [e6]
      cases hgl : x.gl with
      | true =>
        rw [if_pos (Or.inl hgl)] at h0
        exact ⟨Or.inl rfl, h0 x.st m rfl Fr.refl e3⟩
      | false =>
        by_cases q2 : atm T key x < 0
        · rw [if_pos (Or.inr q2)] at h0
          refine ifI (fun _ => ?_) (fun z => absurd q2 z)
          exact ⟨Or.inl rfl, h0 x.st m rfl Fr.refl e3⟩
        · rw [if_neg (fun z => z.elim (fun a => by rw [hgl] at a; cases a) q2)] at h1
          refine ifI (fun z => absurd z q2) (fun _ => ?_)
          have hok := atm_ok (key := key) hv q2
          refine ⟨srI, ?_⟩
          rw [srIV]
          refine ⟨srX hr, c_addW hr (by omega) (by rw [tI_lt]; exact hok.1.2) c3 (fun m2 hF2 hT2 => ?_)⟩
          have hC2 := hc.fr hr hF2 hT2
          refine ⟨srO, hC2.adv hr hn hv (fun m3 hF3 hC3 => ?_)⟩
          exact ⟨Or.inr rfl, h1 _ _ m3 rfl ((hF2.mono fl_mono).trans hF3) hC3⟩
    refine ⟨srO, ?_⟩
    rw [e5]
    by_cases q2 : x.so = 2
    · refine ifI (fun _ => ?_) (fun z => absurd (by rw [q2]; rfl) z)
      refine ⟨srO, ?_⟩
      rw [e5]
      refine ifI (fun _ => ?_) (fun z => absurd (by rw [q2]; rfl) z)
      refine ⟨srO, c_numb hn hv c1 c2 ?_⟩
      have := word (Or.inl q2)
      unfold atm at this
      rw [if_pos q2] at this
      exact this
    refine ifI (fun z => absurd ((nI_eq (b := 2) (by omega) (by omega)).mp z) q2) (fun _ => ?_)
    refine ⟨srO, ?_⟩
    rw [e5]
    by_cases q3 : x.so = 3
    · refine ifI (fun _ => ?_) (fun z => absurd (by rw [q3]; rfl) z)
      refine ⟨srO, ?_⟩
      rw [e5]
      refine ifI (fun z => absurd ((nI_eq (b := 2) (by omega) (by omega)).mp z) q2) (fun _ => ?_)
      refine ⟨srO, c_name hr hn hv q3 c1 c2 hkey c3.2.1 ?_⟩
      have := word (Or.inr q3)
      unfold atm at this
      rw [if_neg q2] at this
      exact this
    refine ifI (fun z => absurd ((nI_eq (b := 3) (by omega) (by omega)).mp z) q3) (fun _ => ?_)
    rw [if_neg (fun z => z.elim q2 q3)] at h1 h0
    -- a bracket, or nothing
    have brk : ¬ (mrk T x 33 ∧ ns < 8) → Xs (e + 17) 32 107 [some (.ref 161), some (.int (nI op)), some (.int (nI ns)), none] [] (SR L r) (0, 0) m Q := by
      intro qn
      rw [if_neg qn] at h1 h0
      refine Xs_wp nocut t32 80 ?_
      refine ⟨srO, c_mark hn hv c1 c2 (fun qm => ?_) (fun qm => ?_)⟩
      · by_cases qo : op < 8
        · rw [if_pos ⟨qm, qo⟩] at h1 h0
          refine ifI (fun _ => ?_) (fun z => absurd (nI_lt (b := 8) qo (by omega)) z)
          have hlt := hv.2.2.1 (by have := qm.1; omega)
          refine ⟨srO, hc.adv hr hn hv (fun m2 hF2 hC2 => ?_)⟩
          refine ⟨srO, ?_⟩
          rw [nI_1]
          have hp := rd_piece hr hn hkey g (op + 1) ns e (by omega) hs (by omega) (by omega) (T := T)
          have ih := rd_joined (d := e + 7) hr hn (rdP_gd g (op + 1) ns) hp 5 (Nat.le_refl _)
          rw [show e + 7 + 5 + 4 = e + 16 by omega] at ih
          refine ih L _ pre m2 _ hav.1 (by have := hav.2; omega) hC2 (fun y cs m3 e' hF3 hC3 => ?_) (fun p m3 e' hF3 g3 => ?_)
          · rw [e'] at h1 h0
            dsimp only at h1 h0
            obtain ⟨gd1, gd2, gd3⟩ := rdJ_gd (rdP_gd g (op + 1) ns) 5 (Nat.le_refl _) _ hav.1 y cs e'
            refine ⟨srO, c_mark hn gd1 hC3.1 hC3.2.1 (fun qc => ?_) (fun qc => ?_)⟩
            · rw [if_pos qc] at h1
              refine ⟨srO, hC3.adv hr hn gd1 (fun m4 hF4 hC4 => ?_)⟩
              exact ⟨Or.inr rfl, h1 _ _ m4 rfl ((hF2.trans hF3).trans hF4) hC4⟩
            · rw [if_neg qc] at h0
              exact ⟨Or.inl rfl, h0 _ m3 rfl (hF2.trans hF3) hC3.2.1.2.1⟩
          · rw [e'] at h0
            dsimp only at h0
            exact ⟨Or.inl rfl, h0 p m3 rfl (hF2.trans hF3) g3⟩
        · rw [if_neg (fun z => qo z.2)] at h0
          refine ifI (fun z => absurd z (nI_nlt (b := 8) (by omega) (by omega))) (fun _ => ?_)
          exact ⟨Or.inl rfl, h0 x.st m rfl Fr.refl e3⟩
      · rw [if_neg (fun z => qm z.1)] at h0
        exact ⟨Or.inl rfl, h0 x.st m rfl Fr.refl e3⟩
    refine ⟨srO, c_mark hn hv c1 c2 (fun qm => ?_) (fun qm => ?_)⟩
    · by_cases qo : ns < 8
      · rw [if_pos ⟨qm, qo⟩] at h1 h0
        refine ifI (fun _ => ?_) (fun z => absurd (nI_lt (b := 8) qo (by omega)) z)
        have hlt := hv.2.2.1 (by have := qm.1; omega)
        refine ⟨srO, hc.adv hr hn hv (fun m2 hF2 hC2 => ?_)⟩
        refine ⟨srO, ?_⟩
        rw [nI_1]
        have ih := rd_piece hr hn hkey g op (ns + 1) (e + 6) ho (by omega) (by omega) (by omega) (T := T)
        rw [show e + 6 + 10 = e + 16 by omega] at ih
        refine ih L _ pre m2 _ hav.1 (by have := hav.2; omega) hC2 (fun y cs m3 e' hF3 hC3 => ?_) (fun p m3 e' hF3 g3 => ?_)
        · rw [e'] at h1
          dsimp only at h1
          obtain ⟨gd1, gd2, gd3⟩ := rdP_gd g op (ns + 1) _ hav.1 y cs e'
          have ey := gd1.1
          have ey2 := gd1.2.1
          have hav2 := hav.2
          refine ⟨srI, ?_⟩
          rw [srIV]
          refine ⟨srX hr, c_addS (pre := pre ++ cs) hr (by simp only [List.length_append]; omega) (by decide) hC3.2.2 (fun m4 hF4 hT4 => ?_)⟩
          have hC4 := hC3.fr hr hF4 hT4
          rw [List.append_assoc] at hC4
          exact ⟨Or.inr rfl, h1 _ _ m4 rfl ((hF2.trans hF3).trans (hF4.mono fl_mono)) hC4⟩
        · rw [e'] at h0
          dsimp only at h0
          exact ⟨Or.inl rfl, h0 p m3 rfl (hF2.trans hF3) g3⟩
      · refine ifI (fun z => absurd z (nI_nlt (b := 8) (by omega) (by omega))) (fun _ => ?_)
        exact brk (fun z => qo z.2)
    · exact brk (fun z => qm z.1)
