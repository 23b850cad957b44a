-- soundness, seventh part: one instruction, many instructions
theorem take_drop_rev (st : List Value) (n : Nat) : (st.take n).reverse.reverse ++ st.drop n = st := by rw [List.reverse_reverse, List.take_append_drop]
section ST
variable {d j pc : Nat} {L : Lvs} {st : List Value} {S : Shp} {cs : Nat × Nat} {mem : Mem} {Q : Qt} {K : Kt}
set_option maxHeartbeats 4000000 in
theorem stp_ok {E : En} (hcs : cs.1 ≤ mcN j ∧ cs.2 ≤ msN j) (hE : eok j pc E = true) (hK : ∀ pc' L' st' S' cs' mem', (cs'.1 ≤ mcN j ∧ cs'.2 ≤ msN j) → K pc' L' st' S' cs' mem' → Xs (d + 1) j pc' L' st' S' cs' mem' Q) (h : stp j d E pc L st S cs mem K Q) : Xs (d + 1) j pc L st S cs mem Q := by
  obtain ⟨i, nxt, v, a1, a2⟩ := E
  unfold eok at hE
  simp only [Bool.and_eq_true, decide_eq_true_eq] at hE
  obtain ⟨⟨hd, hn⟩, hi⟩ := hE
  subst hn
  cases i
  case iconst n =>
    have hv : v = .int (Int32.ofInt n) := of_decide_eq_true hi
    subst hv
    exact xs_iconst hd rfl (hK _ _ _ _ _ _ hcs h)
  case bipush n =>
    have hv : v = .int ((Int8.ofInt n).toInt32) := of_decide_eq_true hi
    subst hv
    exact xs_bipush hd rfl (hK _ _ _ _ _ _ hcs h)
  case sipush n =>
    have hv : v = .int ((Int16.ofInt n).toInt32) := of_decide_eq_true hi
    subst hv
    exact xs_sipush hd rfl (hK _ _ _ _ _ _ hcs h)
  case lconst n =>
    have hv : v = .long (Int64.ofNat (n : Nat)) := of_decide_eq_true hi
    subst hv
    exact xs_lconst hd rfl (hK _ _ _ _ _ _ hcs h)
  case ldc idx =>
    cases v with
    | int x =>
      obtain ⟨q, hq⟩ := chkL_ok csl_ok _ (of_decide_eq_true hi)
      exact xs_ldc hd (inP_ok hq) (hK _ _ _ _ _ _ hcs h)
    | retAddr k =>
      simp only [ick, Bool.and_eq_true, decide_eq_true_eq] at hi
      exact xs_ldcS hd hi.1.1 hi.1.2 hi.2 (hK _ _ _ _ _ _ hcs h)
    | _ => cases hi
  case ldc_w idx =>
    cases v with
    | int x =>
      obtain ⟨q, hq⟩ := chkL_ok csl_ok _ (of_decide_eq_true hi)
      exact xs_ldcw hd (inP_ok hq) (hK _ _ _ _ _ _ hcs h)
    | _ => cases hi
  case getstatic idx =>
    unfold ick at hi
    dsimp only at hi
    split at hi
    · simp only [Bool.and_eq_true, decide_eq_true_eq] at hi
      obtain ⟨h1, rfl⟩ := hi
      exact xs_gsA hd h1 (hK _ _ _ _ _ _ hcs h)
    · simp only [Bool.and_eq_true, decide_eq_true_eq] at hi
      obtain ⟨h1, rfl⟩ := hi
      exact xs_gsF hd h1 (hK _ _ _ _ _ _ hcs h)
    · simp only [Bool.and_eq_true, decide_eq_true_eq] at hi
      obtain ⟨h1, rfl⟩ := hi
      exact xs_gsC hd h1 (hK _ _ _ _ _ _ hcs h)
    · cases hi
  case iload_n k =>
    have hk : (k : Nat) = a1 := of_decide_eq_true hi
    unfold stp at h
    dsimp only at h
    split at h
    · rename_i x hx
      exact xs_iload_n hd hk hx (hK _ _ _ _ _ _ hcs h)
    · cases h
  case iload k =>
    have hk : k = a1 := of_decide_eq_true hi
    subst hk
    unfold stp at h
    dsimp only at h
    split at h
    · rename_i x hx
      exact xs_iload hd hx (hK _ _ _ _ _ _ hcs h)
    · cases h
  case lload k =>
    have hk : k = a1 := of_decide_eq_true hi
    subst hk
    unfold stp at h
    dsimp only at h
    split at h
    · rename_i x hx
      exact xs_lload hd hx (hK _ _ _ _ _ _ hcs h)
    · cases h
  case aload_n k =>
    have hk : (k : Nat) = a1 := of_decide_eq_true hi
    unfold stp at h
    dsimp only at h
    split at h
    · rename_i x hx
      exact xs_aload_n hd hk hx (hK _ _ _ _ _ _ hcs h)
    · rename_i x hx
      exact xs_aload_nK hd hk hx (hK _ _ _ _ _ _ hcs h)
    · cases h
  case aload k =>
    have hk : k = a1 := of_decide_eq_true hi
    subst hk
    unfold stp at h
    dsimp only at h
    split at h
    · rename_i x hx
      exact xs_aload hd hx (hK _ _ _ _ _ _ hcs h)
    · cases h
  case istore_n k =>
    simp only [ick, Bool.and_eq_true, decide_eq_true_eq] at hi
    obtain ⟨x, r, rfl, h⟩ := kI_inv h
    exact xs_istore_n hd hi.1 hi.2 (hK _ _ _ _ _ _ hcs h)
  case istore k =>
    simp only [ick, Bool.and_eq_true, decide_eq_true_eq] at hi
    obtain ⟨rfl, hi⟩ := hi
    obtain ⟨x, r, rfl, h⟩ := kI_inv h
    exact xs_istore hd hi (hK _ _ _ _ _ _ hcs h)
  case astore_n k =>
    simp only [ick, Bool.and_eq_true, decide_eq_true_eq] at hi
    obtain ⟨x, r, rfl, h⟩ := kR_inv h
    exact xs_astore_n hd hi.1 hi.2 (hK _ _ _ _ _ _ hcs h)
  case astore k =>
    simp only [ick, Bool.and_eq_true, decide_eq_true_eq] at hi
    obtain ⟨rfl, hi⟩ := hi
    obtain ⟨x, r, rfl, h⟩ := kR_inv h
    exact xs_astore hd hi (hK _ _ _ _ _ _ hcs h)
  case lstore k =>
    simp only [ick, Bool.and_eq_true, decide_eq_true_eq] at hi
    obtain ⟨rfl, hi⟩ := hi
    obtain ⟨x, r, rfl, h⟩ := kL_inv h
    obtain ⟨h1, h2⟩ := cond_inv h
    exact xs_lstore hd hi (by simpa using h1) (hK _ _ _ _ _ _ hcs h2)
  case iinc k n =>
    simp only [ick, Bool.and_eq_true, decide_eq_true_eq] at hi
    obtain ⟨⟨rfl, h1⟩, rfl⟩ := hi
    unfold stp at h
    dsimp only at h
    split at h
    · rename_i x y hx hy
      have e9 : Int32.ofInt n = y := by cases hy; rfl
      exact xs_iinc hd hx e9 h1 (hK _ _ _ _ _ _ hcs h)
    · cases h
  case iadd =>
    obtain ⟨x, y, r, rfl, h⟩ := kII_inv h
    exact xs_iadd hd (hK _ _ _ _ _ _ hcs h)
  case isub =>
    obtain ⟨x, y, r, rfl, h⟩ := kII_inv h
    exact xs_isub hd (hK _ _ _ _ _ _ hcs h)
  case imul =>
    obtain ⟨x, y, r, rfl, h⟩ := kII_inv h
    exact xs_imul hd (hK _ _ _ _ _ _ hcs h)
  case iand =>
    obtain ⟨x, y, r, rfl, h⟩ := kII_inv h
    exact xs_iand hd (hK _ _ _ _ _ _ hcs h)
  case ixor =>
    obtain ⟨x, y, r, rfl, h⟩ := kII_inv h
    exact xs_ixor hd (hK _ _ _ _ _ _ hcs h)
  case ishl =>
    obtain ⟨x, y, r, rfl, h⟩ := kII_inv h
    exact xs_ishl hd (hK _ _ _ _ _ _ hcs h)
  case ishr =>
    obtain ⟨x, y, r, rfl, h⟩ := kII_inv h
    exact xs_ishr hd (hK _ _ _ _ _ _ hcs h)
  case iushr =>
    obtain ⟨x, y, r, rfl, h⟩ := kII_inv h
    exact xs_iushr hd (hK _ _ _ _ _ _ hcs h)
  case ladd =>
    obtain ⟨x, y, r, rfl, h⟩ := kLL_inv h
    exact xs_ladd hd (hK _ _ _ _ _ _ hcs h)
  case lsub =>
    obtain ⟨x, y, r, rfl, h⟩ := kLL_inv h
    exact xs_lsub hd (hK _ _ _ _ _ _ hcs h)
  case lmul =>
    obtain ⟨x, y, r, rfl, h⟩ := kLL_inv h
    exact xs_lmul hd (hK _ _ _ _ _ _ hcs h)
  case lcmp =>
    obtain ⟨x, y, r, rfl, h⟩ := kLL_inv h
    exact xs_lcmp hd (hK _ _ _ _ _ _ hcs h)
  case ineg =>
    obtain ⟨x, r, rfl, h⟩ := kI_inv h
    exact xs_ineg hd (hK _ _ _ _ _ _ hcs h)
  case i2l =>
    obtain ⟨x, r, rfl, h⟩ := kI_inv h
    exact xs_i2l hd (hK _ _ _ _ _ _ hcs h)
  case i2s =>
    obtain ⟨x, r, rfl, h⟩ := kI_inv h
    exact xs_i2s hd (hK _ _ _ _ _ _ hcs h)
  case i2b =>
    obtain ⟨x, r, rfl, h⟩ := kI_inv h
    exact xs_i2b hd (hK _ _ _ _ _ _ hcs h)
  case i2c =>
    obtain ⟨x, r, rfl, h⟩ := kI_inv h
    exact xs_i2c hd (hK _ _ _ _ _ _ hcs h)
  case pop =>
    obtain ⟨x, r, rfl, h⟩ := kI_inv h
    exact xs_pop hd (hK _ _ _ _ _ _ hcs h)
  case lneg =>
    obtain ⟨x, r, rfl, h⟩ := kL_inv h
    exact xs_lneg hd (hK _ _ _ _ _ _ hcs h)
  case l2i =>
    obtain ⟨x, r, rfl, h⟩ := kL_inv h
    exact xs_l2i hd (hK _ _ _ _ _ _ hcs h)
  case idiv =>
    obtain ⟨x, y, r, rfl, h1, h2⟩ := kII_inv h
    exact xs_idiv hd h1 (hK _ _ _ _ _ _ hcs h2)
  case irem =>
    obtain ⟨x, y, r, rfl, h1, h2⟩ := kII_inv h
    exact xs_irem hd h1 (hK _ _ _ _ _ _ hcs h2)
  case ldiv =>
    obtain ⟨x, y, r, rfl, h1, h2⟩ := kLL_inv h
    exact xs_ldiv hd h1 (hK _ _ _ _ _ _ hcs h2)
  case dup =>
    unfold stp at h
    dsimp only at h
    split at h
    · exact xs_dupI hd (hK _ _ _ _ _ _ hcs h)
    · exact xs_dupR hd (hK _ _ _ _ _ _ hcs h)
    · cases h
  case dup2 =>
    unfold stp at h
    dsimp only at h
    split at h
    · exact xs_dup2 hd (hK _ _ _ _ _ _ hcs h)
    · cases h
  case ifCond q off =>
    obtain ⟨x, r, rfl, h⟩ := kI_inv h
    exact xs_if hd (of_decide_eq_true hi) (br_mono (hK _ _ _ _ _ _ hcs) (hK _ _ _ _ _ _ hcs) h)
  case if_icmp q off =>
    obtain ⟨x, y, r, rfl, h⟩ := kII_inv h
    exact xs_icmp hd (of_decide_eq_true hi) (br_mono (hK _ _ _ _ _ _ hcs) (hK _ _ _ _ _ _ hcs) h)
  case goto off =>
    exact xs_goto hd (of_decide_eq_true hi) (hK _ _ _ _ _ _ hcs h)
  case tableswitch dflt lo hi9 offs =>
    simp only [ick, Bool.and_eq_true, decide_eq_true_eq, List.all_eq_true] at hi
    obtain ⟨⟨⟨⟨h1, h2⟩, h3⟩, h4⟩, h5⟩ := hi
    obtain ⟨x, r, rfl, h⟩ := kI_inv h
    exact xs_tsw hd h1 h2 h3 h4 h5 (swt_mono (fun t => hK _ _ _ _ _ _ hcs) _ _ h)
  case lookupswitch dflt ps =>
    unfold ick at hi
    dsimp only at hi
    rw [Bool.and_eq_true, Bool.and_eq_true, decide_eq_true_eq] at hi
    obtain ⟨⟨h1, h2⟩, h3⟩ := hi
    obtain ⟨x, r, rfl, h⟩ := kI_inv h
    refine xs_lsw hd h1 (fun q hq => ?_) h2 (fun q hq => ?_) (swl_mono (fun t => hK _ _ _ _ _ _ hcs) _ h)
    · have := List.all_eq_true.mp h3 q hq
      simp only [Bool.and_eq_true, decide_eq_true_eq] at this
      exact this.1
    · have := List.all_eq_true.mp h3 q hq
      simp only [Bool.and_eq_true, decide_eq_true_eq] at this
      exact this.2
  case ireturn =>
    unfold stp at h
    dsimp only at h
    split at h
    · obtain ⟨h1, h2⟩ := cond_inv h
      exact xs_iret hd (of_decide_eq_true hi) rfl (bok_of h1).1 (bok_of h1).2 h2
    · obtain ⟨h1, h2, h3⟩ := cond_inv h
      refine xs_iret hd (of_decide_eq_true hi) ?_ (bok_of h1).1 (bok_of h1).2 h3
      rcases h2 with e9 | e9 <;> rw [e9] <;> rfl
    · obtain ⟨h1, h2, h3⟩ := cond_inv h
      exact xs_iret hd (of_decide_eq_true hi) h2 (bok_of h1).1 (bok_of h1).2 h3
    · obtain ⟨h1, h2, h3⟩ := cond_inv h
      exact xs_iret hd (of_decide_eq_true hi) h2 (bok_of h1).1 (bok_of h1).2 h3
    · cases h
  case lreturn =>
    unfold stp at h
    dsimp only at h
    split at h
    · obtain ⟨h1, h2⟩ := cond_inv h
      exact xs_lret hd (of_decide_eq_true hi) (bok_of h1).1 (bok_of h1).2 h2
    · cases h
  case return_ =>
    unfold stp at h
    dsimp only at h
    split at h
    · obtain ⟨h1, h2⟩ := cond_inv h
      exact xs_vret hd (of_decide_eq_true hi) (bok_of h1).1 (bok_of h1).2 h2
    · cases h
  case areturn =>
    unfold ick at hi
    dsimp only at hi
    split at hi
    · rename_i t ht
      have hty : (∃ n, t = .object n) ∨ ∃ u, t = .array u := by
        revert hi
        cases t <;> intro hi <;> first | exact Or.inl ⟨_, rfl⟩ | exact Or.inr ⟨_, rfl⟩ | cases hi
      unfold stp at h
      dsimp only at h
      split at h
      · obtain ⟨h1, h2⟩ := cond_inv h
        exact xs_aret hd ht hty (Or.inl ⟨_, rfl⟩) (bok_of h1).1 (bok_of h1).2 h2
      · obtain ⟨h1, h2⟩ := cond_inv h
        exact xs_aret hd ht hty (Or.inr ⟨_, rfl⟩) (bok_of h1).1 (bok_of h1).2 h2
      · cases h
    · cases hi
  case getfield idx =>
    unfold stp at h
    dsimp only at h
    split at h
    · simp only [ick, Bool.and_eq_true, decide_eq_true_eq] at hi
      obtain ⟨⟨h1, h2, h3⟩, h4⟩ := h
      exact xs_getR hd hi.1 hi.2 h1 h2 h3 (hK _ _ _ _ _ _ hcs h4)
    · simp only [ick, Bool.and_eq_true, Bool.or_eq_true, decide_eq_true_eq] at hi
      obtain ⟨⟨h1, h2⟩, h4⟩ := h
      exact xs_getI hd hi.1 hi.2 h1 h2 (hK _ _ _ _ _ _ hcs h4)
    · simp only [ick, Bool.and_eq_true, decide_eq_true_eq] at hi
      obtain ⟨h1, rfl⟩ := hi
      exact xs_gfC hd h1 h.1 (hK _ _ _ _ _ _ hcs h.2)
    · simp only [ick, Bool.and_eq_true, decide_eq_true_eq] at hi
      obtain ⟨h1, rfl⟩ := hi
      exact xs_gfV hd h1 h.1 (hK _ _ _ _ _ _ hcs h.2)
    · cases h
  case putfield idx =>
    have hfin : ∀ {x y : Nat}, finB j x y = true → ((clC x).2.1 y).2.2.2 = false ∨ ((yN j).name = "<init>" ∧ ((clC x).2.1 y).1 = cnm (cnN j)) := by
      intro x y hf
      simp only [finB, Bool.or_eq_true, Bool.and_eq_true, decide_eq_true_eq] at hf
      exact hf
    unfold stp at h
    dsimp only at h
    split at h
    · simp only [ick, Bool.and_eq_true, decide_eq_true_eq] at hi
      obtain ⟨⟨h1, h2, h3⟩, h4⟩ := h
      exact xs_putR hd hi.1.1 (hfin hi.2) hi.1.2 h1 h2 h3 (hK _ _ _ _ _ _ hcs h4)
    · simp only [ick, Bool.and_eq_true, decide_eq_true_eq] at hi
      obtain ⟨⟨h1, h2⟩, h4⟩ := h
      exact xs_putI hd hi.1.1 (hfin hi.2) (Or.inl hi.1.2) h1 h2 (hK _ _ _ _ _ _ hcs h4)
    · simp only [ick, Bool.and_eq_true, decide_eq_true_eq] at hi
      obtain ⟨⟨h1, h2, h3⟩, h4⟩ := h
      exact xs_putI hd hi.1.1 (hfin hi.2) (Or.inr ⟨hi.1.2, h3⟩) h1 h2 (hK _ _ _ _ _ _ hcs h4)
    · cases h
  case iaload =>
    unfold stp at h
    dsimp only at h
    split at h
    · obtain ⟨⟨h1, h2, h3⟩, h4⟩ := h
      exact xs_iaload hd h1 h2 h3 (hK _ _ _ _ _ _ hcs h4)
    · exact xs_ialA hd h.1 (hK _ _ _ _ _ _ hcs h.2)
    · exact xs_ialS hd h.1 (hK _ _ _ _ _ _ hcs h.2)
    · cases h
  case baload =>
    unfold stp at h
    dsimp only at h
    split at h
    · obtain ⟨⟨h1, h2, h3⟩, h4⟩ := h
      exact xs_zaload hd h1 h2 h3 (hK _ _ _ _ _ _ hcs h4)
    · obtain ⟨⟨h1, h2, h3⟩, h4⟩ := h
      exact xs_balK hd h1 h2 h3 (hK _ _ _ _ _ _ hcs h4)
    · cases h
  case caload =>
    obtain ⟨x, a, r, rfl, ⟨h1, h2, h3⟩, h4⟩ := kIR_inv h
    exact xs_caload hd h1 h2 h3 (hK _ _ _ _ _ _ hcs h4)
  case aaload =>
    obtain ⟨x, a, r, rfl, ⟨h1, h2, h3, h5⟩, h4⟩ := kIR_inv h
    exact xs_aaload hd h1 h2 h3 h5 (hK _ _ _ _ _ _ hcs h4)
  case iastore =>
    obtain ⟨x, i, a, r, rfl, ⟨h1, h2, h3⟩, h4⟩ := kIIR_inv h
    exact xs_iastore hd h1 h2 h3 (hK _ _ _ _ _ _ hcs h4)
  case bastore =>
    obtain ⟨x, i, a, r, rfl, ⟨h1, h2, h3⟩, h4⟩ := kIIR_inv h
    exact xs_zastore hd h1 h2 h3 (hK _ _ _ _ _ _ hcs h4)
  case castore =>
    obtain ⟨x, i, a, r, rfl, ⟨h1, h2, h3⟩, h4⟩ := kIIR_inv h
    exact xs_castore hd h1 h2 h3 (hK _ _ _ _ _ _ hcs h4)
  case aastore =>
    unfold stp at h
    dsimp only at h
    split at h
    · obtain ⟨⟨h1, h2, h3, h4, h5⟩, h6⟩ := h
      exact xs_aastore hd h1 h2 h3 h4 h5 (hK _ _ _ _ _ _ hcs h6)
    · cases h
  case arraylength =>
    unfold stp at h
    dsimp only at h
    split at h
    · exact xs_alen hd h.1.1 h.1.2 (hK _ _ _ _ _ _ hcs h.2)
    · exact xs_alenS hd (hK _ _ _ _ _ _ hcs h)
    · exact xs_alenK hd h.1.1 h.1.2 (hK _ _ _ _ _ _ hcs h.2)
    · cases h
  case new idx =>
    obtain ⟨⟨h1, h2, h3, h4⟩, h5⟩ := h
    exact xs_new hd (of_decide_eq_true hi) h1 h2 h3 h4 (hK _ _ _ _ _ _ (bok_of h1) h5)
  case newarray t =>
    obtain ⟨x, r, rfl, ⟨h1, h2, h3, h4, h5, h6⟩, h7⟩ := kI_inv h
    cases t with
    | int => exact xs_newa (ty := .int) hd rfl (Or.inl ⟨rfl, of_decide_eq_true hi⟩) h1 h2 h3 h4 h5 h6 (hK _ _ _ _ _ _ (bok_of h1) h7)
    | boolean => exact xs_newa (ty := .boolean) hd rfl (Or.inr (Or.inl ⟨rfl, of_decide_eq_true hi⟩)) h1 h2 h3 h4 h5 h6 (hK _ _ _ _ _ _ (bok_of h1) h7)
    | char => exact xs_newa (ty := .char) hd rfl (Or.inr (Or.inr ⟨rfl, of_decide_eq_true hi⟩)) h1 h2 h3 h4 h5 h6 (hK _ _ _ _ _ _ (bok_of h1) h7)
    | _ => cases hi
  case anewarray idx =>
    simp only [ick, Bool.and_eq_true, decide_eq_true_eq] at hi
    obtain ⟨x, r, rfl, ⟨h1, h2, h3, h4, h5, h6⟩, h7⟩ := kI_inv h
    exact xs_anew hd hi.1 hi.2 h1 h2 h3 h4 h5 h6 (hK _ _ _ _ _ _ (bok_of h1) h7)
  case invokespecial idx =>
    have key : ∀ (hi2 : ((decide ((cnN j, idx, a1) ∈ MLL) || decide ((cnN j, idx, a1) ∈ MNL)) && decide (a1 ∈ CIL) && argc a1 (a2 - 1) && decide (0 < a2)) = true) (h9 : (match (st.take a2).reverse with
        | .ref a :: as => callK j d a1 a2 (pc + 3) (.ref a :: as) (st.drop a2) L S cs mem K
        | _ => False)), Xs (d + 1) j pc L st S cs mem Q := by
      intro hi2 h9
      simp only [Bool.and_eq_true, Bool.or_eq_true, decide_eq_true_eq, argc] at hi2
      obtain ⟨⟨⟨q1, q2⟩, q3⟩, q4⟩ := hi2
      split at h9
      · rename_i a as has
        obtain ⟨c1, c2, cs', c3, c4, c5⟩ := callK_inv (Or.inr trivial) h9
        have hlen : as.length = a2 - 1 := by simp only [List.length_cons] at c2; omega
        have hb1 : cs.1 + mcN a1 ≤ mcN j ∧ cs.2 + msN a1 ≤ msN j := by
          rcases c4 with z | z
          · rw [z, mc_ms z]; exact hcs
          · exact z.1
        have hbk : cs'.1 ≤ mcN j ∧ cs'.2 ≤ msN j := by rw [c3]; exact hb1
        have k9 := xs_callI (rest := st.drop a2) hd q1 q2 (by rw [hlen]; exact q3) c1 c3 hb1 (c4.imp id (fun z => z.2)) (Mc_mono (fun r S m => hK _ _ _ _ _ _ hbk) c5)
        rw [← has, take_drop_rev] at k9
        exact k9
      · cases h9
    unfold stp at h
    dsimp only at h
    unfold ick at hi
    dsimp only at hi
    split at h
    · obtain ⟨a, r, rfl, h⟩ := kR_inv h
      obtain ⟨h1, h2⟩ := cond_inv h
      exact xs_obj hd (of_decide_eq_true hi) (Nat.le_of_ble_eq_true h1) (hK _ _ _ _ _ _ hcs h2)
    · split at hi
      · rename_i hne; exact absurd rfl (hne)
      · exact key hi h
  case invokestatic idx =>
    have key : ∀ (hi2 : ((decide ((cnN j, idx, a1) ∈ MLL) || decide ((cnN j, idx, a1) ∈ MNL)) && decide (a1 ∈ SIL) && argc a1 a2) = true) (h9 : callK j d a1 a2 (pc + 3) (st.take a2).reverse (st.drop a2) L S cs mem K), Xs (d + 1) j pc L st S cs mem Q := by
      intro hi2 h9
      simp only [Bool.and_eq_true, Bool.or_eq_true, decide_eq_true_eq, argc] at hi2
      obtain ⟨⟨q1, q2⟩, q3⟩ := hi2
      obtain ⟨c1, c2, cs', c3, c4, c5⟩ := callK_inv (Or.inr trivial) h9
      have hb1 : cs.1 + mcN a1 ≤ mcN j ∧ cs.2 + msN a1 ≤ msN j := by
        rcases c4 with z | z
        · rw [z, mc_ms z]; exact hcs
        · exact z.1
      have hbk : cs'.1 ≤ mcN j ∧ cs'.2 ≤ msN j := by rw [c3]; exact hb1
      have k9 := xs_callS (rest := st.drop a2) hd q1 q2 (by rw [c2]; exact q3) c1 c3 hb1 (c4.imp id (fun z => z.2)) (Mc_mono (fun r S m => hK _ _ _ _ _ _ hbk) c5)
      rw [take_drop_rev] at k9
      exact k9
    unfold stp at h
    dsimp only at h
    unfold ick at hi
    dsimp only at hi
    split at h
    · split at h
      · obtain ⟨⟨h1, h2, h3, h4, h5, h6, h7, h8, h9, h10⟩, h11⟩ := h
        exact xs_copy hd (of_decide_eq_true hi) h1 h2 h3 h4 h5 h6 h7 h8 h9 h10 (hK _ _ _ _ _ _ hcs h11)
      · cases h
    · split at hi
      · rename_i hne; exact absurd rfl (hne)
      · exact key hi h
  case invokevirtual idx =>
    simp only [ick, Bool.and_eq_true, decide_eq_true_eq, argc] at hi
    obtain ⟨⟨⟨q1, q2⟩, q3⟩, q4⟩ := hi
    unfold stp at h
    dsimp only at h
    split at h
    · rename_i a as has
      obtain ⟨⟨o1, o2⟩, h9⟩ := h
      obtain ⟨c1, c2, cs', c3, c4, c5⟩ := callK_inv (Or.inr trivial) h9
      have hlen : as.length = a2 - 1 := by simp only [List.length_cons] at c2; omega
      have hb1 : cs.1 + mcN a1 ≤ mcN j ∧ cs.2 + msN a1 ≤ msN j := by
        rcases c4 with z | z
        · rw [z, mc_ms z]; exact hcs
        · exact z.1
      have hbk : cs'.1 ≤ mcN j ∧ cs'.2 ≤ msN j := by rw [c3]; exact hb1
      have k9 := xs_callV (rest := st.drop a2) hd q1 q2 (by rw [hlen]; exact q3) o1 o2 c1 c3 hb1 (c4.imp id (fun z => z.2)) (Mc_mono (fun r S m => hK _ _ _ _ _ _ hbk) c5)
      rw [← has, take_drop_rev] at k9
      exact k9
    · rename_i k as has
      obtain ⟨⟨o1, o2⟩, h9⟩ := h
      obtain ⟨c1, c2, cs', c3, c4, c5⟩ := callK_inv (Or.inr trivial) h9
      have hlen : as.length = a2 - 1 := by simp only [List.length_cons] at c2; omega
      have hb1 : cs.1 + mcN a1 ≤ mcN j ∧ cs.2 + msN a1 ≤ msN j := by
        rcases c4 with z | z
        · rw [z, mc_ms z]; exact hcs
        · exact z.1
      have hbk : cs'.1 ≤ mcN j ∧ cs'.2 ≤ msN j := by rw [c3]; exact hb1
      have k9 := xs_callT (rest := st.drop a2) hd q1 q2 (by rw [hlen]; exact q3) o2 o1 c1 c3 hb1 (c4.imp id (fun z => z.2)) (Mc_mono (fun r S m => hK _ _ _ _ _ _ hbk) c5)
      rw [← has, take_drop_rev] at k9
      exact k9
    · cases h
  all_goals exact False.elim h
end ST
/-- a method's table, checked -/
def tok (j : Nat) (I : Nat → Option En) (n : Nat) : Bool := (List.range n).all (fun pc => match I pc with
  | some E => eok j pc E
  | none => true)
def tabI (n : Nat) (I : Nat → Option En) (pc : Nat) : Option En := cond (Nat.blt pc n) (I pc) none
theorem wp_ok {d j : Nat} {I : Nat → Option En} {n : Nat} {cut : Nat → Bool} {Q : Qt} (hI : tok j I n = true) : ∀ (f pc : Nat) (L : Lvs) (st : List Value) (S : Shp) (cs : Nat × Nat) (mem : Mem), (cs.1 ≤ mcN j ∧ cs.2 ≤ msN j) → wp j (tabI n I) cut d Q f pc L st S cs mem → Xs (d + 1) j pc L st S cs mem Q
  | 0, _, _, _, _, _, _, _, h => h
  | f + 1, pc, L, st, S, cs, mem, hcs, h => by
    unfold wp at h
    split at h
    · rename_i E hE
      have hpc : Nat.blt pc n = true := by
        unfold tabI at hE
        cases hb : Nat.blt pc n with
        | true => rfl
        | false => rw [hb] at hE; cases hE
      have hE2 : I pc = some E := by unfold tabI at hE; rw [hpc] at hE; exact hE
      have hok : eok j pc E = true := by
        have := List.all_eq_true.mp hI pc (List.mem_range.mpr (by simpa using hpc))
        rw [hE2] at this
        exact this
      refine stp_ok hcs hok (fun pc' L' st' S' cs' mem' hcs' hh => ?_) h
      cases hc : cut pc' with
      | true => rw [hc] at hh; exact hh
      | false => rw [hc] at hh; exact wp_ok hI f pc' L' st' S' cs' mem' hcs' hh
    · cases h
