-- soundness, fifth part: calls, and a method from its entry
theorem mc_ms {j : Nat} (h : mcN j = 0) : msN j = 0 := by
  unfold mcN at h
  unfold msN
  cases hb : Nat.ble 215 j with
  | false => rfl
  | true =>
    rw [hb] at h
    simp only [cond_true] at h ⊢
    split at h <;> first | rfl | (exact absurd h (by decide))
theorem Wd_calling {D : va_G} {tA : Nat → ClassId} {base : Nat} {kc : Nat → Value} {ad : Nat → Nat} {S : Shp} {mem : Mem} {U : State} {g : JFrame} {mk : MethodId} {a : Array Value} (h : Wd D tA base kc ad S mem U) : Wd D tA base kc ad S mem (U.calling g mk a) :=
  ⟨Kt0.same (u := U) (U := U.calling g mk a) rfl h.1, Kst.same (u := U) (U := U.calling g mk a) rfl h.2.1, h.2.2⟩
theorem ws_good {j : Nat} (h : j < 223) : GoodIn TB (wsN j) := by
  intro w hw
  rcases List.mem_cons.mp hw with e | e
  · subst e; exact ⟨mt_code j h, Or.inl rfl⟩
  · exact TB_good (fun _ h => h) w e
theorem cats_map {kc : Nat → Value} {ad : Nat → Nat} (hk : ∀ k, kc k = .null ∨ ∃ a, kc k = .ref a) (st : List Value) : ((st.map (cv kc ad)).map fun v => v.category).sum = cats st := by
  rw [List.map_map]
  have : ((fun v : Value => v.category) ∘ cv kc ad) = fun v => v.category := by funext v; exact cv_cat hk v
  rw [this]; rfl
section XC
variable {d j pc : Nat} {L : Lvs} {st : List Value} {S : Shp} {cs : Nat × Nat} {mem : Mem} {Q : Qt}
theorem xs_run {j' : Nat} {rest st0 : List Value} {cs' : Nat × Nat} {a9 : Array Value} {D : va_G} {tA : Nat → ClassId} {base : Nat} {kc : Nat → Value} {ad ad0 : Nat → Nat} {n0 : Nat} {p : Program} {l : Launch} {e : Env} {s : State} {m : MethodId} {args : Array Value} {below : List Frame} {meth : Method} {c : Code} {H : Heap} {locs : List Loc} {ls : Array Slot}
    (hC : Cx j p s m args meth c D tA base) (g1 : ∀ k, k < n0 → ad k = ad0 k) (g2 : n0 ≤ S.1) (g3 : mcN j = 0 → ad = ad0) (hk : Kst base kc (S.2.2.1 900) (mem 900) s s.heap) (hS : va_S (Gf base) s.heap H locs) (hl : lvh kc ad ls (mxN j) L) (hcs : cs' = (cs.1 + mcN j', cs.2 + msN j')) (hal : mcN j' = 0 ∨ (¬ mcN j = 0 ∧ lok S.1 L = true ∧ rest.all (vok S.1) = true))
    (hr : va_Run p l e (rmN (d + 1) j) s m args below meth c H locs cs.1 cs.2 (mcN j') (msN j') (F0 m pc ls st0) (rest.map (cv kc ad)) (Qc j' D tA base kc ad S.1 (fun r S' mem' => Xs (d + 1) j (pc + 3) L (r.toList ++ rest) S' cs' mem' Q) a9) (Gf base)) :
    W p l e (rmN (d + 1) j) s m args below meth c H locs cs.1 cs.2 (MQ below (Qc j D tA base kc ad0 n0 Q) args s (mcN j) (msN j) (Gf base)) (F0 m pc ls st0) := by
  intro T hT X
  obtain ⟨v, st₀, t, T', L', h0, X', hL, e1, e2, ⟨r, S', mem', ad', hv, hq, hWd, a1, a2, a3, hF⟩, stp⟩ := hr T hT X
  have hv' : v = r.map (cv kc ad') := by cases hv; rfl
  have hz : H.size ≤ t.heap.size := by rw [← h0]; exact hF.1
  have hkeep : ∀ q : Nat, q < H.size → ¬ Gf base q → t.heap[q]? = H[q]? := fun q h1 h2 => by rw [← h0] at h1 ⊢; exact hF.2 q h1 h2
  have hS1 : va_S (Gf base) s.heap t.heap (locs ++ L') := by
    refine ⟨Nat.le_trans hS.1 hz, fun q h1 h2 => ?_, fun q hq => ?_⟩
    · rw [hkeep q (Nat.lt_of_lt_of_le h1 hS.1) h2]; exact hS.2.1 q h1 h2
    · rcases List.mem_append.mp hq with h | h
      · exact hS.2.2 q h
      · exact hL q h
  obtain ⟨-, -, -, -, -, -, -, -, -, -, -, hX12, -, -⟩ := hWd.2.1
  have hk1 : Kst base kc (S'.2.2.1 900) (mem' 900) s s.heap := hk.swap hS1.2.1 hX12
  have ag : lvh kc ad' ls (mxN j) L ∧ rest.map (cv kc ad') = rest.map (cv kc ad) := by
    rcases hal with h | ⟨-, h1, h2⟩
    · rw [a3 h]; exact ⟨hl, rfl⟩
    · exact ⟨lvh_ag a1 h1 hl, map_ag a1 h2⟩
  have g3' : mcN j = 0 → ad' = ad0 := fun z => by
    rcases hal with h | ⟨h, -⟩
    · rw [a3 h]; exact g3 z
    · exact absurd z h
  have kk := hq p l e s m args below meth c D tA base kc ad0 n0 hC ad' t.heap (locs ++ L') ls (fun k hk => (a1 k (by omega)).trans (g1 k hk)) (Nat.le_trans g2 a2) g3' hk1 hWd.2.2 hS1 ag.1
  rw [hcs, List.map_append, ag.2] at kk
  obtain ⟨t2, b1, b2⟩ := kk T' e1 X'
  refine ⟨t2, stp t2 ?_, b2⟩
  have e3 : (r.toList.map (cv kc ad')) = v.toList := by rw [hv']; cases r <;> rfl
  rw [e3] at b1
  exact b1
/-- what a call asks for, beside its link -/
theorem xs_callB {j' n : Nat} {ad : Nat → Nat} {kc : Nat → Value} {D : va_G} {tA : Nat → ClassId} {base : Nat} {p : Program} {s : State} {m : MethodId} {args : Array Value} {meth : Method} {c : Code} {H : Heap} {locs : List Loc} (hC : Cx j p s m args meth c D tA base) (hk : Kst base kc (S.2.2.1 900) (mem 900) s s.heap) (hW : Wh D tA base ad S mem H) (hS : va_S (Gf base) s.heap H locs) (hj : j' < 223) (as : List Value)
    (hn : (parseMethodDescriptor (yN j').desc).map (fun d => d.parameters.length) = some n) :
    (rmN d j').cells = mcN j' ∧ (rmN d j').slots = msN j' ∧ (rmN d j').frames + 1 ≤ (rmN (d + 1) j).frames ∧ 8 + (mxN j' + 11) + (rmN d j').locals ≤ (rmN (d + 1) j).locals ∧ (∀ w ∈ wsN j', ∀ (a' : Array Value) (U : State), s.WarmedH U.vm → w.before a' U = true) ∧ Cond.code (yN j') (byN j') (mxN j') (rtN j') ∈ wsN j' ∧
      (Cond.code (yN j') (byN j') (mxN j') (rtN j')).before args s = true ∧ (Cond.initialized (yN j').cls).before args s = true ∧ ((yN j').cls ≠ "java/lang/invoke/MethodHandle" ∧ (yN j').cls ≠ "java/lang/invoke/VarHandle") ∧ (∀ sig, parseMethodDescriptor (yN j').desc = some sig → n = sig.parameters.length) ∧
      PreS s H (va_Pc (as.map (cv kc ad)) (fun U => Wd D tA base kc ad S mem U)) (as.map (cv kc ad)) := by
  obtain ⟨hx, hb, hr, hml, hown, hts, hlk, hnm, hkt, hbs⟩ := id hC
  obtain ⟨m1, m2, m3, m4, m5⟩ := mt_all (j := j') (by omega)
  refine ⟨rfl, rfl, Nat.le_refl _, ?_, pay_in hts (ws_good hj), List.mem_cons_self, hts _ (mt_code j' hj), hts _ (by rw [← m1]; exact ini_in m2), ⟨m3, m4⟩, fun sig h => ?_, ?_, ?_⟩
  · show 8 + (mxN j' + 11) + 128 * d ≤ 128 * (d + 1)
    omega
  · rw [h] at hn; exact (Option.some.inj hn).symm
  · rintro a U g mk ⟨e9, h⟩
    exact ⟨e9, Wd_calling h⟩
  · intro U hU hw
    exact ⟨rfl, hkt.warm hw, by rw [hU]; exact hk.warm hw hS.2.1, by rw [hU]; exact hW⟩
theorem xs_callS {idx j' : Nat} {as rest : List Value} {cs' : Nat × Nat} (hd : decode (byN j) pc = .ok (.invokestatic idx, 3)) (hlink : (cnN j, idx, j') ∈ MLL ∨ (cnN j, idx, j') ∈ MNL) (hst : j' ∈ SIL) (hn : (parseMethodDescriptor (yN j').desc).map (fun d => d.parameters.length) = some as.length)
    (hc : cats rest ≤ 8) (hcs : cs' = (cs.1 + mcN j', cs.2 + msN j')) (hb1 : cs.1 + mcN j' ≤ mcN j ∧ cs.2 + msN j' ≤ msN j) (hal : mcN j' = 0 ∨ (¬ mcN j = 0 ∧ lok S.1 L = true ∧ rest.all (vok S.1) = true))
    (k : Mc d j' as S mem (fun r S' mem' => Xs (d + 1) j (pc + 3) L (r.toList ++ rest) S' cs' mem' Q)) : Xs (d + 1) j pc L (as.reverse ++ rest) S cs mem Q := by
  intro p l e s m args below meth c D tA base kc ad0 n0 hC ad H locs ls g1 g2 g3 hk hW hS hl
  obtain ⟨hx, hb, hr, hml, hown, hts, hlk, hnm, hkt, hbs⟩ := id hC
  obtain ⟨s1, s2⟩ := si_in hst
  obtain ⟨b1, b2, b3, b4, b5, b6, b7, b8, b9, b10, b11⟩ := xs_callB (d := d) hC hk hW hS s2 as hn
  have hstk : ((as.reverse ++ rest).map (cv kc ad)) = (as.map (cv kc ad)).reverse ++ rest.map (cv kc ad) := by rw [List.map_append, List.map_reverse]
  have hcat := lv_room (m := m) (pc := pc) (ls := ls) (rest := (as.reverse ++ rest).map (cv kc ad)) (st := rest.map (cv kc ad)) (by rw [cats_map hk.1]; exact hc)
  refine xs_run (rest := rest) (a9 := (as.map (cv kc ad)).toArray) hC g1 g2 g3 hk hS hl hcs hal ?_
  rcases hlink with h | h
  · exact va_runS ⟨hx, hb, hml, hown, hts⟩ (k l D tA base kc ad) ⟨⟨b1, b2, b3, b4, b5, b6, b7, b8, b9, b10, hts _ (ml_in h).1⟩, hts _ s1⟩ b11 rfl (by rw [List.length_map]) hl.1 hstk hcat hd hb1
  · exact va_runSN (host := "TurtleBet") ⟨hx, hb, hml, hown, hts⟩ (k l D tA base kc ad) ⟨⟨⟨b1, b2, b3, b4, b5, b6⟩, b7, b8, b9, b10, va_Nw.use rfl (hkt.2 _ (mn_in h).1)⟩, hts _ s1, trivial⟩ b11 rfl (by rw [List.length_map]) hl.1 hstk hcat hd hb1
theorem xs_callI {idx j' a : Nat} {as rest : List Value} {cs' : Nat × Nat} (hd : decode (byN j) pc = .ok (.invokespecial idx, 3)) (hlink : (cnN j, idx, j') ∈ MLL ∨ (cnN j, idx, j') ∈ MNL) (hst : j' ∈ CIL) (hn : (parseMethodDescriptor (yN j').desc).map (fun d => d.parameters.length) = some as.length)
    (hc : cats rest ≤ 8) (hcs : cs' = (cs.1 + mcN j', cs.2 + msN j')) (hb1 : cs.1 + mcN j' ≤ mcN j ∧ cs.2 + msN j' ≤ msN j) (hal : mcN j' = 0 ∨ (¬ mcN j = 0 ∧ lok S.1 L = true ∧ rest.all (vok S.1) = true))
    (k : Mc d j' (.ref a :: as) S mem (fun r S' mem' => Xs (d + 1) j (pc + 3) L (r.toList ++ rest) S' cs' mem' Q)) : Xs (d + 1) j pc L ((.ref a :: as).reverse ++ rest) S cs mem Q := by
  intro p l e s m args below meth c D tA base kc ad0 n0 hC ad H locs ls g1 g2 g3 hk hW hS hl
  obtain ⟨hx, hb, hr, hml, hown, hts, hlk, hnm, hkt, hbs⟩ := id hC
  obtain ⟨s1, s2, s3, s4⟩ := ci_in hst
  obtain ⟨b1, b2, b3, b4, b5, b6, b7, b8, b9, b10, b11⟩ := xs_callB (d := d) hC hk hW hS s3 (.ref a :: as) hn
  rw [s4] at b6 b7
  have hstk : (((.ref a :: as).reverse ++ rest).map (cv kc ad)) = (as.map (cv kc ad)).reverse ++ .ref (ad a) :: rest.map (cv kc ad) := by rw [List.map_append, List.map_reverse, List.map_cons, List.reverse_cons, List.append_assoc]; rfl
  have hcat := lv_room (m := m) (pc := pc) (ls := ls) (rest := ((.ref a :: as).reverse ++ rest).map (cv kc ad)) (st := rest.map (cv kc ad)) (by rw [cats_map hk.1]; exact hc)
  refine xs_run (rest := rest) (a9 := (Value.ref (ad a) :: as.map (cv kc ad)).toArray) hC g1 g2 g3 hk hS hl hcs hal ?_
  rcases hlink with h | h
  · exact va_runI ⟨hx, hb, hml, hown, hts⟩ (k l D tA base kc ad) ⟨⟨b1, b2, b3, b4, b5, b6, b7, b8, b9, b10, hts _ (ml_in h).1⟩, s2, hts _ s1⟩ b11 rfl (by rw [List.length_map]) hl.1 hstk hcat hd hb1
  · exact va_runIN (host := "TurtleBet") ⟨hx, hb, hml, hown, hts⟩ (k l D tA base kc ad) ⟨⟨⟨b1, b2, b3, b4, b5, b6⟩, b7, b8, b9, b10, va_Nw.use rfl (hkt.2 _ (mn_in h).1)⟩, s2, hts _ s1⟩ b11 rfl (by rw [List.length_map]) hl.1 hstk hcat hd hb1
theorem xs_callV {idx j' a : Nat} {as rest : List Value} {cs' : Nat × Nat} (hd : decode (byN j) pc = .ok (.invokevirtual idx, 3)) (h : (cnN j, idx, j') ∈ MLL) (hst : j' ∈ VIL) (hn : (parseMethodDescriptor (yN j').desc).map (fun d => d.parameters.length) = some as.length) (ho : S.2.1 a = cnN j') (ha : a < S.1)
    (hc : cats rest ≤ 8) (hcs : cs' = (cs.1 + mcN j', cs.2 + msN j')) (hb1 : cs.1 + mcN j' ≤ mcN j ∧ cs.2 + msN j' ≤ msN j) (hal : mcN j' = 0 ∨ (¬ mcN j = 0 ∧ lok S.1 L = true ∧ rest.all (vok S.1) = true))
    (k : Mc d j' (.ref a :: as) S mem (fun r S' mem' => Xs (d + 1) j (pc + 3) L (r.toList ++ rest) S' cs' mem' Q)) : Xs (d + 1) j pc L ((.ref a :: as).reverse ++ rest) S cs mem Q := by
  intro p l e s m args below meth c D tA base kc ad0 n0 hC ad H locs ls g1 g2 g3 hk hW hS hl
  obtain ⟨hx, hb, hr, hml, hown, hts, hlk, hnm, hkt, hbs⟩ := id hC
  obtain ⟨s1, s2, s3⟩ := vi_in hst
  obtain ⟨b1, b2, b3, b4, b5, b6, b7, b8, b9, b10, b11⟩ := xs_callB (d := d) hC hk hW hS s3 (.ref a :: as) hn
  obtain ⟨m1, m2, -, -, -⟩ := mt_all (j := j') (by omega)
  have hlt : cnN j' < 10 := by
    rcases hW.2.2.1.2.1 a ha with q | q
    · rw [← ho]; exact q
    · rw [ho] at q; omega
  have hstk : (((.ref a :: as).reverse ++ rest).map (cv kc ad)) = (as.map (cv kc ad)).reverse ++ .ref (ad a) :: rest.map (cv kc ad) := by rw [List.map_append, List.map_reverse, List.map_cons, List.reverse_cons, List.append_assoc]; rfl
  have hcat := lv_room (m := m) (pc := pc) (ls := ls) (rest := ((.ref a :: as).reverse ++ rest).map (cv kc ad)) (st := rest.map (cv kc ad)) (by rw [cats_map hk.1]; exact hc)
  have hrecv := va_recv hkt.1 hW.1 (cls_at _ hlt) (by rw [wl_get ha, cellE_obj ho hlt])
  rw [cls_cn _ hlt, m1] at hrecv
  refine xs_run (rest := rest) (a9 := (Value.ref (ad a) :: as.map (cv kc ad)).toArray) hC g1 g2 g3 hk hS hl hcs hal ?_
  exact va_runV ⟨hx, hb, hml, hown, hts⟩ (k l D tA base kc ad) ⟨⟨b1, b2, b3, b4, b5, b6, b7, b8, b9, b10, hts _ (ml_in h).1⟩, hts _ s1, hts _ s2⟩ ⟨b11.1, hrecv, b11.2⟩ rfl (by rw [List.length_map]) hl.1 hstk hcat hd hb1
theorem xs_callT {idx j' q : Nat} {as rest : List Value} {cs' : Nat × Nat} (hd : decode (byN j) pc = .ok (.invokevirtual idx, 3)) (h : (cnN j, idx, j') ∈ MLL) (hst : j' ∈ VIL) (hn : (parseMethodDescriptor (yN j').desc).map (fun d => d.parameters.length) = some as.length) (ho : cnN j' = 10) (hq : q < 6)
    (hc : cats rest ≤ 8) (hcs : cs' = (cs.1 + mcN j', cs.2 + msN j')) (hb1 : cs.1 + mcN j' ≤ mcN j ∧ cs.2 + msN j' ≤ msN j) (hal : mcN j' = 0 ∨ (¬ mcN j = 0 ∧ lok S.1 L = true ∧ rest.all (vok S.1) = true))
    (k : Mc d j' (.retAddr q :: as) S mem (fun r S' mem' => Xs (d + 1) j (pc + 3) L (r.toList ++ rest) S' cs' mem' Q)) : Xs (d + 1) j pc L ((.retAddr q :: as).reverse ++ rest) S cs mem Q := by
  intro p l e s m args below meth c D tA base kc ad0 n0 hC ad H locs ls g1 g2 g3 hk hW hS hl
  obtain ⟨hx, hb, hr, hml, hown, hts, hlk, hnm, hkt, hbs⟩ := id hC
  obtain ⟨s1, s2, s3⟩ := vi_in hst
  obtain ⟨b1, b2, b3, b4, b5, b6, b7, b8, b9, b10, b11⟩ := xs_callB (d := d) hC hk hW hS s3 (.retAddr q :: as) hn
  obtain ⟨m1, m2, -, -, -⟩ := mt_all (j := j') (by omega)
  obtain ⟨-, h2, -, -, -, h6, -⟩ := id hk
  have hkq : cv kc ad (.retAddr q) = .ref (unr (kc q)) := unr_ref (h2 q hq)
  have hstk : (((.retAddr q :: as).reverse ++ rest).map (cv kc ad)) = (as.map (cv kc ad)).reverse ++ .ref (unr (kc q)) :: rest.map (cv kc ad) := by rw [List.map_append, List.map_reverse, List.map_cons, List.reverse_cons, List.append_assoc, hkq]; rfl
  have hcat := lv_room (m := m) (pc := pc) (ls := ls) (rest := ((.retAddr q :: as).reverse ++ rest).map (cv kc ad)) (st := rest.map (cv kc ad)) (by rw [cats_map hk.1]; exact hc)
  have hrecv := vk_recv h6 hq hS
  have hcls : (yN j').cls = "java/lang/String" := by rw [← m1, ho]; rfl
  rw [← hcls] at hrecv
  rw [List.map_cons, hkq] at b11
  have kk := k l D tA base kc ad
  rw [List.map_cons, hkq] at kk
  refine xs_run (rest := rest) (a9 := (Value.ref (unr (kc q)) :: as.map (cv kc ad)).toArray) hC g1 g2 g3 hk hS hl hcs hal ?_
  exact va_runV ⟨hx, hb, hml, hown, hts⟩ kk ⟨⟨b1, b2, b3, b4, b5, b6, b7, b8, b9, b10, hts _ (ml_in h).1⟩, hts _ s1, hts _ s2⟩ ⟨b11.1, hrecv, b11.2⟩ rfl (by rw [List.length_map]) hl.1 hstk hcat hd hb1
end XC
/-- the names at a method's entry -/
def entL (as : List Value) (n : Nat) : Lvs := as.map some ++ List.replicate (n - as.length) none
theorem lv_args1 : ∀ (vs : List Value) (k : Nat), (∀ v ∈ vs, v.category = 1) → ∀ i v, vs[i]? = some v → (k + i, v) ∈ lv_args k vs
  | [], _, _, i, v, h => by simp at h
  | a :: vs, k, hc, 0, v, h => by
    simp only [List.getElem?_cons_zero, Option.some.injEq] at h
    subst h
    exact List.mem_cons_self
  | a :: vs, k, hc, i + 1, v, h => by
    rw [List.getElem?_cons_succ] at h
    have h1 := lv_args1 vs (k + 1) (fun v hv => hc v (List.mem_cons_of_mem _ hv)) i v h
    have h2 : a.category = 1 := hc a List.mem_cons_self
    unfold lv_args
    refine List.mem_cons_of_mem _ ?_
    rw [if_neg (by omega), show k + (i + 1) = k + 1 + i by omega]
    exact h1
theorem lg_sl1 : ∀ (vs : List Value), (∀ v ∈ vs, v.category = 1) → (lg_sl vs).length = vs.length
  | [], _ => rfl
  | a :: vs, h => by
    have h2 : a.category = 1 := h a List.mem_cons_self
    have ih := lg_sl1 vs (fun v hv => h v (List.mem_cons_of_mem _ hv))
    unfold lg_sl at ih ⊢
    rw [List.flatMap_cons, List.length_append, ih, if_neg (by omega)]
    simp; omega
theorem Mc_of {d j : Nat} {as : List Value} {S : Shp} {mem : Mem} {Q : Qt} (hj : j < 224) (hc : as.all (fun v => Nat.beq v.category 1) = true) (hlen : as.length ≤ mxN j) (h : Xs d j 0 (entL as (mxN j)) [] S (0, 0) mem Q) : Mc d j as S mem Q := by
  intro l D tA base kc ad
  obtain ⟨m1, m2, m3, m4, m5⟩ := mt_all hj
  have hpl : plainFor (yN j) = true := List.all_eq_true.mp mt_plain j (List.mem_range.mpr hj)
  refine va_MetF (cc := byN j) (maxL := mxN j) (ret := rtN j) hpl rfl ?_
  intro p e s m args below meth c s₁ B hml hv
  obtain ⟨rfl, hkt, hk, hW⟩ := hv
  have hts := atoms_spec (ws := wsN j) B.pre
  have hown : s.vm.findClass (cnm (cnN j)) = some m.cls := by rw [m1]; exact findClass_of_methodNamed B.named
  have hC : Cx j p s m (as.map (cv kc ad)).toArray meth c D tA base := ⟨B.exec, B.bytes, B.returns, hml, hown, fun w hw => hts w (List.mem_cons_of_mem _ hw), B.notSynchronized, (name_of_methodNamed B.named B.method).1, hkt, hW.2.2.2⟩
  have hcat : ∀ v ∈ as.map (cv kc ad), v.category = 1 := by
    intro v hv
    obtain ⟨w, hw, rfl⟩ := List.mem_map.mp hv
    rw [cv_cat hk.1]
    exact Nat.eq_of_beq_eq_true (List.all_eq_true.mp hc w hw)
  have hl0 := lv_entry (as.map (cv kc ad)) (n := mxN j) (by rw [lg_sl1 _ hcat, List.length_map]; exact hlen)
  rw [lg_entry_eq]
  generalize (lg_sl (as.map (cv kc ad)) ++ List.replicate (mxN j - (lg_sl (as.map (cv kc ad))).length) Slot.unset).toArray = ls at hl0 ⊢
  have hl : lvh kc ad ls (mxN j) (entL as (mxN j)) := by
    refine ⟨hl0.1, hl0.2.1, fun i v hv => ?_⟩
    have h1 : as[i]? = some v := by
      rw [nth_eq] at hv
      unfold entL at hv
      rcases Nat.lt_or_ge i as.length with hi | hi
      · rw [List.getElem?_append_left (by rw [List.length_map]; exact hi), List.getElem?_map, List.getElem?_eq_getElem hi] at hv
        rw [List.getElem?_eq_getElem hi]
        simpa using hv
      · rw [List.getElem?_append_right (by rw [List.length_map]; exact hi), List.getElem?_replicate] at hv
        split at hv <;> simp at hv
    have h2 := lv_args1 (as.map (cv kc ad)) 0 hcat i (cv kc ad v) (by rw [List.getElem?_map, h1]; rfl)
    rw [Nat.zero_add] at h2
    exact hl0.2.2 _ h2
  exact h p l e s m _ below meth c D tA base kc ad S.1 hC ad s.heap [] ls (fun _ _ => rfl) (Nat.le_refl _) (fun _ => rfl) hk hW va_S.rf hl
