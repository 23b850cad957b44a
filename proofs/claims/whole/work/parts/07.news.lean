-- soundness, fourth part: new cells, constants, calls
set_option maxRecDepth 100000 in
theorem cls_small : (List.range 10).all (fun ci => (List.range (clC ci).2.2).all (fun k => isRefT (tyN ci k) || decide (tyN ci k = .int) || decide (tyN ci k = .boolean))) = true := by decide +kernel
theorem cls_dv {ci k : Nat} (h : ci < 10) (hk : k < (clC ci).2.2) (ad : Nat → Nat) : defaultValue (tyN ci k) = fval ad (tyN ci k) 0 0 := by
  have h1 := List.all_eq_true.mp (List.all_eq_true.mp cls_small ci (List.mem_range.mpr h)) k (List.mem_range.mpr hk)
  revert h1
  cases tyN ci k <;> intro h1 <;> first | rfl | (exact absurd h1 (by decide))
theorem upn_ne {f : Nat → Nat} {k v i : Nat} (h : i ≠ k) : upn f k v i = f i := if_neg h
theorem upn_eq {f : Nat → Nat} {k v : Nat} : upn f k v k = v := if_pos rfl
theorem rop_up {ad : Nat → Nat} {n q r : Nat} (h : r ≤ n) : rop (upn ad n q) r = rop ad r := by
  cases r with
  | zero => rfl
  | succ k => show some (upn ad n q k) = some (ad k); rw [upn_ne (by omega)]
theorem fval_up {ad : Nat → Nat} {n q r : Nat} {ty : FieldType} {x : Int32} (h : r ≤ n) : fval (upn ad n q) ty r x = fval ad ty r x := by
  cases ty <;> first | rfl | exact congrArg va_rf (rop_up h)
theorem cellE_old {tA : Nat → ClassId} {ad : Nat → Nat} {S : Shp} {mem : Mem} {k q t len : Nat} (hf : Wf S) (hk : k < S.1) : cellE tA (upn ad S.1 q) (newS S t len) (mz mem S.1) k = cellE tA ad S mem k := by
  have hne : k ≠ S.1 := by omega
  have e1 : (newS S t len).2.1 k = S.2.1 k := upn_ne hne
  have e2 : (newS S t len).2.2.1 k = S.2.2.1 k := upn_ne hne
  have e3 : ∀ f, (newS S t len).2.2.2 k f = S.2.2.2 k f := fun f => if_neg hne
  have e4 : mz mem S.1 k = mem k := by funext i; exact if_neg hne
  unfold cellE
  simp only [e1, e2, e3, e4]
  have e5 : ∀ f, fval (upn ad S.1 q) (tyN (S.2.1 k) f) (S.2.2.2 k f) (mem k f) = fval ad (tyN (S.2.1 k) f) (S.2.2.2 k f) (mem k f) := fun f => fval_up (hf.2.2 k f hk)
  have e6 : ∀ i, rop (upn ad S.1 q) (S.2.2.2 k i) = rop ad (S.2.2.2 k i) := fun i => rop_up (hf.2.2 k i hk)
  simp only [e5, e6]
theorem wl_push {tA : Nat → ClassId} {ad : Nat → Nat} {S : Shp} {mem : Mem} {q t len : Nat} {en : va_E} (hf : Wf S) (he : cellE tA (upn ad S.1 q) (newS S t len) (mz mem S.1) S.1 = en) : wl tA ad S mem ++ [(q, en)] = wl tA (upn ad S.1 q) (newS S t len) (mz mem S.1) := by
  unfold wl
  show _ = (List.range (S.1 + 1)).map _
  rw [List.range_succ, List.map_append, List.map_singleton, he, upn_eq]
  congr 1
  apply List.map_congr_left
  intro k hk
  have hk' := List.mem_range.mp hk
  rw [cellE_old hf hk', upn_ne (by omega)]
theorem Wf_new {S : Shp} {t len : Nat} (hf : Wf S) (h : S.1 < 900) (ht : t < 10 ∨ (20 ≤ t ∧ t < 28)) : Wf (newS S t len) := by
  refine ⟨h, fun k hk => ?_, fun k f hk => ?_⟩
  · show upn S.2.1 S.1 t k < 10 ∨ _
    by_cases e : k = S.1
    · subst e; rw [show (newS S t len).2.1 S.1 = t from upn_eq, upn_eq]; exact ht
    · rw [show (newS S t len).2.1 k = S.2.1 k from upn_ne e, upn_ne e]
      exact hf.2.1 k (by have : k < S.1 + 1 := hk; omega)
  · show rz S.2.2.2 S.1 k f ≤ S.1 + 1
    unfold rz
    split
    · omega
    · have := hf.2.2 k f (by have : k < S.1 + 1 := hk; omega); omega
theorem cv_ag {kc : Nat → Value} {ad ad' : Nat → Nat} {n : Nat} {v : Value} (ha : ∀ k, k < n → ad' k = ad k) (h : vok n v = true) : cv kc ad' v = cv kc ad v := by
  cases v with
  | ref a =>
    have : a < n := by simpa [vok] using h
    show Value.ref (ad' a) = .ref (ad a)
    rw [ha a this]
  | _ => rfl
theorem lok_at {n : Nat} {L : Lvs} (h : lok n L = true) {i : Nat} {v : Value} (hv : nth L i = some (some v)) : vok n v = true := by
  rw [nth_eq] at hv
  exact List.all_eq_true.mp h (some v) (List.mem_of_getElem? hv)
theorem lvh_ag {kc : Nat → Value} {ad ad' : Nat → Nat} {n nL : Nat} {ls : Array Slot} {L : Lvs} (ha : ∀ k, k < n → ad' k = ad k) (hL : lok n L = true) (h : lvh kc ad ls nL L) : lvh kc ad' ls nL L :=
  ⟨h.1, h.2.1, fun i v hv => by rw [cv_ag ha (lok_at hL hv)]; exact h.2.2 i v hv⟩
theorem map_ag {kc : Nat → Value} {ad ad' : Nat → Nat} {n : Nat} {st : List Value} (ha : ∀ k, k < n → ad' k = ad k) (h : st.all (vok n) = true) : st.map (cv kc ad') = st.map (cv kc ad) :=
  List.map_congr_left (fun v hv => cv_ag ha (List.all_eq_true.mp h v hv))
theorem upn_ag {ad : Nat → Nat} {n q : Nat} : ∀ k, k < n → upn ad n q k = ad k := fun k hk => upn_ne (by omega)
theorem bok_of {j : Nat} {cs : Nat × Nat} (h : bok j cs = true) : cs.1 ≤ mcN j ∧ cs.2 ≤ msN j := by
  unfold bok at h
  rw [Bool.and_eq_true] at h
  exact ⟨Nat.le_of_ble_eq_true h.1, Nat.le_of_ble_eq_true h.2⟩
section XN
variable {d j pc : Nat} {L : Lvs} {st : List Value} {S : Shp} {cs : Nat × Nat} {mem : Mem} {Q : Qt}
/-- behind a new cell -/
theorem xs_newK {D : va_G} {tA : Nat → ClassId} {base : Nat} {kc : Nat → Value} {ad ad0 : Nat → Nat} {n0 : Nat} {p : Program} {l : Launch} {e : Env} {s : State} {m : MethodId} {args : Array Value} {below : List Frame} {meth : Method} {c : Code} {H H1 : Heap} {locs : List Loc} {ls : Array Slot} {q t len cn sn nxt : Nat} {en : va_E}
    (hC : Cx j p s m args meth c D tA base) (g1 : ∀ k, k < n0 → ad k = ad0 k) (g2 : n0 ≤ S.1) (hk : Kst base kc (S.2.2.1 900) (mem 900) s s.heap) (hW : Wh D tA base ad S mem H) (hl : lvh kc ad ls (mxN j) L)
    (hb : bok j (cn, sn) = true) (hpos : 0 < cn) (h9 : S.1 < 900) (hL : lok S.1 L = true) (hst : st.all (vok S.1) = true) (ht : t < 10 ∨ (20 ≤ t ∧ t < 28)) (he : cellE tA (upn ad S.1 q) (newS S t len) (mz mem S.1) S.1 = en)
    (hP : va_P D CLS (wl tA ad S mem ++ [(q, en)]) H1) (hD : va_D (Gf base) (wl tA ad S mem ++ [(q, en)])) (hS1 : va_S (Gf base) s.heap H1 locs) (k : Xs d j nxt L (.ref S.1 :: st) (newS S t len) (cn, sn) (mz mem S.1) Q) :
    W p l e (rmN d j) s m args below meth c H1 locs cn sn (MQ below (Qc j D tA base kc ad0 n0 Q) args s (mcN j) (msN j) (Gf base)) (F0 m nxt ls (.ref q :: st.map (cv kc ad))) := by
  obtain ⟨hx, hb0, hr, hml, hown, hts, hlk, hnm, hkt, hbs⟩ := id hC
  rw [wl_push hW.2.2.1 he] at hP hD
  have hmc : ¬ mcN j = 0 := by have := (bok_of hb).1; simp at this; omega
  have h900 : (900 : Nat) ≠ S.1 := by omega
  have kk := k p l e s m args below meth c D tA base kc ad0 n0 hC (upn ad S.1 q) H1 locs ls (fun k hk => by rw [upn_ne (by omega)]; exact g1 k hk) (by show n0 ≤ S.1 + 1; omega) (fun z => absurd z hmc)
    (by
      have e1 : (newS S t len).2.2.1 900 = S.2.2.1 900 := upn_ne h900
      have e2 : mz mem S.1 900 = mem 900 := by funext i; exact if_neg h900
      rw [e1, e2]; exact hk) ⟨hP, hD, Wf_new hW.2.2.1 h9 ht, Nat.le_trans hbs hS1.1⟩ hS1 (lvh_ag upn_ag hL hl)
  rw [List.map_cons, map_ag upn_ag hst] at kk
  have e3 : cv kc (upn ad S.1 q) (.ref S.1) = .ref q := by show Value.ref (upn ad S.1 q S.1) = _; rw [upn_eq]
  rw [e3] at kk
  exact kk
theorem xs_new {idx ci : Nat} (hd : decode (byN j) pc = .ok (.new idx, 3)) (hi : (cnN j, idx, ci) ∈ CLL) (hb1 : bok j (cs.1 + 1, cs.2 + (clC ci).2.2) = true) (h9 : S.1 < 900) (hL : lok S.1 L = true) (hst : st.all (vok S.1) = true)
    (k : Xs d j (pc + 3) L (.ref S.1 :: st) (newS S ci 0) (cs.1 + 1, cs.2 + (clC ci).2.2) (mz mem S.1) Q) : Xs d j pc L st S cs mem Q := by
  intro p l e s m args below meth c D tA base kc ad0 n0 hC ad H locs ls g1 g2 g3 hk hW hS hl
  obtain ⟨hx, hb, hr, hml, hown, hts, hlk, hnm, hkt, hbs⟩ := id hC
  obtain ⟨f1, f2⟩ := cl_in hi
  have hh := bok_of hb1
  have e0 : ∀ q, cellE tA (upn ad S.1 q) (newS S ci 0) (mz mem S.1) S.1 = .inr (ci, (List.range (clC ci).2.2).map (fun f => fval ad (tyN ci f) 0 0)) := by
    intro q
    rw [cellE_obj (ci := ci) (show (newS S ci 0).2.1 S.1 = ci from upn_eq) f2]
    unfold fsL
    congr 2
    apply List.map_congr_left
    intro f _
    have e1 : (newS S ci 0).2.2.2 S.1 f = 0 := if_pos rfl
    have e2 : mz mem S.1 S.1 f = 0 := if_pos rfl
    rw [e1, e2, fval_up (Nat.zero_le _)]
  refine va_new (D := D) (cl := CLS) (ci := ci) (fs := (List.range (clC ci).2.2).map (fun f => fval ad (tyN ci f) 0 0)) (C := (clC ci).1) (T := (clC ci).2.1) (N := (clC ci).2.2) hx hb hts (cls_in f2) (tyN ci) (cls_tyk f2) hown (hts _ f1) (hts _ (cls_inst f2)) (hts _ (by rw [cls_cn _ f2]; exact ini_in (by omega))) hkt.1 hW.1 hW.2.1 hS (fun q hq => Nat.le_trans hbs hq) (cls_at _ f2) (fun i hi9 => by
    rw [cls_dv f2 hi9 ad]
    unfold vp_V
    rw [List.getD_eq_getElem?_getD, List.getElem?_map, List.getElem?_range hi9]
    rfl) hh.1 hh.2 hd (fun q H1 hP1 hD1 hS1 => xs_newK (en := .inr (ci, (List.range (clC ci).2.2).map (fun f => fval ad (tyN ci f) 0 0))) hC g1 g2 hk hW hl hb1 (by omega) h9 hL hst (Or.inl f2) (e0 q) hP1 hD1 hS1 k)
theorem arr_in {ty : FieldType} (h : ty = .int ∨ ty = .boolean ∨ ty = .char) : Cond.arrayClass ty ∈ TB := by
  have hh := chkL_ok arr_ws
  rcases h with rfl | rfl | rfl
  · obtain ⟨q, hq⟩ := hh (Cond.arrayClass .int) (by simp); exact inP_ok hq
  · obtain ⟨q, hq⟩ := hh (Cond.arrayClass .boolean) (by simp); exact inP_ok hq
  · obtain ⟨q, hq⟩ := hh (Cond.arrayClass .char) (by simp); exact inP_ok hq
theorem xs_newa {at9 : ArrayType} {ty : FieldType} {t : Nat} {x : Int32} (hd : decode (byN j) pc = .ok (.newarray at9, 2)) (hty : newarray.typeOf at9 = ty) (htt : (ty = .int ∧ t = 20) ∨ (ty = .boolean ∧ t = 21) ∨ (ty = .char ∧ t = 22)) (hb1 : bok j (cs.1 + 1, cs.2 + x.toNatClampNeg) = true) (h9 : S.1 < 900) (hL : lok S.1 L = true) (hst : st.all (vok S.1) = true) (hx0 : ¬ x < 0) (hx1 : x.toNatClampNeg ≤ 10000)
    (k : Xs d j (pc + 2) L (.ref S.1 :: st) (newS S t x.toNatClampNeg) (cs.1 + 1, cs.2 + x.toNatClampNeg) (mz mem S.1) Q) : Xs d j pc L (.int x :: st) S cs mem Q := by
  intro p l e s m args below meth c D tA base kc ad0 n0 hC ad H locs ls g1 g2 g3 hk hW hS hl
  obtain ⟨hx, hb, hr, hml, hown, hts, hlk, hnm, hkt, hbs⟩ := id hC
  have hh := bok_of hb1
  have ht : 20 ≤ t ∧ t < 23 := by omega
  have hin : Cond.arrayClass ty ∈ TB := arr_in (by rcases htt with ⟨h, -⟩ | ⟨h, -⟩ | ⟨h, -⟩ <;> simp [h])
  have htys : (tysL tA)[t - 20]? = some (tA t, ty) := by rcases htt with ⟨h, h'⟩ | ⟨h, h'⟩ | ⟨h, h'⟩ <;> subst h <;> subst h' <;> rfl
  have hdv : defaultValue ty = .int 0 := by rcases htt with ⟨h, -⟩ | ⟨h, -⟩ | ⟨h, -⟩ <;> subst h <;> rfl
  have hcb : x.toNatClampNeg * componentBytes ty ≤ 536870912 := by
    rcases htt with ⟨h, -⟩ | ⟨h, -⟩ | ⟨h, -⟩ <;> subst h <;> simp [componentBytes] <;> omega
  have e0 : ∀ q, cellE tA (upn ad S.1 q) (newS S t x.toNatClampNeg) (mz mem S.1) S.1 = .inl (tA t, x.toNatClampNeg, .inl (fun _ => 0)) := by
    intro q
    rw [cellE_int (t := t) (show (newS S t x.toNatClampNeg).2.1 S.1 = t from upn_eq) ht.1 ht.2]
    have e1 : (newS S t x.toNatClampNeg).2.2.1 S.1 = x.toNatClampNeg := upn_eq
    have e2 : mz mem S.1 S.1 = fun _ => 0 := by funext i; exact if_pos rfl
    rw [e1, e2]
  refine va_newa (a0 := (x.toNatClampNeg, .inl (fun _ => 0))) hx hb (hts _ (by rw [hty]; exact hin)) hty hkt.1 hW.1 hW.2.1 hS (fun q hq => Nat.le_trans hbs hq) (fun cA => by rw [hdv]; rfl) hx0 rfl hcb hh.1 hh.2 hd (fun q cA H1 hK1 hP1 hD1 hS1 => ?_)
  have ec : cA = tA t := by
    have r1 := (hK1.2 8 (cA, ty) (by rw [List.getElem?_append_right (show (tysL tA).length ≤ 8 from Nat.le_refl 8)]; rfl)).2
    have r2 := (hkt.1.2 _ _ htys).2
    rcases htt with ⟨h, -⟩ | ⟨h, -⟩ | ⟨h, -⟩ <;> subst h <;> exact Option.some.inj (r1.symm.trans r2)
  subst ec
  exact xs_newK hC g1 g2 hk hW hl hb1 (by omega) h9 hL hst (Or.inr ⟨ht.1, by omega⟩) (e0 q) hP1 hD1 hS1 k
theorem xs_anew {idx t : Nat} {x : Int32} (hd : decode (byN j) pc = .ok (.anewarray idx, 3)) (ht : 23 ≤ t ∧ t < 28) (hi : (cnN j, idx, tagC t) ∈ CLL) (hb1 : bok j (cs.1 + 1, cs.2 + x.toNatClampNeg) = true) (h9 : S.1 < 900) (hL : lok S.1 L = true) (hst : st.all (vok S.1) = true) (hx0 : ¬ x < 0) (hx1 : x.toNatClampNeg ≤ 10000)
    (k : Xs d j (pc + 3) L (.ref S.1 :: st) (newS S t x.toNatClampNeg) (cs.1 + 1, cs.2 + x.toNatClampNeg) (mz mem S.1) Q) : Xs d j pc L (.int x :: st) S cs mem Q := by
  intro p l e s m args below meth c D tA base kc ad0 n0 hC ad H locs ls g1 g2 g3 hk hW hS hl
  obtain ⟨hx, hb, hr, hml, hown, hts, hlk, hnm, hkt, hbs⟩ := id hC
  have hh := bok_of hb1
  obtain ⟨f1, f2⟩ := cl_in hi
  have hov : Cond.arrayOver (.object (clC (tagC t)).1) ∈ NSW := by
    obtain ⟨q, hq⟩ := chkL_ok ovr_ok t (by simp; omega)
    exact List.mem_filter.mpr ⟨inA_ok hq, rfl⟩
  have e0 : ∀ q, cellE tA (upn ad S.1 q) (newS S t x.toNatClampNeg) (mz mem S.1) S.1 = .inl (tA t, x.toNatClampNeg, .inr (.inr (.inr (.inr (fun _ => none))))) := by
    intro q
    rw [cellE_ref (t := t) (show (newS S t x.toNatClampNeg).2.1 S.1 = t from upn_eq) ht.1]
    have e1 : (newS S t x.toNatClampNeg).2.2.1 S.1 = x.toNatClampNeg := upn_eq
    have e2 : ∀ i, (newS S t x.toNatClampNeg).2.2.2 S.1 i = 0 := fun i => if_pos rfl
    simp only [e1, e2]
    rfl
  refine va_newq hx hb hown (hts _ f1) (va_AO.of (A := #[]) (hkt.2 _ hov)) hkt.1 hW.1 hW.2.1 hS (fun q hq => Nat.le_trans hbs hq) hx0 rfl (by omega) hh.1 hh.2 hd (fun q cA H1 hK1 hP1 hD1 hS1 => ?_)
  have ec : cA = tA t := by
    obtain ⟨_, _, -, -, -, r1⟩ := (hK1.2 8 (cA, .object (clC (tagC t)).1) (by rw [List.getElem?_append_right (show (tysL tA).length ≤ 8 from Nat.le_refl 8)]; rfl)).2
    obtain ⟨_, _, -, -, -, r2⟩ := (hkt.1.2 _ _ (tys_at t ht.1 ht.2)).2
    exact Option.some.inj (r1.symm.trans r2)
  subst ec
  exact xs_newK hC g1 g2 hk hW hl hb1 (by omega) h9 hL hst (Or.inr ⟨by omega, ht.2⟩) (e0 q) hP1 hD1 hS1 k
-- constants
theorem unr_ref {v : Value} (h : ∃ a, v = .ref a) : v = .ref (unr v) := by obtain ⟨a, rfl⟩ := h; rfl
set_option maxRecDepth 100000 in
theorem kst_words : (inP (3, 141) (.fieldLink "java/lang/String" 38 "java/lang/String" "COMPACT_STRINGS" "Z") && inP (3, 157) (.fieldLink "java/lang/String" 1053 "jdk/internal/util/Preconditions" "SIOOBE_FORMATTER" "Ljava/util/function/BiFunction;") && inP (6, 140) (.fieldLink "java/lang/String" 15 "java/lang/String" "coder" "B") && inP (6, 139) (.fieldLink "java/lang/String" 9 "java/lang/String" "value" "[B") && inA (2, 119) (.fieldLinkNest "TurtleBet$Turtle" 35 "TurtleBet" "ABOVE" "[I" "TurtleBet")) = true := by decide +kernel
theorem xs_gsA (hd : decode (byN j) pc = .ok (.getstatic 35, 3)) (hc : cnN j = 6) (k : Xs d j (pc + 3) L (.retAddr 7 :: st) S cs mem Q) : Xs d j pc L st S cs mem Q := by
  intro p l e s m args below meth c D tA base kc ad0 n0 hC ad H locs ls g1 g2 g3 hk hW hS hl
  obtain ⟨hx, hb, hr, hml, hown, hts, hlk, hnm, hkt, hbs⟩ := id hC
  have hw := kst_words
  simp only [Bool.and_eq_true] at hw
  obtain ⟨-, -, -, -, -, -, -, h8, -⟩ := id hk
  have hn : Cond.fieldLinkNest "TurtleBet$Turtle" 35 "TurtleBet" "ABOVE" "[I" "TurtleBet" ∈ NSW := List.mem_filter.mpr ⟨inA_ok hw.2, rfl⟩
  have hown2 : s.vm.findClass "TurtleBet$Turtle" = some m.cls := by rw [hc] at hown; exact hown
  exact va_getsN hx hb h8 hS hown2 (va_Nw.use rfl (hkt.2 _ hn)) (fun _ h => h) hd (k p l e s m args below meth c D tA base kc ad0 n0 hC ad H locs ls g1 g2 g3 hk hW hS hl)
theorem xs_gsF (hd : decode (byN j) pc = .ok (.getstatic 1053, 3)) (hc : cnN j = 10) (k : Xs d j (pc + 3) L (.retAddr 8 :: st) S cs mem Q) : Xs d j pc L st S cs mem Q := by
  intro p l e s m args below meth c D tA base kc ad0 n0 hC ad H locs ls g1 g2 g3 hk hW hS hl
  obtain ⟨hx, hb, hr, hml, hown, hts, hlk, hnm, hkt, hbs⟩ := id hC
  have hw := kst_words
  simp only [Bool.and_eq_true] at hw
  obtain ⟨-, -, -, -, -, -, -, -, -, -, h11, -⟩ := id hk
  have hown2 : s.vm.findClass "java/lang/String" = some m.cls := by rw [hc] at hown; exact hown
  exact va_gets hx hb h11 hS hown2 (hts _ (inP_ok hw.1.1.1.2)) (fun _ h => h) hd (k p l e s m args below meth c D tA base kc ad0 n0 hC ad H locs ls g1 g2 g3 hk hW hS hl)
theorem xs_gsC (hd : decode (byN j) pc = .ok (.getstatic 38, 3)) (hc : cnN j = 10) (k : Xs d j (pc + 3) L (.int 1 :: st) S cs mem Q) : Xs d j pc L st S cs mem Q := by
  intro p l e s m args below meth c D tA base kc ad0 n0 hC ad H locs ls g1 g2 g3 hk hW hS hl
  obtain ⟨hx, hb, hr, hml, hown, hts, hlk, hnm, hkt, hbs⟩ := id hC
  have hw := kst_words
  simp only [Bool.and_eq_true] at hw
  obtain ⟨-, -, -, -, -, -, -, -, -, h10, -⟩ := id hk
  have hown2 : s.vm.findClass "java/lang/String" = some m.cls := by rw [hc] at hown; exact hown
  exact va_gets hx hb h10 hS hown2 (hts _ (inP_ok hw.1.1.1.1)) (fun _ h => h) hd (k p l e s m args below meth c D tA base kc ad0 n0 hC ad H locs ls g1 g2 g3 hk hW hS hl)
theorem xs_gfC {q : Nat} (hd : decode (byN j) pc = .ok (.getfield 15, 3)) (hc : cnN j = 10) (hq : q < 6) (k : Xs d j (pc + 3) L (.int 0 :: st) S cs mem Q) : Xs d j pc L (.retAddr q :: st) S cs mem Q := by
  intro p l e s m args below meth c D tA base kc ad0 n0 hC ad H locs ls g1 g2 g3 hk hW hS hl
  obtain ⟨hx, hb, hr, hml, hown, hts, hlk, hnm, hkt, hbs⟩ := id hC
  have hw := kst_words
  simp only [Bool.and_eq_true] at hw
  obtain ⟨-, h2, -, -, -, h6, -⟩ := id hk
  have hown2 : s.vm.findClass "java/lang/String" = some m.cls := by rw [hc] at hown; exact hown
  have kk := (k p l e s m args below meth c D tA base kc ad0 n0 hC ad H locs ls g1 g2 g3 hk hW hS hl)
  rw [List.map_cons, show cv kc ad (.retAddr q) = kc q from rfl, unr_ref (h2 q hq)]
  exact vk_getf hx hb (h6.1 q hq).2.1 hS hown2 (hts _ (inP_ok hw.1.1.2)) (fun _ h => h) hd kk
theorem xs_gfV {q : Nat} (hd : decode (byN j) pc = .ok (.getfield 9, 3)) (hc : cnN j = 10) (hq : q < 6) (k : Xs d j (pc + 3) L (.retAddr (q + 10) :: st) S cs mem Q) : Xs d j pc L (.retAddr q :: st) S cs mem Q := by
  intro p l e s m args below meth c D tA base kc ad0 n0 hC ad H locs ls g1 g2 g3 hk hW hS hl
  obtain ⟨hx, hb, hr, hml, hown, hts, hlk, hnm, hkt, hbs⟩ := id hC
  have hw := kst_words
  simp only [Bool.and_eq_true] at hw
  obtain ⟨-, h2, h3, -, -, h6, -⟩ := id hk
  have hown2 : s.vm.findClass "java/lang/String" = some m.cls := by rw [hc] at hown; exact hown
  have kk := (k p l e s m args below meth c D tA base kc ad0 n0 hC ad H locs ls g1 g2 g3 hk hW hS hl)
  rw [List.map_cons, show cv kc ad (.retAddr (q + 10)) = kc (q + 10) from rfl, unr_ref (h3 q hq)] at kk
  rw [List.map_cons, show cv kc ad (.retAddr q) = kc q from rfl, unr_ref (h2 q hq)]
  exact vk_getf hx hb (h6.1 q hq).2.2.1 hS hown2 (hts _ (inP_ok hw.1.2)) (fun _ h => h) hd kk
theorem xs_ialA {i : Int32} (hd : decode (byN j) pc = .ok (.iaload, 1)) (hin : vp_in i 6) (k : Xs d j (pc + 1) L (.int (abv i.toNatClampNeg) :: st) S cs mem Q) : Xs d j pc L (.int i :: .retAddr 7 :: st) S cs mem Q := by
  intro p l e s m args below meth c D tA base kc ad0 n0 hC ad H locs ls g1 g2 g3 hk hW hS hl
  obtain ⟨hx, hb, hr, hml, hown, hts, hlk, hnm, hkt, hbs⟩ := id hC
  obtain ⟨-, -, -, h4, -, -, -, -, h9, -⟩ := id hk
  have kk := (k p l e s m args below meth c D tA base kc ad0 n0 hC ad H locs ls g1 g2 g3 hk hW hS hl)
  rw [List.map_cons, List.map_cons, show cv kc ad (.retAddr 7) = kc 7 from rfl, unr_ref h4]
  exact va_ti hx hb h9 hS hin rfl hd kk
theorem xs_ialS {i : Int32} (hd : decode (byN j) pc = .ok (.iaload, 1)) (hin : vp_in i (S.2.2.1 900)) (k : Xs d j (pc + 1) L (.int (mem 900 i.toNatClampNeg) :: st) S cs mem Q) : Xs d j pc L (.int i :: .retAddr 20 :: st) S cs mem Q := by
  intro p l e s m args below meth c D tA base kc ad0 n0 hC ad H locs ls g1 g2 g3 hk hW hS hl
  obtain ⟨hx, hb, hr, hml, hown, hts, hlk, hnm, hkt, hbs⟩ := id hC
  obtain ⟨-, -, -, -, h5, -, -, -, -, -, -, h12, h13, -⟩ := id hk
  have hbl : unr (kc 20) < s.heap.size := by obtain ⟨scr, z, -⟩ := h12; exact (Array.getElem?_eq_some_iff.mp z).1
  have kk := (k p l e s m args below meth c D tA base kc ad0 n0 hC ad H locs ls g1 g2 g3 hk hW hS hl)
  rw [List.map_cons, List.map_cons, show cv kc ad (.retAddr 20) = kc 20 from rfl, unr_ref h5]
  exact va_sld hx hb h12 hbl h13 hS hin hd kk
theorem xs_alenS (hd : decode (byN j) pc = .ok (.arraylength, 1)) (k : Xs d j (pc + 1) L (.int (Int32.ofNat (S.2.2.1 900)) :: st) S cs mem Q) : Xs d j pc L (.retAddr 20 :: st) S cs mem Q := by
  intro p l e s m args below meth c D tA base kc ad0 n0 hC ad H locs ls g1 g2 g3 hk hW hS hl
  obtain ⟨hx, hb, hr, hml, hown, hts, hlk, hnm, hkt, hbs⟩ := id hC
  obtain ⟨-, -, -, -, h5, -, -, -, -, -, -, h12, h13, -⟩ := id hk
  have hbl : unr (kc 20) < s.heap.size := by obtain ⟨scr, z, -⟩ := h12; exact (Array.getElem?_eq_some_iff.mp z).1
  have kk := (k p l e s m args below meth c D tA base kc ad0 n0 hC ad H locs ls g1 g2 g3 hk hW hS hl)
  rw [List.map_cons, show cv kc ad (.retAddr 20) = kc 20 from rfl, unr_ref h5]
  exact va_slen hx hb h12 hbl h13 hS hd kk
theorem xs_balK {i : Int32} {q : Nat} (hd : decode (byN j) pc = .ok (.baload, 1)) (h1 : 10 ≤ q) (h2 : q < 16) (hin : vp_in i (SLEN.getD (q - 10) 0)) (k : Xs d j (pc + 1) L (.int ((SBYT.getD (q - 10) []).getD i.toNatClampNeg 0) :: st) S cs mem Q) : Xs d j pc L (.int i :: .retAddr q :: st) S cs mem Q := by
  intro p l e s m args below meth c D tA base kc ad0 n0 hC ad H locs ls g1 g2 g3 hk hW hS hl
  obtain ⟨hx, hb, hr, hml, hown, hts, hlk, hnm, hkt, hbs⟩ := id hC
  obtain ⟨-, -, h3, -, -, h6, -⟩ := id hk
  have h9 := (h6.1 (q - 10) (by omega)).2.2.2
  have hr3 := h3 (q - 10) (by omega)
  dsimp only at h9
  rw [show q - 10 + 10 = q by omega] at h9 hr3
  have kk := (k p l e s m args below meth c D tA base kc ad0 n0 hC ad H locs ls g1 g2 g3 hk hW hS hl)
  rw [List.map_cons, List.map_cons, show cv kc ad (.retAddr q) = kc q from rfl, unr_ref hr3]
  exact va_tb hx hb h9 hS hin rfl hd kk
theorem xs_alenK {q : Nat} (hd : decode (byN j) pc = .ok (.arraylength, 1)) (h1 : 10 ≤ q) (h2 : q < 16) (k : Xs d j (pc + 1) L (.int (Int32.ofNat (SLEN.getD (q - 10) 0)) :: st) S cs mem Q) : Xs d j pc L (.retAddr q :: st) S cs mem Q := by
  intro p l e s m args below meth c D tA base kc ad0 n0 hC ad H locs ls g1 g2 g3 hk hW hS hl
  obtain ⟨hx, hb, hr, hml, hown, hts, hlk, hnm, hkt, hbs⟩ := id hC
  obtain ⟨-, -, h3, -, -, h6, -⟩ := id hk
  have h9 := (h6.1 (q - 10) (by omega)).2.2.2
  have hr3 := h3 (q - 10) (by omega)
  dsimp only at h9
  rw [show q - 10 + 10 = q by omega] at h9 hr3
  have kk := (k p l e s m args below meth c D tA base kc ad0 n0 hC ad H locs ls g1 g2 g3 hk hW hS hl)
  rw [List.map_cons, show cv kc ad (.retAddr q) = kc q from rfl, unr_ref hr3]
  exact va_tlen hx hb h9 hS rfl hd kk
end XN
