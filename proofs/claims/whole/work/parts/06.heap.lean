-- soundness, third part: fields, arrays, new cells, constants, calls
theorem cls_at : ∀ ci, ci < 10 → CLS[ci]? = some ((clC ci).1, (clC ci).2.1, (clC ci).2.2)
  | 0, _ => rfl | 1, _ => rfl | 2, _ => rfl | 3, _ => rfl | 4, _ => rfl | 5, _ => rfl | 6, _ => rfl | 7, _ => rfl | 8, _ => rfl | 9, _ => rfl
  | n + 10, h => absurd h (by omega)
theorem cls_in {ci : Nat} (h : ci < 10) : ∀ w ∈ u_ws (clC ci).1 (clC ci).2.1 (clC ci).2.2, w ∈ TB := by
  intro w hw
  have h1 := List.all_eq_true.mp cls_ws ci (List.mem_range.mpr h)
  obtain ⟨q, hq⟩ := chkL_ok h1 w hw
  exact inP_ok hq
theorem cls_tyk {ci : Nat} (h : ci < 10) : ∀ k, k < (clC ci).2.2 → parseFieldDescriptor ((clC ci).2.1 k).2.2.1 = some (tyN ci k) := by
  intro k hk
  have h1 := List.all_eq_true.mp (List.all_eq_true.mp cls_ty ci (List.mem_range.mpr h)) k (List.mem_range.mpr hk)
  exact of_decide_eq_true h1
theorem cls_inst {ci : Nat} (h : ci < 10) : Cond.instantiable (clC ci).1 (clC ci).2.2 ∈ TB := by
  obtain ⟨q, hq⟩ := chkL_ok cls_ins ci (List.mem_range.mpr h)
  exact inP_ok hq
theorem ini_in {c : Nat} (h : c < 15) : Cond.initialized (cnm c) ∈ TB := by
  obtain ⟨q, hq⟩ := chkL_ok cn_ini (cnm c) (by
    unfold cnm
    rw [List.getD_eq_getElem?_getD, List.getElem?_eq_getElem (show c < CNM.length from h)]
    exact List.getElem_mem _)
  exact inP_ok hq
theorem cls_cn : ∀ ci, ci < 10 → (clC ci).1 = cnm ci
  | 0, _ => rfl | 1, _ => rfl | 2, _ => rfl | 3, _ => rfl | 4, _ => rfl | 5, _ => rfl | 6, _ => rfl | 7, _ => rfl | 8, _ => rfl | 9, _ => rfl
  | n + 10, h => absurd h (by omega)
theorem fl_in {a idx ci k : Nat} (h : (a, idx, ci, k) ∈ FLL) : Cond.fieldLink (cnm a) idx ((clC ci).2.1 k).1 ((clC ci).2.1 k).2.1 ((clC ci).2.1 k).2.2.1 ∈ TB ∧ ci < 10 ∧ k < (clC ci).2.2 := by
  obtain ⟨q, hq⟩ := chkL_ok fll_ok _ h
  simp only [Bool.and_eq_true] at hq
  exact ⟨inP_ok hq.1.1, by simpa using hq.1.2, by simpa using hq.2⟩
theorem ml_in {a idx j : Nat} (h : (a, idx, j) ∈ MLL) : Cond.methodLink (cnm a) idx (yN j) ∈ TB ∧ j < 223 := by
  obtain ⟨q, hq⟩ := chkL_ok mll_ok _ h
  simp only [Bool.and_eq_true] at hq
  exact ⟨inP_ok hq.1, by simpa using hq.2⟩
theorem mn_in {a idx j : Nat} (h : (a, idx, j) ∈ MNL) : Cond.methodLinkNest (cnm a) idx (yN j) "TurtleBet" ∈ NSW ∧ j < 223 := by
  obtain ⟨q, hq⟩ := chkL_ok mnl_ok _ h
  simp only [Bool.and_eq_true] at hq
  exact ⟨List.mem_filter.mpr ⟨inA_ok hq.1, rfl⟩, by simpa using hq.2⟩
theorem cl_in {a idx c : Nat} (h : (a, idx, c) ∈ CLL) : Cond.classLink (cnm a) idx (clC c).1 ∈ TB ∧ c < 10 := by
  obtain ⟨q, hq⟩ := chkL_ok cll_ok _ h
  simp only [Bool.and_eq_true] at hq
  exact ⟨inP_ok hq.1, by simpa using hq.2⟩
theorem mtb_of {j : Nat} (h : j < 224) : mtb j ∈ MTB := by
  unfold mtb
  rw [List.getD_eq_getElem?_getD, List.getElem?_eq_getElem (show j < MTB.length from h)]
  exact List.getElem_mem _
theorem mt_all {j : Nat} (h : j < 224) : cnm (cnN j) = (yN j).cls ∧ cnN j < 15 ∧ (yN j).cls ≠ "java/lang/invoke/MethodHandle" ∧ (yN j).cls ≠ "java/lang/invoke/VarHandle" ∧ mxN j ≤ 40 := by
  have h1 := List.all_eq_true.mp mt_misc _ (mtb_of h)
  simp only [Bool.and_eq_true, decide_eq_true_eq] at h1
  obtain ⟨⟨⟨⟨a, b⟩, c⟩, d⟩, e⟩ := h1
  exact ⟨a, show (mtb j).1 < 15 by simpa using b, c, d, show (mtb j).2.2.2.1 ≤ 40 by simpa using e⟩
theorem vi_in {j : Nat} (h : j ∈ VIL) : Cond.instanceMethod (yN j) ∈ TB ∧ Cond.selects (yN j).cls (yN j) (yN j) ∈ TB ∧ j < 223 := by
  obtain ⟨q, hq⟩ := chkL_ok vil_ok _ h
  obtain ⟨q2, hq2⟩ := chkL_ok vil_sel _ h
  simp only [Bool.and_eq_true] at hq
  exact ⟨inP_ok hq.1, inP_ok hq2, by simpa using hq.2⟩
theorem si_in {j : Nat} (h : j ∈ SIL) : Cond.static (yN j) ∈ TB ∧ j < 223 := by
  obtain ⟨q, hq⟩ := chkL_ok sil_ok _ h
  simp only [Bool.and_eq_true] at hq
  exact ⟨inP_ok hq.1, by simpa using hq.2⟩
theorem ci_in {j : Nat} (h : j ∈ CIL) : Cond.instanceMethod (yN j) ∈ TB ∧ (yN j).name = "<init>" ∧ j < 223 ∧ rtN j = none := by
  obtain ⟨q, hq⟩ := chkL_ok cil_ok _ h
  simp only [Bool.and_eq_true, decide_eq_true_eq] at hq
  exact ⟨inP_ok hq.1.1.1, hq.1.1.2, by simpa using hq.1.2, hq.2⟩
theorem misc_in : Cond.instanceMethod objectInit ∈ TB ∧ Cond.code objectInit ⟨#[0xb1]⟩ 1 none ∈ TB ∧ Cond.static arraycopyName ∈ TB ∧ Cond.native arraycopyName ∈ TB ∧ Cond.initialized "java/lang/System" ∈ TB := by
  have h := chkL_ok misc_ok
  refine ⟨?_, ?_, ?_, ?_, ?_⟩
  · obtain ⟨q, hq⟩ := h (Cond.instanceMethod objectInit) (by simp); exact inP_ok hq
  · obtain ⟨q, hq⟩ := h (Cond.code objectInit ⟨#[0xb1]⟩ 1 none) (by simp); exact inP_ok hq
  · obtain ⟨q, hq⟩ := h (Cond.static arraycopyName) (by simp); exact inP_ok hq
  · obtain ⟨q, hq⟩ := h (Cond.native arraycopyName) (by simp); exact inP_ok hq
  · obtain ⟨q, hq⟩ := h (Cond.initialized "java/lang/System") (by simp); exact inP_ok hq
theorem cellE_mem {tA : Nat → ClassId} {ad : Nat → Nat} {S : Shp} {mem mem' : Mem} {k : Nat} (h : mem' k = mem k) : cellE tA ad S mem' k = cellE tA ad S mem k := by
  simp only [cellE, h]
theorem cellE_rf {tA : Nat → ClassId} {ad : Nat → Nat} {S : Shp} {mem : Mem} {k : Nat} {r : Nat → Nat → Nat} (h : r k = S.2.2.2 k) : cellE tA ad (S.1, S.2.1, S.2.2.1, r) mem k = cellE tA ad S mem k := by
  simp only [cellE, h]
theorem mu_row {m : Mem} {a i b : Nat} {v : Int32} (h : b ≠ a) : mu m a i v b = m b := by
  funext k
  exact if_neg (fun q => h q.1)
theorem mu_at {m : Mem} {a i : Nat} {v : Int32} : mu m a i v a i = v := if_pos ⟨rfl, rfl⟩
theorem mu_ne {m : Mem} {a i k : Nat} {v : Int32} (h : k ≠ i) : mu m a i v a k = m a k := if_neg (fun q => h q.2)
theorem mu_upd {m : Mem} {a i : Nat} {v : Int32} : mu m a i v a = upd (m a) i v := by
  funext k
  unfold mu upd
  simp
theorem ru_row {r : Nat → Nat → Nat} {a i b v : Nat} (h : b ≠ a) : ru r a i v b = r b := by
  funext k
  exact if_neg (fun q => h q.1)
theorem tys_at {tA : Nat → ClassId} : ∀ t, 23 ≤ t → t < 28 → (tysL tA)[t - 20]? = some (tA t, .object (clC (tagC t)).1)
  | 23, _, _ => rfl | 24, _, _ => rfl | 25, _, _ => rfl | 26, _, _ => rfl | 27, _, _ => rfl
  | 0, h, _ => absurd h (by omega) | 1, h, _ => absurd h (by omega) | 2, h, _ => absurd h (by omega) | 3, h, _ => absurd h (by omega) | 4, h, _ => absurd h (by omega) | 5, h, _ => absurd h (by omega) | 6, h, _ => absurd h (by omega) | 7, h, _ => absurd h (by omega) | 8, h, _ => absurd h (by omega) | 9, h, _ => absurd h (by omega) | 10, h, _ => absurd h (by omega) | 11, h, _ => absurd h (by omega) | 12, h, _ => absurd h (by omega) | 13, h, _ => absurd h (by omega) | 14, h, _ => absurd h (by omega) | 15, h, _ => absurd h (by omega) | 16, h, _ => absurd h (by omega) | 17, h, _ => absurd h (by omega) | 18, h, _ => absurd h (by omega) | 19, h, _ => absurd h (by omega) | 20, h, _ => absurd h (by omega) | 21, h, _ => absurd h (by omega) | 22, h, _ => absurd h (by omega)
  | n + 28, _, h => absurd h (by omega)
theorem tagC_lt (t : Nat) : tagC t < 10 := by
  unfold tagC
  split <;> decide
section XH
variable {d j pc : Nat} {L : Lvs} {st : List Value} {S : Shp} {cs : Nat × Nat} {mem : Mem} {Q : Qt}
theorem xs_getI {idx ci k a : Nat} (hd : decode (byN j) pc = .ok (.getfield idx, 3)) (hf : (cnN j, idx, ci, k) ∈ FLL) (hty : tyN ci k = .int ∨ tyN ci k = .boolean) (h1 : S.2.1 a = ci) (h2 : a < S.1) (kk : Xs d j (pc + 3) L (.int (mem a k) :: st) S cs mem Q) : Xs d j pc L (.ref a :: st) S cs mem Q := by
  intro p l e s m args below meth c D tA base kc ad0 n0 hC ad H locs ls g1 g2 g3 hk hW hS hl
  obtain ⟨hx, hb, hr, hml, hown, hts, hlk, hnm, hkt, hbs⟩ := id hC
  obtain ⟨f1, f2, f3⟩ := fl_in hf
  refine va_get (D := D) (cl := CLS) (ci := ci) (v := .int (mem a k)) (C := (clC ci).1) (T := (clC ci).2.1) (N := (clC ci).2.2) hx hb hts (cls_in f2) hown hkt.1 hW.1 a (fs := fsL ad S mem ci a) (by rw [wl_get h2, cellE_obj h1 f2]) (cls_at _ f2) k f3 (hts _ f1) (fun _ h9 => h9) (by rw [fsL_get f3]; rcases hty with e9 | e9 <;> rw [e9] <;> rfl) hd ?_
  exact kk p l e s m args below meth c D tA base kc ad0 n0 hC ad H locs ls g1 g2 g3 hk hW hS hl
def isRefT (t : FieldType) : Bool := match t with
  | .object _ => true
  | .array _ => true
  | _ => false
theorem fval_ref {ad : Nat → Nat} {ty : FieldType} (h : isRefT ty = true) (r : Nat) (x : Int32) : fval ad ty r x = va_rf (rop ad r) := by
  cases ty <;> first | rfl | cases h
theorem rop_pos {ad : Nat → Nat} {r : Nat} (h : ¬ r = 0) : rop ad r = some (ad (r - 1)) := by
  cases r with
  | zero => exact absurd rfl h
  | succ n => rfl
theorem xs_getR {idx ci k a : Nat} (hd : decode (byN j) pc = .ok (.getfield idx, 3)) (hf : (cnN j, idx, ci, k) ∈ FLL) (hty : isRefT (tyN ci k) = true) (h1 : S.2.1 a = ci) (h2 : a < S.1) (h3 : ¬ S.2.2.2 a k = 0) (kk : Xs d j (pc + 3) L (.ref (S.2.2.2 a k - 1) :: st) S cs mem Q) : Xs d j pc L (.ref a :: st) S cs mem Q := by
  intro p l e s m args below meth c D tA base kc ad0 n0 hC ad H locs ls g1 g2 g3 hk hW hS hl
  obtain ⟨hx, hb, hr, hml, hown, hts, hlk, hnm, hkt, hbs⟩ := id hC
  obtain ⟨f1, f2, f3⟩ := fl_in hf
  refine va_get (D := D) (cl := CLS) (ci := ci) (v := .ref (ad (S.2.2.2 a k - 1))) (C := (clC ci).1) (T := (clC ci).2.1) (N := (clC ci).2.2) hx hb hts (cls_in f2) hown hkt.1 hW.1 a (fs := fsL ad S mem ci a) (by rw [wl_get h2, cellE_obj h1 f2]) (cls_at _ f2) k f3 (hts _ f1) (fun _ h9 => h9) (by rw [fsL_get f3, fval_ref hty, rop_pos h3]; rfl) hd ?_
  exact kk p l e s m args below meth c D tA base kc ad0 n0 hC ad H locs ls g1 g2 g3 hk hW hS hl
/-- the next world, behind a store into the memory of cell a -/
theorem wh_next {D : va_G} {tA : Nat → ClassId} {base : Nat} {ad : Nat → Nat} {s : State} {H H1 : Heap} {locs1 : List Loc} {S' : Shp} {mem' : Mem} {a : Nat} {en : va_E} (hW : Wh D tA base ad S mem H) (hf : Wf S') (hbs : base ≤ s.heap.size) (hn : S'.1 = S.1) (he : cellE tA ad S' mem' a = en) (ho : ∀ k, k < S.1 → k ≠ a → cellE tA ad S' mem' k = cellE tA ad S mem k)
    (hP : va_P D CLS ((wl tA ad S mem).set a (ad a, en)) H1) (hD : va_D (Gf base) ((wl tA ad S mem).set a (ad a, en))) (hS1 : va_S (Gf base) s.heap H1 locs1) : Wh D tA base ad S' mem' H1 := by
  rw [wl_set hn he ho] at hP hD
  exact ⟨hP, hD, hf, Nat.le_trans hbs hS1.1⟩
theorem xs_putV {idx ci k a : Nat} {v : Value} {S' : Shp} {mem' : Mem} (hd : decode (byN j) pc = .ok (.putfield idx, 3)) (hf : (cnN j, idx, ci, k) ∈ FLL) (hfin : ((clC ci).2.1 k).2.2.2 = false ∨ ((yN j).name = "<init>" ∧ ((clC ci).2.1 k).1 = cnm (cnN j)))
    (h1 : S.2.1 a = ci) (h2 : a < S.1) (hcv : ∀ ad : Nat → Nat, ∀ kc : Nat → Value, narrow (tyN ci k) (cv kc ad v) = cv kc ad v ∧ fits (tyN ci k) (cv kc ad v) = true ∧ fval ad (tyN ci k) (S'.2.2.2 a k) (mem' a k) = cv kc ad v)
    (e1 : S'.1 = S.1) (e2 : S'.2.1 = S.2.1) (e3 : S'.2.2.1 = S.2.2.1) (e4 : ∀ b, b ≠ a → S'.2.2.2 b = S.2.2.2 b) (e5 : ∀ b, b ≠ a → mem' b = mem b) (e6 : ∀ g, g ≠ k → S'.2.2.2 a g = S.2.2.2 a g ∧ mem' a g = mem a g) (e7 : Wf S → Wf S')
    (kk : Xs d j (pc + 3) L st S' cs mem' Q) : Xs d j pc L (v :: .ref a :: st) S cs mem Q := by
  intro p l e s m args below meth c D tA base kc ad0 n0 hC ad H locs ls g1 g2 g3 hk hW hS hl
  obtain ⟨hx, hb, hr, hml, hown, hts, hlk, hnm, hkt, hbs⟩ := id hC
  obtain ⟨f1, f2, f3⟩ := fl_in hf
  obtain ⟨n1, n2, n3⟩ := hcv ad kc
  have hd9 := cls_tyk f2 k f3
  have key : ∀ (H1 : Heap) (locs1 : List Loc), va_P D CLS ((wl tA ad S mem).set a (ad a, .inr (ci, (fsL ad S mem ci a).set k (cv kc ad v)))) H1 → va_D (Gf base) ((wl tA ad S mem).set a (ad a, .inr (ci, (fsL ad S mem ci a).set k (cv kc ad v)))) → va_S (Gf base) s.heap H1 locs1 →
      W p l e (rmN d j) s m args below meth c H1 locs1 cs.1 cs.2 (MQ below (Qc j D tA base kc ad0 n0 Q) args s (mcN j) (msN j) (Gf base)) (F0 m (pc + 3) ls (st.map (cv kc ad))) := by
    intro H1 locs1 hP1 hD1 hS1
    have hW1 : Wh D tA base ad S' mem' H1 := wh_next hW (e7 hW.2.2.1) hbs e1 (by rw [cellE_obj (by rw [e2]; exact h1) f2, fsL_set n3 e6]) (fun q _ hq => by simp only [cellE, e2, e3, e4 q hq, e5 q hq]) hP1 hD1 hS1
    have h900 : (900 : Nat) ≠ a := by have := hW.2.2.1.1; omega
    exact kk p l e s m args below meth c D tA base kc ad0 n0 hC ad H1 locs1 ls g1 (by rw [e1]; exact g2) g3 (by rw [e3, e5 900 h900]; exact hk) hW1 hS1 hl
  have h9 : (wl tA ad S mem)[a]? = some (ad a, .inr (ci, fsL ad S mem ci a)) := by rw [wl_get h2, cellE_obj h1 f2]
  cases hq : ((clC ci).2.1 k).2.2.2 with
  | false => exact va_put (D := D) (cl := CLS) (ci := ci) (v := cv kc ad v) (ty := tyN ci k) (C := (clC ci).1) (T := (clC ci).2.1) (N := (clC ci).2.2) hx hb hts (cls_in f2) (tyN ci) (cls_tyk f2) (cls_nm ci f2) hown hkt.1 hW.1 hW.2.1 hS a h9 (cls_at _ f2) k f3 (hts _ f1) (fun _ h9 => h9) hq hd9 n1 n2 (by rw [fsL_len]; exact f3) hd key
  | true =>
    rcases hfin with h | ⟨h, h'⟩
    · rw [hq] at h; cases h
    · exact va_putF (D := D) (cl := CLS) (ci := ci) (v := cv kc ad v) (ty := tyN ci k) (C := (clC ci).1) (T := (clC ci).2.1) (N := (clC ci).2.2) hx hb hts (cls_in f2) (tyN ci) (cls_tyk f2) (cls_nm ci f2) hown hkt.1 hW.1 hW.2.1 hS a h9 (cls_at _ f2) k f3 (hts _ f1) (fun _ h9 => h9) hq (hnm.trans h) h' hd9 n1 n2 (by rw [fsL_len]; exact f3) hd key
theorem xs_putI {idx ci k a : Nat} {x : Int32} (hd : decode (byN j) pc = .ok (.putfield idx, 3)) (hf : (cnN j, idx, ci, k) ∈ FLL) (hfin : ((clC ci).2.1 k).2.2.2 = false ∨ ((yN j).name = "<init>" ∧ ((clC ci).2.1 k).1 = cnm (cnN j))) (hty : tyN ci k = .int ∨ (tyN ci k = .boolean ∧ (x = 0 ∨ x = 1)))
    (h1 : S.2.1 a = ci) (h2 : a < S.1) (kk : Xs d j (pc + 3) L st S cs (mu mem a k x) Q) : Xs d j pc L (.int x :: .ref a :: st) S cs mem Q := by
  refine xs_putV (S' := S) (mem' := mu mem a k x) hd hf hfin h1 h2 (fun ad kc => ?_) rfl rfl rfl (fun _ _ => rfl) (fun b hb => mu_row hb) (fun g hg => ⟨rfl, mu_ne hg⟩) id kk
  rw [mu_at]
  rcases hty with e9 | ⟨e9, h | h⟩
  · rw [e9]; exact ⟨rfl, rfl, rfl⟩
  · rw [e9, h]; exact ⟨rfl, rfl, rfl⟩
  · rw [e9, h]; exact ⟨rfl, rfl, rfl⟩
theorem Wf_ru {a i b : Nat} (hb : b < S.1) (h : Wf S) : Wf (S.1, S.2.1, S.2.2.1, ru S.2.2.2 a i (b + 1)) := by
  refine ⟨h.1, h.2.1, fun k f hk => ?_⟩
  show ru S.2.2.2 a i (b + 1) k f ≤ S.1
  unfold ru
  split
  · omega
  · exact h.2.2 k f hk
theorem xs_putR {idx ci k a b : Nat} (hd : decode (byN j) pc = .ok (.putfield idx, 3)) (hf : (cnN j, idx, ci, k) ∈ FLL) (hfin : ((clC ci).2.1 k).2.2.2 = false ∨ ((yN j).name = "<init>" ∧ ((clC ci).2.1 k).1 = cnm (cnN j))) (hty : isRefT (tyN ci k) = true)
    (h1 : S.2.1 a = ci) (h2 : a < S.1) (h3 : b < S.1) (kk : Xs d j (pc + 3) L st (S.1, S.2.1, S.2.2.1, ru S.2.2.2 a k (b + 1)) cs mem Q) : Xs d j pc L (.ref b :: .ref a :: st) S cs mem Q := by
  refine xs_putV (S' := (S.1, S.2.1, S.2.2.1, ru S.2.2.2 a k (b + 1))) (mem' := mem) hd hf hfin h1 h2 (fun ad kc => ?_) rfl rfl rfl (fun _ h => ru_row h) (fun _ _ => rfl) (fun g hg => ⟨if_neg (fun q => hg q.2), rfl⟩) (Wf_ru h3) kk
  have e8 : ru S.2.2.2 a k (b + 1) a k = b + 1 := if_pos ⟨rfl, rfl⟩
  refine ⟨?_, ?_, ?_⟩
  · show narrow (tyN ci k) (.ref (ad b)) = .ref (ad b)
    revert hty; cases tyN ci k <;> intro hty <;> first | rfl | cases hty
  · show fits (tyN ci k) (.ref (ad b)) = true
    revert hty; cases tyN ci k <;> intro hty <;> first | rfl | cases hty
  · show fval ad (tyN ci k) (ru S.2.2.2 a k (b + 1) a k) (mem a k) = .ref (ad b)
    rw [e8, fval_ref hty]; rfl
-- arrays
theorem xs_iaload {i : Int32} {a : Nat} (hd : decode (byN j) pc = .ok (.iaload, 1)) (h1 : S.2.1 a = 20) (h2 : a < S.1) (hin : vp_in i (S.2.2.1 a)) (k : Xs d j (pc + 1) L (.int (mem a i.toNatClampNeg) :: st) S cs mem Q) : Xs d j pc L (.int i :: .ref a :: st) S cs mem Q := by
  intro p l e s m args below meth c D tA base kc ad0 n0 hC ad H locs ls g1 g2 g3 hk hW hS hl
  obtain ⟨hx, hb, hr, hml, hown, hts, hlk, hnm, hkt, hbs⟩ := id hC
  exact va_iald hx hb hkt.1 hW.1 a 0 (by rw [wl_get h2, cellE_int h1 (by omega) (by omega)]) rfl hin hd (k p l e s m args below meth c D tA base kc ad0 n0 hC ad H locs ls g1 g2 g3 hk hW hS hl)
theorem xs_zaload {i : Int32} {a : Nat} (hd : decode (byN j) pc = .ok (.baload, 1)) (h1 : S.2.1 a = 21) (h2 : a < S.1) (hin : vp_in i (S.2.2.1 a)) (k : Xs d j (pc + 1) L (.int (mem a i.toNatClampNeg) :: st) S cs mem Q) : Xs d j pc L (.int i :: .ref a :: st) S cs mem Q := by
  intro p l e s m args below meth c D tA base kc ad0 n0 hC ad H locs ls g1 g2 g3 hk hW hS hl
  obtain ⟨hx, hb, hr, hml, hown, hts, hlk, hnm, hkt, hbs⟩ := id hC
  exact va_zald hx hb hkt.1 hW.1 a 1 (by rw [wl_get h2, cellE_int h1 (by omega) (by omega)]) rfl hin hd (k p l e s m args below meth c D tA base kc ad0 n0 hC ad H locs ls g1 g2 g3 hk hW hS hl)
theorem xs_caload {i : Int32} {a : Nat} (hd : decode (byN j) pc = .ok (.caload, 1)) (h1 : S.2.1 a = 22) (h2 : a < S.1) (hin : vp_in i (S.2.2.1 a)) (k : Xs d j (pc + 1) L (.int (mem a i.toNatClampNeg) :: st) S cs mem Q) : Xs d j pc L (.int i :: .ref a :: st) S cs mem Q := by
  intro p l e s m args below meth c D tA base kc ad0 n0 hC ad H locs ls g1 g2 g3 hk hW hS hl
  obtain ⟨hx, hb, hr, hml, hown, hts, hlk, hnm, hkt, hbs⟩ := id hC
  exact va_cald hx hb hkt.1 hW.1 a 2 (by rw [wl_get h2, cellE_int h1 (by omega) (by omega)]) rfl hin hd (k p l e s m args below meth c D tA base kc ad0 n0 hC ad H locs ls g1 g2 g3 hk hW hS hl)
theorem xs_aaload {i : Int32} {a : Nat} (hd : decode (byN j) pc = .ok (.aaload, 1)) (h1 : 23 ≤ S.2.1 a) (h2 : a < S.1) (hin : vp_in i (S.2.2.1 a)) (h3 : ¬ S.2.2.2 a i.toNatClampNeg = 0) (k : Xs d j (pc + 1) L (.ref (S.2.2.2 a i.toNatClampNeg - 1) :: st) S cs mem Q) : Xs d j pc L (.int i :: .ref a :: st) S cs mem Q := by
  intro p l e s m args below meth c D tA base kc ad0 n0 hC ad H locs ls g1 g2 g3 hk hW hS hl
  obtain ⟨hx, hb, hr, hml, hown, hts, hlk, hnm, hkt, hbs⟩ := id hC
  have ht : S.2.1 a < 28 := by rcases hW.2.2.1.2.1 a h2 with h | h <;> omega
  have kk := (k p l e s m args below meth c D tA base kc ad0 n0 hC ad H locs ls g1 g2 g3 hk hW hS hl)
  refine va_aldq hx hb hkt.1 hW.1 a (S.2.1 a - 20) (by rw [wl_get h2, cellE_ref rfl h1]) (tys_at _ h1 ht) hin hd ?_
  rw [rop_pos h3]
  exact kk
/-- the common end of the stores into arrays of ints -/
theorem xs_astK {i : Int32} {a t : Nat} {x : Int32} {D : va_G} {tA : Nat → ClassId} {base : Nat} {kc : Nat → Value} {ad ad0 : Nat → Nat} {n0 : Nat} {p : Program} {l : Launch} {e : Env} {s : State} {m : MethodId} {args : Array Value} {below : List Frame} {meth : Method} {c : Code} {H : Heap} {ls : Array Slot}
    (hC : Cx j p s m args meth c D tA base) (g1 : ∀ k, k < n0 → ad k = ad0 k) (g2 : n0 ≤ S.1) (g3 : mcN j = 0 → ad = ad0) (hk : Kst base kc (S.2.2.1 900) (mem 900) s s.heap) (hW : Wh D tA base ad S mem H) (hl : lvh kc ad ls (mxN j) L) (h1 : S.2.1 a = t) (ht1 : 20 ≤ t) (ht2 : t < 23) (h2 : a < S.1) (k : Xs d j (pc + 1) L st S cs (mu mem a i.toNatClampNeg x) Q) :
    ∀ (H1 : Heap) (locs1 : List Loc), va_P D CLS ((wl tA ad S mem).set a (ad a, .inl (tA t, S.2.2.1 a, .inl (upd (mem a) i.toNatClampNeg x)))) H1 → va_D (Gf base) ((wl tA ad S mem).set a (ad a, .inl (tA t, S.2.2.1 a, .inl (upd (mem a) i.toNatClampNeg x)))) → va_S (Gf base) s.heap H1 locs1 →
      W p l e (rmN d j) s m args below meth c H1 locs1 cs.1 cs.2 (MQ below (Qc j D tA base kc ad0 n0 Q) args s (mcN j) (msN j) (Gf base)) (F0 m (pc + 1) ls (st.map (cv kc ad))) := by
  obtain ⟨hx, hb, hr, hml, hown, hts, hlk, hnm, hkt, hbs⟩ := id hC
  intro H1 locs1 hP1 hD1 hS1
  have hW1 : Wh D tA base ad S (mu mem a i.toNatClampNeg x) H1 := wh_next hW hW.2.2.1 hbs rfl (by rw [cellE_int h1 ht1 ht2, mu_upd]) (fun q _ hq => cellE_mem (mu_row hq)) hP1 hD1 hS1
  have h900 : (900 : Nat) ≠ a := by have := hW.2.2.1.1; omega
  exact k p l e s m args below meth c D tA base kc ad0 n0 hC ad H1 locs1 ls g1 g2 g3 (hk.ext (mu_row h900)) hW1 hS1 hl
theorem xs_iastore {i x : Int32} {a : Nat} (hd : decode (byN j) pc = .ok (.iastore, 1)) (h1 : S.2.1 a = 20) (h2 : a < S.1) (hin : vp_in i (S.2.2.1 a)) (k : Xs d j (pc + 1) L st S cs (mu mem a i.toNatClampNeg x) Q) : Xs d j pc L (.int x :: .int i :: .ref a :: st) S cs mem Q := by
  intro p l e s m args below meth c D tA base kc ad0 n0 hC ad H locs ls g1 g2 g3 hk hW hS hl
  obtain ⟨hx, hb, hr, hml, hown, hts, hlk, hnm, hkt, hbs⟩ := id hC
  exact va_iast hx hb hkt.1 hW.1 hW.2.1 hS a 0 (by rw [wl_get h2, cellE_int h1 (by omega) (by omega)]) rfl hin hd (xs_astK hC g1 g2 g3 hk hW hl h1 (by omega) (by omega) h2 k)
theorem xs_zastore {i x : Int32} {a : Nat} (hd : decode (byN j) pc = .ok (.bastore, 1)) (h1 : S.2.1 a = 21) (h2 : a < S.1) (hin : vp_in i (S.2.2.1 a)) (k : Xs d j (pc + 1) L st S cs (mu mem a i.toNatClampNeg (x &&& 1)) Q) : Xs d j pc L (.int x :: .int i :: .ref a :: st) S cs mem Q := by
  intro p l e s m args below meth c D tA base kc ad0 n0 hC ad H locs ls g1 g2 g3 hk hW hS hl
  obtain ⟨hx, hb, hr, hml, hown, hts, hlk, hnm, hkt, hbs⟩ := id hC
  exact va_zast hx hb hkt.1 hW.1 hW.2.1 hS a 1 (by rw [wl_get h2, cellE_int h1 (by omega) (by omega)]) rfl hin hd (xs_astK hC g1 g2 g3 hk hW hl h1 (by omega) (by omega) h2 k)
theorem xs_castore {i x : Int32} {a : Nat} (hd : decode (byN j) pc = .ok (.castore, 1)) (h1 : S.2.1 a = 22) (h2 : a < S.1) (hin : vp_in i (S.2.2.1 a)) (k : Xs d j (pc + 1) L st S cs (mu mem a i.toNatClampNeg x.toUInt32.toUInt16.toUInt32.toInt32) Q) : Xs d j pc L (.int x :: .int i :: .ref a :: st) S cs mem Q := by
  intro p l e s m args below meth c D tA base kc ad0 n0 hC ad H locs ls g1 g2 g3 hk hW hS hl
  obtain ⟨hx, hb, hr, hml, hown, hts, hlk, hnm, hkt, hbs⟩ := id hC
  exact va_cast hx hb hkt.1 hW.1 hW.2.1 hS a 2 (by rw [wl_get h2, cellE_int h1 (by omega) (by omega)]) rfl hin hd (xs_astK hC g1 g2 g3 hk hW hl h1 (by omega) (by omega) h2 k)
theorem xs_aastore {i : Int32} {a b : Nat} (hd : decode (byN j) pc = .ok (.aastore, 1)) (h1 : 23 ≤ S.2.1 a) (h2 : a < S.1) (h3 : b < S.1) (h4 : S.2.1 b = tagC (S.2.1 a)) (hin : vp_in i (S.2.2.1 a)) (k : Xs d j (pc + 1) L st (S.1, S.2.1, S.2.2.1, ru S.2.2.2 a i.toNatClampNeg (b + 1)) cs mem Q) : Xs d j pc L (.ref b :: .int i :: .ref a :: st) S cs mem Q := by
  intro p l e s m args below meth c D tA base kc ad0 n0 hC ad H locs ls g1 g2 g3 hk hW hS hl
  obtain ⟨hx, hb, hr, hml, hown, hts, hlk, hnm, hkt, hbs⟩ := id hC
  have ht : S.2.1 a < 28 := by rcases hW.2.2.1.2.1 a h2 with h | h <;> omega
  refine va_astq hx hb hkt.1 hW.1 hW.2.1 hS a (S.2.1 a - 20) b (tagC (S.2.1 a)) (r := ((clC (tagC (S.2.1 a))).1, (clC (tagC (S.2.1 a))).2.1, (clC (tagC (S.2.1 a))).2.2)) (by rw [wl_get h2, cellE_ref rfl h1]) (tys_at _ h1 ht) (by rw [wl_get h3, cellE_obj h4 (tagC_lt _)]) (cls_at _ (tagC_lt _)) hin hd ?_
  intro H1 locs1 hP1 hD1 hS1
  have hW1 : Wh D tA base ad (S.1, S.2.1, S.2.2.1, ru S.2.2.2 a i.toNatClampNeg (b + 1)) mem H1 := by
    refine wh_next hW (Wf_ru h3 hW.2.2.1) hbs rfl ?_ (fun q _ hq => cellE_rf (ru_row hq)) hP1 hD1 hS1
    rw [cellE_ref (S := (S.1, S.2.1, S.2.2.1, ru S.2.2.2 a i.toNatClampNeg (b + 1))) (t := S.2.1 a) rfl h1]
    congr 7
    funext q
    show rop ad (ru S.2.2.2 a i.toNatClampNeg (b + 1) a q) = va_up (fun q => rop ad (S.2.2.2 a q)) i.toNatClampNeg (some (ad b)) q
    unfold ru va_up
    by_cases hq : q = i.toNatClampNeg
    · subst hq; simp [rop]
    · simp [hq]
  exact k p l e s m args below meth c D tA base kc ad0 n0 hC ad H1 locs1 ls g1 g2 g3 hk hW1 hS1 hl
theorem tys_any {tA : Nat → ClassId} : ∀ t, 20 ≤ t → t < 28 → ∃ ty, (tysL tA)[t - 20]? = some (tA t, ty) := by
  intro t h1 h2
  rcases Nat.lt_or_ge t 23 with h | h
  · rcases (show t = 20 ∨ t = 21 ∨ t = 22 by omega) with rfl | rfl | rfl
    · exact ⟨_, rfl⟩
    · exact ⟨_, rfl⟩
    · exact ⟨_, rfl⟩
  · exact ⟨_, tys_at t h h2⟩
theorem xs_alen {a : Nat} (hd : decode (byN j) pc = .ok (.arraylength, 1)) (h1 : 20 ≤ S.2.1 a) (h2 : a < S.1) (k : Xs d j (pc + 1) L (.int (Int32.ofNat (S.2.2.1 a)) :: st) S cs mem Q) : Xs d j pc L (.ref a :: st) S cs mem Q := by
  intro p l e s m args below meth c D tA base kc ad0 n0 hC ad H locs ls g1 g2 g3 hk hW hS hl
  obtain ⟨hx, hb, hr, hml, hown, hts, hlk, hnm, hkt, hbs⟩ := id hC
  have ht : S.2.1 a < 28 := by rcases hW.2.2.1.2.1 a h2 with h | h <;> omega
  obtain ⟨ty, hty⟩ := tys_any (tA := tA) _ h1 ht
  have kk := (k p l e s m args below meth c D tA base kc ad0 n0 hC ad H locs ls g1 g2 g3 hk hW hS hl)
  rcases Nat.lt_or_ge (S.2.1 a) 23 with h | h
  · exact va_alen (x := (S.2.2.1 a, .inl (mem a))) hx hb hkt.1 hW.1 a (S.2.1 a - 20) (by rw [wl_get h2, cellE_int rfl h1 h]) hty rfl hd kk
  · exact va_alen (x := (S.2.2.1 a, .inr (.inr (.inr (.inr (fun i => rop ad (S.2.2.2 a i))))))) hx hb hkt.1 hW.1 a (S.2.1 a - 20) (by rw [wl_get h2, cellE_ref rfl h]) hty rfl hd kk
theorem xs_copy {idx : Nat} {n dp sp : Int32} {a b : Nat} (hd : decode (byN j) pc = .ok (.invokestatic idx, 3)) (hi : (cnN j, idx) ∈ ACL) (h1 : S.2.1 a = 20) (h2 : S.2.1 b = 20) (h3 : a < S.1) (h4 : b < S.1) (h5 : ¬ sp < 0) (h6 : ¬ dp < 0) (h7 : ¬ n < 0) (h8 : sp.toNatClampNeg + n.toNatClampNeg ≤ S.2.2.1 a) (h9 : dp.toNatClampNeg + n.toNatClampNeg ≤ S.2.2.1 b) (hc : cats st ≤ 8)
    (k : Xs (d + 1) j (pc + 3) L st S cs (fun q => if q = b then va_cpy (mem a) (mem b) sp.toNatClampNeg dp.toNatClampNeg n.toNatClampNeg else mem q) Q) : Xs (d + 1) j pc L (.int n :: .int dp :: .ref b :: .int sp :: .ref a :: st) S cs mem Q := by
  intro p l e s m args below meth c D tA base kc ad0 n0 hC ad H locs ls g1 g2 g3 hk hW hS hl
  obtain ⟨hx, hb, hr, hml, hown, hts, hlk, hnm, hkt, hbs⟩ := id hC
  obtain ⟨q9, hq9⟩ := chkL_ok acl_ok _ hi
  obtain ⟨-, -, w3, w4, w5⟩ := misc_in
  have hcat : ((st.map (cv kc ad)).map fun v => v.category).sum ≤ 8 := by
    rw [List.map_map]
    have : ((fun v : Value => v.category) ∘ cv kc ad) = fun v => v.category := by funext v; exact cv_cat hk.1 v
    rw [this]; exact hc
  refine va_copyi hx hb (hml.trans hl.1.symm) hown (hts _ (inP_ok hq9)) (hts _ w4) (hts _ w3) (hts _ w5) hkt.1 hW.1 hW.2.1 hS a b 0 0 (by rw [wl_get h3, cellE_int h1 (by omega) (by omega)]) (by rw [wl_get h4, cellE_int h2 (by omega) (by omega)]) rfl rfl rfl h5 h6 h7 h8 h9 (fun _ _ => rfl) (by show 1 ≤ d + 1; omega) (by
    have e9 : nativeFrameWords "java/lang/System" "arraycopy" 5 = 7 := by decide +kernel
    rw [e9]
    show _ ≤ 128 * (d + 1)
    omega) hd ?_
  intro H1 locs1 hP1 hD1 hS1
  have hrow : ∀ q, q ≠ b → (fun q => if q = b then va_cpy (mem a) (mem b) sp.toNatClampNeg dp.toNatClampNeg n.toNatClampNeg else mem q) q = mem q := fun q hq => if_neg hq
  have hW1 : Wh D tA base ad S (fun q => if q = b then va_cpy (mem a) (mem b) sp.toNatClampNeg dp.toNatClampNeg n.toNatClampNeg else mem q) H1 := wh_next hW hW.2.2.1 hbs rfl (by rw [cellE_int h2 (by omega) (by omega), if_pos rfl]) (fun q _ hq => cellE_mem (hrow q hq)) hP1 hD1 hS1
  have h900 : (900 : Nat) ≠ b := by have := hW.2.2.1.1; omega
  exact k p l e s m args below meth c D tA base kc ad0 n0 hC ad H1 locs1 ls g1 g2 g3 (hk.ext (hrow 900 h900)) hW1 hS1 hl
theorem xs_obj {idx a : Nat} (hd : decode (byN j) pc = .ok (.invokespecial idx, 3)) (hi : (cnN j, idx) ∈ OIL) (hc : cats st ≤ 8) (k : Xs (d + 1) j (pc + 3) L st S cs mem Q) : Xs (d + 1) j pc L (.ref a :: st) S cs mem Q := by
  intro p l e s m args below meth c D tA base kc ad0 n0 hC ad H locs ls g1 g2 g3 hk hW hS hl
  obtain ⟨hx, hb, hr, hml, hown, hts, hlk, hnm, hkt, hbs⟩ := id hC
  obtain ⟨q9, hq9⟩ := chkL_ok oil_ok _ hi
  obtain ⟨w1, w2, -, -, -⟩ := misc_in
  have hcat : ((st.map (cv kc ad)).map fun v => v.category).sum ≤ 8 := by
    rw [List.map_map]
    have : ((fun v : Value => v.category) ∘ cv kc ad) = fun v => v.category := by funext v; exact cv_cat hk.1 v
    rw [this]; exact hc
  refine W.objInit hx hb hown (hts _ (inP_ok hq9)) (hts _ w1) (hts _ w2) rfl (hl.1.trans hml.symm) rfl hd (by show 1 ≤ d + 1; omega) (by show 2 * 0 + _ + 12 ≤ 128 * (d + 1); omega) (k p l e s m args below meth c D tA base kc ad0 n0 hC ad H locs ls g1 g2 g3 hk hW hS hl)
end XH
