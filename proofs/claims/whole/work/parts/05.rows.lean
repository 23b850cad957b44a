-- soundness, second part: one row an instruction; written by wip/gen/mk05.py
section XR
variable {d j pc : Nat} {L : Lvs} {st : List Value} {S : Shp} {cs : Nat × Nat} {mem : Mem} {Q : Qt}
theorem xs_iadd {x y : Int32} (hd : decode (byN j) pc = .ok (.iadd, 1))  (k : Xs d j (pc + 1) L (.int (x + y) :: st) S cs mem Q) : Xs d j pc L (.int y :: .int x :: st) S cs mem Q := by
  intro p l e s m args below meth c D tA base kc ad0 n0 hC ad H locs ls g1 g2 g3 hk hW hS hl
  exact lv_iadd hC.1 hC.2.1 hd  (k p l e s m args below meth c D tA base kc ad0 n0 hC ad H locs ls g1 g2 g3 hk hW hS hl)
theorem xs_isub {x y : Int32} (hd : decode (byN j) pc = .ok (.isub, 1))  (k : Xs d j (pc + 1) L (.int (x - y) :: st) S cs mem Q) : Xs d j pc L (.int y :: .int x :: st) S cs mem Q := by
  intro p l e s m args below meth c D tA base kc ad0 n0 hC ad H locs ls g1 g2 g3 hk hW hS hl
  exact lv_isub hC.1 hC.2.1 hd  (k p l e s m args below meth c D tA base kc ad0 n0 hC ad H locs ls g1 g2 g3 hk hW hS hl)
theorem xs_imul {x y : Int32} (hd : decode (byN j) pc = .ok (.imul, 1))  (k : Xs d j (pc + 1) L (.int (x * y) :: st) S cs mem Q) : Xs d j pc L (.int y :: .int x :: st) S cs mem Q := by
  intro p l e s m args below meth c D tA base kc ad0 n0 hC ad H locs ls g1 g2 g3 hk hW hS hl
  exact lv_imul hC.1 hC.2.1 hd  (k p l e s m args below meth c D tA base kc ad0 n0 hC ad H locs ls g1 g2 g3 hk hW hS hl)
theorem xs_iand {x y : Int32} (hd : decode (byN j) pc = .ok (.iand, 1))  (k : Xs d j (pc + 1) L (.int (x &&& y) :: st) S cs mem Q) : Xs d j pc L (.int y :: .int x :: st) S cs mem Q := by
  intro p l e s m args below meth c D tA base kc ad0 n0 hC ad H locs ls g1 g2 g3 hk hW hS hl
  exact lv_iand hC.1 hC.2.1 hd  (k p l e s m args below meth c D tA base kc ad0 n0 hC ad H locs ls g1 g2 g3 hk hW hS hl)
theorem xs_ixor {x y : Int32} (hd : decode (byN j) pc = .ok (.ixor, 1))  (k : Xs d j (pc + 1) L (.int (x ^^^ y) :: st) S cs mem Q) : Xs d j pc L (.int y :: .int x :: st) S cs mem Q := by
  intro p l e s m args below meth c D tA base kc ad0 n0 hC ad H locs ls g1 g2 g3 hk hW hS hl
  exact lv_ixor hC.1 hC.2.1 hd  (k p l e s m args below meth c D tA base kc ad0 n0 hC ad H locs ls g1 g2 g3 hk hW hS hl)
theorem xs_ishl {x y : Int32} (hd : decode (byN j) pc = .ok (.ishl, 1))  (k : Xs d j (pc + 1) L (.int (x <<< (y &&& 31)) :: st) S cs mem Q) : Xs d j pc L (.int y :: .int x :: st) S cs mem Q := by
  intro p l e s m args below meth c D tA base kc ad0 n0 hC ad H locs ls g1 g2 g3 hk hW hS hl
  exact lv_ishl hC.1 hC.2.1 hd  (k p l e s m args below meth c D tA base kc ad0 n0 hC ad H locs ls g1 g2 g3 hk hW hS hl)
theorem xs_ishr {x y : Int32} (hd : decode (byN j) pc = .ok (.ishr, 1))  (k : Xs d j (pc + 1) L (.int (x >>> (y &&& 31)) :: st) S cs mem Q) : Xs d j pc L (.int y :: .int x :: st) S cs mem Q := by
  intro p l e s m args below meth c D tA base kc ad0 n0 hC ad H locs ls g1 g2 g3 hk hW hS hl
  exact lv_ishr hC.1 hC.2.1 hd  (k p l e s m args below meth c D tA base kc ad0 n0 hC ad H locs ls g1 g2 g3 hk hW hS hl)
theorem xs_iushr {x y : Int32} (hd : decode (byN j) pc = .ok (.iushr, 1))  (k : Xs d j (pc + 1) L (.int ((x.toUInt32 >>> (y.toUInt32 &&& Int32.toUInt32 31)).toInt32) :: st) S cs mem Q) : Xs d j pc L (.int y :: .int x :: st) S cs mem Q := by
  intro p l e s m args below meth c D tA base kc ad0 n0 hC ad H locs ls g1 g2 g3 hk hW hS hl
  exact lv_iushr hC.1 hC.2.1 hd rfl (k p l e s m args below meth c D tA base kc ad0 n0 hC ad H locs ls g1 g2 g3 hk hW hS hl)
theorem xs_idiv {x y : Int32} (hd : decode (byN j) pc = .ok (.idiv, 1)) (hz : ¬ y = 0) (k : Xs d j (pc + 1) L (.int (x / y) :: st) S cs mem Q) : Xs d j pc L (.int y :: .int x :: st) S cs mem Q := by
  intro p l e s m args below meth c D tA base kc ad0 n0 hC ad H locs ls g1 g2 g3 hk hW hS hl
  exact lv_idiv hC.1 hC.2.1 hd hz (k p l e s m args below meth c D tA base kc ad0 n0 hC ad H locs ls g1 g2 g3 hk hW hS hl)
theorem xs_irem {x y : Int32} (hd : decode (byN j) pc = .ok (.irem, 1)) (hz : ¬ y = 0) (k : Xs d j (pc + 1) L (.int (x - x / y * y) :: st) S cs mem Q) : Xs d j pc L (.int y :: .int x :: st) S cs mem Q := by
  intro p l e s m args below meth c D tA base kc ad0 n0 hC ad H locs ls g1 g2 g3 hk hW hS hl
  exact lv_irem hC.1 hC.2.1 hd hz (k p l e s m args below meth c D tA base kc ad0 n0 hC ad H locs ls g1 g2 g3 hk hW hS hl)
theorem xs_ineg {x : Int32} (hd : decode (byN j) pc = .ok (.ineg, 1))  (k : Xs d j (pc + 1) L (.int (-x) :: st) S cs mem Q) : Xs d j pc L (.int x :: st) S cs mem Q := by
  intro p l e s m args below meth c D tA base kc ad0 n0 hC ad H locs ls g1 g2 g3 hk hW hS hl
  exact lv_ineg hC.1 hC.2.1 hd  (k p l e s m args below meth c D tA base kc ad0 n0 hC ad H locs ls g1 g2 g3 hk hW hS hl)
theorem xs_ladd {x y : Int64} (hd : decode (byN j) pc = .ok (.ladd, 1))  (k : Xs d j (pc + 1) L (.long (x + y) :: st) S cs mem Q) : Xs d j pc L (.long y :: .long x :: st) S cs mem Q := by
  intro p l e s m args below meth c D tA base kc ad0 n0 hC ad H locs ls g1 g2 g3 hk hW hS hl
  exact lv_ladd hC.1 hC.2.1 hd  (k p l e s m args below meth c D tA base kc ad0 n0 hC ad H locs ls g1 g2 g3 hk hW hS hl)
theorem xs_lsub {x y : Int64} (hd : decode (byN j) pc = .ok (.lsub, 1))  (k : Xs d j (pc + 1) L (.long (x - y) :: st) S cs mem Q) : Xs d j pc L (.long y :: .long x :: st) S cs mem Q := by
  intro p l e s m args below meth c D tA base kc ad0 n0 hC ad H locs ls g1 g2 g3 hk hW hS hl
  exact lv_lsub hC.1 hC.2.1 hd  (k p l e s m args below meth c D tA base kc ad0 n0 hC ad H locs ls g1 g2 g3 hk hW hS hl)
theorem xs_lmul {x y : Int64} (hd : decode (byN j) pc = .ok (.lmul, 1))  (k : Xs d j (pc + 1) L (.long (x * y) :: st) S cs mem Q) : Xs d j pc L (.long y :: .long x :: st) S cs mem Q := by
  intro p l e s m args below meth c D tA base kc ad0 n0 hC ad H locs ls g1 g2 g3 hk hW hS hl
  exact lv_lmul hC.1 hC.2.1 hd  (k p l e s m args below meth c D tA base kc ad0 n0 hC ad H locs ls g1 g2 g3 hk hW hS hl)
theorem xs_ldiv {x y : Int64} (hd : decode (byN j) pc = .ok (.ldiv, 1)) (hz : ¬ y = 0) (k : Xs d j (pc + 1) L (.long (x / y) :: st) S cs mem Q) : Xs d j pc L (.long y :: .long x :: st) S cs mem Q := by
  intro p l e s m args below meth c D tA base kc ad0 n0 hC ad H locs ls g1 g2 g3 hk hW hS hl
  exact lv_ldiv hC.1 hC.2.1 hd hz (k p l e s m args below meth c D tA base kc ad0 n0 hC ad H locs ls g1 g2 g3 hk hW hS hl)
theorem xs_lneg {x : Int64} (hd : decode (byN j) pc = .ok (.lneg, 1))  (k : Xs d j (pc + 1) L (.long (-x) :: st) S cs mem Q) : Xs d j pc L (.long x :: st) S cs mem Q := by
  intro p l e s m args below meth c D tA base kc ad0 n0 hC ad H locs ls g1 g2 g3 hk hW hS hl
  exact lv_lneg hC.1 hC.2.1 hd  (k p l e s m args below meth c D tA base kc ad0 n0 hC ad H locs ls g1 g2 g3 hk hW hS hl)
theorem xs_lcmp {x y : Int64} (hd : decode (byN j) pc = .ok (.lcmp, 1))  (k : Xs d j (pc + 1) L (.int (lg_cmp x y) :: st) S cs mem Q) : Xs d j pc L (.long y :: .long x :: st) S cs mem Q := by
  intro p l e s m args below meth c D tA base kc ad0 n0 hC ad H locs ls g1 g2 g3 hk hW hS hl
  exact W.lcmp hC.1 hC.2.1 hd  (k p l e s m args below meth c D tA base kc ad0 n0 hC ad H locs ls g1 g2 g3 hk hW hS hl)
theorem xs_i2l {x : Int32} (hd : decode (byN j) pc = .ok (.i2l, 1))  (k : Xs d j (pc + 1) L (.long x.toInt64 :: st) S cs mem Q) : Xs d j pc L (.int x :: st) S cs mem Q := by
  intro p l e s m args below meth c D tA base kc ad0 n0 hC ad H locs ls g1 g2 g3 hk hW hS hl
  exact lv_i2l hC.1 hC.2.1 hd rfl (k p l e s m args below meth c D tA base kc ad0 n0 hC ad H locs ls g1 g2 g3 hk hW hS hl)
theorem xs_l2i {x : Int64} (hd : decode (byN j) pc = .ok (.l2i, 1))  (k : Xs d j (pc + 1) L (.int x.toInt32 :: st) S cs mem Q) : Xs d j pc L (.long x :: st) S cs mem Q := by
  intro p l e s m args below meth c D tA base kc ad0 n0 hC ad H locs ls g1 g2 g3 hk hW hS hl
  exact lv_l2i hC.1 hC.2.1 hd rfl (k p l e s m args below meth c D tA base kc ad0 n0 hC ad H locs ls g1 g2 g3 hk hW hS hl)
theorem xs_i2s {x : Int32} (hd : decode (byN j) pc = .ok (.i2s, 1))  (k : Xs d j (pc + 1) L (.int x.toInt16.toInt32 :: st) S cs mem Q) : Xs d j pc L (.int x :: st) S cs mem Q := by
  intro p l e s m args below meth c D tA base kc ad0 n0 hC ad H locs ls g1 g2 g3 hk hW hS hl
  exact lv_i2s hC.1 hC.2.1 hd rfl (k p l e s m args below meth c D tA base kc ad0 n0 hC ad H locs ls g1 g2 g3 hk hW hS hl)
theorem xs_i2b {x : Int32} (hd : decode (byN j) pc = .ok (.i2b, 1))  (k : Xs d j (pc + 1) L (.int x.toInt8.toInt32 :: st) S cs mem Q) : Xs d j pc L (.int x :: st) S cs mem Q := by
  intro p l e s m args below meth c D tA base kc ad0 n0 hC ad H locs ls g1 g2 g3 hk hW hS hl
  exact lv_i2b hC.1 hC.2.1 hd rfl (k p l e s m args below meth c D tA base kc ad0 n0 hC ad H locs ls g1 g2 g3 hk hW hS hl)
theorem xs_i2c {x : Int32} (hd : decode (byN j) pc = .ok (.i2c, 1))  (k : Xs d j (pc + 1) L (.int ((x.toUInt32 % 65536).toInt32) :: st) S cs mem Q) : Xs d j pc L (.int x :: st) S cs mem Q := by
  intro p l e s m args below meth c D tA base kc ad0 n0 hC ad H locs ls g1 g2 g3 hk hW hS hl
  exact lv_i2c hC.1 hC.2.1 hd rfl (k p l e s m args below meth c D tA base kc ad0 n0 hC ad H locs ls g1 g2 g3 hk hW hS hl)
theorem xs_dupI {x : Int32} (hd : decode (byN j) pc = .ok (.dup, 1))  (k : Xs d j (pc + 1) L (.int x :: .int x :: st) S cs mem Q) : Xs d j pc L (.int x :: st) S cs mem Q := by
  intro p l e s m args below meth c D tA base kc ad0 n0 hC ad H locs ls g1 g2 g3 hk hW hS hl
  exact lv_dup hC.1 hC.2.1 hd rfl (k p l e s m args below meth c D tA base kc ad0 n0 hC ad H locs ls g1 g2 g3 hk hW hS hl)
theorem xs_dupR {x : Nat} (hd : decode (byN j) pc = .ok (.dup, 1))  (k : Xs d j (pc + 1) L (.ref x :: .ref x :: st) S cs mem Q) : Xs d j pc L (.ref x :: st) S cs mem Q := by
  intro p l e s m args below meth c D tA base kc ad0 n0 hC ad H locs ls g1 g2 g3 hk hW hS hl
  exact lv_dup hC.1 hC.2.1 hd rfl (k p l e s m args below meth c D tA base kc ad0 n0 hC ad H locs ls g1 g2 g3 hk hW hS hl)
theorem xs_dup2 {x : Int32} {y : Nat} (hd : decode (byN j) pc = .ok (.dup2, 1))  (k : Xs d j (pc + 1) L (.int x :: .ref y :: .int x :: .ref y :: st) S cs mem Q) : Xs d j pc L (.int x :: .ref y :: st) S cs mem Q := by
  intro p l e s m args below meth c D tA base kc ad0 n0 hC ad H locs ls g1 g2 g3 hk hW hS hl
  exact lv_dup2_11 hC.1 hC.2.1 hd rfl rfl (k p l e s m args below meth c D tA base kc ad0 n0 hC ad H locs ls g1 g2 g3 hk hW hS hl)
theorem xs_pop {x : Int32} (hd : decode (byN j) pc = .ok (.pop, 1))  (k : Xs d j (pc + 1) L (st) S cs mem Q) : Xs d j pc L (.int x :: st) S cs mem Q := by
  intro p l e s m args below meth c D tA base kc ad0 n0 hC ad H locs ls g1 g2 g3 hk hW hS hl
  exact lv_pop hC.1 hC.2.1 hd rfl (k p l e s m args below meth c D tA base kc ad0 n0 hC ad H locs ls g1 g2 g3 hk hW hS hl)
theorem xs_iconst {n : Int} {v : Int32} (hd : decode (byN j) pc = .ok (.iconst n, 1)) (hv : Int32.ofInt n = v) (k : Xs d j (pc + 1) L (.int v :: st) S cs mem Q) : Xs d j pc L (st) S cs mem Q := by
  intro p l e s m args below meth c D tA base kc ad0 n0 hC ad H locs ls g1 g2 g3 hk hW hS hl
  exact lv_iconst hC.1 hC.2.1 hd hv (k p l e s m args below meth c D tA base kc ad0 n0 hC ad H locs ls g1 g2 g3 hk hW hS hl)
theorem xs_bipush {n : Int} {v : Int32} (hd : decode (byN j) pc = .ok (.bipush n, 2)) (hv : (Int8.ofInt n).toInt32 = v) (k : Xs d j (pc + 2) L (.int v :: st) S cs mem Q) : Xs d j pc L (st) S cs mem Q := by
  intro p l e s m args below meth c D tA base kc ad0 n0 hC ad H locs ls g1 g2 g3 hk hW hS hl
  exact lv_bipush hC.1 hC.2.1 hd hv (k p l e s m args below meth c D tA base kc ad0 n0 hC ad H locs ls g1 g2 g3 hk hW hS hl)
theorem xs_sipush {n : Int} {v : Int32} (hd : decode (byN j) pc = .ok (.sipush n, 3)) (hv : (Int16.ofInt n).toInt32 = v) (k : Xs d j (pc + 3) L (.int v :: st) S cs mem Q) : Xs d j pc L (st) S cs mem Q := by
  intro p l e s m args below meth c D tA base kc ad0 n0 hC ad H locs ls g1 g2 g3 hk hW hS hl
  exact lv_sipush hC.1 hC.2.1 hd hv (k p l e s m args below meth c D tA base kc ad0 n0 hC ad H locs ls g1 g2 g3 hk hW hS hl)
theorem xs_lconst {n : Fin 2} {v : Int64} (hd : decode (byN j) pc = .ok (.lconst n, 1)) (hv : Int64.ofNat (n : Nat) = v) (k : Xs d j (pc + 1) L (.long v :: st) S cs mem Q) : Xs d j pc L (st) S cs mem Q := by
  intro p l e s m args below meth c D tA base kc ad0 n0 hC ad H locs ls g1 g2 g3 hk hW hS hl
  exact lv_lconst hC.1 hC.2.1 hd hv (k p l e s m args below meth c D tA base kc ad0 n0 hC ad H locs ls g1 g2 g3 hk hW hS hl)
theorem xs_ldc {idx : Nat} {v : Int32} (hd : decode (byN j) pc = .ok (.ldc idx, 2)) (hm : Cond.constant (cnm (cnN j)) idx v ∈ TB) (k : Xs d j (pc + 2) L (.int v :: st) S cs mem Q) : Xs d j pc L (st) S cs mem Q := by
  intro p l e s m args below meth c D tA base kc ad0 n0 hC ad H locs ls g1 g2 g3 hk hW hS hl
  obtain ⟨hx, hb, hr, hml, hown, hts, hlk, hnm, hkt, hbs⟩ := id hC
  exact lv_ldc hx hb hown (hts _ hm) hd (k p l e s m args below meth c D tA base kc ad0 n0 hC ad H locs ls g1 g2 g3 hk hW hS hl)
theorem xs_ldcw {idx : Nat} {v : Int32} (hd : decode (byN j) pc = .ok (.ldc_w idx, 3)) (hm : Cond.constant (cnm (cnN j)) idx v ∈ TB) (k : Xs d j (pc + 3) L (.int v :: st) S cs mem Q) : Xs d j pc L (st) S cs mem Q := by
  intro p l e s m args below meth c D tA base kc ad0 n0 hC ad H locs ls g1 g2 g3 hk hW hS hl
  obtain ⟨hx, hb, hr, hml, hown, hts, hlk, hnm, hkt, hbs⟩ := id hC
  exact lv_ldcw hx hb hown (hts _ hm) hd (k p l e s m args below meth c D tA base kc ad0 n0 hC ad H locs ls g1 g2 g3 hk hW hS hl)
theorem xs_ldcS {idx q : Nat} (hd : decode (byN j) pc = .ok (.ldc idx, 2)) (hc : cnN j = 2) (hq : q < 6) (hs : (STL.getD q (0, "")).1 = idx) (k : Xs d j (pc + 2) L (.retAddr q :: st) S cs mem Q) : Xs d j pc L (st) S cs mem Q := by
  intro p l e s m args below meth c D tA base kc ad0 n0 hC ad H locs ls g1 g2 g3 hk hW hS hl
  obtain ⟨hx, hb, hr, hml, hown, hts, hlk, hnm, hkt, hbs⟩ := id hC
  obtain ⟨h1, h2, -, -, -, -, h7, -⟩ := id hk
  obtain ⟨a, ha⟩ := h2 q hq
  obtain ⟨r, hr1, hr2⟩ := h7 q hq
  have e9 : r.1 = idx := by rw [← hs, List.getD_eq_getElem?_getD, hr1]; rfl
  have hown2 : s.vm.findClass RX2 = some m.cls := by rw [hc] at hown; exact hown
  rw [ha, e9] at hr2
  have kk := k p l e s m args below meth c D tA base kc ad0 n0 hC ad H locs ls g1 g2 g3 hk hW hS hl
  have e2 : cv kc ad (.retAddr q) = .ref a := ha
  rw [List.map_cons, e2] at kk
  exact va_ldcS hx hb hown2 hr2 hd kk
theorem xs_iload_n {n : Fin 4} {i : Nat} {x : Int32} (hd : decode (byN j) pc = .ok (.iload_n n, 1)) (hi : (n : Nat) = i) (hv : nth L i = some (some (.int x))) (k : Xs d j (pc + 1) L (.int x :: st) S cs mem Q) : Xs d j pc L (st) S cs mem Q := by
  intro p l e s m args below meth c D tA base kc ad0 n0 hC ad H locs ls g1 g2 g3 hk hW hS hl
  obtain ⟨hx, hb, hr, hml, hown, hts, hlk, hnm, hkt, hbs⟩ := id hC
  exact lv_iload_n hx hb hd hi (hl.2.2 _ _ hv) (k p l e s m args below meth c D tA base kc ad0 n0 hC ad H locs ls g1 g2 g3 hk hW hS hl)
theorem xs_iload {i : Nat} {x : Int32} (hd : decode (byN j) pc = .ok (.iload i, 2))  (hv : nth L i = some (some (.int x))) (k : Xs d j (pc + 2) L (.int x :: st) S cs mem Q) : Xs d j pc L (st) S cs mem Q := by
  intro p l e s m args below meth c D tA base kc ad0 n0 hC ad H locs ls g1 g2 g3 hk hW hS hl
  obtain ⟨hx, hb, hr, hml, hown, hts, hlk, hnm, hkt, hbs⟩ := id hC
  exact lv_iload hx hb hd  (hl.2.2 _ _ hv) (k p l e s m args below meth c D tA base kc ad0 n0 hC ad H locs ls g1 g2 g3 hk hW hS hl)
theorem xs_lload {i : Nat} {x : Int64} (hd : decode (byN j) pc = .ok (.lload i, 2)) (hv : nth L i = some (some (.long x))) (k : Xs d j (pc + 2) L (.long x :: st) S cs mem Q) : Xs d j pc L (st) S cs mem Q := by
  intro p l e s m args below meth c D tA base kc ad0 n0 hC ad H locs ls g1 g2 g3 hk hW hS hl
  obtain ⟨hx, hb, hr, hml, hown, hts, hlk, hnm, hkt, hbs⟩ := id hC
  exact lv_lload hx hb hd (hl.2.2 _ _ hv) (k p l e s m args below meth c D tA base kc ad0 n0 hC ad H locs ls g1 g2 g3 hk hW hS hl)
theorem xs_aload_n {n : Fin 4} {i : Nat} {x : Nat} (hd : decode (byN j) pc = .ok (.aload_n n, 1)) (hi : (n : Nat) = i) (hv : nth L i = some (some (.ref x))) (k : Xs d j (pc + 1) L (.ref x :: st) S cs mem Q) : Xs d j pc L (st) S cs mem Q := by
  intro p l e s m args below meth c D tA base kc ad0 n0 hC ad H locs ls g1 g2 g3 hk hW hS hl
  obtain ⟨hx, hb, hr, hml, hown, hts, hlk, hnm, hkt, hbs⟩ := id hC
  exact lv_aload_n (x := ad x) hx hb hd hi (hl.2.2 _ _ hv) (k p l e s m args below meth c D tA base kc ad0 n0 hC ad H locs ls g1 g2 g3 hk hW hS hl)
theorem xs_aload {i : Nat} {x : Nat} (hd : decode (byN j) pc = .ok (.aload i, 2))  (hv : nth L i = some (some (.ref x))) (k : Xs d j (pc + 2) L (.ref x :: st) S cs mem Q) : Xs d j pc L (st) S cs mem Q := by
  intro p l e s m args below meth c D tA base kc ad0 n0 hC ad H locs ls g1 g2 g3 hk hW hS hl
  obtain ⟨hx, hb, hr, hml, hown, hts, hlk, hnm, hkt, hbs⟩ := id hC
  exact lv_aload (x := ad x) hx hb hd  (hl.2.2 _ _ hv) (k p l e s m args below meth c D tA base kc ad0 n0 hC ad H locs ls g1 g2 g3 hk hW hS hl)
theorem xs_aload_nK {n : Fin 4} {i : Nat} {x : Nat} (hd : decode (byN j) pc = .ok (.aload_n n, 1)) (hi : (n : Nat) = i) (hv : nth L i = some (some (.retAddr x))) (k : Xs d j (pc + 1) L (.retAddr x :: st) S cs mem Q) : Xs d j pc L (st) S cs mem Q := by
  intro p l e s m args below meth c D tA base kc ad0 n0 hC ad H locs ls g1 g2 g3 hk hW hS hl
  obtain ⟨hx, hb, hr, hml, hown, hts, hlk, hnm, hkt, hbs⟩ := id hC
  have h9 : ls[i]? = some (.val (kc x)) := hl.2.2 _ _ hv
  have kk := k p l e s m args below meth c D tA base kc ad0 n0 hC ad H locs ls g1 g2 g3 hk hW hS hl
  rw [List.map_cons, show cv kc ad (.retAddr x) = kc x from rfl] at kk
  rcases hk.1 x with e | ⟨a, e⟩
  · rw [e] at h9 kk
    exact lv_aload_nN hx hb hd hi h9 kk
  · rw [e] at h9 kk
    exact lv_aload_n hx hb hd hi h9 kk
theorem xs_istore_n {n : Fin 4} {i : Nat} {x : Int32} (hd : decode (byN j) pc = .ok (.istore_n n, 1)) (hi : (n : Nat) = i) (hn : i < mxN j) (k : Xs d j (pc + 1) (st1 L i (.int x)) st S cs mem Q) : Xs d j pc L (.int x :: st) S cs mem Q := by
  intro p l e s m args below meth c D tA base kc ad0 n0 hC ad H locs ls g1 g2 g3 hk hW hS hl
  obtain ⟨hx, hb, hr, hml, hown, hts, hlk, hnm, hkt, hbs⟩ := id hC
  exact lv_istore_n hx hb hd hi hl.has hn rfl (fun ls1 h1 => k p l e s m args below meth c D tA base kc ad0 n0 hC ad H locs ls1 g1 g2 g3 hk hW hS (lvh_st1 hk.1 rfl h1))
theorem xs_istore {i : Nat} {x : Int32} (hd : decode (byN j) pc = .ok (.istore i, 2))  (hn : i < mxN j) (k : Xs d j (pc + 2) (st1 L i (.int x)) st S cs mem Q) : Xs d j pc L (.int x :: st) S cs mem Q := by
  intro p l e s m args below meth c D tA base kc ad0 n0 hC ad H locs ls g1 g2 g3 hk hW hS hl
  obtain ⟨hx, hb, hr, hml, hown, hts, hlk, hnm, hkt, hbs⟩ := id hC
  exact lv_istore hx hb hd  hl.has hn rfl (fun ls1 h1 => k p l e s m args below meth c D tA base kc ad0 n0 hC ad H locs ls1 g1 g2 g3 hk hW hS (lvh_st1 hk.1 rfl h1))
theorem xs_astore_n {n : Fin 4} {i : Nat} {x : Nat} (hd : decode (byN j) pc = .ok (.astore_n n, 1)) (hi : (n : Nat) = i) (hn : i < mxN j) (k : Xs d j (pc + 1) (st1 L i (.ref x)) st S cs mem Q) : Xs d j pc L (.ref x :: st) S cs mem Q := by
  intro p l e s m args below meth c D tA base kc ad0 n0 hC ad H locs ls g1 g2 g3 hk hW hS hl
  obtain ⟨hx, hb, hr, hml, hown, hts, hlk, hnm, hkt, hbs⟩ := id hC
  exact lv_astore_n (x := ad x) hx hb hd hi hl.has hn rfl (fun ls1 h1 => k p l e s m args below meth c D tA base kc ad0 n0 hC ad H locs ls1 g1 g2 g3 hk hW hS (lvh_st1 hk.1 rfl h1))
theorem xs_astore {i : Nat} {x : Nat} (hd : decode (byN j) pc = .ok (.astore i, 2))  (hn : i < mxN j) (k : Xs d j (pc + 2) (st1 L i (.ref x)) st S cs mem Q) : Xs d j pc L (.ref x :: st) S cs mem Q := by
  intro p l e s m args below meth c D tA base kc ad0 n0 hC ad H locs ls g1 g2 g3 hk hW hS hl
  obtain ⟨hx, hb, hr, hml, hown, hts, hlk, hnm, hkt, hbs⟩ := id hC
  exact lv_astore (x := ad x) hx hb hd  hl.has hn rfl (fun ls1 h1 => k p l e s m args below meth c D tA base kc ad0 n0 hC ad H locs ls1 g1 g2 g3 hk hW hS (lvh_st1 hk.1 rfl h1))
theorem xs_lstore {i : Nat} {x : Int64} (hd : decode (byN j) pc = .ok (.lstore i, 2)) (hn : i + 1 < mxN j) (hL : i + 1 < L.length) (k : Xs d j (pc + 2) (st2 L i (.long x)) st S cs mem Q) : Xs d j pc L (.long x :: st) S cs mem Q := by
  intro p l e s m args below meth c D tA base kc ad0 n0 hC ad H locs ls g1 g2 g3 hk hW hS hl
  obtain ⟨hx, hb, hr, hml, hown, hts, hlk, hnm, hkt, hbs⟩ := id hC
  exact lv_lstore hx hb hd hl.has hn rfl (fun ls1 h1 => k p l e s m args below meth c D tA base kc ad0 n0 hC ad H locs ls1 g1 g2 g3 hk hW hS (lvh_st2 hk.1 rfl h1 hL))
theorem xs_iinc {i : Nat} {n : Int} {x y : Int32} (hd : decode (byN j) pc = .ok (.iinc i n, 3)) (hv : nth L i = some (some (.int x))) (hy : Int32.ofInt n = y) (hn : i < mxN j) (k : Xs d j (pc + 3) (st1 L i (.int (x + y))) st S cs mem Q) : Xs d j pc L (st) S cs mem Q := by
  intro p l e s m args below meth c D tA base kc ad0 n0 hC ad H locs ls g1 g2 g3 hk hW hS hl
  obtain ⟨hx, hb, hr, hml, hown, hts, hlk, hnm, hkt, hbs⟩ := id hC
  obtain ⟨q, hq⟩ := List.getElem?_of_mem (lva_mem (kc := kc) (ad := ad) hv)
  exact lv_iinc (k := q) (x := x) hx hb hd hl.has hq (by rw [hy]) hn rfl (fun ls1 h1 => k p l e s m args below meth c D tA base kc ad0 n0 hC ad H locs ls1 g1 g2 g3 hk hW hS (lvh_st1 hk.1 rfl h1))
theorem ite_t {c A B : Prop} [Decidable c] (h : c) (k : if c then A else B) : A := by rw [if_pos h] at k; exact k
theorem ite_f {c A B : Prop} [Decidable c] (h : ¬ c) (k : if c then A else B) : B := by rw [if_neg h] at k; exact k
theorem ifI {c A B : Prop} [Decidable c] (a : c → A) (b : ¬ c → B) : if c then A else B := by
  by_cases h : c
  · rw [if_pos h]; exact a h
  · rw [if_neg h]; exact b h
theorem xs_icmp {q : ClassFile.Cond} {off : Int} {tgt : Nat} {x y : Int32} (hd : decode (byN j) pc = .ok (.if_icmp q off, 3)) (ht : (pc : Int) + off = (tgt : Int)) (k : br q x y (Xs d j tgt L st S cs mem Q) (Xs d j (pc + 3) L st S cs mem Q)) : Xs d j pc L (.int y :: .int x :: st) S cs mem Q := by
  intro p l e s m args below meth c D tA base kc ad0 n0 hC ad H locs ls g1 g2 g3 hk hW hS hl
  cases q with
  | eq => exact lv_icmp_eq hC.1 hC.2.1 hd ht (fun h => (ite_t h k) p l e s m args below meth c D tA base kc ad0 n0 hC ad H locs ls g1 g2 g3 hk hW hS hl) (fun h => (ite_f h k) p l e s m args below meth c D tA base kc ad0 n0 hC ad H locs ls g1 g2 g3 hk hW hS hl)
  | ne => exact lv_icmp_ne hC.1 hC.2.1 hd ht (fun h => (ite_f h k) p l e s m args below meth c D tA base kc ad0 n0 hC ad H locs ls g1 g2 g3 hk hW hS hl) (fun h => (ite_t h k) p l e s m args below meth c D tA base kc ad0 n0 hC ad H locs ls g1 g2 g3 hk hW hS hl)
  | lt => exact lv_icmp_lt hC.1 hC.2.1 hd ht (fun h => (ite_t h k) p l e s m args below meth c D tA base kc ad0 n0 hC ad H locs ls g1 g2 g3 hk hW hS hl) (fun h => (ite_f h k) p l e s m args below meth c D tA base kc ad0 n0 hC ad H locs ls g1 g2 g3 hk hW hS hl)
  | ge => exact lv_icmp_ge hC.1 hC.2.1 hd ht (fun h => (ite_f (Int32.not_lt.mpr h) k) p l e s m args below meth c D tA base kc ad0 n0 hC ad H locs ls g1 g2 g3 hk hW hS hl) (fun h => (ite_t (Int32.not_le.mp h) k) p l e s m args below meth c D tA base kc ad0 n0 hC ad H locs ls g1 g2 g3 hk hW hS hl)
  | gt => exact lv_icmp_gt hC.1 hC.2.1 hd ht (fun h => (ite_t h k) p l e s m args below meth c D tA base kc ad0 n0 hC ad H locs ls g1 g2 g3 hk hW hS hl) (fun h => (ite_f h k) p l e s m args below meth c D tA base kc ad0 n0 hC ad H locs ls g1 g2 g3 hk hW hS hl)
  | le => exact lv_icmp_le hC.1 hC.2.1 hd ht (fun h => (ite_f (Int32.not_lt.mpr h) k) p l e s m args below meth c D tA base kc ad0 n0 hC ad H locs ls g1 g2 g3 hk hW hS hl) (fun h => (ite_t (Int32.not_le.mp h) k) p l e s m args below meth c D tA base kc ad0 n0 hC ad H locs ls g1 g2 g3 hk hW hS hl)
theorem xs_if {q : ClassFile.Cond} {off : Int} {tgt : Nat} {x : Int32} (hd : decode (byN j) pc = .ok (.ifCond q off, 3)) (ht : (pc : Int) + off = (tgt : Int)) (k : br q x 0 (Xs d j tgt L st S cs mem Q) (Xs d j (pc + 3) L st S cs mem Q)) : Xs d j pc L (.int x :: st) S cs mem Q := by
  intro p l e s m args below meth c D tA base kc ad0 n0 hC ad H locs ls g1 g2 g3 hk hW hS hl
  cases q with
  | eq => exact lv_if_eq hC.1 hC.2.1 hd ht (fun h => (ite_t h k) p l e s m args below meth c D tA base kc ad0 n0 hC ad H locs ls g1 g2 g3 hk hW hS hl) (fun h => (ite_f h k) p l e s m args below meth c D tA base kc ad0 n0 hC ad H locs ls g1 g2 g3 hk hW hS hl)
  | ne => exact lv_if_ne hC.1 hC.2.1 hd ht (fun h => (ite_f h k) p l e s m args below meth c D tA base kc ad0 n0 hC ad H locs ls g1 g2 g3 hk hW hS hl) (fun h => (ite_t h k) p l e s m args below meth c D tA base kc ad0 n0 hC ad H locs ls g1 g2 g3 hk hW hS hl)
  | lt => exact lv_if_lt hC.1 hC.2.1 hd ht (fun h => (ite_t h k) p l e s m args below meth c D tA base kc ad0 n0 hC ad H locs ls g1 g2 g3 hk hW hS hl) (fun h => (ite_f h k) p l e s m args below meth c D tA base kc ad0 n0 hC ad H locs ls g1 g2 g3 hk hW hS hl)
  | ge => exact lv_if_ge hC.1 hC.2.1 hd ht (fun h => (ite_f (Int32.not_lt.mpr h) k) p l e s m args below meth c D tA base kc ad0 n0 hC ad H locs ls g1 g2 g3 hk hW hS hl) (fun h => (ite_t (Int32.not_le.mp h) k) p l e s m args below meth c D tA base kc ad0 n0 hC ad H locs ls g1 g2 g3 hk hW hS hl)
  | gt => exact lv_if_gt hC.1 hC.2.1 hd ht (fun h => (ite_t h k) p l e s m args below meth c D tA base kc ad0 n0 hC ad H locs ls g1 g2 g3 hk hW hS hl) (fun h => (ite_f h k) p l e s m args below meth c D tA base kc ad0 n0 hC ad H locs ls g1 g2 g3 hk hW hS hl)
  | le => exact lv_if_le hC.1 hC.2.1 hd ht (fun h => (ite_f (Int32.not_lt.mpr h) k) p l e s m args below meth c D tA base kc ad0 n0 hC ad H locs ls g1 g2 g3 hk hW hS hl) (fun h => (ite_t (Int32.not_le.mp h) k) p l e s m args below meth c D tA base kc ad0 n0 hC ad H locs ls g1 g2 g3 hk hW hS hl)
theorem xs_goto {off : Int} {tgt : Nat} (hd : decode (byN j) pc = .ok (.goto off, 3)) (ht : (pc : Int) + off = (tgt : Int)) (k : Xs d j tgt L st S cs mem Q) : Xs d j pc L (st) S cs mem Q := by
  intro p l e s m args below meth c D tA base kc ad0 n0 hC ad H locs ls g1 g2 g3 hk hW hS hl
  obtain ⟨hx, hb, hr, hml, hown, hts, hlk, hnm, hkt, hbs⟩ := id hC
  exact lv_goto hx hb hd ht (k p l e s m args below meth c D tA base kc ad0 n0 hC ad H locs ls g1 g2 g3 hk hW hS hl)
theorem i32_ofInt {z : Int} (h1 : -2147483648 ≤ z) (h2 : z < 2147483648) : (Int32.ofInt z).toInt = z := by
  rw [Int32.toInt_ofInt]
  show z.bmod (2 ^ 32) = z
  rw [Int.bmod_eq_of_le (by omega) (by omega)]
theorem swt_ok {x : Int32} {K : Nat → Prop} {dflt : Int} : ∀ (os : List Int) (lo : Int), -2147483648 ≤ lo → lo + os.length ≤ 2147483648 → swt pc x K dflt lo os →
    (∃ (n : Nat) (o : Int), x.toInt = lo + n ∧ os[n]? = some o ∧ K (((pc : Int) + o).toNat)) ∨ ((x.toInt < lo ∨ lo + os.length ≤ x.toInt) ∧ K (((pc : Int) + dflt).toNat))
  | [], lo, _, _, h => Or.inr ⟨by simp; omega, h⟩
  | o :: os, lo, h1, h2, h => by
    have h3 : lo + (os.length + 1 : Nat) ≤ 2147483648 := by simpa using h2
    rw [swt] at h
    by_cases hx : x = Int32.ofInt lo
    · rw [if_pos hx] at h
      exact Or.inl ⟨0, o, by rw [hx, i32_ofInt h1 (by omega)]; simp, rfl, h⟩
    · rw [if_neg hx] at h
      have hne : x.toInt ≠ lo := fun e => hx (by rw [← e, Int32.ofInt_toInt])
      rcases swt_ok os (lo + 1) (by omega) (by omega) h with ⟨n, o', e1, e2, e3⟩ | ⟨e1, e2⟩
      · exact Or.inl ⟨n + 1, o', by rw [e1]; push_cast; omega, e2, e3⟩
      · refine Or.inr ⟨?_, e2⟩
        simp only [List.length_cons]
        push_cast
        omega
theorem xs_tsw {dflt lo hi : Int} {offs : Array Int} {len : Nat} {x : Int32} (hd : decode (byN j) pc = .ok (.tableswitch dflt lo hi offs, len)) (h1 : -2147483648 ≤ lo) (h2 : hi ≤ 2147483647) (h3 : hi - lo + 1 = offs.size) (h4 : 0 ≤ (pc : Int) + dflt) (h5 : ∀ o ∈ offs.toList, 0 ≤ (pc : Int) + o)
    (k : swt pc x (fun t => Xs d j t L st S cs mem Q) dflt lo offs.toList) : Xs d j pc L (.int x :: st) S cs mem Q := by
  intro p l e s m args below meth c D tA base kc ad0 n0 hC ad H locs ls g1 g2 g3 hk hW hS hl
  rcases swt_ok offs.toList lo h1 (by simp; omega) k with ⟨n, o, e1, e2, e3⟩ | ⟨e1, e2⟩
  · have hn : n < offs.size := by
      have := (List.getElem?_eq_some_iff.mp e2).1
      simpa using this
    have h6 := h5 o (List.mem_of_getElem? e2)
    refine lv_tableIn (tgt := (((pc : Int) + o).toNat)) hC.1 hC.2.1 hd (by omega) (by omega) (off := o) ?_ (by omega) (e3 p l e s m args below meth c D tA base kc ad0 n0 hC ad H locs ls g1 g2 g3 hk hW hS hl)
    have e4 : (x.toInt - lo).toNat = n := by omega
    rw [e4, ← Array.getElem?_toList]
    exact e2
  · exact lv_tableOut (tgt := (((pc : Int) + dflt).toNat)) hC.1 hC.2.1 hd (by simp at e1; omega) (by omega) (e2 p l e s m args below meth c D tA base kc ad0 n0 hC ad H locs ls g1 g2 g3 hk hW hS hl)
theorem swl_ok {x : Int32} {K : Nat → Prop} {dflt : Int} : ∀ (ps : List (Int × Int)), (∀ q ∈ ps, -2147483648 ≤ q.1 ∧ q.1 < 2147483648) → swl pc x K dflt ps → K (((pc : Int) + Op.lookupswitch.offset ps dflt x.toInt).toNat)
  | [], _, h => h
  | (a, o) :: ps, hr, h => by
    rw [swl] at h
    rw [Op.lookupswitch.offset_cons]
    obtain ⟨r1, r2⟩ := hr (a, o) List.mem_cons_self
    by_cases hx : x = Int32.ofInt a
    · rw [if_pos hx] at h
      rw [if_pos (by rw [hx, i32_ofInt r1 r2])]
      exact h
    · rw [if_neg hx] at h
      rw [if_neg (fun e => hx (by rw [e, Int32.ofInt_toInt]))]
      exact swl_ok ps (fun q hq => hr q (List.mem_cons_of_mem _ hq)) h
theorem swl_pos {x : Int} {dflt : Int} : ∀ (ps : List (Int × Int)), 0 ≤ (pc : Int) + dflt → (∀ q ∈ ps, 0 ≤ (pc : Int) + q.2) → 0 ≤ (pc : Int) + Op.lookupswitch.offset ps dflt x
  | [], h, _ => h
  | (a, o) :: ps, h, hr => by
    rw [Op.lookupswitch.offset_cons]
    split
    · exact hr (a, o) List.mem_cons_self
    · exact swl_pos ps h (fun q hq => hr q (List.mem_cons_of_mem _ hq))
theorem xs_lsw {dflt : Int} {ps : Array (Int × Int)} {len : Nat} {x : Int32} (hd : decode (byN j) pc = .ok (.lookupswitch dflt ps, len)) (hp : (ps.toList.zip (ps.toList.drop 1)).all (fun (a, next) => a.1 < next.1) = true) (h1 : ∀ q ∈ ps.toList, -2147483648 ≤ q.1 ∧ q.1 < 2147483648) (h4 : 0 ≤ (pc : Int) + dflt) (h5 : ∀ q ∈ ps.toList, 0 ≤ (pc : Int) + q.2)
    (k : swl pc x (fun t => Xs d j t L st S cs mem Q) dflt ps.toList) : Xs d j pc L (.int x :: st) S cs mem Q := by
  intro p l e s m args below meth c D tA base kc ad0 n0 hC ad H locs ls g1 g2 g3 hk hW hS hl
  have h6 := swl_pos (x := x.toInt) ps.toList h4 h5
  exact lv_lookup (tgt := (((pc : Int) + Op.lookupswitch.offset ps.toList dflt x.toInt).toNat)) hC.1 hC.2.1 hd hp rfl (by omega) ((swl_ok ps.toList h1 k) p l e s m args below meth c D tA base kc ad0 n0 hC ad H locs ls g1 g2 g3 hk hW hS hl)
-- ends
theorem xs_end {D : va_G} {tA : Nat → ClassId} {base : Nat} {kc : Nat → Value} {ad ad0 : Nat → Nat} {n0 : Nat} {s t : State} {H : Heap} {locs : List Loc} {a : Array Value} {r : Option Value} (hQ : Q r S mem) (hkt : Kt0 D tA s) (hk : Kst base kc (S.2.2.1 900) (mem 900) s s.heap) (hW : Wh D tA base ad S mem H) (hS : va_S (Gf base) s.heap H locs) (g1 : ∀ k, k < n0 → ad k = ad0 k) (g2 : n0 ≤ S.1) (g3 : mcN j = 0 → ad = ad0) (ht : t.heap = H) (hw : s.WarmedH t.vm) :
    Qc j D tA base kc ad0 n0 Q a s (.returned (r.map (cv kc ad))) t :=
  ⟨r, S, mem, ad, rfl, hQ, ⟨hkt.warm hw, by rw [ht]; exact hk.warm hw hS.2.1, by rw [ht]; exact hW⟩, g1, g2, g3, hS.F ht⟩
theorem xs_iret {x : Int32} {ty : FieldType} (hd : decode (byN j) pc = .ok (.ireturn, 1)) (hr0 : rtN j = some ty) (hn : narrow ty (.int x) = .int x) (hb1 : cs.1 ≤ mcN j) (hb2 : cs.2 ≤ msN j) (hQ : Q (some (.int x)) S mem) : Xs d j pc L [.int x] S cs mem Q := by
  intro p l e s m args below meth c D tA base kc ad0 n0 hC ad H locs ls g1 g2 g3 hk hW hS hl
  obtain ⟨hx, hb, hr, hml, hown, hts, hlk, hnm, hkt, hbs⟩ := id hC
  refine W.widen (k := mcN j) (n := msN j) hb1 hb2 ?_
  exact W.zret hx hb (hr.trans hr0) hn (fun t ht hw => xs_end (r := some (.int x)) hQ hkt hk hW hS g1 g2 g3 ht hw) hS.2.2 hd hlk
theorem xs_lret {x : Int64} (hd : decode (byN j) pc = .ok (.lreturn, 1)) (hr0 : rtN j = some .long) (hb1 : cs.1 ≤ mcN j) (hb2 : cs.2 ≤ msN j) (hQ : Q (some (.long x)) S mem) : Xs d j pc L [.long x] S cs mem Q := by
  intro p l e s m args below meth c D tA base kc ad0 n0 hC ad H locs ls g1 g2 g3 hk hW hS hl
  obtain ⟨hx, hb, hr, hml, hown, hts, hlk, hnm, hkt, hbs⟩ := id hC
  refine W.widen (k := mcN j) (n := msN j) hb1 hb2 ?_
  exact W.lret hx hb (hr.trans hr0) (fun t ht hw => xs_end (r := some (.long x)) hQ hkt hk hW hS g1 g2 g3 ht hw) hS.2.2 hd hlk
theorem xs_vret (hd : decode (byN j) pc = .ok (.return_, 1)) (hr0 : rtN j = none) (hb1 : cs.1 ≤ mcN j) (hb2 : cs.2 ≤ msN j) (hQ : Q none S mem) : Xs d j pc L [] S cs mem Q := by
  intro p l e s m args below meth c D tA base kc ad0 n0 hC ad H locs ls g1 g2 g3 hk hW hS hl
  obtain ⟨hx, hb, hr, hml, hown, hts, hlk, hnm, hkt, hbs⟩ := id hC
  refine W.widen (k := mcN j) (n := msN j) hb1 hb2 ?_
  exact W.vret hx hb (hr.trans hr0) (fun t ht hw => xs_end (r := none) hQ hkt hk hW hS g1 g2 g3 ht hw) hS.2.2 hd hlk
theorem xs_aret {v : Value} {ty : FieldType} (hd : decode (byN j) pc = .ok (.areturn, 1)) (hr0 : rtN j = some ty) (hty : (∃ n, ty = .object n) ∨ ∃ t, ty = .array t) (hv : (∃ a, v = .ref a) ∨ ∃ q, v = .retAddr q) (hb1 : cs.1 ≤ mcN j) (hb2 : cs.2 ≤ msN j) (hQ : Q (some v) S mem) : Xs d j pc L [v] S cs mem Q := by
  intro p l e s m args below meth c D tA base kc ad0 n0 hC ad H locs ls g1 g2 g3 hk hW hS hl
  obtain ⟨hx, hb, hr, hml, hown, hts, hlk, hnm, hkt, hbs⟩ := id hC
  refine W.widen (k := mcN j) (n := msN j) hb1 hb2 ?_
  refine W.aret hx hb (hr.trans hr0) hty ?_ (fun t ht hw => xs_end (r := some v) hQ hkt hk hW hS g1 g2 g3 ht hw) hS.2.2 hd hlk
  rcases hv with ⟨a, rfl⟩ | ⟨q, rfl⟩
  · exact Or.inr ⟨_, rfl⟩
  · exact hk.1 q
end XR
