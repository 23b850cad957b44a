-- soundness, sixth part: the entries of the tables, and wp
def iln (i : Instr) (a2 : Nat) : Nat := match i with
  | .bipush _ => 2 | .sipush _ => 3 | .ldc _ => 2 | .ldc_w _ => 3 | .getstatic _ => 3
  | .iload _ => 2 | .lload _ => 2 | .aload _ => 2 | .istore _ => 2 | .astore _ => 2 | .lstore _ => 2
  | .iinc _ _ => 3 | .ifCond _ _ => 3 | .if_icmp _ _ => 3 | .goto _ => 3
  | .tableswitch _ _ _ _ => a2 | .lookupswitch _ _ => a2
  | .getfield _ => 3 | .putfield _ => 3 | .new _ => 3 | .newarray _ => 2 | .anewarray _ => 3
  | .invokespecial _ => 3 | .invokestatic _ => 3 | .invokevirtual _ => 3
  | _ => 1
def argc (j n : Nat) : Bool := decide ((parseMethodDescriptor (yN j).desc).map (fun d => d.parameters.length) = some n)
def finB (j ci k : Nat) : Bool := decide (((clC ci).2.1 k).2.2.2 = false) || (decide ((yN j).name = "<init>") && decide (((clC ci).2.1 k).1 = cnm (cnN j)))
def ick (j pc : Nat) (i : Instr) (v : Value) (a1 a2 : Nat) : Bool := match i with
  | .iconst n => decide (v = .int (Int32.ofInt n))
  | .bipush n => decide (v = .int ((Int8.ofInt n).toInt32))
  | .sipush n => decide (v = .int ((Int16.ofInt n).toInt32))
  | .lconst n => decide (v = .long (Int64.ofNat (n : Nat)))
  | .ldc idx => (match v with
    | .int x => decide ((cnN j, idx, x) ∈ CSL)
    | .retAddr k => decide (cnN j = 2) && decide (k < 6) && decide ((STL.getD k (0, "")).1 = idx)
    | _ => false)
  | .ldc_w idx => (match v with
    | .int x => decide ((cnN j, idx, x) ∈ CSL)
    | _ => false)
  | .getstatic idx => (match v with
    | .retAddr 7 => decide (cnN j = 6) && decide (idx = 35)
    | .retAddr 8 => decide (cnN j = 10) && decide (idx = 1053)
    | .int 1 => decide (cnN j = 10) && decide (idx = 38)
    | _ => false)
  | .iload_n k => decide ((k : Nat) = a1)
  | .iload k => decide (k = a1)
  | .lload k => decide (k = a1)
  | .aload_n k => decide ((k : Nat) = a1)
  | .aload k => decide (k = a1)
  | .istore_n k => decide ((k : Nat) = a1) && decide (a1 < mxN j)
  | .istore k => decide (k = a1) && decide (a1 < mxN j)
  | .astore_n k => decide ((k : Nat) = a1) && decide (a1 < mxN j)
  | .astore k => decide (k = a1) && decide (a1 < mxN j)
  | .lstore k => decide (k = a1) && decide (a1 + 1 < mxN j)
  | .iinc k n => decide (k = a1) && decide (a1 < mxN j) && decide (v = .int (Int32.ofInt n))
  | .ifCond _ off => decide ((pc : Int) + off = (a1 : Int))
  | .if_icmp _ off => decide ((pc : Int) + off = (a1 : Int))
  | .goto off => decide ((pc : Int) + off = (a1 : Int))
  | .tableswitch dflt lo hi offs => decide (-2147483648 ≤ lo) && decide (hi ≤ 2147483647) && decide (hi - lo + 1 = (offs.size : Int)) && decide (0 ≤ (pc : Int) + dflt) && offs.toList.all (fun o => decide (0 ≤ (pc : Int) + o))
  | .lookupswitch dflt ps => (ps.toList.zip (ps.toList.drop 1)).all (fun (a, next) => a.1 < next.1) && decide (0 ≤ (pc : Int) + dflt) && ps.toList.all (fun q => decide (-2147483648 ≤ q.1) && decide (q.1 < 2147483648) && decide (0 ≤ (pc : Int) + q.2))
  | .ireturn => (match v with
    | .int 0 => decide (rtN j = some .int)
    | .int 1 => decide (rtN j = some .boolean)
    | .int 2 => decide (rtN j = some .char)
    | .int 3 => decide (rtN j = some .byte)
    | _ => false)
  | .lreturn => decide (rtN j = some .long)
  | .areturn => (match rtN j with
    | some t => isRefT t
    | none => false)
  | .return_ => decide (rtN j = none)
  | .getfield idx => (match v with
    | .null => decide ((cnN j, idx, a1, a2) ∈ FLL) && isRefT (tyN a1 a2)
    | .int _ => decide ((cnN j, idx, a1, a2) ∈ FLL) && (decide (tyN a1 a2 = .int) || decide (tyN a1 a2 = .boolean))
    | .retAddr 0 => decide (cnN j = 10) && decide (idx = 15)
    | .retAddr 1 => decide (cnN j = 10) && decide (idx = 9)
    | _ => false)
  | .putfield idx => (match v with
    | .null => decide ((cnN j, idx, a1, a2) ∈ FLL) && isRefT (tyN a1 a2) && finB j a1 a2
    | .int 0 => decide ((cnN j, idx, a1, a2) ∈ FLL) && decide (tyN a1 a2 = .int) && finB j a1 a2
    | .int 1 => decide ((cnN j, idx, a1, a2) ∈ FLL) && decide (tyN a1 a2 = .boolean) && finB j a1 a2
    | _ => false)
  | .new idx => decide ((cnN j, idx, a1) ∈ CLL)
  | .newarray t => (match t with
    | .int => decide (a1 = 20)
    | .boolean => decide (a1 = 21)
    | .char => decide (a1 = 22)
    | _ => false)
  | .anewarray idx => decide (23 ≤ a1) && decide (a1 < 28) && decide ((cnN j, idx, tagC a1) ∈ CLL)
  | .invokespecial idx => (match v with
    | .int 2 => decide ((cnN j, idx) ∈ OIL)
    | _ => (decide ((cnN j, idx, a1) ∈ MLL) || decide ((cnN j, idx, a1) ∈ MNL)) && decide (a1 ∈ CIL) && argc a1 (a2 - 1) && decide (0 < a2))
  | .invokestatic idx => (match v with
    | .int 3 => decide ((cnN j, idx) ∈ ACL)
    | _ => (decide ((cnN j, idx, a1) ∈ MLL) || decide ((cnN j, idx, a1) ∈ MNL)) && decide (a1 ∈ SIL) && argc a1 a2)
  | .invokevirtual idx => decide ((cnN j, idx, a1) ∈ MLL) && decide (a1 ∈ VIL) && argc a1 (a2 - 1) && decide (0 < a2)
  | _ => true
def eok (j pc : Nat) (E : En) : Bool := decide (decode (byN j) pc = .ok (E.1, iln E.1 E.2.2.2.2)) && decide (E.2.1 = pc + iln E.1 E.2.2.2.2) && ick j pc E.1 E.2.2.1 E.2.2.2.1 E.2.2.2.2
theorem kI_inv {st : List Value} {k : Int32 → List Value → Prop} (h : kI st k) : ∃ x r, st = .int x :: r ∧ k x r := by
  unfold kI at h; split at h
  · exact ⟨_, _, rfl, h⟩
  · cases h
theorem kII_inv {st : List Value} {k : Int32 → Int32 → List Value → Prop} (h : kII st k) : ∃ x y r, st = .int y :: .int x :: r ∧ k x y r := by
  unfold kII at h; split at h
  · exact ⟨_, _, _, rfl, h⟩
  · cases h
theorem kL_inv {st : List Value} {k : Int64 → List Value → Prop} (h : kL st k) : ∃ x r, st = .long x :: r ∧ k x r := by
  unfold kL at h; split at h
  · exact ⟨_, _, rfl, h⟩
  · cases h
theorem kLL_inv {st : List Value} {k : Int64 → Int64 → List Value → Prop} (h : kLL st k) : ∃ x y r, st = .long y :: .long x :: r ∧ k x y r := by
  unfold kLL at h; split at h
  · exact ⟨_, _, _, rfl, h⟩
  · cases h
theorem kR_inv {st : List Value} {k : Nat → List Value → Prop} (h : kR st k) : ∃ x r, st = .ref x :: r ∧ k x r := by
  unfold kR at h; split at h
  · exact ⟨_, _, rfl, h⟩
  · cases h
theorem kIR_inv {st : List Value} {k : Int32 → Nat → List Value → Prop} (h : kIR st k) : ∃ x a r, st = .int x :: .ref a :: r ∧ k x a r := by
  unfold kIR at h; split at h
  · exact ⟨_, _, _, rfl, h⟩
  · cases h
theorem kIIR_inv {st : List Value} {k : Int32 → Int32 → Nat → List Value → Prop} (h : kIIR st k) : ∃ x i a r, st = .int x :: .int i :: .ref a :: r ∧ k x i a r := by
  unfold kIIR at h; split at h
  · exact ⟨_, _, _, _, rfl, h⟩
  · cases h
theorem cond_inv {b : Bool} {A : Prop} (h : cond b A False) : b = true ∧ A := by
  cases b with
  | true => exact ⟨rfl, h⟩
  | false => cases h
theorem ite_mono {c A B A' B' : Prop} [Decidable c] (ha : A → A') (hb : B → B') (h : if c then A else B) : if c then A' else B' := by
  by_cases hc : c
  · rw [if_pos hc] at h ⊢; exact ha h
  · rw [if_neg hc] at h ⊢; exact hb h
theorem br_mono {q : ClassFile.Cond} {x y : Int32} {A B A' B' : Prop} (ha : A → A') (hb : B → B') (h : br q x y A B) : br q x y A' B' := by
  cases q with
  | eq => exact ite_mono ha hb h
  | ne => exact ite_mono hb ha h
  | lt => exact ite_mono ha hb h
  | ge => exact ite_mono hb ha h
  | gt => exact ite_mono ha hb h
  | le => exact ite_mono hb ha h
theorem swt_mono {pc : Nat} {x : Int32} {K K' : Nat → Prop} {dflt : Int} (hK : ∀ t, K t → K' t) : ∀ (os : List Int) (lo : Int), swt pc x K dflt lo os → swt pc x K' dflt lo os
  | [], _, h => hK _ h
  | o :: os, lo, h => by
    rw [swt] at h ⊢
    by_cases hx : x = Int32.ofInt lo
    · rw [if_pos hx] at h ⊢; exact hK _ h
    · rw [if_neg hx] at h ⊢; exact swt_mono hK os _ h
theorem swl_mono {pc : Nat} {x : Int32} {K K' : Nat → Prop} {dflt : Int} (hK : ∀ t, K t → K' t) : ∀ (ps : List (Int × Int)), swl pc x K dflt ps → swl pc x K' dflt ps
  | [], h => hK _ h
  | (a, o) :: ps, h => by
    rw [swl] at h ⊢
    by_cases hx : x = Int32.ofInt a
    · rw [if_pos hx] at h ⊢; exact hK _ h
    · rw [if_neg hx] at h ⊢; exact swl_mono hK ps h
theorem Mc_mono {d j : Nat} {as : List Value} {S : Shp} {mem : Mem} {Q Q' : Qt} (hQ : ∀ r S m, Q r S m → Q' r S m) (h : Mc d j as S mem Q) : Mc d j as S mem Q' := by
  intro l D tA base kc ad
  refine MetFree.mono (h l D tA base kc ad) (fun _ _ h => h) (fun _ _ _ _ _ h => h) ?_
  rintro a s o t - ⟨⟨r, S', mem', ad', h1, h2, h3⟩, h4⟩
  exact ⟨⟨r, S', mem', ad', h1, hQ _ _ _ h2, h3⟩, h4⟩
theorem callK_inv {j d j' ac nxt : Nat} {as rest : List Value} {L : Lvs} {S : Shp} {cs : Nat × Nat} {mem : Mem} {K : Kt} (hbo : cs.1 ≤ mcN j ∧ cs.2 ≤ msN j ∨ True) (h : callK j d j' ac nxt as rest L S cs mem K) :
    cats rest ≤ 8 ∧ as.length = ac ∧ ∃ cs' : Nat × Nat, cs' = (cs.1 + mcN j', cs.2 + msN j') ∧ (mcN j' = 0 ∨ ((cs.1 + mcN j' ≤ mcN j ∧ cs.2 + msN j' ≤ msN j) ∧ ¬ mcN j = 0 ∧ lok S.1 L = true ∧ rest.all (vok S.1) = true)) ∧ Mc d j' as S mem (fun r S' mem' => K nxt L (r.toList ++ rest) S' cs' mem') := by
  unfold callK at h
  obtain ⟨h1, h2⟩ := cond_inv h
  rw [Bool.and_eq_true] at h1
  refine ⟨Nat.le_of_ble_eq_true h1.1, Nat.eq_of_beq_eq_true h1.2, ?_⟩
  cases hm : Nat.beq (mcN j') 0 with
  | true =>
    rw [hm] at h2
    have hz : mcN j' = 0 := Nat.eq_of_beq_eq_true hm
    exact ⟨cs, by rw [hz, mc_ms hz]; rfl, Or.inl hz, h2⟩
  | false =>
    rw [hm] at h2
    obtain ⟨⟨q1, q2, q3⟩, q4⟩ := h2
    refine ⟨_, rfl, Or.inr ⟨bok_of q1, ?_, q2, q3⟩, q4⟩
    have hne : ¬ mcN j' = 0 := fun z => by rw [z] at hm; cases hm
    have := (bok_of q1).1
    simp only at this
    omega
