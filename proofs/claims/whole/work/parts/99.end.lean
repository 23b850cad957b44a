-- the claim
theorem at_all {args : Array Value} {s : State} : ∀ {ws : List Cond}, (∀ w ∈ ws, w.before args s = true) → (allAtoms ws).before args s = true
  | [], _ => rfl
  | w :: ws, h => by
    show (Jvm.Cond.and w (allAtoms ws)).before args s = true
    rw [Cond.before_and, Bool.and_eq_true]
    exact ⟨h w List.mem_cons_self, at_all (fun v hv => h v (List.mem_cons_of_mem _ hv))⟩
theorem rm_mono {s : State} {pl : Platform} {r r' : Room} (hf : r.frames ≤ r'.frames) (hl : r.locals ≤ r'.locals) (hc : r.cells ≤ r'.cells) (hs : r.slots ≤ r'.slots) (h : s.hasRoom pl r' = true) : s.hasRoom pl r = true := by
  simp only [State.hasRoom, Bool.and_eq_true, decide_eq_true_eq] at h ⊢
  obtain ⟨⟨⟨⟨y, a, b, c, d, e⟩, f⟩, g⟩, i⟩ := h
  exact ⟨⟨⟨⟨by omega, by omega, by omega, by omega, by omega, e⟩, by omega⟩, by omega⟩, i⟩
theorem fresh_nil {s t : State} {J : List Loc} {k n : Nat} (h : s.sameButNew t J k n) (hJ : ∀ q ∈ J, s.heap.size ≤ q.base) : s.sameButNew t [] k n := by
  obtain ⟨a, b, c, d, e, f⟩ := h
  refine ⟨a, b, c, d, e, fun q x hx => ?_⟩
  obtain ⟨y, y1, y2, y3, y4⟩ := f q x hx
  have hq : q < s.heap.size := (Array.getElem?_eq_some_iff.mp hx).1
  refine ⟨y, y1, y2, y3, fun i _ => y4 i (fun hi => ?_)⟩
  exact absurd (hJ _ hi) (Nat.not_le.mpr hq)
def claimP (b : Addr) (xs : List Int32) (args : Array Value) (s : State) : Prop := args = #[.ref b] ∧ s.IntsAt b xs ∧ xs.length ≤ 384 ∧ (Jvm.Cond.and given_1 narrow_1).before args s = true
def claimQ (_ : Array Value) (s : State) (o : Outcome) (t : State) : Prop := o = .returned (some (.int 1)) ∧ Framed s o t [] 600000 7302249
theorem claim_walk (l : Launch) (b : Addr) (xs : List Int32) : MetFree l x (headSpec (Jvm.Cond.code x code maxLocals ret :: tables_1) room_1) (claimP b xs) (fun _ _ _ _ _ => True) claimQ := by
  intro p e ha hcas hclk s m args below hf happ hP _
  obtain ⟨rfl, hx, hbd, hgv⟩ := hP
  obtain ⟨scr, harrAt, hlist, hof, hsmall⟩ := hx
  obtain ⟨hcb, hkn, -, -⟩ := State.arrayAt?_spec harrAt
  obtain ⟨q1, q2, q3, q4, q5, q6, q7, q8⟩ := (Spec.appliesLoose_iff hf).mp happ
  have hts0 : ∀ c ∈ (Jvm.Cond.code x code maxLocals ret :: tables_1), c.before #[Value.ref b] s = true := atoms_spec (ws := Jvm.Cond.code x code maxLocals ret :: tables_1) q8
  have hts : ∀ w ∈ lw_tbl, w.before #[Value.ref b] s = true := k2_hts_sels lw_privs (fun w hw => hts0 w (List.mem_cons_of_mem _ hw)) lw_privs_ok
  have hsz : scr.slots.size = xs.length := by rw [← Array.length_toList, hlist, List.length_map]
  have hval : ∀ j : Nat, j < xs.length → scr.slots[j]? = some (.int (xs.getD j 0)) := fun j hj => by
    rw [← Array.getElem?_toList, hlist]
    simp [hj]
  have hbl : b < s.heap.size := (Array.getElem?_eq_some_iff.mp hcb).1
  have hX : va_X b xs.length (fun j => xs.getD j 0) s s.heap := ⟨scr, hcb, hof, hkn, hsz, hval⟩
  obtain ⟨D, tA, kc, hk20, hW⟩ := st_W hbd hts hgv hX hbl
  have M : Mc 201 223 [.retAddr 20] (Sh xs.length 0 RFy) (ini (fun j => xs.getD j 0)) (fun r _ _ => r = some (.int 1)) := law_all (d := 0) hbd (fun _ _ => rfl)
  have R := M l D tA s.heap.size kc (fun _ => 0)
  have hw : ∀ w ∈ wsN 223, w.before #[Value.ref b] s = true := fun w hw => by
    rcases List.mem_cons.mp hw with h | h
    · rw [h]; exact hts0 _ List.mem_cons_self
    · exact hts w (List.mem_filter.mp h).1
  have happ2 : (headSpec (wsN 223) (rmN 201 223)).appliesLoose (yN 223) e.platform s = true := (Spec.appliesLoose_iff hf).mpr ⟨q1, q2, q3, q4, q5, q6, rm_mono (r' := room_1) (leB rfl) (leB rfl) (leB rfl) (leB rfl) q7, at_all hw⟩
  have ea : #[Value.ref b] = (([.retAddr 20] : List Value).map (cv kc (fun _ => 0))).toArray := by
    show #[Value.ref b] = [kc 20].toArray
    rw [hk20]
  obtain ⟨n, o, h1, h2, h3, ⟨r, S', mem', ad', e1, e2, -⟩, Lc, hFE, hfree⟩ := R p e ha hcas hclk s m #[.ref b] below hf happ2 ⟨ea, hW⟩ trivial
  refine ⟨n, o, h1, h2, h3, ?_, hFE.1, hFE.2.1, fresh_nil hFE.2.2 hfree⟩
  rw [e1, e2]; rfl
theorem claim_pre {args : Array Value} {s : State} (h : (Jvm.Cond.and given_1 narrow_1).before args s = true) (hr : rest_1_c.before args s = true) : ∃ (b : Addr) (xs : List Int32), claimP b xs args s := by
  have hs := flat_of_before _ h
  have hq := flat_of_before _ hr
  have hc : (Cond.count 1).before args s = true := hs _ (by decide +kernel)
  have harr : (Cond.arrayOf (.arg 0) .int).before args s = true := hs _ (by decide +kernel)
  have hle : (Cond.le (.length (.arg 0)) (.int 384)).before args s = true := hs _ (by decide +kernel)
  have hlen : (Cond.isInt (.length (.arg 0))).before args s = true := hq _ (by decide +kernel)
  have hall : (Cond.all (.arg 0) (.isInt (.elem (.arg 0) (.index 0)))).before args s = true := hq _ (by decide +kernel)
  obtain ⟨b, xs, hb, hx⟩ := State.ints_of_pre rfl harr hlen hall
  have hsm : xs.length < 2 ^ 31 := hx.choose_spec.2.2.2
  have hev : (Term.length (.arg 0)).eval args s none [] s = some (.int xs.length.toInt32) := hx.length_eval hb
  have hv := Cond.le_ints hev (show (Term.int 384).eval args s none [] s = some (.int 384) from rfl)
  have hd : xs.length.toInt32 ≤ 384 := by
    simpa [Cond.before, Cond.holds, hv] using hle
  have hN : xs.length ≤ 384 := (Int32.ofNat_le_ofNat hsm (by decide)).mp (show Int32.ofNat xs.length ≤ Int32.ofNat 384 from hd)
  exact ⟨b, xs, Cond.one_arg hc (show args[0]? = some (.ref b) from hb), hx, hN, h⟩
theorem claim_limb (L : Cond) (hL : ∀ (args : Array Value) (s t : State), L.after args s (.returned (some (.int 1))) t = true) :
    ArmFor flags0 classFile x code maxLocals ret World_1 tables_1 room_1 Calls_1 rest_1 Pre_1
      (fun tb e a s o t => postC L tb e a s o t ∧ Framed s o t (fieldLocs frame_1_writes a s ++ arrayLocs frame_1_arrays a s ++ staticLocs frame_1_statics s) 600000 7302249) := by
  intro l _ _ _ p e ha hc hk s m args below hf hfit hheap happ hpre
  obtain ⟨b, xs, hP⟩ := claim_pre hpre.2.2 hpre.2.1
  obtain ⟨k, o, h1, h2, h3, rfl, hF⟩ := claim_walk l b xs p e ha hc hk s m args below hf ((Spec.applies_iff_loose hf).mp happ).1 hP trivial
  exact ⟨k, _, h1, h2, h3, hL args s _, hF⟩
theorem i_vc : Claimed_1_1 ∧ Claimed_1_2 := ⟨claim_limb limb_1_1 (fun args s t => by simp [limb_1_1, Cond.after, Cond.holds, Cond.value]), claim_limb limb_1_2 (fun args s t => Cond.after_iff.mpr (by
  first | (rw [show limb_1_2 = Cond.eq .result (.int 1) from rfl, Cond.eq_ints (x := 1) (y := 1) rfl rfl]; simp; done) | (simp [limb_1_2, Cond.value, Term.eval]; done)))⟩
