-- texts: names
theorem i2_ok : ∀ w, w < 128 → ((nI w).toUInt32 % 65536).toInt32 = nI w ∧ (nI w).toInt8.toInt32 = nI w := by decide
def idxF (k : Nat) (b : Int32) : Nat → Nat → Int32
  | 0, _ => -1
  | j + 1, i => if byt k i = b then nI i else idxF k b j (i + 1)
theorem c_ioc {d k w : Nat} {S : Shp} {m : Mem} {Q : Qt} (hk : k < 6) (hw : w < 128) (hQ : Q (some (.int (idxF k (nI w) (SLEN.getD k 0) 0))) S m) : Mc (d + 1) 213 [.retAddr (k + 10), .int (nI w), .int 0, .int (nI (SLEN.getD k 0))] S m Q := by
  have e8 := (i2_ok w hw).2
  have hl : SLEN.getD k 0 ≤ 4 := by rcases k6 hk with rfl | rfl | rfl | rfl | rfl | rfl <;> decide
  have ek : k + 10 - 10 = k := by omega
  have loop : ∀ j i, i + j = SLEN.getD k 0 → Q (some (.int (idxF k (nI w) j i))) S m → Xs (d + 1) 213 7 [some (.retAddr (k + 10)), some (.int (nI w)), some (.int 0), some (.int (nI (SLEN.getD k 0))), some (.int (nI w).toInt8.toInt32), some (.int (nI i))] [] S (0, 0) m Q := by
    intro j
    induction j with
    | zero =>
      intro i hi hq
      refine Xs_wp (cut1 7) t213 40 ?_
      exact ifI (fun z => absurd z (nI_nlt (by omega) (by omega))) (fun _ => hq)
    | succ j ih =>
      intro i hi hq
      refine Xs_wp (cut1 7) t213 40 ?_
      refine ifI (fun _ => ?_) (fun z => absurd (nI_lt (by omega) (by omega)) z)
      refine ⟨⟨by omega, by omega, by rw [ek]; exact vinN (show i < SLEN.getD k 0 by omega) (by simpa using (show SLEN.getD k 0 < 2147483648 by omega))⟩, ?_⟩
      rw [nI_clamp (by omega), ek]
      unfold idxF at hq
      by_cases q : byt k i = nI w
      · rw [if_pos q] at hq
        exact ifI (fun _ => hq) (fun z => absurd (show byt k i = _ by rw [e8, q]) z)
      · rw [if_neg q] at hq
        refine ifI (fun z => absurd ((show byt k i = (nI w).toInt8.toInt32 from z).trans e8) q) (fun _ => ?_)
        have := ih (i + 1) (by omega) hq
        rw [← nI_1] at this
        exact this
  refine Mc_wp (cut1 7) t213 rfl rfl rfl 40 ?_
  exact loop (SLEN.getD k 0) 0 (by omega) hQ
theorem c_lix {d k w : Nat} {S : Shp} {m : Mem} {Q : Qt} (hk : k < 6) (hw : w < 128) (hQ : Q (some (.int (idxF k (nI w) (SLEN.getD k 0) 0))) S m) : Mc (d + 2) 212 [.retAddr (k + 10), .int (nI w), .int 0, .int (nI (SLEN.getD k 0))] S m Q := by
  have em : maxV 0 0 = 0 := by decide
  have en : minV (nI (SLEN.getD k 0)) (Int32.ofNat (SLEN.getD (k + 10 - 10) 0)) = nI (SLEN.getD k 0) := by rcases k6 hk with rfl | rfl | rfl | rfl | rfl | rfl <;> decide
  have el : (0 : Int32) < nI (SLEN.getD k 0) := by rcases k6 hk with rfl | rfl | rfl | rfl | rfl | rfl <;> decide
  rcases k6 hk with rfl | rfl | rfl | rfl | rfl | rfl
  all_goals
    refine Mc_wp (cut1 22) t212 rfl rfl rfl 60 ?_
    refine Mc_wp nocut t211 rfl rfl rfl 40 ?_
    refine ifI (fun z => absurd z (nI_pos (by omega))) (fun _ => ?_)
    refine ifI (fun z => absurd z (nI_nlt (a := 255) (by omega) (by omega))) (fun _ => ?_)
    refine ⟨Or.inr rfl, ?_⟩
    refine c_max ?_
    rw [em]
    refine ⟨⟨by omega, by omega⟩, ?_⟩
    refine c_min ?_
    rw [en]
    refine Xs_wp nocut t212 40 ?_
    exact c_ioc hk hw hQ
theorem c_idx {d k w : Nat} {S : Shp} {m : Mem} {Q : Qt} (hk : k < 6) (hw : w < 128) (hQ : Q (some (.int (idxF k (nI w) (SLEN.getD k 0) 0))) S m) : Mc (d + 4) 205 [.retAddr k, .int (nI w)] S m Q := by
  refine Mc_wp nocut t205 rfl rfl rfl 40 ?_
  refine ⟨⟨hk, rfl⟩, Mc_wp nocut t206 rfl rfl rfl 40 ?_⟩
  refine ⟨⟨hk, rfl⟩, c_lat hk ?_⟩
  refine ⟨hk, ?_⟩
  refine ⟨⟨hk, rfl⟩, c_len hk ?_⟩
  exact c_lix hk hw hQ
theorem idx_nm {key : Nat} (hk : key < 3) (b : Int32) : idxF (3 + key) b (SLEN.getD (3 + key) 0) 0 = nmI key b := by
  have e : ∀ a b : Int32, (a = b) = (b = a) := fun a b => propext ⟨Eq.symm, Eq.symm⟩
  have : key = 0 ∨ key = 1 ∨ key = 2 := by omega
  rcases this with rfl | rfl | rfl
  · show (if (112 : Int32) = b then (0 : Int32) else if (97 : Int32) = b then 1 else if (99 : Int32) = b then 2 else if (120 : Int32) = b then 3 else -1) = (if b = 112 then 0 else if b = 97 then 1 else if b = 99 then 2 else if b = 120 then 3 else -1)
    simp only [e _ b]
  · show (if (119 : Int32) = b then (0 : Int32) else if (115 : Int32) = b then 1 else if (116 : Int32) = b then 2 else -1) = (if b = 119 then 0 else if b = 115 then 1 else if b = 116 then 2 else -1)
    simp only [e _ b]
  · show (if (108 : Int32) = b then (0 : Int32) else if (112 : Int32) = b then 1 else -1) = (if b = 108 then 0 else if b = 112 then 1 else -1)
    simp only [e _ b]
theorem sor_let {b : Int32} (h : sor b = 3) : 97 ≤ b.toInt ∧ b.toInt ≤ 122 := by
  have key : sor2 b ≠ 3 := by
    unfold sor2
    split
    · omega
    · split <;> omega
  unfold sor at h
  split at h
  · exact absurd h key
  · split at h
    · exact absurd h key
    · rename_i q1 q2
      rw [tI_lt] at q1 q2
      have e1 : (97 : Int32).toInt = 97 := rfl
      have e2 : (122 : Int32).toInt = 122 := rfl
      omega
theorem c_names {d key : Nat} {S : Shp} {m : Mem} {Q : Qt} (hk : key < 3) (hQ : Q (some (.retAddr (3 + key))) S m) : Mc (d + 1) 36 [.int (nI key)] S m Q := by
  refine Mc_wp nocut t36 rfl rfl rfl 40 ?_
  have : key = 0 ∨ key = 1 ∨ key = 2 := by omega
  rcases this with rfl | rfl | rfl
  · exact hQ
  · exact hQ
  · exact hQ
/-- the row r holds these codes -/
def TXT (r key : Nat) (pre : List Int32) (m : Mem) : Prop := m (5 + 2 * r) 1 = nI pre.length ∧ m (5 + 2 * r) 2 = nI key ∧ m (5 + 2 * r) 3 = nI (pre.countP (fun c => decide (c < 10100))) ∧ ∀ i, i < pre.length → m (6 + 2 * r) i = pre.getD i 0
theorem c_name {d L r n key : Nat} {m : Mem} {Q : Qt} {x : Lx} {T : Nat → Int32} (hr : r < 15) (hn : n ≤ 96) (hv : LV T n x) (h3 : x.so = 3) (hT : m 107 = T) (hx : RX n x m) (hk : key < 3) (ek : m (5 + 2 * r) 2 = nI key) (hQ : Q (some (.int (if x.en - x.st = 1 then (if nmI key (T x.st) < 0 then -1 else 10000 + nmI key (T x.st)) else -1))) (SR L r) m) : Mc (d + 5) 35 [.ref 161] (SR L r) m Q := by
  obtain ⟨e1, e3, e4, e5, e6⟩ := hx
  have hle := hv.1
  have hen := hv.2.1
  have es : (nI x.en - nI x.st : Int32) = nI (x.en - x.st) := pk_sub hle
  have hlt := hv.2.2.1 (by omega)
  obtain ⟨f1, f2⟩ := qif hQ
  refine Mc_wp nocut t35 rfl rfl rfl 60 ?_
  refine ⟨srO, ?_⟩
  rw [e4]
  refine ⟨srO, ?_⟩
  rw [e3]
  by_cases q : x.en - x.st = 1
  · refine ifI (fun _ => ?_) (fun z => absurd (by rw [es, q]; rfl) z)
    obtain ⟨g1, g2⟩ := qif (f1 q)
    refine ⟨srI, ?_⟩
    rw [srIV]
    refine ⟨srX hr, ?_⟩
    rw [ek]
    refine c_names hk ?_
    refine ⟨srT, ?_⟩
    rw [srTV]
    refine ⟨srO, ?_⟩
    refine ⟨srP e3 (by omega), ?_⟩
    rw [clK e3 (by omega), hT]
    have hb := sor_let (b := T x.st) ((hv.2.2.2.2.2 x.st (Nat.le_refl _) hlt).trans h3)
    obtain ⟨w, hw, ew⟩ : ∃ w, w < 128 ∧ T x.st = nI w := ⟨(T x.st).toInt.toNat, by omega, by rw [tI_eq, nI_toInt (by omega)]; omega⟩
    rw [ew] at g1 g2 ⊢
    refine ⟨⟨by omega, rfl⟩, ?_⟩
    rw [(i2_ok w hw).1]
    refine c_idx (by omega) hw ?_
    rw [idx_nm hk]
    exact ifI (fun z => g1 z) (fun z => g2 z)
  · refine ifI (fun z => absurd ((nI_eq (b := 1) (by omega) (by omega)).mp (by rw [← es]; exact z)) q) (fun _ => ?_)
    exact f2 q
theorem c_add {d L r key : Nat} {m : Mem} {Q : Qt} {pre : List Int32} {c : Int32} (hr : r < 15) (hp : pre.length < 96) (h : TXT r key pre m) (hQ : ∀ m', Fr [5 + 2 * r, 6 + 2 * r] m m' → m' (5 + 2 * r) 1 = nI (pre ++ [c]).length → m' (5 + 2 * r) 2 = nI key → m' (5 + 2 * r) 3 = m (5 + 2 * r) 3 → (∀ i, i < (pre ++ [c]).length → m' (6 + 2 * r) i = (pre ++ [c]).getD i 0) → Q none (SR L r) m') : Mc (d + 1) 45 [.ref (5 + 2 * r), .int c] (SR L r) m Q := by
  obtain ⟨e1, e2, e3, e4⟩ := h
  refine Mc_wp nocut t45 rfl rfl rfl 40 ?_
  refine ⟨srX hr, ?_⟩
  rw [e1]
  refine ifI (fun _ => ?_) (fun z => absurd (nI_lt (b := 96) hp (by omega)) z)
  refine ⟨srXR hr, ?_⟩
  rw [srXV hr]
  refine ⟨srX hr, ?_⟩
  refine ⟨srXA hr e1 hp, ?_⟩
  rw [clK e1 (by omega)]
  refine ⟨srX hr, ?_⟩
  rw [mu_row (by omega), e1]
  refine ⟨srX hr, ?_⟩
  rw [nI_1]
  have hlen : (pre ++ [c]).length = pre.length + 1 := by simp
  refine hQ _ ((Fr.refl.mu (by simp)).mu (by simp)) (by rw [mu_at, hlen]) (by rw [mu_ne (by decide), mu_row (by omega)]; exact e2) (by rw [mu_ne (by decide), mu_row (by omega)]) (fun i hi => ?_)
  rw [mu_row (by omega)]
  by_cases q : i = pre.length
  · rw [q, mu_at]; simp [List.getD]
  · rw [hlen] at hi
    rw [mu_ne q, e4 i (by omega)]
    simp only [List.getD, List.getElem?_append_left (show i < pre.length by omega)]
theorem c_addS {d L r key : Nat} {m : Mem} {Q : Qt} {pre : List Int32} {c : Int32} (hr : r < 15) (hp : pre.length < 96) (hc : ¬ c < 10100) (h : TXT r key pre m) (hQ : ∀ m', Fr [5 + 2 * r, 6 + 2 * r] m m' → TXT r key (pre ++ [c]) m' → Q none (SR L r) m') : Mc (d + 1) 45 [.ref (5 + 2 * r), .int c] (SR L r) m Q := by
  refine c_add hr hp h (fun m' hF a b e f => hQ m' hF ⟨a, b, ?_, f⟩)
  rw [e, h.2.2.1, List.countP_append]
  simp [hc]
theorem c_addW {d L r key : Nat} {m : Mem} {Q : Qt} {pre : List Int32} {c : Int32} (hr : r < 15) (hp : pre.length < 96) (hc : c < 10100) (h : TXT r key pre m) (hQ : ∀ m', Fr [5 + 2 * r, 6 + 2 * r] m m' → TXT r key (pre ++ [c]) m' → Q none (SR L r) m') : Mc (d + 2) 46 [.ref (5 + 2 * r), .int c] (SR L r) m Q := by
  refine Mc_wp nocut t46 rfl rfl rfl 40 ?_
  refine ⟨srX hr, c_add hr hp h (fun m' hF a b e f => ?_)⟩
  refine ⟨srX hr, ?_⟩
  rw [e, h.2.2.1]
  refine ⟨srX hr, ?_⟩
  rw [nI_1]
  refine hQ _ (hF.mu (by simp)) ⟨by rw [mu_ne (by decide)]; exact a, by rw [mu_ne (by decide)]; exact b, ?_, fun i hi => by rw [mu_row (by omega)]; exact f i hi⟩
  rw [mu_at, List.countP_append]
  simp [hc]
