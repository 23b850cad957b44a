-- the class: days
theorem c_dayBody {d L : Nat} {mem : Mem} {Q : Qt} {b nt nw nx t : Nat} {A : Nat → Int32} {s2 s3 s4 : Option Value} (hb : MB b) (hR : RepM b nt nw nx A mem) (hT : RepT nx A mem) (hW : WB nt A) (ht : t < nt)
    (h : ∀ m' s2 s3 s4, FrB b mem m' → RepM b nt nw nx (dayT A t) m' → Xs (d + 6) 15 2 [some (.ref b), some (.int (nI t + 1)), s2, s3, s4] [] (S0 L) (0, 0) m' Q) :
    Xs (d + 6) 15 10 [some (.ref b), some (.int (nI t)), s2, s3, s4] [] (S0 L) (0, 0) mem Q := by
  have hn8 := hR.2.2.1.1
  have hb5 := mb_ge hb
  have hc : tuC L (b + 4 + t) := heC hb (by omega)
  have p := fun f (hf : f < 6) => hR.2.2.2.1 t f ht hf
  have hdead := (hW t ht).2
  have hturn := (hW t ht).1
  -- the last part: dead or not
  have fin : ∀ (m1 : Mem) (x far : Int32), FrB b mem m1 → RepM b nt nw nx (upd (drawA A) (44 + 6 * t + 2) (A (44 + 6 * t + 2) + far)) m1 → ¬ A (44 + 6 * t + 5) = 1 → far = (if A (44 + 6 * t + 4) = 1 then -farV A t else farV A t) →
      Xs (d + 6) 15 77 [some (.ref b), some (.int (nI t)), some (.ref (b + 4 + t)), some (.int x), some (.int (farV A t))] [] (S0 L) (0, 0) m1 Q := by
    intro m1 x far hF hR1 hd hfar
    refine Xs_wp (cut1 2) t15 200 ?_
    refine ⟨hc, ?_⟩
    refine ⟨hc, ?_⟩
    refine ⟨hc, ?_⟩
    refine ⟨moC hb, ?_⟩
    have e3 : m1 (b + 4 + t) 3 = A (44 + 6 * t + 3) := by
      rw [hR1.2.2.2.1 t 3 ht (by omega), pk_un (by omega)]; exact pk_un (by omega)
    have e9 : m1 b 9 = A 5 := by
      rw [hR1.1.2.2.2.2.2.1, pk_un (by omega)]; exact pk_un (by omega)
    rw [mu_at, mu_row (show b ≠ b + 4 + t by omega), e3, e9]
    have last : ∀ z : Int32, z = (if A (44 + 6 * t + 3) + 1 < A 5 then 0 else 1) → Xs (d + 6) 15 2 [some (.ref b), some (.int (nI t + 1)), some (.ref (b + 4 + t)), some (.int x), some (.int (farV A t))] [] (S0 L) (0, 0) (mu (mu m1 (b + 4 + t) 3 (A (44 + 6 * t + 3) + 1)) (b + 4 + t) 5 z) Q := by
      intro z hz
      refine h _ _ _ _ ((hF.mu (by omega) (by omega)).mu (by omega) (by omega)) ?_
      have := (hR1.tu (f := 3) (v := A (44 + 6 * t + 3) + 1) ht (by omega)).tu (f := 5) (v := z) ht (by omega)
      unfold dayT
      rw [if_neg hd, ← hfar, ← hz]
      exact this
    refine ifI (fun z => ?_) (fun z => ?_)
    · refine ⟨⟨hc.1, hc.2, Or.inl rfl⟩, ?_⟩
      exact last 0 (by rw [if_pos z])
    · refine ⟨⟨hc.1, hc.2, Or.inr rfl⟩, ?_⟩
      exact last 1 (by rw [if_neg z])
  have tail : ∀ (m1 : Mem) (x : Int32), FrB b mem m1 → RepM b nt nw nx (drawA A) m1 → ¬ A (44 + 6 * t + 5) = 1 →
      Xs (d + 6) 15 53 [some (.ref b), some (.int (nI t)), some (.ref (b + 4 + t)), some (.int x), some (.int (farV A t))] [] (S0 L) (0, 0) m1 Q := by
    intro m1 x hF hR1 hd
    have e2 : m1 (b + 4 + t) 2 = A (44 + 6 * t + 2) := by
      rw [hR1.2.2.2.1 t 2 ht (by omega)]; exact pk_un (by omega)
    have e4 : m1 (b + 4 + t) 4 = A (44 + 6 * t + 4) := by
      rw [hR1.2.2.2.1 t 4 ht (by omega)]; exact pk_un (by omega)
    refine Xs_wp (cut1 77) t15 200 ?_
    refine ⟨hc, ?_⟩
    refine ⟨hc, ?_⟩
    rw [e2, e4]
    refine ifI (fun z => ?_) (fun z => ?_)
    · refine ⟨hc, ?_⟩
      refine fin _ x (farV A t) (hF.mu (by omega) (by omega)) (hR1.tu ht (by omega)) hd ?_
      rw [if_neg]
      intro q; rw [q] at z; exact absurd z (by decide)
    · refine ⟨hc, ?_⟩
      refine fin _ x (-farV A t) (hF.mu (by omega) (by omega)) (hR1.tu ht (by omega)) hd ?_
      rw [if_pos]
      rcases hturn with q | q
      · exact absurd q z
      · exact q
  refine Xs_wp (cut2 2 53) t15 200 ?_
  refine ⟨moK1 hb, ?_⟩
  rw [moV1 hb]
  refine ⟨heK hb (rfl : nI t = nI t) (by omega), ?_⟩
  rw [heV hb (rfl : nI t = nI t) (show t < 8 by omega)]
  refine ⟨hc, ?_⟩
  rw [p 5 (by omega)]
  refine ifI (fun q => ?_) (fun q => ?_)
  · have hd : ¬ A (44 + 6 * t + 5) = 1 := fun e => by rw [e] at q; exact absurd q (by decide)
    refine ⟨moC hb, c_draw hb ?_⟩
    refine ⟨by decide, ?_⟩
    refine ⟨moC hb, ?_⟩
    have hz : mem b 11 = A 0 := hR.1.2.2.2.2.2.2.2
    rw [hz, mu_ne (show (8 : Nat) ≠ 11 by decide), hR.1.2.2.2.2.1]
    have hF : FrB b mem (mu mem b 11 (drawN (A 0))) := FrB.refl.mu (by omega) (by omega)
    have hR1 : RepM b nt nw nx (drawA A) (mu mem b 11 (drawN (A 0))) := hR.z
    refine ifI (fun z => ?_) (fun z => ?_)
    · refine ⟨moC hb, c_stepOf hb hR1 ((hT.upd (by omega)).frB hb hR.2.2.1.2.2 hF) ht (fun m' hm => ?_)⟩
      have := tail m' (rm (drawV (A 0)) 10) (hF.fr hm) (hR1.fr (fun r h1 h2 => hm r (by simp; omega))) hd
      have e9 : farV A t = stepA (drawA A) t (drawV (A 0) - drawV (A 0) / 10 * 10) := by
        unfold farV
        rw [if_pos z]; rfl
      rw [e9] at this
      exact this
    · have := tail _ (rm (drawV (A 0)) 10) hF hR1 hd
      have e9 : farV A t = 0 := by unfold farV; rw [if_neg z]
      rw [e9] at this
      exact this
  · have hd : A (44 + 6 * t + 5) = 1 := by
      rcases hdead with z | z
      · exact absurd z q
      · exact z
    exact h mem _ _ _ FrB.refl (by unfold dayT; rw [if_pos hd]; exact hR)
theorem dayL_tx {A : Nat → Int32} {nt : Nat} (hn : nt ≤ 8) : ∀ i, 92 ≤ i → dayL A nt i = A i := fun i hi => dayL_out (by omega) (by omega) hn
theorem WB.dayL {nt : Nat} {A : Nat → Int32} (h : WB nt A) : ∀ n, WB nt (dayL A n)
  | 0 => h
  | n + 1 => wb_dayT (WB.dayL h n)
theorem wb_dayA {nt : Nat} {A : Nat → Int32} (h : WB nt A) : WB nt (dayA A) := by
  intro t ht
  unfold dayA
  rw [pk_un (by omega), pk_un (by omega)]
  exact h.dayL _ t ht
theorem c_goDay {d L : Nat} {mem : Mem} {Q : Qt} {b nt nw nx : Nat} {A : Nat → Int32} (hb : MB b) (hR : RepM b nt nw nx A mem) (hT : RepT nx A mem) (hW : WB nt A)
    (h : ∀ m', FrB b mem m' → RepM b nt nw nx (dayA A) m' → Q none (S0 L) m') : Mc (d + 6) 15 [.ref b] (S0 L) mem Q := by
  have hn8 := hR.2.2.1.1
  have loop : ∀ n t, t + n = nt → ∀ m s2 s3 s4, FrB b mem m → RepM b nt nw nx (dayL A t) m → Xs (d + 6) 15 2 [some (.ref b), some (.int (nI t)), s2, s3, s4] [] (S0 L) (0, 0) m Q := by
    intro n
    induction n with
    | zero =>
      intro t ht m s2 s3 s4 hF hm
      have ht : t = nt := by omega
      subst ht
      refine Xs_wp (cut1 2) t15 60 ?_
      refine ⟨moC hb, ?_⟩
      rw [hm.1.1]
      refine ifI (fun q => absurd q (nI_nlt (Nat.le_refl _) (by omega))) (fun _ => ?_)
      refine ⟨moC hb, ?_⟩
      refine ⟨moC hb, ?_⟩
      refine h _ (hF.mu (by omega) (by omega)) ?_
      have e10 : m b 10 = A 2 := by rw [hm.1.2.2.2.2.2.2.1, dayL_out (by omega) (by omega) hn8]
      rw [e10]
      unfold dayA
      rw [nt_of hR.2.1.1 hn8]
      exact hm.rule (by omega)
    | succ n ih =>
      intro t ht m s2 s3 s4 hF hm
      refine Xs_wp (cut2 2 10) t15 60 ?_
      refine ⟨moC hb, ?_⟩
      rw [hm.1.1]
      refine ifI (fun _ => ?_) (fun q => absurd (nI_lt (by omega) (by omega)) q)
      refine c_dayBody hb hm ((hT.frB hb hR.2.2.1.2.2 hF).congr (dayL_tx (by omega))) (hW.dayL t) (by omega) (fun m' s2 s3 s4 hF' hm' => ?_)
      rw [nI_1]
      exact ih (t + 1) (by omega) m' s2 s3 s4 (hF.trans hF') hm'
  refine Mc_wp (cut1 2) t15 rfl rfl rfl 60 ?_
  exact loop nt 0 (by omega) mem none none none FrB.refl hR
theorem dayA_tx {A : Nat → Int32} {nt : Nat} (hn : ntA A = nt) (h8 : nt ≤ 8) : ∀ i, 92 ≤ i → dayA A i = A i := fun i hi => by
  unfold dayA
  rw [pk_un (by omega), hn]
  exact dayL_out (by omega) (by omega) h8
theorem c_goDays {d L : Nat} {mem : Mem} {Q : Qt} {b nt nw nx : Nat} {A : Nat → Int32} {n : Nat} (hb : MB b) (hR : RepM b nt nw nx A mem) (hT : RepT nx A mem) (hW : WB nt A) (hn : n < 2 ^ 31)
    (h : ∀ m', FrB b mem m' → RepM b nt nw nx (goesA n A) m' → Q none (S0 L) m') : Mc (d + 7) 14 [.ref b, .int (nI n)] (S0 L) mem Q := by
  have hn8 := hR.2.2.1.1
  have loop : ∀ k i, i + k = n → ∀ m B, FrB b mem m → RepM b nt nw nx B m → RepT nx B m → WB nt B → goesA k B = goesA n A → Xs (d + 7) 14 2 [some (.ref b), some (.int (nI n)), some (.int (nI i))] [] (S0 L) (0, 0) m Q := by
    intro k
    induction k with
    | zero =>
      intro i hi m B hF hB hTB hWB hg
      have hi : i = n := by omega
      subst hi
      refine Xs_wp (cut1 2) t14 60 ?_
      refine ifI (fun q => absurd q (nI_nlt (Nat.le_refl _) (by omega))) (fun _ => ?_)
      refine h m hF ?_
      rw [← hg]; exact hB
    | succ k ih =>
      intro i hi m B hF hB hTB hWB hg
      refine Xs_wp (cut1 2) t14 60 ?_
      refine ifI (fun _ => ?_) (fun q => absurd (nI_lt (by omega) (by omega)) q)
      refine ⟨moC hb, c_goDay hb hB hTB hWB (fun m' hF' hB' => ?_)⟩
      have := ih (i + 1) (by omega) m' (dayA B) (hF.trans hF') hB' ((hTB.frB hb hB.2.2.1.2.2 hF').congr (dayA_tx (nt_of hB.2.1.1 hn8) hn8)) (wb_dayA hWB) hg
      rw [← nI_1] at this
      exact this
  refine Mc_wp (cut1 2) t14 rfl rfl rfl 60 ?_
  exact loop n 0 (by omega) mem A FrB.refl hR hT hW rfl
