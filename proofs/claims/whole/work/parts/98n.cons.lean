-- constructors: the reference
def rmM (m : Mem) : Mem := mu (mu (mu (mu (mu (mu (mu (mu (mu (mu (mu (mu (mu (mu (mu (mu (mu (mu (mu (mu (mu (mu (mu m 145 0 112) 145 1 97) 145 2 99) 145 3 101) 145 4 112) 145 5 97) 145 6 121) 145 7 102) 145 8 105) 145 9 110) 145 10 101) 146 0 0) 146 1 4) 146 2 7) 146 3 11) 152 0 (-1)) 152 1 (-1)) 152 2 (-1)) 152 3 (-1)) 140 0 1) 140 3 100) 140 4 10) 140 5 5000
theorem mg (i j : Nat) (h : (List.range (j - i)).all (fun k => Nat.beq (RFy 139 (i + k)) 0) = true) (f : Nat) (a : i ≤ f) (b : f < j) : RFy 139 f = 0 := by
  rw [List.all_eq_true] at h
  have := h (f - i) (by simp; omega)
  rw [show i + (f - i) = f by omega] at this
  exact Nat.eq_of_beq_eq_true this
theorem im_now {d L : Nat} {m : Mem} {Q : Qt} (hm : ∀ i, m 140 i = 0) (h : Xs (d + 1) 220 13 [some (.ref 139)] [] (Sh L 141 (ct 139 1 RFy)) (1, 1464) (m) Q) : Xs (d + 1) 220 4 [some (.ref 139)] [] (Sh L 140 (ct 139 0 RFy)) (0, 0) m Q := by
  refine Xs_wpc (cut1 13) t220 80 ⟨leB rfl, leB rfl⟩ ?_
  refine ⟨⟨rfl, ltB rfl, rfl, rfl, by decide, by decide⟩, ?_⟩
  rw [Sh_1, newS_Sh (show CLy 140 = 20 from rfl) (show LNy L 140 = (1464 : Int32).toNatClampNeg from rfl), mz_id hm, ct_done (R := ct 139 0 RFy) (c := 140) (i := 0) (fun f _ => by rw [ct_ne (by decide)]; exact RF_out (Nat.zero_le _))]
  refine ⟨⟨rfl, ltB rfl, ltB rfl⟩, ?_⟩
  rw [put_Sh, ct_put (show (140 + 1 : Nat) = RFy 139 0 from rfl) (by omega) (fun f a b => mg 0 0 rfl f a b)]
  exact h
theorem im_image {d L : Nat} {m : Mem} {Q : Qt} (hm : ∀ i, m 141 i = 0) (h : Xs (d + 1) 220 22 [some (.ref 139)] [] (Sh L 142 (ct 139 2 RFy)) (2, 2928) (m) Q) : Xs (d + 1) 220 13 [some (.ref 139)] [] (Sh L 141 (ct 139 1 RFy)) (1, 1464) m Q := by
  refine Xs_wpc (cut1 22) t220 80 ⟨leB rfl, leB rfl⟩ ?_
  refine ⟨⟨rfl, ltB rfl, rfl, rfl, by decide, by decide⟩, ?_⟩
  rw [Sh_1, newS_Sh (show CLy 141 = 20 from rfl) (show LNy L 141 = (1464 : Int32).toNatClampNeg from rfl), mz_id hm, ct_done (R := ct 139 1 RFy) (c := 141) (i := 0) (fun f _ => by rw [ct_ne (by decide)]; exact RF_out (Nat.zero_le _))]
  refine ⟨⟨rfl, ltB rfl, ltB rfl⟩, ?_⟩
  rw [put_Sh, ct_put (show (141 + 1 : Nat) = RFy 139 1 from rfl) (by omega) (fun f a b => mg 1 1 rfl f a b)]
  exact h
theorem im_aside {d L : Nat} {m : Mem} {Q : Qt} (hm : ∀ i, m 142 i = 0) (h : Xs (d + 1) 220 31 [some (.ref 139)] [] (Sh L 143 (ct 139 3 RFy)) (3, 4392) (m) Q) : Xs (d + 1) 220 22 [some (.ref 139)] [] (Sh L 142 (ct 139 2 RFy)) (2, 2928) m Q := by
  refine Xs_wpc (cut1 31) t220 80 ⟨leB rfl, leB rfl⟩ ?_
  refine ⟨⟨rfl, ltB rfl, rfl, rfl, by decide, by decide⟩, ?_⟩
  rw [Sh_1, newS_Sh (show CLy 142 = 20 from rfl) (show LNy L 142 = (1464 : Int32).toNatClampNeg from rfl), mz_id hm, ct_done (R := ct 139 2 RFy) (c := 142) (i := 0) (fun f _ => by rw [ct_ne (by decide)]; exact RF_out (Nat.zero_le _))]
  refine ⟨⟨rfl, ltB rfl, ltB rfl⟩, ?_⟩
  rw [put_Sh, ct_put (show (142 + 1 : Nat) = RFy 139 2 from rfl) (by omega) (fun f a b => mg 2 2 rfl f a b)]
  exact h
theorem im_before {d L : Nat} {m : Mem} {Q : Qt} (hm : ∀ i, m 143 i = 0) (h : Xs (d + 1) 220 39 [some (.ref 139)] [] (Sh L 144 (ct 139 5 RFy)) (4, 4484) (m) Q) : Xs (d + 1) 220 31 [some (.ref 139)] [] (Sh L 143 (ct 139 3 RFy)) (3, 4392) m Q := by
  refine Xs_wpc (cut1 39) t220 80 ⟨leB rfl, leB rfl⟩ ?_
  refine ⟨⟨rfl, ltB rfl, rfl, rfl, by decide, by decide⟩, ?_⟩
  rw [Sh_1, newS_Sh (show CLy 143 = 20 from rfl) (show LNy L 143 = (92 : Int32).toNatClampNeg from rfl), mz_id hm, ct_done (R := ct 139 3 RFy) (c := 143) (i := 0) (fun f _ => by rw [ct_ne (by decide)]; exact RF_out (Nat.zero_le _))]
  refine ⟨⟨rfl, ltB rfl, ltB rfl⟩, ?_⟩
  rw [put_Sh, ct_put (show (143 + 1 : Nat) = RFy 139 4 from rfl) (by omega) (fun f a b => mg 3 4 rfl f a b)]
  exact h
theorem im_tape {d L : Nat} {m : Mem} {Q : Qt} (hm : ∀ i, m 144 i = 0) (h : Xs (d + 1) 220 47 [some (.ref 139)] [] (Sh L 145 (ct 139 6 RFy)) (5, 4580) (m) Q) : Xs (d + 1) 220 39 [some (.ref 139)] [] (Sh L 144 (ct 139 5 RFy)) (4, 4484) m Q := by
  refine Xs_wpc (cut1 47) t220 80 ⟨leB rfl, leB rfl⟩ ?_
  refine ⟨⟨rfl, ltB rfl, rfl, rfl, by decide, by decide⟩, ?_⟩
  rw [Sh_1, newS_Sh (show CLy 144 = 20 from rfl) (show LNy L 144 = (96 : Int32).toNatClampNeg from rfl), mz_id hm, ct_done (R := ct 139 5 RFy) (c := 144) (i := 0) (fun f _ => by rw [ct_ne (by decide)]; exact RF_out (Nat.zero_le _))]
  refine ⟨⟨rfl, ltB rfl, ltB rfl⟩, ?_⟩
  rw [put_Sh, ct_put (show (144 + 1 : Nat) = RFy 139 5 from rfl) (by omega) (fun f a b => mg 5 5 rfl f a b)]
  exact h
theorem im_keys {d L : Nat} {m : Mem} {Q : Qt} (hm : ∀ i, m 145 i = 0) (h : Xs (d + 1) 220 115 [some (.ref 139)] [] (Sh L 146 (ct 139 14 RFy)) (6, 4591) (mu (mu (mu (mu (mu (mu (mu (mu (mu (mu (mu m 145 0 112) 145 1 97) 145 2 99) 145 3 101) 145 4 112) 145 5 97) 145 6 121) 145 7 102) 145 8 105) 145 9 110) 145 10 101) Q) : Xs (d + 1) 220 47 [some (.ref 139)] [] (Sh L 145 (ct 139 6 RFy)) (5, 4580) m Q := by
  refine Xs_wpc (cut1 115) t220 80 ⟨leB rfl, leB rfl⟩ ?_
  refine ⟨⟨rfl, ltB rfl, rfl, rfl, by decide, by decide⟩, ?_⟩
  rw [Sh_1, newS_Sh (show CLy 145 = 22 from rfl) (show LNy L 145 = (11 : Int32).toNatClampNeg from rfl), mz_id hm, ct_done (R := ct 139 6 RFy) (c := 145) (i := 0) (fun f _ => by rw [ct_ne (by decide)]; exact RF_out (Nat.zero_le _))]
  refine ⟨⟨rfl, ltB rfl, vinB rfl⟩, ?_⟩
  refine ⟨⟨rfl, ltB rfl, vinB rfl⟩, ?_⟩
  refine ⟨⟨rfl, ltB rfl, vinB rfl⟩, ?_⟩
  refine ⟨⟨rfl, ltB rfl, vinB rfl⟩, ?_⟩
  refine ⟨⟨rfl, ltB rfl, vinB rfl⟩, ?_⟩
  refine ⟨⟨rfl, ltB rfl, vinB rfl⟩, ?_⟩
  refine ⟨⟨rfl, ltB rfl, vinB rfl⟩, ?_⟩
  refine ⟨⟨rfl, ltB rfl, vinB rfl⟩, ?_⟩
  refine ⟨⟨rfl, ltB rfl, vinB rfl⟩, ?_⟩
  refine ⟨⟨rfl, ltB rfl, vinB rfl⟩, ?_⟩
  refine ⟨⟨rfl, ltB rfl, vinB rfl⟩, ?_⟩
  refine ⟨⟨rfl, ltB rfl, ltB rfl⟩, ?_⟩
  rw [put_Sh, ct_put (show (145 + 1 : Nat) = RFy 139 13 from rfl) (by omega) (fun f a b => mg 6 13 rfl f a b)]
  exact h
theorem im_keyAt {d L : Nat} {m : Mem} {Q : Qt} (hm : ∀ i, m 146 i = 0) (h : Xs (d + 1) 220 140 [some (.ref 139)] [] (Sh L 147 (ct 139 15 RFy)) (7, 4595) (mu (mu (mu (mu m 146 0 0) 146 1 4) 146 2 7) 146 3 11) Q) : Xs (d + 1) 220 115 [some (.ref 139)] [] (Sh L 146 (ct 139 14 RFy)) (6, 4591) m Q := by
  refine Xs_wpc (cut1 140) t220 80 ⟨leB rfl, leB rfl⟩ ?_
  refine ⟨⟨rfl, ltB rfl, rfl, rfl, by decide, by decide⟩, ?_⟩
  rw [Sh_1, newS_Sh (show CLy 146 = 20 from rfl) (show LNy L 146 = (4 : Int32).toNatClampNeg from rfl), mz_id hm, ct_done (R := ct 139 14 RFy) (c := 146) (i := 0) (fun f _ => by rw [ct_ne (by decide)]; exact RF_out (Nat.zero_le _))]
  refine ⟨⟨rfl, ltB rfl, vinB rfl⟩, ?_⟩
  refine ⟨⟨rfl, ltB rfl, vinB rfl⟩, ?_⟩
  refine ⟨⟨rfl, ltB rfl, vinB rfl⟩, ?_⟩
  refine ⟨⟨rfl, ltB rfl, vinB rfl⟩, ?_⟩
  refine ⟨⟨rfl, ltB rfl, ltB rfl⟩, ?_⟩
  rw [put_Sh, ct_put (show (146 + 1 : Nat) = RFy 139 14 from rfl) (by omega) (fun f a b => mg 14 14 rfl f a b)]
  exact h
theorem im_code {d L : Nat} {m : Mem} {Q : Qt} (hm : ∀ i, m 147 i = 0) (h : Xs (d + 1) 220 148 [some (.ref 139)] [] (Sh L 148 (ct 139 16 RFy)) (8, 4691) (m) Q) : Xs (d + 1) 220 140 [some (.ref 139)] [] (Sh L 147 (ct 139 15 RFy)) (7, 4595) m Q := by
  refine Xs_wpc (cut1 148) t220 80 ⟨leB rfl, leB rfl⟩ ?_
  refine ⟨⟨rfl, ltB rfl, rfl, rfl, by decide, by decide⟩, ?_⟩
  rw [Sh_1, newS_Sh (show CLy 147 = 20 from rfl) (show LNy L 147 = (96 : Int32).toNatClampNeg from rfl), mz_id hm, ct_done (R := ct 139 15 RFy) (c := 147) (i := 0) (fun f _ => by rw [ct_ne (by decide)]; exact RF_out (Nat.zero_le _))]
  refine ⟨⟨rfl, ltB rfl, ltB rfl⟩, ?_⟩
  rw [put_Sh, ct_put (show (147 + 1 : Nat) = RFy 139 15 from rfl) (by omega) (fun f a b => mg 15 15 rfl f a b)]
  exact h
theorem im_waits {d L : Nat} {m : Mem} {Q : Qt} (hm : ∀ i, m 148 i = 0) (h : Xs (d + 1) 220 156 [some (.ref 139)] [] (Sh L 149 (ct 139 19 RFy)) (9, 4787) (m) Q) : Xs (d + 1) 220 148 [some (.ref 139)] [] (Sh L 148 (ct 139 16 RFy)) (8, 4691) m Q := by
  refine Xs_wpc (cut1 156) t220 80 ⟨leB rfl, leB rfl⟩ ?_
  refine ⟨⟨rfl, ltB rfl, rfl, rfl, by decide, by decide⟩, ?_⟩
  rw [Sh_1, newS_Sh (show CLy 148 = 20 from rfl) (show LNy L 148 = (96 : Int32).toNatClampNeg from rfl), mz_id hm, ct_done (R := ct 139 16 RFy) (c := 148) (i := 0) (fun f _ => by rw [ct_ne (by decide)]; exact RF_out (Nat.zero_le _))]
  refine ⟨⟨rfl, ltB rfl, ltB rfl⟩, ?_⟩
  rw [put_Sh, ct_put (show (148 + 1 : Nat) = RFy 139 18 from rfl) (by omega) (fun f a b => mg 16 18 rfl f a b)]
  exact h
theorem im_tested {d L : Nat} {m : Mem} {Q : Qt} (hm : ∀ i, m 149 i = 0) (h : Xs (d + 1) 220 164 [some (.ref 139)] [] (Sh L 150 (ct 139 21 RFy)) (10, 4797) (m) Q) : Xs (d + 1) 220 156 [some (.ref 139)] [] (Sh L 149 (ct 139 19 RFy)) (9, 4787) m Q := by
  refine Xs_wpc (cut1 164) t220 80 ⟨leB rfl, leB rfl⟩ ?_
  refine ⟨⟨rfl, ltB rfl, rfl, rfl, by decide, by decide⟩, ?_⟩
  rw [Sh_1, newS_Sh (show CLy 149 = 21 from rfl) (show LNy L 149 = (10 : Int32).toNatClampNeg from rfl), mz_id hm, ct_done (R := ct 139 19 RFy) (c := 149) (i := 0) (fun f _ => by rw [ct_ne (by decide)]; exact RF_out (Nat.zero_le _))]
  refine ⟨⟨rfl, ltB rfl, ltB rfl⟩, ?_⟩
  rw [put_Sh, ct_put (show (149 + 1 : Nat) = RFy 139 20 from rfl) (by omega) (fun f a b => mg 19 20 rfl f a b)]
  exact h
theorem im_stack {d L : Nat} {m : Mem} {Q : Qt} (hm : ∀ i, m 150 i = 0) (h : Xs (d + 1) 220 172 [some (.ref 139)] [] (Sh L 151 (ct 139 22 RFy)) (11, 4893) (m) Q) : Xs (d + 1) 220 164 [some (.ref 139)] [] (Sh L 150 (ct 139 21 RFy)) (10, 4797) m Q := by
  refine Xs_wpc (cut1 172) t220 80 ⟨leB rfl, leB rfl⟩ ?_
  refine ⟨⟨rfl, ltB rfl, rfl, rfl, by decide, by decide⟩, ?_⟩
  rw [Sh_1, newS_Sh (show CLy 150 = 20 from rfl) (show LNy L 150 = (96 : Int32).toNatClampNeg from rfl), mz_id hm, ct_done (R := ct 139 21 RFy) (c := 150) (i := 0) (fun f _ => by rw [ct_ne (by decide)]; exact RF_out (Nat.zero_le _))]
  refine ⟨⟨rfl, ltB rfl, ltB rfl⟩, ?_⟩
  rw [put_Sh, ct_put (show (150 + 1 : Nat) = RFy 139 21 from rfl) (by omega) (fun f a b => mg 21 21 rfl f a b)]
  exact h
theorem im_facts {d L : Nat} {m : Mem} {Q : Qt} (hm : ∀ i, m 151 i = 0) (h : Xs (d + 1) 220 179 [some (.ref 139)] [] (Sh L 152 (ct 139 23 RFy)) (12, 4897) (m) Q) : Xs (d + 1) 220 172 [some (.ref 139)] [] (Sh L 151 (ct 139 22 RFy)) (11, 4893) m Q := by
  refine Xs_wpc (cut1 179) t220 80 ⟨leB rfl, leB rfl⟩ ?_
  refine ⟨⟨rfl, ltB rfl, rfl, rfl, by decide, by decide⟩, ?_⟩
  rw [Sh_1, newS_Sh (show CLy 151 = 20 from rfl) (show LNy L 151 = (4 : Int32).toNatClampNeg from rfl), mz_id hm, ct_done (R := ct 139 22 RFy) (c := 151) (i := 0) (fun f _ => by rw [ct_ne (by decide)]; exact RF_out (Nat.zero_le _))]
  refine ⟨⟨rfl, ltB rfl, ltB rfl⟩, ?_⟩
  rw [put_Sh, ct_put (show (151 + 1 : Nat) = RFy 139 22 from rfl) (by omega) (fun f a b => mg 22 22 rfl f a b)]
  exact h
theorem im_sorts {d L : Nat} {m : Mem} {Q : Qt} (hm : ∀ i, m 152 i = 0) (h : Xs (d + 1) 220 202 [some (.ref 139)] [] (Sh L 153 (ct 139 24 RFy)) (13, 4901) (mu (mu (mu (mu m 152 0 (-1)) 152 1 (-1)) 152 2 (-1)) 152 3 (-1)) Q) : Xs (d + 1) 220 179 [some (.ref 139)] [] (Sh L 152 (ct 139 23 RFy)) (12, 4897) m Q := by
  refine Xs_wpc (cut1 202) t220 80 ⟨leB rfl, leB rfl⟩ ?_
  refine ⟨⟨rfl, ltB rfl, rfl, rfl, by decide, by decide⟩, ?_⟩
  rw [Sh_1, newS_Sh (show CLy 152 = 20 from rfl) (show LNy L 152 = (4 : Int32).toNatClampNeg from rfl), mz_id hm, ct_done (R := ct 139 23 RFy) (c := 152) (i := 0) (fun f _ => by rw [ct_ne (by decide)]; exact RF_out (Nat.zero_le _))]
  refine ⟨⟨rfl, ltB rfl, vinB rfl⟩, ?_⟩
  refine ⟨⟨rfl, ltB rfl, vinB rfl⟩, ?_⟩
  refine ⟨⟨rfl, ltB rfl, vinB rfl⟩, ?_⟩
  refine ⟨⟨rfl, ltB rfl, vinB rfl⟩, ?_⟩
  refine ⟨⟨rfl, ltB rfl, ltB rfl⟩, ?_⟩
  rw [put_Sh, ct_put (show (152 + 1 : Nat) = RFy 139 23 from rfl) (by omega) (fun f a b => mg 23 23 rfl f a b)]
  exact h
theorem im_sizes {d L : Nat} {m : Mem} {Q : Qt} (hm : ∀ i, m 153 i = 0) (h : Xs (d + 1) 220 209 [some (.ref 139)] [] (Sh L 154 (ct 139 25 RFy)) (14, 4905) (m) Q) : Xs (d + 1) 220 202 [some (.ref 139)] [] (Sh L 153 (ct 139 24 RFy)) (13, 4901) m Q := by
  refine Xs_wpc (cut1 209) t220 80 ⟨leB rfl, leB rfl⟩ ?_
  refine ⟨⟨rfl, ltB rfl, rfl, rfl, by decide, by decide⟩, ?_⟩
  rw [Sh_1, newS_Sh (show CLy 153 = 20 from rfl) (show LNy L 153 = (4 : Int32).toNatClampNeg from rfl), mz_id hm, ct_done (R := ct 139 24 RFy) (c := 153) (i := 0) (fun f _ => by rw [ct_ne (by decide)]; exact RF_out (Nat.zero_le _))]
  refine ⟨⟨rfl, ltB rfl, ltB rfl⟩, ?_⟩
  rw [put_Sh, ct_put (show (153 + 1 : Nat) = RFy 139 24 from rfl) (by omega) (fun f a b => mg 24 24 rfl f a b)]
  exact h
theorem im_cells {d L : Nat} {m : Mem} {Q : Qt} (hm : ∀ i, m 154 i = 0) (h : Xs (d + 1) 220 217 [some (.ref 139)] [] (Sh L 155 (ct 139 26 RFy)) (15, 5001) (m) Q) : Xs (d + 1) 220 209 [some (.ref 139)] [] (Sh L 154 (ct 139 25 RFy)) (14, 4905) m Q := by
  refine Xs_wpc (cut1 217) t220 80 ⟨leB rfl, leB rfl⟩ ?_
  refine ⟨⟨rfl, ltB rfl, rfl, rfl, by decide, by decide⟩, ?_⟩
  rw [Sh_1, newS_Sh (show CLy 154 = 20 from rfl) (show LNy L 154 = (96 : Int32).toNatClampNeg from rfl), mz_id hm, ct_done (R := ct 139 25 RFy) (c := 154) (i := 0) (fun f _ => by rw [ct_ne (by decide)]; exact RF_out (Nat.zero_le _))]
  refine ⟨⟨rfl, ltB rfl, ltB rfl⟩, ?_⟩
  rw [put_Sh, ct_put (show (154 + 1 : Nat) = RFy 139 25 from rfl) (by omega) (fun f a b => mg 25 25 rfl f a b)]
  exact h
theorem im_holds {d L : Nat} {m : Mem} {Q : Qt} (hm : ∀ i, m 155 i = 0) (h : Xs (d + 1) 220 224 [some (.ref 139)] [] (Sh L 156 (ct 139 27 RFy)) (16, 5006) (m) Q) : Xs (d + 1) 220 217 [some (.ref 139)] [] (Sh L 155 (ct 139 26 RFy)) (15, 5001) m Q := by
  refine Xs_wpc (cut1 224) t220 80 ⟨leB rfl, leB rfl⟩ ?_
  refine ⟨⟨rfl, ltB rfl, rfl, rfl, by decide, by decide⟩, ?_⟩
  rw [Sh_1, newS_Sh (show CLy 155 = 20 from rfl) (show LNy L 155 = (5 : Int32).toNatClampNeg from rfl), mz_id hm, ct_done (R := ct 139 26 RFy) (c := 155) (i := 0) (fun f _ => by rw [ct_ne (by decide)]; exact RF_out (Nat.zero_le _))]
  refine ⟨⟨rfl, ltB rfl, ltB rfl⟩, ?_⟩
  rw [put_Sh, ct_put (show (155 + 1 : Nat) = RFy 139 26 from rfl) (by omega) (fun f a b => mg 26 26 rfl f a b)]
  exact h
theorem im_holdsA {d L : Nat} {m : Mem} {Q : Qt} (hm : ∀ i, m 156 i = 0) (h : Xs (d + 1) 220 231 [some (.ref 139)] [] (Sh L 157 (ct 139 28 RFy)) (17, 5011) (m) Q) : Xs (d + 1) 220 224 [some (.ref 139)] [] (Sh L 156 (ct 139 27 RFy)) (16, 5006) m Q := by
  refine Xs_wpc (cut1 231) t220 80 ⟨leB rfl, leB rfl⟩ ?_
  refine ⟨⟨rfl, ltB rfl, rfl, rfl, by decide, by decide⟩, ?_⟩
  rw [Sh_1, newS_Sh (show CLy 156 = 20 from rfl) (show LNy L 156 = (5 : Int32).toNatClampNeg from rfl), mz_id hm, ct_done (R := ct 139 27 RFy) (c := 156) (i := 0) (fun f _ => by rw [ct_ne (by decide)]; exact RF_out (Nat.zero_le _))]
  refine ⟨⟨rfl, ltB rfl, ltB rfl⟩, ?_⟩
  rw [put_Sh, ct_put (show (156 + 1 : Nat) = RFy 139 27 from rfl) (by omega) (fun f a b => mg 27 27 rfl f a b)]
  exact h
theorem im_holdsB {d L : Nat} {m : Mem} {Q : Qt} (hm : ∀ i, m 157 i = 0) (h : Xs (d + 1) 220 238 [some (.ref 139)] [] (Sh L 158 (ct 139 29 RFy)) (18, 5016) (m) Q) : Xs (d + 1) 220 231 [some (.ref 139)] [] (Sh L 157 (ct 139 28 RFy)) (17, 5011) m Q := by
  refine Xs_wpc (cut1 238) t220 80 ⟨leB rfl, leB rfl⟩ ?_
  refine ⟨⟨rfl, ltB rfl, rfl, rfl, by decide, by decide⟩, ?_⟩
  rw [Sh_1, newS_Sh (show CLy 157 = 20 from rfl) (show LNy L 157 = (5 : Int32).toNatClampNeg from rfl), mz_id hm, ct_done (R := ct 139 28 RFy) (c := 157) (i := 0) (fun f _ => by rw [ct_ne (by decide)]; exact RF_out (Nat.zero_le _))]
  refine ⟨⟨rfl, ltB rfl, ltB rfl⟩, ?_⟩
  rw [put_Sh, ct_put (show (157 + 1 : Nat) = RFy 139 28 from rfl) (by omega) (fun f a b => mg 28 28 rfl f a b)]
  exact h
theorem im_heldCells {d L : Nat} {m : Mem} {Q : Qt} (hm : ∀ i, m 158 i = 0) (h : Xs (d + 1) 220 246 [some (.ref 139)] [] (Sh L 159 (ct 139 30 RFy)) (19, 5136) (m) Q) : Xs (d + 1) 220 238 [some (.ref 139)] [] (Sh L 158 (ct 139 29 RFy)) (18, 5016) m Q := by
  refine Xs_wpc (cut1 246) t220 80 ⟨leB rfl, leB rfl⟩ ?_
  refine ⟨⟨rfl, ltB rfl, rfl, rfl, by decide, by decide⟩, ?_⟩
  rw [Sh_1, newS_Sh (show CLy 158 = 20 from rfl) (show LNy L 158 = (120 : Int32).toNatClampNeg from rfl), mz_id hm, ct_done (R := ct 139 29 RFy) (c := 158) (i := 0) (fun f _ => by rw [ct_ne (by decide)]; exact RF_out (Nat.zero_le _))]
  refine ⟨⟨rfl, ltB rfl, ltB rfl⟩, ?_⟩
  rw [put_Sh, ct_put (show (158 + 1 : Nat) = RFy 139 29 from rfl) (by omega) (fun f a b => mg 29 29 rfl f a b)]
  exact h
theorem im_moved {d L : Nat} {m : Mem} {Q : Qt} (hm : ∀ i, m 159 i = 0) (h : Xs (d + 1) 220 254 [some (.ref 139)] [] (Sh L 160 (ct 139 31 RFy)) (20, 5160) (m) Q) : Xs (d + 1) 220 246 [some (.ref 139)] [] (Sh L 159 (ct 139 30 RFy)) (19, 5136) m Q := by
  refine Xs_wpc (cut1 254) t220 80 ⟨leB rfl, leB rfl⟩ ?_
  refine ⟨⟨rfl, ltB rfl, rfl, rfl, by decide, by decide⟩, ?_⟩
  rw [Sh_1, newS_Sh (show CLy 159 = 20 from rfl) (show LNy L 159 = (24 : Int32).toNatClampNeg from rfl), mz_id hm, ct_done (R := ct 139 30 RFy) (c := 159) (i := 0) (fun f _ => by rw [ct_ne (by decide)]; exact RF_out (Nat.zero_le _))]
  refine ⟨⟨rfl, ltB rfl, ltB rfl⟩, ?_⟩
  rw [put_Sh, ct_put (show (159 + 1 : Nat) = RFy 139 30 from rfl) (by omega) (fun f a b => mg 30 30 rfl f a b)]
  exact h
theorem im_tells {d L : Nat} {m : Mem} {Q : Qt} (hm : ∀ i, m 160 i = 0) (h : Xs (d + 1) 220 262 [some (.ref 139)] [] (Sh L 161 (ct 139 32 RFy)) (21, 5220) (m) Q) : Xs (d + 1) 220 254 [some (.ref 139)] [] (Sh L 160 (ct 139 31 RFy)) (20, 5160) m Q := by
  refine Xs_wpc (cut1 262) t220 80 ⟨leB rfl, leB rfl⟩ ?_
  refine ⟨⟨rfl, ltB rfl, rfl, rfl, by decide, by decide⟩, ?_⟩
  rw [Sh_1, newS_Sh (show CLy 160 = 20 from rfl) (show LNy L 160 = (60 : Int32).toNatClampNeg from rfl), mz_id hm, ct_done (R := ct 139 31 RFy) (c := 160) (i := 0) (fun f _ => by rw [ct_ne (by decide)]; exact RF_out (Nat.zero_le _))]
  refine ⟨⟨rfl, ltB rfl, ltB rfl⟩, ?_⟩
  rw [put_Sh, ct_put (show (160 + 1 : Nat) = RFy 139 31 from rfl) (by omega) (fun f a b => mg 31 31 rfl f a b)]
  exact h
theorem tl (f : Nat) (h : 32 ≤ f) : RFy 139 f = 0 := by
  by_cases q : f = 32
  · rw [q]; rfl
  · exact RF_out (show 33 ≤ f by omega)
theorem im_fin {d L : Nat} {m : Mem} {Q : Qt} (h : Q none (S0 L) (mu (mu (mu (mu m 140 0 1) 140 3 100) 140 4 10) 140 5 5000)) : Xs (d + 1) 220 262 [some (.ref 139)] [] (Sh L 161 (ct 139 32 RFy)) (21, 5220) m Q := by
  rw [ct_done (R := RFy) (c := 139) (i := 32) (fun f hf => tl f hf)]
  refine Xs_wpc nocut t220 80 ⟨leB rfl, leB rfl⟩ ?_
  refine ⟨⟨rfl, ltB rfl, neB rfl⟩, ?_⟩
  refine ⟨⟨rfl, ltB rfl, vinB rfl⟩, ?_⟩
  refine ⟨⟨rfl, ltB rfl, neB rfl⟩, ?_⟩
  refine ⟨⟨rfl, ltB rfl, vinB rfl⟩, ?_⟩
  refine ⟨⟨rfl, ltB rfl, neB rfl⟩, ?_⟩
  refine ⟨⟨rfl, ltB rfl, vinB rfl⟩, ?_⟩
  refine ⟨⟨rfl, ltB rfl, neB rfl⟩, ?_⟩
  refine ⟨⟨rfl, ltB rfl, vinB rfl⟩, ?_⟩
  exact h
theorem c_iModel {d L : Nat} {m : Mem} {Q : Qt} (hm : ∀ r i, 139 ≤ r → r < 161 → m r i = 0) (hQ : Q none (S0 L) (rmM m)) : Mc (d + 1) 220 [.ref 139] (Sh L 140 (ct 139 0 RFy)) m Q := by
  refine Mc_wp (cut1 4) t220 rfl rfl rfl 20 ?_
  refine im_now (fun i => by exact hm 140 i (by omega) (by omega)) ?_
  refine im_image (fun i => by exact hm 141 i (by omega) (by omega)) ?_
  refine im_aside (fun i => by exact hm 142 i (by omega) (by omega)) ?_
  refine im_before (fun i => by exact hm 143 i (by omega) (by omega)) ?_
  refine im_tape (fun i => by exact hm 144 i (by omega) (by omega)) ?_
  refine im_keys (fun i => by exact hm 145 i (by omega) (by omega)) ?_
  refine im_keyAt (fun i => by rw [mu_row (by decide), mu_row (by decide), mu_row (by decide), mu_row (by decide), mu_row (by decide), mu_row (by decide), mu_row (by decide), mu_row (by decide), mu_row (by decide), mu_row (by decide), mu_row (by decide)]; exact hm 146 i (by omega) (by omega)) ?_
  refine im_code (fun i => by rw [mu_row (by decide), mu_row (by decide), mu_row (by decide), mu_row (by decide), mu_row (by decide), mu_row (by decide), mu_row (by decide), mu_row (by decide), mu_row (by decide), mu_row (by decide), mu_row (by decide), mu_row (by decide), mu_row (by decide), mu_row (by decide), mu_row (by decide)]; exact hm 147 i (by omega) (by omega)) ?_
  refine im_waits (fun i => by rw [mu_row (by decide), mu_row (by decide), mu_row (by decide), mu_row (by decide), mu_row (by decide), mu_row (by decide), mu_row (by decide), mu_row (by decide), mu_row (by decide), mu_row (by decide), mu_row (by decide), mu_row (by decide), mu_row (by decide), mu_row (by decide), mu_row (by decide)]; exact hm 148 i (by omega) (by omega)) ?_
  refine im_tested (fun i => by rw [mu_row (by decide), mu_row (by decide), mu_row (by decide), mu_row (by decide), mu_row (by decide), mu_row (by decide), mu_row (by decide), mu_row (by decide), mu_row (by decide), mu_row (by decide), mu_row (by decide), mu_row (by decide), mu_row (by decide), mu_row (by decide), mu_row (by decide)]; exact hm 149 i (by omega) (by omega)) ?_
  refine im_stack (fun i => by rw [mu_row (by decide), mu_row (by decide), mu_row (by decide), mu_row (by decide), mu_row (by decide), mu_row (by decide), mu_row (by decide), mu_row (by decide), mu_row (by decide), mu_row (by decide), mu_row (by decide), mu_row (by decide), mu_row (by decide), mu_row (by decide), mu_row (by decide)]; exact hm 150 i (by omega) (by omega)) ?_
  refine im_facts (fun i => by rw [mu_row (by decide), mu_row (by decide), mu_row (by decide), mu_row (by decide), mu_row (by decide), mu_row (by decide), mu_row (by decide), mu_row (by decide), mu_row (by decide), mu_row (by decide), mu_row (by decide), mu_row (by decide), mu_row (by decide), mu_row (by decide), mu_row (by decide)]; exact hm 151 i (by omega) (by omega)) ?_
  refine im_sorts (fun i => by rw [mu_row (by decide), mu_row (by decide), mu_row (by decide), mu_row (by decide), mu_row (by decide), mu_row (by decide), mu_row (by decide), mu_row (by decide), mu_row (by decide), mu_row (by decide), mu_row (by decide), mu_row (by decide), mu_row (by decide), mu_row (by decide), mu_row (by decide)]; exact hm 152 i (by omega) (by omega)) ?_
  refine im_sizes (fun i => by rw [mu_row (by decide), mu_row (by decide), mu_row (by decide), mu_row (by decide), mu_row (by decide), mu_row (by decide), mu_row (by decide), mu_row (by decide), mu_row (by decide), mu_row (by decide), mu_row (by decide), mu_row (by decide), mu_row (by decide), mu_row (by decide), mu_row (by decide), mu_row (by decide), mu_row (by decide), mu_row (by decide), mu_row (by decide)]; exact hm 153 i (by omega) (by omega)) ?_
  refine im_cells (fun i => by rw [mu_row (by decide), mu_row (by decide), mu_row (by decide), mu_row (by decide), mu_row (by decide), mu_row (by decide), mu_row (by decide), mu_row (by decide), mu_row (by decide), mu_row (by decide), mu_row (by decide), mu_row (by decide), mu_row (by decide), mu_row (by decide), mu_row (by decide), mu_row (by decide), mu_row (by decide), mu_row (by decide), mu_row (by decide)]; exact hm 154 i (by omega) (by omega)) ?_
  refine im_holds (fun i => by rw [mu_row (by decide), mu_row (by decide), mu_row (by decide), mu_row (by decide), mu_row (by decide), mu_row (by decide), mu_row (by decide), mu_row (by decide), mu_row (by decide), mu_row (by decide), mu_row (by decide), mu_row (by decide), mu_row (by decide), mu_row (by decide), mu_row (by decide), mu_row (by decide), mu_row (by decide), mu_row (by decide), mu_row (by decide)]; exact hm 155 i (by omega) (by omega)) ?_
  refine im_holdsA (fun i => by rw [mu_row (by decide), mu_row (by decide), mu_row (by decide), mu_row (by decide), mu_row (by decide), mu_row (by decide), mu_row (by decide), mu_row (by decide), mu_row (by decide), mu_row (by decide), mu_row (by decide), mu_row (by decide), mu_row (by decide), mu_row (by decide), mu_row (by decide), mu_row (by decide), mu_row (by decide), mu_row (by decide), mu_row (by decide)]; exact hm 156 i (by omega) (by omega)) ?_
  refine im_holdsB (fun i => by rw [mu_row (by decide), mu_row (by decide), mu_row (by decide), mu_row (by decide), mu_row (by decide), mu_row (by decide), mu_row (by decide), mu_row (by decide), mu_row (by decide), mu_row (by decide), mu_row (by decide), mu_row (by decide), mu_row (by decide), mu_row (by decide), mu_row (by decide), mu_row (by decide), mu_row (by decide), mu_row (by decide), mu_row (by decide)]; exact hm 157 i (by omega) (by omega)) ?_
  refine im_heldCells (fun i => by rw [mu_row (by decide), mu_row (by decide), mu_row (by decide), mu_row (by decide), mu_row (by decide), mu_row (by decide), mu_row (by decide), mu_row (by decide), mu_row (by decide), mu_row (by decide), mu_row (by decide), mu_row (by decide), mu_row (by decide), mu_row (by decide), mu_row (by decide), mu_row (by decide), mu_row (by decide), mu_row (by decide), mu_row (by decide)]; exact hm 158 i (by omega) (by omega)) ?_
  refine im_moved (fun i => by rw [mu_row (by decide), mu_row (by decide), mu_row (by decide), mu_row (by decide), mu_row (by decide), mu_row (by decide), mu_row (by decide), mu_row (by decide), mu_row (by decide), mu_row (by decide), mu_row (by decide), mu_row (by decide), mu_row (by decide), mu_row (by decide), mu_row (by decide), mu_row (by decide), mu_row (by decide), mu_row (by decide), mu_row (by decide)]; exact hm 159 i (by omega) (by omega)) ?_
  refine im_tells (fun i => by rw [mu_row (by decide), mu_row (by decide), mu_row (by decide), mu_row (by decide), mu_row (by decide), mu_row (by decide), mu_row (by decide), mu_row (by decide), mu_row (by decide), mu_row (by decide), mu_row (by decide), mu_row (by decide), mu_row (by decide), mu_row (by decide), mu_row (by decide), mu_row (by decide), mu_row (by decide), mu_row (by decide), mu_row (by decide)]; exact hm 160 i (by omega) (by omega)) ?_
  exact im_fin hQ
