-- the law: its cases (wip/gen/mk98p.py)
theorem scI {L i c : Nat} {x : Int32} (e : x = nI (i + c)) (h : i + c < L) (hL : L ≤ 384) : vp_in x ((S0 L).2.2.1 900) := vinK (n := L) e h (blt_t (by omega))
theorem sc1 (i c : Nat) (x : Int32) (e : x = nI c) : nI i + x = nI (i + c) := by rw [e]; exact nI_add i c
theorem law_0 {scr : Nat → Int32} {L d k i c1 c2 : Nat} {m : Mem} {Q : Qt} (hi : i + 6 ≤ L) (hL : L ≤ 384) (hk : k ≤ 64) (hc : c1 ≤ 400 + 2 * k ∧ c2 ≤ 20000 + 10 * k) (hs : Sim scr k m) (hN : ∀ m' a b, Sim scr (k + 1) m' → a ≤ 400 + 2 * (k + 1) ∧ b ≤ 20000 + 10 * (k + 1) → Xs (d + 201) 223 1566 [some (.retAddr 20), some (.ref 0), some (.ref 139), some (.int (nI i))] [] (S0 L) (a, b) m' Q) : Xs (d + 201) 223 224 [some (.retAddr 20), some (.ref 0), some (.ref 139), some (.int (nI i))] [] (S0 L) (c1, c2) m Q := by
  refine Xs_wpc (cut1 1566) t223c0 60 ⟨show c1 ≤ 600000 by omega, show c2 ≤ 7302249 by omega⟩ ?_
  refine ⟨scI (sc1 i 1 _ rfl) (by omega) hL, ?_⟩
  rw [clK (sc1 i 1 1 rfl) (by omega)]
  refine ⟨scI (sc1 i 2 _ rfl) (by omega) hL, ?_⟩
  rw [clK (sc1 i 2 2 rfl) (by omega)]
  refine ⟨⟨rfl, ltB rfl⟩, Mc_scr ?_⟩
  refine pr_turtle hs _ (fun r m1 hR h9 => ?_)
  refine ⟨scI (sc1 i 1 _ rfl) (by omega) hL, ?_⟩
  rw [clK (sc1 i 1 1 rfl) (by omega), h9 (i + 1) (show i + 1 < L by omega)]
  refine ⟨scI (sc1 i 2 _ rfl) (by omega) hL, ?_⟩
  rw [clK (sc1 i 2 2 rfl) (by omega), h9 (i + 2) (show i + 2 < L by omega)]
  refine ⟨⟨rfl, ltB rfl⟩, hR _ (fun m2 hS => ?_)⟩
  refine ifI (fun _ => ?_) (fun z => absurd rfl z)
  exact hN m2 _ _ hS ⟨by omega, by omega⟩
theorem law_1 {scr : Nat → Int32} {L d k i c1 c2 : Nat} {m : Mem} {Q : Qt} (hi : i + 6 ≤ L) (hL : L ≤ 384) (hk : k ≤ 64) (hc : c1 ≤ 400 + 2 * k ∧ c2 ≤ 20000 + 10 * k) (hs : Sim scr k m) (hN : ∀ m' a b, Sim scr (k + 1) m' → a ≤ 400 + 2 * (k + 1) ∧ b ≤ 20000 + 10 * (k + 1) → Xs (d + 201) 223 1566 [some (.retAddr 20), some (.ref 0), some (.ref 139), some (.int (nI i))] [] (S0 L) (a, b) m' Q) : Xs (d + 201) 223 257 [some (.retAddr 20), some (.ref 0), some (.ref 139), some (.int (nI i))] [] (S0 L) (c1, c2) m Q := by
  refine Xs_wpc (cut1 1566) t223c1 60 ⟨show c1 ≤ 600000 by omega, show c2 ≤ 7302249 by omega⟩ ?_
  refine ⟨scI (sc1 i 1 _ rfl) (by omega) hL, ?_⟩
  rw [clK (sc1 i 1 1 rfl) (by omega)]
  refine ⟨scI (sc1 i 2 _ rfl) (by omega) hL, ?_⟩
  rw [clK (sc1 i 2 2 rfl) (by omega)]
  refine ⟨⟨rfl, ltB rfl⟩, Mc_scr ?_⟩
  refine pr_told (by omega) hs _ (fun r m1 hR h9 => ?_)
  refine ⟨scI (sc1 i 1 _ rfl) (by omega) hL, ?_⟩
  rw [clK (sc1 i 1 1 rfl) (by omega), h9 (i + 1) (show i + 1 < L by omega)]
  refine ⟨scI (sc1 i 2 _ rfl) (by omega) hL, ?_⟩
  rw [clK (sc1 i 2 2 rfl) (by omega), h9 (i + 2) (show i + 2 < L by omega)]
  refine ⟨⟨rfl, ltB rfl⟩, hR _ (fun m2 hS => ?_)⟩
  refine ifI (fun _ => ?_) (fun z => absurd rfl z)
  exact hN m2 _ _ hS ⟨by omega, by omega⟩
theorem law_2 {scr : Nat → Int32} {L d k i c1 c2 : Nat} {m : Mem} {Q : Qt} (hi : i + 6 ≤ L) (hL : L ≤ 384) (hk : k ≤ 64) (hc : c1 ≤ 400 + 2 * k ∧ c2 ≤ 20000 + 10 * k) (hs : Sim scr k m) (hN : ∀ m' a b, Sim scr (k + 1) m' → a ≤ 400 + 2 * (k + 1) ∧ b ≤ 20000 + 10 * (k + 1) → Xs (d + 201) 223 1566 [some (.retAddr 20), some (.ref 0), some (.ref 139), some (.int (nI i))] [] (S0 L) (a, b) m' Q) : Xs (d + 201) 223 290 [some (.retAddr 20), some (.ref 0), some (.ref 139), some (.int (nI i))] [] (S0 L) (c1, c2) m Q := by
  refine Xs_wpc (cut1 1566) t223c2 60 ⟨show c1 ≤ 600000 by omega, show c2 ≤ 7302249 by omega⟩ ?_
  refine ⟨scI (sc1 i 1 _ rfl) (by omega) hL, ?_⟩
  rw [clK (sc1 i 1 1 rfl) (by omega)]
  refine ⟨scI (sc1 i 2 _ rfl) (by omega) hL, ?_⟩
  rw [clK (sc1 i 2 2 rfl) (by omega)]
  refine ⟨⟨rfl, ltB rfl⟩, Mc_scr ?_⟩
  refine pr_step hs _ (fun r m1 hR h9 => ?_)
  refine ⟨scI (sc1 i 1 _ rfl) (by omega) hL, ?_⟩
  rw [clK (sc1 i 1 1 rfl) (by omega), h9 (i + 1) (show i + 1 < L by omega)]
  refine ⟨scI (sc1 i 2 _ rfl) (by omega) hL, ?_⟩
  rw [clK (sc1 i 2 2 rfl) (by omega), h9 (i + 2) (show i + 2 < L by omega)]
  refine ⟨⟨rfl, ltB rfl⟩, hR _ (fun m2 hS => ?_)⟩
  refine ifI (fun _ => ?_) (fun z => absurd rfl z)
  exact hN m2 _ _ hS ⟨by omega, by omega⟩
theorem law_3 {scr : Nat → Int32} {L d k i c1 c2 : Nat} {m : Mem} {Q : Qt} (hi : i + 6 ≤ L) (hL : L ≤ 384) (hk : k ≤ 64) (hc : c1 ≤ 400 + 2 * k ∧ c2 ≤ 20000 + 10 * k) (hs : Sim scr k m) (hN : ∀ m' a b, Sim scr (k + 1) m' → a ≤ 400 + 2 * (k + 1) ∧ b ≤ 20000 + 10 * (k + 1) → Xs (d + 201) 223 1566 [some (.retAddr 20), some (.ref 0), some (.ref 139), some (.int (nI i))] [] (S0 L) (a, b) m' Q) : Xs (d + 201) 223 323 [some (.retAddr 20), some (.ref 0), some (.ref 139), some (.int (nI i))] [] (S0 L) (c1, c2) m Q := by
  refine Xs_wpc (cut1 1566) t223c3 60 ⟨show c1 ≤ 600000 by omega, show c2 ≤ 7302249 by omega⟩ ?_
  refine ⟨scI (sc1 i 1 _ rfl) (by omega) hL, ?_⟩
  rw [clK (sc1 i 1 1 rfl) (by omega)]
  refine ⟨scI (sc1 i 2 _ rfl) (by omega) hL, ?_⟩
  rw [clK (sc1 i 2 2 rfl) (by omega)]
  refine ⟨⟨rfl, ltB rfl⟩, Mc_scr ?_⟩
  refine pr_as hs _ (fun r m1 hR h9 => ?_)
  refine ⟨scI (sc1 i 1 _ rfl) (by omega) hL, ?_⟩
  rw [clK (sc1 i 1 1 rfl) (by omega), h9 (i + 1) (show i + 1 < L by omega)]
  refine ⟨scI (sc1 i 2 _ rfl) (by omega) hL, ?_⟩
  rw [clK (sc1 i 2 2 rfl) (by omega), h9 (i + 2) (show i + 2 < L by omega)]
  refine ⟨⟨rfl, ltB rfl⟩, hR _ (fun m2 hS => ?_)⟩
  refine ifI (fun _ => ?_) (fun z => absurd rfl z)
  exact hN m2 _ _ hS ⟨by omega, by omega⟩
theorem law_4 {scr : Nat → Int32} {L d k i c1 c2 : Nat} {m : Mem} {Q : Qt} (hi : i + 6 ≤ L) (hL : L ≤ 384) (hk : k ≤ 64) (hc : c1 ≤ 400 + 2 * k ∧ c2 ≤ 20000 + 10 * k) (hs : Sim scr k m) (hN : ∀ m' a b, Sim scr (k + 1) m' → a ≤ 400 + 2 * (k + 1) ∧ b ≤ 20000 + 10 * (k + 1) → Xs (d + 201) 223 1566 [some (.retAddr 20), some (.ref 0), some (.ref 139), some (.int (nI i))] [] (S0 L) (a, b) m' Q) : Xs (d + 201) 223 356 [some (.retAddr 20), some (.ref 0), some (.ref 139), some (.int (nI i))] [] (S0 L) (c1, c2) m Q := by
  refine Xs_wpc (cut1 1566) t223c4 60 ⟨show c1 ≤ 600000 by omega, show c2 ≤ 7302249 by omega⟩ ?_
  refine ⟨scI (sc1 i 1 _ rfl) (by omega) hL, ?_⟩
  rw [clK (sc1 i 1 1 rfl) (by omega)]
  refine ⟨scI (sc1 i 2 _ rfl) (by omega) hL, ?_⟩
  rw [clK (sc1 i 2 2 rfl) (by omega)]
  refine ⟨⟨rfl, ltB rfl⟩, Mc_scr ?_⟩
  refine pr_turns hs _ (fun r m1 hR h9 => ?_)
  refine ⟨scI (sc1 i 1 _ rfl) (by omega) hL, ?_⟩
  rw [clK (sc1 i 1 1 rfl) (by omega), h9 (i + 1) (show i + 1 < L by omega)]
  refine ⟨scI (sc1 i 2 _ rfl) (by omega) hL, ?_⟩
  rw [clK (sc1 i 2 2 rfl) (by omega), h9 (i + 2) (show i + 2 < L by omega)]
  refine ⟨⟨rfl, ltB rfl⟩, hR _ (fun m2 hS => ?_)⟩
  refine ifI (fun _ => ?_) (fun z => absurd rfl z)
  exact hN m2 _ _ hS ⟨by omega, by omega⟩
theorem law_5 {scr : Nat → Int32} {L d k i c1 c2 : Nat} {m : Mem} {Q : Qt} (hi : i + 6 ≤ L) (hL : L ≤ 384) (hk : k ≤ 64) (hc : c1 ≤ 400 + 2 * k ∧ c2 ≤ 20000 + 10 * k) (hs : Sim scr k m) (hN : ∀ m' a b, Sim scr (k + 1) m' → a ≤ 400 + 2 * (k + 1) ∧ b ≤ 20000 + 10 * (k + 1) → Xs (d + 201) 223 1566 [some (.retAddr 20), some (.ref 0), some (.ref 139), some (.int (nI i))] [] (S0 L) (a, b) m' Q) : Xs (d + 201) 223 389 [some (.retAddr 20), some (.ref 0), some (.ref 139), some (.int (nI i))] [] (S0 L) (c1, c2) m Q := by
  refine Xs_wpc (cut1 1566) t223c5 60 ⟨show c1 ≤ 600000 by omega, show c2 ≤ 7302249 by omega⟩ ?_
  refine ⟨scI (sc1 i 1 _ rfl) (by omega) hL, ?_⟩
  rw [clK (sc1 i 1 1 rfl) (by omega)]
  refine ⟨scI (sc1 i 2 _ rfl) (by omega) hL, ?_⟩
  rw [clK (sc1 i 2 2 rfl) (by omega)]
  refine ⟨scI (sc1 i 3 _ rfl) (by omega) hL, ?_⟩
  rw [clK (sc1 i 3 3 rfl) (by omega)]
  refine ⟨⟨rfl, ltB rfl⟩, Mc_scr ?_⟩
  refine pr_set (by omega) hs _ (fun r m1 hR h9 => ?_)
  refine ⟨scI (sc1 i 1 _ rfl) (by omega) hL, ?_⟩
  rw [clK (sc1 i 1 1 rfl) (by omega), h9 (i + 1) (show i + 1 < L by omega)]
  refine ⟨scI (sc1 i 2 _ rfl) (by omega) hL, ?_⟩
  rw [clK (sc1 i 2 2 rfl) (by omega), h9 (i + 2) (show i + 2 < L by omega)]
  refine ⟨scI (sc1 i 3 _ rfl) (by omega) hL, ?_⟩
  rw [clK (sc1 i 3 3 rfl) (by omega), h9 (i + 3) (show i + 3 < L by omega)]
  refine ⟨⟨rfl, ltB rfl⟩, hR _ (fun m2 hS => ?_)⟩
  refine ifI (fun _ => ?_) (fun z => absurd rfl z)
  exact hN m2 _ _ hS ⟨by omega, by omega⟩
theorem law_6 {scr : Nat → Int32} {L d k i c1 c2 : Nat} {m : Mem} {Q : Qt} (hi : i + 6 ≤ L) (hL : L ≤ 384) (hk : k ≤ 64) (hc : c1 ≤ 400 + 2 * k ∧ c2 ≤ 20000 + 10 * k) (hs : Sim scr k m) (hN : ∀ m' a b, Sim scr (k + 1) m' → a ≤ 400 + 2 * (k + 1) ∧ b ≤ 20000 + 10 * (k + 1) → Xs (d + 201) 223 1566 [some (.retAddr 20), some (.ref 0), some (.ref 139), some (.int (nI i))] [] (S0 L) (a, b) m' Q) : Xs (d + 201) 223 432 [some (.retAddr 20), some (.ref 0), some (.ref 139), some (.int (nI i))] [] (S0 L) (c1, c2) m Q := by
  refine Xs_wpc (cut1 1566) t223c6 60 ⟨show c1 ≤ 600000 by omega, show c2 ≤ 7302249 by omega⟩ ?_
  refine ⟨scI (sc1 i 1 _ rfl) (by omega) hL, ?_⟩
  rw [clK (sc1 i 1 1 rfl) (by omega)]
  refine ⟨scI (sc1 i 2 _ rfl) (by omega) hL, ?_⟩
  rw [clK (sc1 i 2 2 rfl) (by omega)]
  refine ⟨⟨rfl, ltB rfl⟩, Mc_scr ?_⟩
  refine pr_push (by omega) hs _ (fun r m1 hR h9 => ?_)
  refine ⟨scI (sc1 i 1 _ rfl) (by omega) hL, ?_⟩
  rw [clK (sc1 i 1 1 rfl) (by omega), h9 (i + 1) (show i + 1 < L by omega)]
  refine ⟨scI (sc1 i 2 _ rfl) (by omega) hL, ?_⟩
  rw [clK (sc1 i 2 2 rfl) (by omega), h9 (i + 2) (show i + 2 < L by omega)]
  refine ⟨⟨rfl, ltB rfl⟩, hR _ (fun m2 hS => ?_)⟩
  refine ifI (fun _ => ?_) (fun z => absurd rfl z)
  exact hN m2 _ _ hS ⟨by omega, by omega⟩
theorem law_7 {scr : Nat → Int32} {L d k i c1 c2 : Nat} {m : Mem} {Q : Qt} (hi : i + 6 ≤ L) (hL : L ≤ 384) (hk : k ≤ 64) (hc : c1 ≤ 400 + 2 * k ∧ c2 ≤ 20000 + 10 * k) (hs : Sim scr k m) (hN : ∀ m' a b, Sim scr (k + 1) m' → a ≤ 400 + 2 * (k + 1) ∧ b ≤ 20000 + 10 * (k + 1) → Xs (d + 201) 223 1566 [some (.retAddr 20), some (.ref 0), some (.ref 139), some (.int (nI i))] [] (S0 L) (a, b) m' Q) : Xs (d + 201) 223 465 [some (.retAddr 20), some (.ref 0), some (.ref 139), some (.int (nI i))] [] (S0 L) (c1, c2) m Q := by
  refine Xs_wpc (cut1 1566) t223c7 60 ⟨show c1 ≤ 600000 by omega, show c2 ≤ 7302249 by omega⟩ ?_
  refine ⟨scI (sc1 i 1 _ rfl) (by omega) hL, ?_⟩
  rw [clK (sc1 i 1 1 rfl) (by omega)]
  refine ⟨scI (sc1 i 2 _ rfl) (by omega) hL, ?_⟩
  rw [clK (sc1 i 2 2 rfl) (by omega)]
  refine ⟨⟨rfl, ltB rfl⟩, Mc_scr ?_⟩
  refine pr_egg (by omega) hs _ (fun r m1 hR h9 => ?_)
  refine ⟨scI (sc1 i 1 _ rfl) (by omega) hL, ?_⟩
  rw [clK (sc1 i 1 1 rfl) (by omega), h9 (i + 1) (show i + 1 < L by omega)]
  refine ⟨scI (sc1 i 2 _ rfl) (by omega) hL, ?_⟩
  rw [clK (sc1 i 2 2 rfl) (by omega), h9 (i + 2) (show i + 2 < L by omega)]
  refine ⟨⟨rfl, ltB rfl⟩, hR _ (fun m2 hS => ?_)⟩
  refine ifI (fun _ => ?_) (fun z => absurd rfl z)
  exact hN m2 _ _ hS ⟨by omega, by omega⟩
theorem law_8 {scr : Nat → Int32} {L d k i c1 c2 : Nat} {m : Mem} {Q : Qt} (hi : i + 6 ≤ L) (hL : L ≤ 384) (hk : k ≤ 64) (hc : c1 ≤ 400 + 2 * k ∧ c2 ≤ 20000 + 10 * k) (hs : Sim scr k m) (hN : ∀ m' a b, Sim scr (k + 1) m' → a ≤ 400 + 2 * (k + 1) ∧ b ≤ 20000 + 10 * (k + 1) → Xs (d + 201) 223 1566 [some (.retAddr 20), some (.ref 0), some (.ref 139), some (.int (nI i))] [] (S0 L) (a, b) m' Q) : Xs (d + 201) 223 498 [some (.retAddr 20), some (.ref 0), some (.ref 139), some (.int (nI i))] [] (S0 L) (c1, c2) m Q := by
  refine Xs_wpc (cut1 1566) t223c8 60 ⟨show c1 ≤ 600000 by omega, show c2 ≤ 7302249 by omega⟩ ?_
  refine ⟨scI (sc1 i 1 _ rfl) (by omega) hL, ?_⟩
  rw [clK (sc1 i 1 1 rfl) (by omega)]
  refine ⟨scI (sc1 i 2 _ rfl) (by omega) hL, ?_⟩
  rw [clK (sc1 i 2 2 rfl) (by omega)]
  refine ⟨⟨rfl, ltB rfl⟩, Mc_scr ?_⟩
  refine pr_rule hs _ (fun r m1 hR h9 => ?_)
  refine ⟨scI (sc1 i 1 _ rfl) (by omega) hL, ?_⟩
  rw [clK (sc1 i 1 1 rfl) (by omega), h9 (i + 1) (show i + 1 < L by omega)]
  refine ⟨scI (sc1 i 2 _ rfl) (by omega) hL, ?_⟩
  rw [clK (sc1 i 2 2 rfl) (by omega), h9 (i + 2) (show i + 2 < L by omega)]
  refine ⟨⟨rfl, ltB rfl⟩, hR _ (fun m2 hS => ?_)⟩
  refine ifI (fun _ => ?_) (fun z => absurd rfl z)
  exact hN m2 _ _ hS ⟨by omega, by omega⟩
theorem law_9 {scr : Nat → Int32} {L d k i c1 c2 : Nat} {m : Mem} {Q : Qt} (hi : i + 6 ≤ L) (hL : L ≤ 384) (hk : k ≤ 64) (hc : c1 ≤ 400 + 2 * k ∧ c2 ≤ 20000 + 10 * k) (hs : Sim scr k m) (hN : ∀ m' a b, Sim scr (k + 1) m' → a ≤ 400 + 2 * (k + 1) ∧ b ≤ 20000 + 10 * (k + 1) → Xs (d + 201) 223 1566 [some (.retAddr 20), some (.ref 0), some (.ref 139), some (.int (nI i))] [] (S0 L) (a, b) m' Q) : Xs (d + 201) 223 531 [some (.retAddr 20), some (.ref 0), some (.ref 139), some (.int (nI i))] [] (S0 L) (c1, c2) m Q := by
  refine Xs_wpc (cut1 1566) t223c9 60 ⟨show c1 ≤ 600000 by omega, show c2 ≤ 7302249 by omega⟩ ?_
  refine ⟨scI (sc1 i 1 _ rfl) (by omega) hL, ?_⟩
  rw [clK (sc1 i 1 1 rfl) (by omega)]
  refine ⟨⟨rfl, ltB rfl⟩, Mc_scr ?_⟩
  refine pr_deal hs _ (fun r m1 hR h9 => ?_)
  refine ⟨scI (sc1 i 1 _ rfl) (by omega) hL, ?_⟩
  rw [clK (sc1 i 1 1 rfl) (by omega), h9 (i + 1) (show i + 1 < L by omega)]
  refine ⟨⟨rfl, ltB rfl⟩, hR _ (fun m2 hS => ?_)⟩
  refine ifI (fun _ => ?_) (fun z => absurd rfl z)
  exact hN m2 _ _ hS ⟨by omega, by omega⟩
theorem law_10 {scr : Nat → Int32} {L d k i c1 c2 : Nat} {m : Mem} {Q : Qt} (hi : i + 6 ≤ L) (hL : L ≤ 384) (hk : k ≤ 64) (hc : c1 ≤ 400 + 2 * k ∧ c2 ≤ 20000 + 10 * k) (hs : Sim scr k m) (hN : ∀ m' a b, Sim scr (k + 1) m' → a ≤ 400 + 2 * (k + 1) ∧ b ≤ 20000 + 10 * (k + 1) → Xs (d + 201) 223 1566 [some (.retAddr 20), some (.ref 0), some (.ref 139), some (.int (nI i))] [] (S0 L) (a, b) m' Q) : Xs (d + 201) 223 554 [some (.retAddr 20), some (.ref 0), some (.ref 139), some (.int (nI i))] [] (S0 L) (c1, c2) m Q := by
  refine Xs_wpc (cut1 1566) t223c10 60 ⟨show c1 ≤ 600000 by omega, show c2 ≤ 7302249 by omega⟩ ?_
  refine ⟨scI (sc1 i 1 _ rfl) (by omega) hL, ?_⟩
  rw [clK (sc1 i 1 1 rfl) (by omega)]
  refine ⟨⟨rfl, ltB rfl⟩, Mc_scr ?_⟩
  refine pr_seed hs _ (fun r m1 hR h9 => ?_)
  refine ⟨scI (sc1 i 1 _ rfl) (by omega) hL, ?_⟩
  rw [clK (sc1 i 1 1 rfl) (by omega), h9 (i + 1) (show i + 1 < L by omega)]
  refine ⟨⟨rfl, ltB rfl⟩, hR _ (fun m2 hS => ?_)⟩
  refine ifI (fun _ => ?_) (fun z => absurd rfl z)
  exact hN m2 _ _ hS ⟨by omega, by omega⟩
theorem law_11 {scr : Nat → Int32} {L d k i c1 c2 : Nat} {m : Mem} {Q : Qt} (hi : i + 6 ≤ L) (hL : L ≤ 384) (hk : k ≤ 64) (hc : c1 ≤ 400 + 2 * k ∧ c2 ≤ 20000 + 10 * k) (hs : Sim scr k m) (hN : ∀ m' a b, Sim scr (k + 1) m' → a ≤ 400 + 2 * (k + 1) ∧ b ≤ 20000 + 10 * (k + 1) → Xs (d + 201) 223 1566 [some (.retAddr 20), some (.ref 0), some (.ref 139), some (.int (nI i))] [] (S0 L) (a, b) m' Q) : Xs (d + 201) 223 577 [some (.retAddr 20), some (.ref 0), some (.ref 139), some (.int (nI i))] [] (S0 L) (c1, c2) m Q := by
  refine Xs_wpc (cut1 1566) t223c11 60 ⟨show c1 ≤ 600000 by omega, show c2 ≤ 7302249 by omega⟩ ?_
  refine ⟨scI (sc1 i 1 _ rfl) (by omega) hL, ?_⟩
  rw [clK (sc1 i 1 1 rfl) (by omega)]
  refine ⟨⟨rfl, ltB rfl⟩, Mc_scr ?_⟩
  refine pr_days (by omega) hs _ (fun r m1 hR h9 => ?_)
  refine ⟨scI (sc1 i 1 _ rfl) (by omega) hL, ?_⟩
  rw [clK (sc1 i 1 1 rfl) (by omega), h9 (i + 1) (show i + 1 < L by omega)]
  refine ⟨⟨rfl, ltB rfl⟩, hR _ (fun m2 hS => ?_)⟩
  refine ifI (fun _ => ?_) (fun z => absurd rfl z)
  exact hN m2 _ _ hS ⟨by omega, by omega⟩
theorem law_12 {scr : Nat → Int32} {L d k i c1 c2 : Nat} {m : Mem} {Q : Qt} (hi : i + 6 ≤ L) (hL : L ≤ 384) (hk : k ≤ 64) (hc : c1 ≤ 400 + 2 * k ∧ c2 ≤ 20000 + 10 * k) (hs : Sim scr k m) (hN : ∀ m' a b, Sim scr (k + 1) m' → a ≤ 400 + 2 * (k + 1) ∧ b ≤ 20000 + 10 * (k + 1) → Xs (d + 201) 223 1566 [some (.retAddr 20), some (.ref 0), some (.ref 139), some (.int (nI i))] [] (S0 L) (a, b) m' Q) : Xs (d + 201) 223 600 [some (.retAddr 20), some (.ref 0), some (.ref 139), some (.int (nI i))] [] (S0 L) (c1, c2) m Q := by
  refine Xs_wpc (cut1 1566) t223c12 60 ⟨show c1 ≤ 600000 by omega, show c2 ≤ 7302249 by omega⟩ ?_
  refine ⟨⟨rfl, ltB rfl⟩, Mc_scr ?_⟩
  refine pr_leads hs _ (fun r m1 hR h9 => ?_)
  refine ⟨⟨rfl, ltB rfl⟩, hR _ (fun m2 hS => ?_)⟩
  refine ifI (fun _ => ?_) (fun z => absurd rfl z)
  exact hN m2 _ _ hS ⟨by omega, by omega⟩
theorem law_13 {scr : Nat → Int32} {L d k i c1 c2 : Nat} {m : Mem} {Q : Qt} (hi : i + 6 ≤ L) (hL : L ≤ 384) (hk : k ≤ 64) (hc : c1 ≤ 400 + 2 * k ∧ c2 ≤ 20000 + 10 * k) (hs : Sim scr k m) (hN : ∀ m' a b, Sim scr (k + 1) m' → a ≤ 400 + 2 * (k + 1) ∧ b ≤ 20000 + 10 * (k + 1) → Xs (d + 201) 223 1566 [some (.retAddr 20), some (.ref 0), some (.ref 139), some (.int (nI i))] [] (S0 L) (a, b) m' Q) : Xs (d + 201) 223 613 [some (.retAddr 20), some (.ref 0), some (.ref 139), some (.int (nI i))] [] (S0 L) (c1, c2) m Q := by
  refine Xs_wpc (cut1 1566) t223c13 60 ⟨show c1 ≤ 600000 by omega, show c2 ≤ 7302249 by omega⟩ ?_
  refine ⟨scI (sc1 i 1 _ rfl) (by omega) hL, ?_⟩
  rw [clK (sc1 i 1 1 rfl) (by omega)]
  refine ⟨scI (sc1 i 2 _ rfl) (by omega) hL, ?_⟩
  rw [clK (sc1 i 2 2 rfl) (by omega)]
  refine ⟨scI (sc1 i 3 _ rfl) (by omega) hL, ?_⟩
  rw [clK (sc1 i 3 3 rfl) (by omega)]
  refine ⟨⟨rfl, ltB rfl⟩, Mc_scr ?_⟩
  refine pr_wager hs _ (fun r m1 hR h9 => ?_)
  refine ⟨scI (sc1 i 1 _ rfl) (by omega) hL, ?_⟩
  rw [clK (sc1 i 1 1 rfl) (by omega), h9 (i + 1) (show i + 1 < L by omega)]
  refine ⟨scI (sc1 i 2 _ rfl) (by omega) hL, ?_⟩
  rw [clK (sc1 i 2 2 rfl) (by omega), h9 (i + 2) (show i + 2 < L by omega)]
  refine ⟨scI (sc1 i 3 _ rfl) (by omega) hL, ?_⟩
  rw [clK (sc1 i 3 3 rfl) (by omega), h9 (i + 3) (show i + 3 < L by omega)]
  refine ⟨⟨rfl, ltB rfl⟩, hR _ (fun m2 hS => ?_)⟩
  refine ifI (fun _ => ?_) (fun z => absurd rfl z)
  exact hN m2 _ _ hS ⟨by omega, by omega⟩
theorem law_14 {scr : Nat → Int32} {L d k i c1 c2 : Nat} {m : Mem} {Q : Qt} (hi : i + 6 ≤ L) (hL : L ≤ 384) (hk : k ≤ 64) (hc : c1 ≤ 400 + 2 * k ∧ c2 ≤ 20000 + 10 * k) (hs : Sim scr k m) (hN : ∀ m' a b, Sim scr (k + 1) m' → a ≤ 400 + 2 * (k + 1) ∧ b ≤ 20000 + 10 * (k + 1) → Xs (d + 201) 223 1566 [some (.retAddr 20), some (.ref 0), some (.ref 139), some (.int (nI i))] [] (S0 L) (a, b) m' Q) : Xs (d + 201) 223 656 [some (.retAddr 20), some (.ref 0), some (.ref 139), some (.int (nI i))] [] (S0 L) (c1, c2) m Q := by
  refine Xs_wpc (cut1 1566) t223c14 60 ⟨show c1 ≤ 600000 by omega, show c2 ≤ 7302249 by omega⟩ ?_
  refine ⟨scI (sc1 i 1 _ rfl) (by omega) hL, ?_⟩
  rw [clK (sc1 i 1 1 rfl) (by omega)]
  refine ⟨scI (sc1 i 2 _ rfl) (by omega) hL, ?_⟩
  rw [clK (sc1 i 2 2 rfl) (by omega)]
  refine ⟨⟨rfl, ltB rfl⟩, Mc_scr ?_⟩
  refine pr_wagerTold hs _ (fun r m1 hR h9 => ?_)
  refine ⟨scI (sc1 i 1 _ rfl) (by omega) hL, ?_⟩
  rw [clK (sc1 i 1 1 rfl) (by omega), h9 (i + 1) (show i + 1 < L by omega)]
  refine ⟨scI (sc1 i 2 _ rfl) (by omega) hL, ?_⟩
  rw [clK (sc1 i 2 2 rfl) (by omega), h9 (i + 2) (show i + 2 < L by omega)]
  refine ⟨⟨rfl, ltB rfl⟩, hR _ (fun m2 hS => ?_)⟩
  refine ifI (fun _ => ?_) (fun z => absurd rfl z)
  exact hN m2 _ _ hS ⟨by omega, by omega⟩
theorem law_15 {scr : Nat → Int32} {L d k i c1 c2 : Nat} {m : Mem} {Q : Qt} (hi : i + 6 ≤ L) (hL : L ≤ 384) (hk : k ≤ 64) (hc : c1 ≤ 400 + 2 * k ∧ c2 ≤ 20000 + 10 * k) (hs : Sim scr k m) (hN : ∀ m' a b, Sim scr (k + 1) m' → a ≤ 400 + 2 * (k + 1) ∧ b ≤ 20000 + 10 * (k + 1) → Xs (d + 201) 223 1566 [some (.retAddr 20), some (.ref 0), some (.ref 139), some (.int (nI i))] [] (S0 L) (a, b) m' Q) : Xs (d + 201) 223 689 [some (.retAddr 20), some (.ref 0), some (.ref 139), some (.int (nI i))] [] (S0 L) (c1, c2) m Q := by
  refine Xs_wpc (cut1 1566) t223c15 60 ⟨show c1 ≤ 600000 by omega, show c2 ≤ 7302249 by omega⟩ ?_
  refine ⟨scI (sc1 i 1 _ rfl) (by omega) hL, ?_⟩
  rw [clK (sc1 i 1 1 rfl) (by omega)]
  refine ⟨scI (sc1 i 2 _ rfl) (by omega) hL, ?_⟩
  rw [clK (sc1 i 2 2 rfl) (by omega)]
  refine ⟨⟨rfl, ltB rfl⟩, Mc_scr ?_⟩
  refine pr_inherit hs _ (fun r m1 hR h9 => ?_)
  refine ⟨scI (sc1 i 1 _ rfl) (by omega) hL, ?_⟩
  rw [clK (sc1 i 1 1 rfl) (by omega), h9 (i + 1) (show i + 1 < L by omega)]
  refine ⟨scI (sc1 i 2 _ rfl) (by omega) hL, ?_⟩
  rw [clK (sc1 i 2 2 rfl) (by omega), h9 (i + 2) (show i + 2 < L by omega)]
  refine ⟨⟨rfl, ltB rfl⟩, hR _ (fun m2 hS => ?_)⟩
  refine ifI (fun _ => ?_) (fun z => absurd rfl z)
  exact hN m2 _ _ hS ⟨by omega, by omega⟩
theorem law_16 {scr : Nat → Int32} {L d k i c1 c2 : Nat} {m : Mem} {Q : Qt} (hi : i + 6 ≤ L) (hL : L ≤ 384) (hk : k ≤ 64) (hc : c1 ≤ 400 + 2 * k ∧ c2 ≤ 20000 + 10 * k) (hs : Sim scr k m) (hN : ∀ m' a b, Sim scr (k + 1) m' → a ≤ 400 + 2 * (k + 1) ∧ b ≤ 20000 + 10 * (k + 1) → Xs (d + 201) 223 1566 [some (.retAddr 20), some (.ref 0), some (.ref 139), some (.int (nI i))] [] (S0 L) (a, b) m' Q) : Xs (d + 201) 223 722 [some (.retAddr 20), some (.ref 0), some (.ref 139), some (.int (nI i))] [] (S0 L) (c1, c2) m Q := by
  refine Xs_wpc (cut1 1566) t223c16 60 ⟨show c1 ≤ 600000 by omega, show c2 ≤ 7302249 by omega⟩ ?_
  refine ⟨⟨rfl, ltB rfl⟩, Mc_scr ?_⟩
  refine pr_pool hs _ (fun r m1 hR h9 => ?_)
  refine ⟨⟨rfl, ltB rfl⟩, hR _ (fun m2 hS => ?_)⟩
  refine ifI (fun _ => ?_) (fun z => absurd rfl z)
  exact hN m2 _ _ hS ⟨by omega, by omega⟩
theorem law_17 {scr : Nat → Int32} {L d k i c1 c2 : Nat} {m : Mem} {Q : Qt} (hi : i + 6 ≤ L) (hL : L ≤ 384) (hk : k ≤ 64) (hc : c1 ≤ 400 + 2 * k ∧ c2 ≤ 20000 + 10 * k) (hs : Sim scr k m) (hN : ∀ m' a b, Sim scr (k + 1) m' → a ≤ 400 + 2 * (k + 1) ∧ b ≤ 20000 + 10 * (k + 1) → Xs (d + 201) 223 1566 [some (.retAddr 20), some (.ref 0), some (.ref 139), some (.int (nI i))] [] (S0 L) (a, b) m' Q) : Xs (d + 201) 223 735 [some (.retAddr 20), some (.ref 0), some (.ref 139), some (.int (nI i))] [] (S0 L) (c1, c2) m Q := by
  refine Xs_wpc (cut1 1566) t223c17 60 ⟨show c1 ≤ 600000 by omega, show c2 ≤ 7302249 by omega⟩ ?_
  refine ⟨scI (sc1 i 1 _ rfl) (by omega) hL, ?_⟩
  rw [clK (sc1 i 1 1 rfl) (by omega)]
  refine ⟨scI (sc1 i 2 _ rfl) (by omega) hL, ?_⟩
  rw [clK (sc1 i 2 2 rfl) (by omega)]
  refine ⟨⟨rfl, ltB rfl⟩, Mc_scr ?_⟩
  refine pr_pays hs _ (fun r m1 hR h9 => ?_)
  refine ⟨scI (sc1 i 1 _ rfl) (by omega) hL, ?_⟩
  rw [clK (sc1 i 1 1 rfl) (by omega), h9 (i + 1) (show i + 1 < L by omega)]
  refine ⟨scI (sc1 i 2 _ rfl) (by omega) hL, ?_⟩
  rw [clK (sc1 i 2 2 rfl) (by omega), h9 (i + 2) (show i + 2 < L by omega)]
  refine ⟨⟨rfl, ltB rfl⟩, hR _ (fun m2 hS => ?_)⟩
  refine ifI (fun _ => ?_) (fun z => absurd rfl z)
  exact hN m2 _ _ hS ⟨by omega, by omega⟩
theorem law_18 {scr : Nat → Int32} {L d k i c1 c2 : Nat} {m : Mem} {Q : Qt} (hi : i + 6 ≤ L) (hL : L ≤ 384) (hk : k ≤ 64) (hc : c1 ≤ 400 + 2 * k ∧ c2 ≤ 20000 + 10 * k) (hs : Sim scr k m) (hN : ∀ m' a b, Sim scr (k + 1) m' → a ≤ 400 + 2 * (k + 1) ∧ b ≤ 20000 + 10 * (k + 1) → Xs (d + 201) 223 1566 [some (.retAddr 20), some (.ref 0), some (.ref 139), some (.int (nI i))] [] (S0 L) (a, b) m' Q) : Xs (d + 201) 223 768 [some (.retAddr 20), some (.ref 0), some (.ref 139), some (.int (nI i))] [] (S0 L) (c1, c2) m Q := by
  refine Xs_wpc (cut1 1566) t223c18 60 ⟨show c1 ≤ 600000 by omega, show c2 ≤ 7302249 by omega⟩ ?_
  refine ⟨scI (sc1 i 1 _ rfl) (by omega) hL, ?_⟩
  rw [clK (sc1 i 1 1 rfl) (by omega)]
  refine ⟨scI (sc1 i 2 _ rfl) (by omega) hL, ?_⟩
  rw [clK (sc1 i 2 2 rfl) (by omega)]
  refine ⟨scI (sc1 i 3 _ rfl) (by omega) hL, ?_⟩
  rw [clK (sc1 i 3 3 rfl) (by omega)]
  refine ⟨⟨rfl, ltB rfl⟩, Mc_scr ?_⟩
  refine pr_behind (by omega) hs _ (fun r m1 hR h9 => ?_)
  refine ⟨scI (sc1 i 1 _ rfl) (by omega) hL, ?_⟩
  rw [clK (sc1 i 1 1 rfl) (by omega), h9 (i + 1) (show i + 1 < L by omega)]
  refine ⟨scI (sc1 i 2 _ rfl) (by omega) hL, ?_⟩
  rw [clK (sc1 i 2 2 rfl) (by omega), h9 (i + 2) (show i + 2 < L by omega)]
  refine ⟨scI (sc1 i 3 _ rfl) (by omega) hL, ?_⟩
  rw [clK (sc1 i 3 3 rfl) (by omega), h9 (i + 3) (show i + 3 < L by omega)]
  refine ⟨⟨rfl, ltB rfl⟩, hR _ (fun m2 hS => ?_)⟩
  refine ifI (fun _ => ?_) (fun z => absurd rfl z)
  exact hN m2 _ _ hS ⟨by omega, by omega⟩
theorem law_19 {scr : Nat → Int32} {L d k i c1 c2 : Nat} {m : Mem} {Q : Qt} (hi : i + 6 ≤ L) (hL : L ≤ 384) (hk : k ≤ 64) (hc : c1 ≤ 400 + 2 * k ∧ c2 ≤ 20000 + 10 * k) (hs : Sim scr k m) (hN : ∀ m' a b, Sim scr (k + 1) m' → a ≤ 400 + 2 * (k + 1) ∧ b ≤ 20000 + 10 * (k + 1) → Xs (d + 201) 223 1566 [some (.retAddr 20), some (.ref 0), some (.ref 139), some (.int (nI i))] [] (S0 L) (a, b) m' Q) : Xs (d + 201) 223 811 [some (.retAddr 20), some (.ref 0), some (.ref 139), some (.int (nI i))] [] (S0 L) (c1, c2) m Q := by
  refine Xs_wpc (cut1 1566) t223c19 60 ⟨show c1 ≤ 600000 by omega, show c2 ≤ 7302249 by omega⟩ ?_
  refine ⟨scI (sc1 i 1 _ rfl) (by omega) hL, ?_⟩
  rw [clK (sc1 i 1 1 rfl) (by omega)]
  refine ⟨⟨rfl, ltB rfl⟩, Mc_scr ?_⟩
  refine pr_toLaps (by omega) hs _ (fun r m1 hR h9 => ?_)
  refine ⟨scI (sc1 i 1 _ rfl) (by omega) hL, ?_⟩
  rw [clK (sc1 i 1 1 rfl) (by omega), h9 (i + 1) (show i + 1 < L by omega)]
  refine ⟨⟨rfl, ltB rfl⟩, hR _ (fun m2 hS => ?_)⟩
  refine ifI (fun _ => ?_) (fun z => absurd rfl z)
  exact hN m2 _ _ hS ⟨by omega, by omega⟩
theorem law_20 {scr : Nat → Int32} {L d k i c1 c2 : Nat} {m : Mem} {Q : Qt} (hi : i + 6 ≤ L) (hL : L ≤ 384) (hk : k ≤ 64) (hc : c1 ≤ 400 + 2 * k ∧ c2 ≤ 20000 + 10 * k) (hs : Sim scr k m) (hN : ∀ m' a b, Sim scr (k + 1) m' → a ≤ 400 + 2 * (k + 1) ∧ b ≤ 20000 + 10 * (k + 1) → Xs (d + 201) 223 1566 [some (.retAddr 20), some (.ref 0), some (.ref 139), some (.int (nI i))] [] (S0 L) (a, b) m' Q) : Xs (d + 201) 223 834 [some (.retAddr 20), some (.ref 0), some (.ref 139), some (.int (nI i))] [] (S0 L) (c1, c2) m Q := by
  refine Xs_wpc (cut1 1566) t223c20 60 ⟨show c1 ≤ 600000 by omega, show c2 ≤ 7302249 by omega⟩ ?_
  refine ⟨scI (sc1 i 1 _ rfl) (by omega) hL, ?_⟩
  rw [clK (sc1 i 1 1 rfl) (by omega)]
  refine ⟨scI (sc1 i 2 _ rfl) (by omega) hL, ?_⟩
  rw [clK (sc1 i 2 2 rfl) (by omega)]
  refine ⟨⟨rfl, ltB rfl⟩, Mc_scr ?_⟩
  refine pr_meet hs _ (fun r m1 hR h9 => ?_)
  refine ⟨scI (sc1 i 1 _ rfl) (by omega) hL, ?_⟩
  rw [clK (sc1 i 1 1 rfl) (by omega), h9 (i + 1) (show i + 1 < L by omega)]
  refine ⟨scI (sc1 i 2 _ rfl) (by omega) hL, ?_⟩
  rw [clK (sc1 i 2 2 rfl) (by omega), h9 (i + 2) (show i + 2 < L by omega)]
  refine ⟨⟨rfl, ltB rfl⟩, hR _ (fun m2 hS => ?_)⟩
  refine ifI (fun _ => ?_) (fun z => absurd rfl z)
  exact hN m2 _ _ hS ⟨by omega, by omega⟩
theorem law_21 {scr : Nat → Int32} {L d k i c1 c2 : Nat} {m : Mem} {Q : Qt} (hi : i + 6 ≤ L) (hL : L ≤ 384) (hk : k ≤ 64) (hc : c1 ≤ 400 + 2 * k ∧ c2 ≤ 20000 + 10 * k) (hs : Sim scr k m) (hN : ∀ m' a b, Sim scr (k + 1) m' → a ≤ 400 + 2 * (k + 1) ∧ b ≤ 20000 + 10 * (k + 1) → Xs (d + 201) 223 1566 [some (.retAddr 20), some (.ref 0), some (.ref 139), some (.int (nI i))] [] (S0 L) (a, b) m' Q) : Xs (d + 201) 223 867 [some (.retAddr 20), some (.ref 0), some (.ref 139), some (.int (nI i))] [] (S0 L) (c1, c2) m Q := by
  refine Xs_wpc (cut1 1566) t223c21 60 ⟨show c1 ≤ 600000 by omega, show c2 ≤ 7302249 by omega⟩ ?_
  refine ⟨scI (sc1 i 1 _ rfl) (by omega) hL, ?_⟩
  rw [clK (sc1 i 1 1 rfl) (by omega)]
  refine ⟨scI (sc1 i 2 _ rfl) (by omega) hL, ?_⟩
  rw [clK (sc1 i 2 2 rfl) (by omega)]
  refine ⟨⟨rfl, ltB rfl⟩, Mc_scr ?_⟩
  refine pr_colder hs _ (fun r m1 hR h9 => ?_)
  refine ⟨scI (sc1 i 1 _ rfl) (by omega) hL, ?_⟩
  rw [clK (sc1 i 1 1 rfl) (by omega), h9 (i + 1) (show i + 1 < L by omega)]
  refine ⟨scI (sc1 i 2 _ rfl) (by omega) hL, ?_⟩
  rw [clK (sc1 i 2 2 rfl) (by omega), h9 (i + 2) (show i + 2 < L by omega)]
  refine ⟨⟨rfl, ltB rfl⟩, hR _ (fun m2 hS => ?_)⟩
  refine ifI (fun _ => ?_) (fun z => absurd rfl z)
  exact hN m2 _ _ hS ⟨by omega, by omega⟩
theorem law_22 {scr : Nat → Int32} {L d k i c1 c2 : Nat} {m : Mem} {Q : Qt} (hi : i + 6 ≤ L) (hL : L ≤ 384) (hk : k ≤ 64) (hc : c1 ≤ 400 + 2 * k ∧ c2 ≤ 20000 + 10 * k) (hs : Sim scr k m) (hN : ∀ m' a b, Sim scr (k + 1) m' → a ≤ 400 + 2 * (k + 1) ∧ b ≤ 20000 + 10 * (k + 1) → Xs (d + 201) 223 1566 [some (.retAddr 20), some (.ref 0), some (.ref 139), some (.int (nI i))] [] (S0 L) (a, b) m' Q) : Xs (d + 201) 223 900 [some (.retAddr 20), some (.ref 0), some (.ref 139), some (.int (nI i))] [] (S0 L) (c1, c2) m Q := by
  refine Xs_wpc (cut1 1566) t223c22 60 ⟨show c1 ≤ 600000 by omega, show c2 ≤ 7302249 by omega⟩ ?_
  refine ⟨scI (sc1 i 1 _ rfl) (by omega) hL, ?_⟩
  rw [clK (sc1 i 1 1 rfl) (by omega)]
  refine ⟨scI (sc1 i 2 _ rfl) (by omega) hL, ?_⟩
  rw [clK (sc1 i 2 2 rfl) (by omega)]
  refine ⟨⟨rfl, ltB rfl⟩, Mc_scr ?_⟩
  refine pr_stick hs _ (fun r m1 hR h9 => ?_)
  refine ⟨scI (sc1 i 1 _ rfl) (by omega) hL, ?_⟩
  rw [clK (sc1 i 1 1 rfl) (by omega), h9 (i + 1) (show i + 1 < L by omega)]
  refine ⟨scI (sc1 i 2 _ rfl) (by omega) hL, ?_⟩
  rw [clK (sc1 i 2 2 rfl) (by omega), h9 (i + 2) (show i + 2 < L by omega)]
  refine ⟨⟨rfl, ltB rfl⟩, hR _ (fun m2 hS => ?_)⟩
  refine ifI (fun _ => ?_) (fun z => absurd rfl z)
  exact hN m2 _ _ hS ⟨by omega, by omega⟩
theorem law_23 {scr : Nat → Int32} {L d k i c1 c2 : Nat} {m : Mem} {Q : Qt} (hi : i + 6 ≤ L) (hL : L ≤ 384) (hk : k ≤ 64) (hc : c1 ≤ 400 + 2 * k ∧ c2 ≤ 20000 + 10 * k) (hs : Sim scr k m) (hN : ∀ m' a b, Sim scr (k + 1) m' → a ≤ 400 + 2 * (k + 1) ∧ b ≤ 20000 + 10 * (k + 1) → Xs (d + 201) 223 1566 [some (.retAddr 20), some (.ref 0), some (.ref 139), some (.int (nI i))] [] (S0 L) (a, b) m' Q) : Xs (d + 201) 223 933 [some (.retAddr 20), some (.ref 0), some (.ref 139), some (.int (nI i))] [] (S0 L) (c1, c2) m Q := by
  refine Xs_wpc (cut1 1566) t223c23 60 ⟨show c1 ≤ 600000 by omega, show c2 ≤ 7302249 by omega⟩ ?_
  refine ⟨scI (sc1 i 1 _ rfl) (by omega) hL, ?_⟩
  rw [clK (sc1 i 1 1 rfl) (by omega)]
  refine ⟨scI (sc1 i 2 _ rfl) (by omega) hL, ?_⟩
  rw [clK (sc1 i 2 2 rfl) (by omega)]
  refine ⟨scI (sc1 i 3 _ rfl) (by omega) hL, ?_⟩
  rw [clK (sc1 i 3 3 rfl) (by omega)]
  refine ⟨⟨rfl, ltB rfl⟩, Mc_scr ?_⟩
  refine pr_paced hs _ (fun r m1 hR h9 => ?_)
  refine ⟨scI (sc1 i 1 _ rfl) (by omega) hL, ?_⟩
  rw [clK (sc1 i 1 1 rfl) (by omega), h9 (i + 1) (show i + 1 < L by omega)]
  refine ⟨scI (sc1 i 2 _ rfl) (by omega) hL, ?_⟩
  rw [clK (sc1 i 2 2 rfl) (by omega), h9 (i + 2) (show i + 2 < L by omega)]
  refine ⟨scI (sc1 i 3 _ rfl) (by omega) hL, ?_⟩
  rw [clK (sc1 i 3 3 rfl) (by omega), h9 (i + 3) (show i + 3 < L by omega)]
  refine ⟨⟨rfl, ltB rfl⟩, hR _ (fun m2 hS => ?_)⟩
  refine ifI (fun _ => ?_) (fun z => absurd rfl z)
  exact hN m2 _ _ hS ⟨by omega, by omega⟩
theorem law_24 {scr : Nat → Int32} {L d k i c1 c2 : Nat} {m : Mem} {Q : Qt} (hi : i + 6 ≤ L) (hL : L ≤ 384) (hk : k ≤ 64) (hc : c1 ≤ 400 + 2 * k ∧ c2 ≤ 20000 + 10 * k) (hs : Sim scr k m) (hN : ∀ m' a b, Sim scr (k + 1) m' → a ≤ 400 + 2 * (k + 1) ∧ b ≤ 20000 + 10 * (k + 1) → Xs (d + 201) 223 1566 [some (.retAddr 20), some (.ref 0), some (.ref 139), some (.int (nI i))] [] (S0 L) (a, b) m' Q) : Xs (d + 201) 223 976 [some (.retAddr 20), some (.ref 0), some (.ref 139), some (.int (nI i))] [] (S0 L) (c1, c2) m Q := by
  refine Xs_wpc (cut1 1566) t223c24 60 ⟨show c1 ≤ 600000 by omega, show c2 ≤ 7302249 by omega⟩ ?_
  refine ⟨scI (sc1 i 1 _ rfl) (by omega) hL, ?_⟩
  rw [clK (sc1 i 1 1 rfl) (by omega)]
  refine ⟨⟨rfl, ltB rfl⟩, Mc_scr ?_⟩
  refine pr_fine (by omega) hs _ (fun r m1 hR h9 => ?_)
  refine ⟨scI (sc1 i 1 _ rfl) (by omega) hL, ?_⟩
  rw [clK (sc1 i 1 1 rfl) (by omega), h9 (i + 1) (show i + 1 < L by omega)]
  refine ⟨⟨rfl, ltB rfl⟩, hR _ (fun m2 hS => ?_)⟩
  refine ifI (fun _ => ?_) (fun z => absurd rfl z)
  exact hN m2 _ _ hS ⟨by omega, by omega⟩
theorem law_25 {scr : Nat → Int32} {L d k i c1 c2 : Nat} {m : Mem} {Q : Qt} (hi : i + 6 ≤ L) (hL : L ≤ 384) (hk : k ≤ 64) (hc : c1 ≤ 400 + 2 * k ∧ c2 ≤ 20000 + 10 * k) (hs : Sim scr k m) (hN : ∀ m' a b, Sim scr (k + 1) m' → a ≤ 400 + 2 * (k + 1) ∧ b ≤ 20000 + 10 * (k + 1) → Xs (d + 201) 223 1566 [some (.retAddr 20), some (.ref 0), some (.ref 139), some (.int (nI i))] [] (S0 L) (a, b) m' Q) : Xs (d + 201) 223 999 [some (.retAddr 20), some (.ref 0), some (.ref 139), some (.int (nI i))] [] (S0 L) (c1, c2) m Q := by
  refine Xs_wpc (cut1 1566) t223c25 60 ⟨show c1 ≤ 600000 by omega, show c2 ≤ 7302249 by omega⟩ ?_
  refine ⟨scI (sc1 i 1 _ rfl) (by omega) hL, ?_⟩
  rw [clK (sc1 i 1 1 rfl) (by omega)]
  refine ⟨scI (sc1 i 2 _ rfl) (by omega) hL, ?_⟩
  rw [clK (sc1 i 2 2 rfl) (by omega)]
  refine ⟨scI (sc1 i 3 _ rfl) (by omega) hL, ?_⟩
  rw [clK (sc1 i 3 3 rfl) (by omega)]
  refine ⟨⟨rfl, ltB rfl⟩, Mc_scr ?_⟩
  refine pr_feed hs _ (fun r m1 hR h9 => ?_)
  refine ⟨scI (sc1 i 1 _ rfl) (by omega) hL, ?_⟩
  rw [clK (sc1 i 1 1 rfl) (by omega), h9 (i + 1) (show i + 1 < L by omega)]
  refine ⟨scI (sc1 i 2 _ rfl) (by omega) hL, ?_⟩
  rw [clK (sc1 i 2 2 rfl) (by omega), h9 (i + 2) (show i + 2 < L by omega)]
  refine ⟨scI (sc1 i 3 _ rfl) (by omega) hL, ?_⟩
  rw [clK (sc1 i 3 3 rfl) (by omega), h9 (i + 3) (show i + 3 < L by omega)]
  refine ⟨⟨rfl, ltB rfl⟩, hR _ (fun m2 hS => ?_)⟩
  refine ifI (fun _ => ?_) (fun z => absurd rfl z)
  exact hN m2 _ _ hS ⟨by omega, by omega⟩
theorem law_26 {scr : Nat → Int32} {L d k i c1 c2 : Nat} {m : Mem} {Q : Qt} (hi : i + 6 ≤ L) (hL : L ≤ 384) (hk : k ≤ 64) (hc : c1 ≤ 400 + 2 * k ∧ c2 ≤ 20000 + 10 * k) (hs : Sim scr k m) (hN : ∀ m' a b, Sim scr (k + 1) m' → a ≤ 400 + 2 * (k + 1) ∧ b ≤ 20000 + 10 * (k + 1) → Xs (d + 201) 223 1566 [some (.retAddr 20), some (.ref 0), some (.ref 139), some (.int (nI i))] [] (S0 L) (a, b) m' Q) : Xs (d + 201) 223 1042 [some (.retAddr 20), some (.ref 0), some (.ref 139), some (.int (nI i))] [] (S0 L) (c1, c2) m Q := by
  refine Xs_wpc (cut1 1566) t223c26 60 ⟨show c1 ≤ 600000 by omega, show c2 ≤ 7302249 by omega⟩ ?_
  refine ⟨scI (sc1 i 1 _ rfl) (by omega) hL, ?_⟩
  rw [clK (sc1 i 1 1 rfl) (by omega)]
  refine ⟨⟨rfl, ltB rfl⟩, Mc_scr ?_⟩
  refine pr_trim hs _ (fun r m1 hR h9 => ?_)
  refine ⟨scI (sc1 i 1 _ rfl) (by omega) hL, ?_⟩
  rw [clK (sc1 i 1 1 rfl) (by omega), h9 (i + 1) (show i + 1 < L by omega)]
  refine ⟨⟨rfl, ltB rfl⟩, hR _ (fun m2 hS => ?_)⟩
  refine ifI (fun _ => ?_) (fun z => absurd rfl z)
  exact hN m2 _ _ hS ⟨by omega, by omega⟩
theorem law_27 {scr : Nat → Int32} {L d k i c1 c2 : Nat} {m : Mem} {Q : Qt} (hi : i + 6 ≤ L) (hL : L ≤ 384) (hk : k ≤ 64) (hc : c1 ≤ 400 + 2 * k ∧ c2 ≤ 20000 + 10 * k) (hs : Sim scr k m) (hN : ∀ m' a b, Sim scr (k + 1) m' → a ≤ 400 + 2 * (k + 1) ∧ b ≤ 20000 + 10 * (k + 1) → Xs (d + 201) 223 1566 [some (.retAddr 20), some (.ref 0), some (.ref 139), some (.int (nI i))] [] (S0 L) (a, b) m' Q) : Xs (d + 201) 223 1065 [some (.retAddr 20), some (.ref 0), some (.ref 139), some (.int (nI i))] [] (S0 L) (c1, c2) m Q := by
  refine Xs_wpc (cut1 1566) t223c27 60 ⟨show c1 ≤ 600000 by omega, show c2 ≤ 7302249 by omega⟩ ?_
  refine ⟨⟨rfl, ltB rfl⟩, ⟨bokI (show c1 + 2 ≤ 600000 by omega) (show c2 + 10 ≤ 7302249 by omega), rfl, rfl⟩, Mc_scr ?_⟩
  refine pr_text hs _ (fun r m1 hR h9 => ?_)
  refine ⟨⟨rfl, ltB rfl⟩, hR _ (fun m2 hS => ?_)⟩
  refine ifI (fun _ => ?_) (fun z => absurd rfl z)
  exact hN m2 _ _ hS ⟨by show c1 + 2 ≤ _; omega, by show c2 + 10 ≤ _; omega⟩
theorem law_28 {scr : Nat → Int32} {L d k i c1 c2 : Nat} {m : Mem} {Q : Qt} (hi : i + 6 ≤ L) (hL : L ≤ 384) (hk : k ≤ 64) (hc : c1 ≤ 400 + 2 * k ∧ c2 ≤ 20000 + 10 * k) (hs : Sim scr k m) (hN : ∀ m' a b, Sim scr (k + 1) m' → a ≤ 400 + 2 * (k + 1) ∧ b ≤ 20000 + 10 * (k + 1) → Xs (d + 201) 223 1566 [some (.retAddr 20), some (.ref 0), some (.ref 139), some (.int (nI i))] [] (S0 L) (a, b) m' Q) : Xs (d + 201) 223 1078 [some (.retAddr 20), some (.ref 0), some (.ref 139), some (.int (nI i))] [] (S0 L) (c1, c2) m Q := by
  refine Xs_wpc (cut1 1566) t223c28 60 ⟨show c1 ≤ 600000 by omega, show c2 ≤ 7302249 by omega⟩ ?_
  refine ⟨scI (sc1 i 1 _ rfl) (by omega) hL, ?_⟩
  rw [clK (sc1 i 1 1 rfl) (by omega)]
  refine ⟨scI (sc1 i 2 _ rfl) (by omega) hL, ?_⟩
  rw [clK (sc1 i 2 2 rfl) (by omega)]
  refine ⟨⟨rfl, ltB rfl⟩, Mc_scr ?_⟩
  refine pr_textTold hs _ (fun r m1 hR h9 => ?_)
  refine ⟨scI (sc1 i 1 _ rfl) (by omega) hL, ?_⟩
  rw [clK (sc1 i 1 1 rfl) (by omega), h9 (i + 1) (show i + 1 < L by omega)]
  refine ⟨scI (sc1 i 2 _ rfl) (by omega) hL, ?_⟩
  rw [clK (sc1 i 2 2 rfl) (by omega), h9 (i + 2) (show i + 2 < L by omega)]
  refine ⟨⟨rfl, ltB rfl⟩, hR _ (fun m2 hS => ?_)⟩
  refine ifI (fun _ => ?_) (fun z => absurd rfl z)
  exact hN m2 _ _ hS ⟨by omega, by omega⟩
theorem law_29 {scr : Nat → Int32} {L d k i c1 c2 : Nat} {m : Mem} {Q : Qt} (hi : i + 6 ≤ L) (hL : L ≤ 384) (hk : k ≤ 64) (hc : c1 ≤ 400 + 2 * k ∧ c2 ≤ 20000 + 10 * k) (hs : Sim scr k m) (hN : ∀ m' a b, Sim scr (k + 1) m' → a ≤ 400 + 2 * (k + 1) ∧ b ≤ 20000 + 10 * (k + 1) → Xs (d + 201) 223 1566 [some (.retAddr 20), some (.ref 0), some (.ref 139), some (.int (nI i))] [] (S0 L) (a, b) m' Q) : Xs (d + 201) 223 1111 [some (.retAddr 20), some (.ref 0), some (.ref 139), some (.int (nI i))] [] (S0 L) (c1, c2) m Q := by
  refine Xs_wpc (cut1 1566) t223c29 60 ⟨show c1 ≤ 600000 by omega, show c2 ≤ 7302249 by omega⟩ ?_
  refine ⟨scI (sc1 i 1 _ rfl) (by omega) hL, ?_⟩
  rw [clK (sc1 i 1 1 rfl) (by omega)]
  refine ⟨⟨rfl, ltB rfl⟩, Mc_scr ?_⟩
  refine pr_why hs _ (fun r m1 hR h9 => ?_)
  refine ⟨scI (sc1 i 1 _ rfl) (by omega) hL, ?_⟩
  rw [clK (sc1 i 1 1 rfl) (by omega), h9 (i + 1) (show i + 1 < L by omega)]
  refine ⟨⟨rfl, ltB rfl⟩, hR _ (fun m2 hS => ?_)⟩
  refine ifI (fun _ => ?_) (fun z => absurd rfl z)
  exact hN m2 _ _ hS ⟨by omega, by omega⟩
theorem law_30 {scr : Nat → Int32} {L d k i c1 c2 : Nat} {m : Mem} {Q : Qt} (hi : i + 6 ≤ L) (hL : L ≤ 384) (hk : k ≤ 64) (hc : c1 ≤ 400 + 2 * k ∧ c2 ≤ 20000 + 10 * k) (hs : Sim scr k m) (hN : ∀ m' a b, Sim scr (k + 1) m' → a ≤ 400 + 2 * (k + 1) ∧ b ≤ 20000 + 10 * (k + 1) → Xs (d + 201) 223 1566 [some (.retAddr 20), some (.ref 0), some (.ref 139), some (.int (nI i))] [] (S0 L) (a, b) m' Q) : Xs (d + 201) 223 1134 [some (.retAddr 20), some (.ref 0), some (.ref 139), some (.int (nI i))] [] (S0 L) (c1, c2) m Q := by
  refine Xs_wpc (cut1 1566) t223c30 60 ⟨show c1 ≤ 600000 by omega, show c2 ≤ 7302249 by omega⟩ ?_
  refine ⟨scI (sc1 i 1 _ rfl) (by omega) hL, ?_⟩
  rw [clK (sc1 i 1 1 rfl) (by omega)]
  refine ⟨scI (sc1 i 2 _ rfl) (by omega) hL, ?_⟩
  rw [clK (sc1 i 2 2 rfl) (by omega)]
  refine ⟨scI (sc1 i 3 _ rfl) (by omega) hL, ?_⟩
  rw [clK (sc1 i 3 3 rfl) (by omega)]
  refine ⟨⟨rfl, ltB rfl⟩, Mc_scr ?_⟩
  refine pr_sheet hs _ (fun r m1 hR h9 => ?_)
  refine ⟨scI (sc1 i 1 _ rfl) (by omega) hL, ?_⟩
  rw [clK (sc1 i 1 1 rfl) (by omega), h9 (i + 1) (show i + 1 < L by omega)]
  refine ⟨scI (sc1 i 2 _ rfl) (by omega) hL, ?_⟩
  rw [clK (sc1 i 2 2 rfl) (by omega), h9 (i + 2) (show i + 2 < L by omega)]
  refine ⟨scI (sc1 i 3 _ rfl) (by omega) hL, ?_⟩
  rw [clK (sc1 i 3 3 rfl) (by omega), h9 (i + 3) (show i + 3 < L by omega)]
  refine ⟨⟨rfl, ltB rfl⟩, hR _ (fun m2 hS => ?_)⟩
  refine ifI (fun _ => ?_) (fun z => absurd rfl z)
  exact hN m2 _ _ hS ⟨by omega, by omega⟩
theorem law_31 {scr : Nat → Int32} {L d k i c1 c2 : Nat} {m : Mem} {Q : Qt} (hi : i + 6 ≤ L) (hL : L ≤ 384) (hk : k ≤ 64) (hc : c1 ≤ 400 + 2 * k ∧ c2 ≤ 20000 + 10 * k) (hs : Sim scr k m) (hN : ∀ m' a b, Sim scr (k + 1) m' → a ≤ 400 + 2 * (k + 1) ∧ b ≤ 20000 + 10 * (k + 1) → Xs (d + 201) 223 1566 [some (.retAddr 20), some (.ref 0), some (.ref 139), some (.int (nI i))] [] (S0 L) (a, b) m' Q) : Xs (d + 201) 223 1177 [some (.retAddr 20), some (.ref 0), some (.ref 139), some (.int (nI i))] [] (S0 L) (c1, c2) m Q := by
  refine Xs_wpc (cut1 1566) t223c31 60 ⟨show c1 ≤ 600000 by omega, show c2 ≤ 7302249 by omega⟩ ?_
  refine ⟨scI (sc1 i 1 _ rfl) (by omega) hL, ?_⟩
  rw [clK (sc1 i 1 1 rfl) (by omega)]
  refine ⟨scI (sc1 i 2 _ rfl) (by omega) hL, ?_⟩
  rw [clK (sc1 i 2 2 rfl) (by omega)]
  refine ⟨scI (sc1 i 3 _ rfl) (by omega) hL, ?_⟩
  rw [clK (sc1 i 3 3 rfl) (by omega)]
  refine ⟨⟨rfl, ltB rfl⟩, Mc_scr ?_⟩
  refine pr_mark hs _ (fun r m1 hR h9 => ?_)
  refine ⟨scI (sc1 i 1 _ rfl) (by omega) hL, ?_⟩
  rw [clK (sc1 i 1 1 rfl) (by omega), h9 (i + 1) (show i + 1 < L by omega)]
  refine ⟨scI (sc1 i 2 _ rfl) (by omega) hL, ?_⟩
  rw [clK (sc1 i 2 2 rfl) (by omega), h9 (i + 2) (show i + 2 < L by omega)]
  refine ⟨scI (sc1 i 3 _ rfl) (by omega) hL, ?_⟩
  rw [clK (sc1 i 3 3 rfl) (by omega), h9 (i + 3) (show i + 3 < L by omega)]
  refine ⟨⟨rfl, ltB rfl⟩, hR _ (fun m2 hS => ?_)⟩
  refine ifI (fun _ => ?_) (fun z => absurd rfl z)
  exact hN m2 _ _ hS ⟨by omega, by omega⟩
theorem law_32 {scr : Nat → Int32} {L d k i c1 c2 : Nat} {m : Mem} {Q : Qt} (hi : i + 6 ≤ L) (hL : L ≤ 384) (hk : k ≤ 64) (hc : c1 ≤ 400 + 2 * k ∧ c2 ≤ 20000 + 10 * k) (hs : Sim scr k m) (hN : ∀ m' a b, Sim scr (k + 1) m' → a ≤ 400 + 2 * (k + 1) ∧ b ≤ 20000 + 10 * (k + 1) → Xs (d + 201) 223 1566 [some (.retAddr 20), some (.ref 0), some (.ref 139), some (.int (nI i))] [] (S0 L) (a, b) m' Q) : Xs (d + 201) 223 1220 [some (.retAddr 20), some (.ref 0), some (.ref 139), some (.int (nI i))] [] (S0 L) (c1, c2) m Q := by
  refine Xs_wpc (cut1 1566) t223c32 60 ⟨show c1 ≤ 600000 by omega, show c2 ≤ 7302249 by omega⟩ ?_
  refine ⟨scI (sc1 i 1 _ rfl) (by omega) hL, ?_⟩
  rw [clK (sc1 i 1 1 rfl) (by omega)]
  refine ⟨⟨rfl, ltB rfl⟩, Mc_scr ?_⟩
  refine pr_pour hs _ (fun r m1 hR h9 => ?_)
  refine ⟨scI (sc1 i 1 _ rfl) (by omega) hL, ?_⟩
  rw [clK (sc1 i 1 1 rfl) (by omega), h9 (i + 1) (show i + 1 < L by omega)]
  refine ⟨⟨rfl, ltB rfl⟩, hR _ (fun m2 hS => ?_)⟩
  refine ifI (fun _ => ?_) (fun z => absurd rfl z)
  exact hN m2 _ _ hS ⟨by omega, by omega⟩
theorem law_33 {scr : Nat → Int32} {L d k i c1 c2 : Nat} {m : Mem} {Q : Qt} (hi : i + 6 ≤ L) (hL : L ≤ 384) (hk : k ≤ 64) (hc : c1 ≤ 400 + 2 * k ∧ c2 ≤ 20000 + 10 * k) (hs : Sim scr k m) (hN : ∀ m' a b, Sim scr (k + 1) m' → a ≤ 400 + 2 * (k + 1) ∧ b ≤ 20000 + 10 * (k + 1) → Xs (d + 201) 223 1566 [some (.retAddr 20), some (.ref 0), some (.ref 139), some (.int (nI i))] [] (S0 L) (a, b) m' Q) : Xs (d + 201) 223 1243 [some (.retAddr 20), some (.ref 0), some (.ref 139), some (.int (nI i))] [] (S0 L) (c1, c2) m Q := by
  refine Xs_wpc (cut1 1566) t223c33 60 ⟨show c1 ≤ 600000 by omega, show c2 ≤ 7302249 by omega⟩ ?_
  refine ⟨scI (sc1 i 1 _ rfl) (by omega) hL, ?_⟩
  rw [clK (sc1 i 1 1 rfl) (by omega)]
  refine ⟨⟨rfl, ltB rfl⟩, Mc_scr ?_⟩
  refine pr_reads hs _ (fun r m1 hR h9 => ?_)
  refine ⟨scI (sc1 i 1 _ rfl) (by omega) hL, ?_⟩
  rw [clK (sc1 i 1 1 rfl) (by omega), h9 (i + 1) (show i + 1 < L by omega)]
  refine ⟨⟨rfl, ltB rfl⟩, hR _ (fun m2 hS => ?_)⟩
  refine ifI (fun _ => ?_) (fun z => absurd rfl z)
  exact hN m2 _ _ hS ⟨by omega, by omega⟩
theorem law_34 {scr : Nat → Int32} {L d k i c1 c2 : Nat} {m : Mem} {Q : Qt} (hi : i + 6 ≤ L) (hL : L ≤ 384) (hk : k ≤ 64) (hc : c1 ≤ 400 + 2 * k ∧ c2 ≤ 20000 + 10 * k) (hs : Sim scr k m) (hN : ∀ m' a b, Sim scr (k + 1) m' → a ≤ 400 + 2 * (k + 1) ∧ b ≤ 20000 + 10 * (k + 1) → Xs (d + 201) 223 1566 [some (.retAddr 20), some (.ref 0), some (.ref 139), some (.int (nI i))] [] (S0 L) (a, b) m' Q) : Xs (d + 201) 223 1266 [some (.retAddr 20), some (.ref 0), some (.ref 139), some (.int (nI i))] [] (S0 L) (c1, c2) m Q := by
  refine Xs_wpc (cut1 1566) t223c34 60 ⟨show c1 ≤ 600000 by omega, show c2 ≤ 7302249 by omega⟩ ?_
  refine ⟨scI (sc1 i 1 _ rfl) (by omega) hL, ?_⟩
  rw [clK (sc1 i 1 1 rfl) (by omega)]
  refine ⟨scI (sc1 i 2 _ rfl) (by omega) hL, ?_⟩
  rw [clK (sc1 i 2 2 rfl) (by omega)]
  refine ⟨scI (sc1 i 3 _ rfl) (by omega) hL, ?_⟩
  rw [clK (sc1 i 3 3 rfl) (by omega)]
  refine ⟨scI (sc1 i 4 _ rfl) (by omega) hL, ?_⟩
  rw [clK (sc1 i 4 4 rfl) (by omega)]
  refine ⟨scI (sc1 i 5 _ rfl) (by omega) hL, ?_⟩
  rw [clK (sc1 i 5 5 rfl) (by omega)]
  refine ⟨⟨rfl, ltB rfl⟩, Mc_scr ?_⟩
  refine pr_copy hs _ (fun r m1 hR h9 => ?_)
  refine ⟨scI (sc1 i 1 _ rfl) (by omega) hL, ?_⟩
  rw [clK (sc1 i 1 1 rfl) (by omega), h9 (i + 1) (show i + 1 < L by omega)]
  refine ⟨scI (sc1 i 2 _ rfl) (by omega) hL, ?_⟩
  rw [clK (sc1 i 2 2 rfl) (by omega), h9 (i + 2) (show i + 2 < L by omega)]
  refine ⟨scI (sc1 i 3 _ rfl) (by omega) hL, ?_⟩
  rw [clK (sc1 i 3 3 rfl) (by omega), h9 (i + 3) (show i + 3 < L by omega)]
  refine ⟨scI (sc1 i 4 _ rfl) (by omega) hL, ?_⟩
  rw [clK (sc1 i 4 4 rfl) (by omega), h9 (i + 4) (show i + 4 < L by omega)]
  refine ⟨scI (sc1 i 5 _ rfl) (by omega) hL, ?_⟩
  rw [clK (sc1 i 5 5 rfl) (by omega), h9 (i + 5) (show i + 5 < L by omega)]
  refine ⟨⟨rfl, ltB rfl⟩, hR _ (fun m2 hS => ?_)⟩
  refine ifI (fun _ => ?_) (fun z => absurd rfl z)
  exact hN m2 _ _ hS ⟨by omega, by omega⟩
theorem law_35 {scr : Nat → Int32} {L d k i c1 c2 : Nat} {m : Mem} {Q : Qt} (hi : i + 6 ≤ L) (hL : L ≤ 384) (hk : k ≤ 64) (hc : c1 ≤ 400 + 2 * k ∧ c2 ≤ 20000 + 10 * k) (hs : Sim scr k m) (hN : ∀ m' a b, Sim scr (k + 1) m' → a ≤ 400 + 2 * (k + 1) ∧ b ≤ 20000 + 10 * (k + 1) → Xs (d + 201) 223 1566 [some (.retAddr 20), some (.ref 0), some (.ref 139), some (.int (nI i))] [] (S0 L) (a, b) m' Q) : Xs (d + 201) 223 1329 [some (.retAddr 20), some (.ref 0), some (.ref 139), some (.int (nI i))] [] (S0 L) (c1, c2) m Q := by
  refine Xs_wpc (cut1 1566) t223c35 60 ⟨show c1 ≤ 600000 by omega, show c2 ≤ 7302249 by omega⟩ ?_
  refine ⟨scI (sc1 i 1 _ rfl) (by omega) hL, ?_⟩
  rw [clK (sc1 i 1 1 rfl) (by omega)]
  refine ⟨scI (sc1 i 2 _ rfl) (by omega) hL, ?_⟩
  rw [clK (sc1 i 2 2 rfl) (by omega)]
  refine ⟨scI (sc1 i 3 _ rfl) (by omega) hL, ?_⟩
  rw [clK (sc1 i 3 3 rfl) (by omega)]
  refine ⟨⟨rfl, ltB rfl⟩, Mc_scr ?_⟩
  refine pr_lay hs _ (fun r m1 hR h9 => ?_)
  refine ⟨scI (sc1 i 1 _ rfl) (by omega) hL, ?_⟩
  rw [clK (sc1 i 1 1 rfl) (by omega), h9 (i + 1) (show i + 1 < L by omega)]
  refine ⟨scI (sc1 i 2 _ rfl) (by omega) hL, ?_⟩
  rw [clK (sc1 i 2 2 rfl) (by omega), h9 (i + 2) (show i + 2 < L by omega)]
  refine ⟨scI (sc1 i 3 _ rfl) (by omega) hL, ?_⟩
  rw [clK (sc1 i 3 3 rfl) (by omega), h9 (i + 3) (show i + 3 < L by omega)]
  refine ⟨⟨rfl, ltB rfl⟩, hR _ (fun m2 hS => ?_)⟩
  refine ifI (fun _ => ?_) (fun z => absurd rfl z)
  exact hN m2 _ _ hS ⟨by omega, by omega⟩
theorem law_36 {scr : Nat → Int32} {L d k i c1 c2 : Nat} {m : Mem} {Q : Qt} (hi : i + 6 ≤ L) (hL : L ≤ 384) (hk : k ≤ 64) (hc : c1 ≤ 400 + 2 * k ∧ c2 ≤ 20000 + 10 * k) (hs : Sim scr k m) (hN : ∀ m' a b, Sim scr (k + 1) m' → a ≤ 400 + 2 * (k + 1) ∧ b ≤ 20000 + 10 * (k + 1) → Xs (d + 201) 223 1566 [some (.retAddr 20), some (.ref 0), some (.ref 139), some (.int (nI i))] [] (S0 L) (a, b) m' Q) : Xs (d + 201) 223 1372 [some (.retAddr 20), some (.ref 0), some (.ref 139), some (.int (nI i))] [] (S0 L) (c1, c2) m Q := by
  refine Xs_wpc (cut1 1566) t223c36 60 ⟨show c1 ≤ 600000 by omega, show c2 ≤ 7302249 by omega⟩ ?_
  refine ⟨scI (sc1 i 1 _ rfl) (by omega) hL, ?_⟩
  rw [clK (sc1 i 1 1 rfl) (by omega)]
  refine ⟨scI (sc1 i 2 _ rfl) (by omega) hL, ?_⟩
  rw [clK (sc1 i 2 2 rfl) (by omega)]
  refine ⟨⟨rfl, ltB rfl⟩, Mc_scr ?_⟩
  refine pr_ask hs _ (fun r m1 hR h9 => ?_)
  refine ⟨scI (sc1 i 1 _ rfl) (by omega) hL, ?_⟩
  rw [clK (sc1 i 1 1 rfl) (by omega), h9 (i + 1) (show i + 1 < L by omega)]
  refine ⟨scI (sc1 i 2 _ rfl) (by omega) hL, ?_⟩
  rw [clK (sc1 i 2 2 rfl) (by omega), h9 (i + 2) (show i + 2 < L by omega)]
  refine ⟨⟨rfl, ltB rfl⟩, hR _ (fun m2 hS => ?_)⟩
  refine ifI (fun _ => ?_) (fun z => absurd rfl z)
  exact hN m2 _ _ hS ⟨by omega, by omega⟩
theorem law_37 {scr : Nat → Int32} {L d k i c1 c2 : Nat} {m : Mem} {Q : Qt} (hi : i + 6 ≤ L) (hL : L ≤ 384) (hk : k ≤ 64) (hc : c1 ≤ 400 + 2 * k ∧ c2 ≤ 20000 + 10 * k) (hs : Sim scr k m) (hN : ∀ m' a b, Sim scr (k + 1) m' → a ≤ 400 + 2 * (k + 1) ∧ b ≤ 20000 + 10 * (k + 1) → Xs (d + 201) 223 1566 [some (.retAddr 20), some (.ref 0), some (.ref 139), some (.int (nI i))] [] (S0 L) (a, b) m' Q) : Xs (d + 201) 223 1405 [some (.retAddr 20), some (.ref 0), some (.ref 139), some (.int (nI i))] [] (S0 L) (c1, c2) m Q := by
  refine Xs_wpc (cut1 1566) t223c37 60 ⟨show c1 ≤ 600000 by omega, show c2 ≤ 7302249 by omega⟩ ?_
  refine ⟨scI (sc1 i 1 _ rfl) (by omega) hL, ?_⟩
  rw [clK (sc1 i 1 1 rfl) (by omega)]
  refine ⟨scI (sc1 i 2 _ rfl) (by omega) hL, ?_⟩
  rw [clK (sc1 i 2 2 rfl) (by omega)]
  refine ⟨⟨rfl, ltB rfl⟩, Mc_scr ?_⟩
  refine pr_item hs _ (fun r m1 hR h9 => ?_)
  refine ⟨scI (sc1 i 1 _ rfl) (by omega) hL, ?_⟩
  rw [clK (sc1 i 1 1 rfl) (by omega), h9 (i + 1) (show i + 1 < L by omega)]
  refine ⟨scI (sc1 i 2 _ rfl) (by omega) hL, ?_⟩
  rw [clK (sc1 i 2 2 rfl) (by omega), h9 (i + 2) (show i + 2 < L by omega)]
  refine ⟨⟨rfl, ltB rfl⟩, hR _ (fun m2 hS => ?_)⟩
  refine ifI (fun _ => ?_) (fun z => absurd rfl z)
  exact hN m2 _ _ hS ⟨by omega, by omega⟩
theorem law_38 {scr : Nat → Int32} {L d k i c1 c2 : Nat} {m : Mem} {Q : Qt} (hi : i + 6 ≤ L) (hL : L ≤ 384) (hk : k ≤ 64) (hc : c1 ≤ 400 + 2 * k ∧ c2 ≤ 20000 + 10 * k) (hs : Sim scr k m) (hN : ∀ m' a b, Sim scr (k + 1) m' → a ≤ 400 + 2 * (k + 1) ∧ b ≤ 20000 + 10 * (k + 1) → Xs (d + 201) 223 1566 [some (.retAddr 20), some (.ref 0), some (.ref 139), some (.int (nI i))] [] (S0 L) (a, b) m' Q) : Xs (d + 201) 223 1438 [some (.retAddr 20), some (.ref 0), some (.ref 139), some (.int (nI i))] [] (S0 L) (c1, c2) m Q := by
  refine Xs_wpc (cut1 1566) t223c38 60 ⟨show c1 ≤ 600000 by omega, show c2 ≤ 7302249 by omega⟩ ?_
  refine ⟨scI (sc1 i 1 _ rfl) (by omega) hL, ?_⟩
  rw [clK (sc1 i 1 1 rfl) (by omega)]
  refine ⟨scI (sc1 i 2 _ rfl) (by omega) hL, ?_⟩
  rw [clK (sc1 i 2 2 rfl) (by omega)]
  refine ⟨⟨rfl, ltB rfl⟩, Mc_scr ?_⟩
  refine pr_rest hs _ (fun r m1 hR h9 => ?_)
  refine ⟨scI (sc1 i 1 _ rfl) (by omega) hL, ?_⟩
  rw [clK (sc1 i 1 1 rfl) (by omega), h9 (i + 1) (show i + 1 < L by omega)]
  refine ⟨scI (sc1 i 2 _ rfl) (by omega) hL, ?_⟩
  rw [clK (sc1 i 2 2 rfl) (by omega), h9 (i + 2) (show i + 2 < L by omega)]
  refine ⟨⟨rfl, ltB rfl⟩, hR _ (fun m2 hS => ?_)⟩
  refine ifI (fun _ => ?_) (fun z => absurd rfl z)
  exact hN m2 _ _ hS ⟨by omega, by omega⟩
theorem law_39 {scr : Nat → Int32} {L d k i c1 c2 : Nat} {m : Mem} {Q : Qt} (hi : i + 6 ≤ L) (hL : L ≤ 384) (hk : k ≤ 64) (hc : c1 ≤ 400 + 2 * k ∧ c2 ≤ 20000 + 10 * k) (hs : Sim scr k m) (hN : ∀ m' a b, Sim scr (k + 1) m' → a ≤ 400 + 2 * (k + 1) ∧ b ≤ 20000 + 10 * (k + 1) → Xs (d + 201) 223 1566 [some (.retAddr 20), some (.ref 0), some (.ref 139), some (.int (nI i))] [] (S0 L) (a, b) m' Q) : Xs (d + 201) 223 1471 [some (.retAddr 20), some (.ref 0), some (.ref 139), some (.int (nI i))] [] (S0 L) (c1, c2) m Q := by
  refine Xs_wpc (cut1 1566) t223c39 60 ⟨show c1 ≤ 600000 by omega, show c2 ≤ 7302249 by omega⟩ ?_
  refine ⟨scI (sc1 i 1 _ rfl) (by omega) hL, ?_⟩
  rw [clK (sc1 i 1 1 rfl) (by omega)]
  refine ⟨⟨rfl, ltB rfl⟩, Mc_scr ?_⟩
  refine pr_tell hs _ (fun r m1 hR h9 => ?_)
  refine ⟨scI (sc1 i 1 _ rfl) (by omega) hL, ?_⟩
  rw [clK (sc1 i 1 1 rfl) (by omega), h9 (i + 1) (show i + 1 < L by omega)]
  refine ⟨⟨rfl, ltB rfl⟩, hR _ (fun m2 hS => ?_)⟩
  refine ifI (fun _ => ?_) (fun z => absurd rfl z)
  exact hN m2 _ _ hS ⟨by omega, by omega⟩
theorem law_40 {scr : Nat → Int32} {L d k i c1 c2 : Nat} {m : Mem} {Q : Qt} (hi : i + 6 ≤ L) (hL : L ≤ 384) (hk : k ≤ 64) (hc : c1 ≤ 400 + 2 * k ∧ c2 ≤ 20000 + 10 * k) (hs : Sim scr k m) (hN : ∀ m' a b, Sim scr (k + 1) m' → a ≤ 400 + 2 * (k + 1) ∧ b ≤ 20000 + 10 * (k + 1) → Xs (d + 201) 223 1566 [some (.retAddr 20), some (.ref 0), some (.ref 139), some (.int (nI i))] [] (S0 L) (a, b) m' Q) : Xs (d + 201) 223 1494 [some (.retAddr 20), some (.ref 0), some (.ref 139), some (.int (nI i))] [] (S0 L) (c1, c2) m Q := by
  refine Xs_wpc (cut1 1566) t223c40 60 ⟨show c1 ≤ 600000 by omega, show c2 ≤ 7302249 by omega⟩ ?_
  refine ⟨scI (sc1 i 1 _ rfl) (by omega) hL, ?_⟩
  rw [clK (sc1 i 1 1 rfl) (by omega)]
  refine ⟨⟨rfl, ltB rfl⟩, Mc_scr ?_⟩
  refine pr_check hs _ (fun r m1 hR h9 => ?_)
  refine ⟨scI (sc1 i 1 _ rfl) (by omega) hL, ?_⟩
  rw [clK (sc1 i 1 1 rfl) (by omega), h9 (i + 1) (show i + 1 < L by omega)]
  refine ⟨⟨rfl, ltB rfl⟩, hR _ (fun m2 hS => ?_)⟩
  refine ifI (fun _ => ?_) (fun z => absurd rfl z)
  exact hN m2 _ _ hS ⟨by omega, by omega⟩
theorem law_41 {scr : Nat → Int32} {L d k i c1 c2 : Nat} {m : Mem} {Q : Qt} (hi : i + 6 ≤ L) (hL : L ≤ 384) (hk : k ≤ 64) (hc : c1 ≤ 400 + 2 * k ∧ c2 ≤ 20000 + 10 * k) (hs : Sim scr k m) (hN : ∀ m' a b, Sim scr (k + 1) m' → a ≤ 400 + 2 * (k + 1) ∧ b ≤ 20000 + 10 * (k + 1) → Xs (d + 201) 223 1566 [some (.retAddr 20), some (.ref 0), some (.ref 139), some (.int (nI i))] [] (S0 L) (a, b) m' Q) : Xs (d + 201) 223 1517 [some (.retAddr 20), some (.ref 0), some (.ref 139), some (.int (nI i))] [] (S0 L) (c1, c2) m Q := by
  refine Xs_wpc (cut1 1566) t223c41 60 ⟨show c1 ≤ 600000 by omega, show c2 ≤ 7302249 by omega⟩ ?_
  refine ⟨⟨rfl, ltB rfl⟩, Mc_scr ?_⟩
  refine pr_keep hs _ (fun r m1 hR h9 => ?_)
  refine ⟨⟨rfl, ltB rfl⟩, hR _ (fun m2 hS => ?_)⟩
  refine ifI (fun _ => ?_) (fun z => absurd rfl z)
  exact hN m2 _ _ hS ⟨by omega, by omega⟩
theorem law_42 {scr : Nat → Int32} {L d k i c1 c2 : Nat} {m : Mem} {Q : Qt} (hi : i + 6 ≤ L) (hL : L ≤ 384) (hk : k ≤ 64) (hc : c1 ≤ 400 + 2 * k ∧ c2 ≤ 20000 + 10 * k) (hs : Sim scr k m) (hN : ∀ m' a b, Sim scr (k + 1) m' → a ≤ 400 + 2 * (k + 1) ∧ b ≤ 20000 + 10 * (k + 1) → Xs (d + 201) 223 1566 [some (.retAddr 20), some (.ref 0), some (.ref 139), some (.int (nI i))] [] (S0 L) (a, b) m' Q) : Xs (d + 201) 223 1530 [some (.retAddr 20), some (.ref 0), some (.ref 139), some (.int (nI i))] [] (S0 L) (c1, c2) m Q := by
  refine Xs_wpc (cut1 1566) t223c42 60 ⟨show c1 ≤ 600000 by omega, show c2 ≤ 7302249 by omega⟩ ?_
  refine ⟨⟨rfl, ltB rfl⟩, Mc_scr ?_⟩
  refine pr_back hs _ (fun r m1 hR h9 => ?_)
  refine ⟨⟨rfl, ltB rfl⟩, hR _ (fun m2 hS => ?_)⟩
  refine ifI (fun _ => ?_) (fun z => absurd rfl z)
  exact hN m2 _ _ hS ⟨by omega, by omega⟩
theorem law_43 {scr : Nat → Int32} {L d k i c1 c2 : Nat} {m : Mem} {Q : Qt} (hi : i + 6 ≤ L) (hL : L ≤ 384) (hk : k ≤ 64) (hc : c1 ≤ 400 + 2 * k ∧ c2 ≤ 20000 + 10 * k) (hs : Sim scr k m) (hN : ∀ m' a b, Sim scr (k + 1) m' → a ≤ 400 + 2 * (k + 1) ∧ b ≤ 20000 + 10 * (k + 1) → Xs (d + 201) 223 1566 [some (.retAddr 20), some (.ref 0), some (.ref 139), some (.int (nI i))] [] (S0 L) (a, b) m' Q) : Xs (d + 201) 223 1543 [some (.retAddr 20), some (.ref 0), some (.ref 139), some (.int (nI i))] [] (S0 L) (c1, c2) m Q := by
  refine Xs_wpc (cut1 1566) t223c43 60 ⟨show c1 ≤ 600000 by omega, show c2 ≤ 7302249 by omega⟩ ?_
  refine ⟨scI (sc1 i 1 _ rfl) (by omega) hL, ?_⟩
  rw [clK (sc1 i 1 1 rfl) (by omega)]
  refine ⟨⟨rfl, ltB rfl⟩, Mc_scr ?_⟩
  refine pr_count hs _ (fun r m1 hR h9 => ?_)
  refine ⟨scI (sc1 i 1 _ rfl) (by omega) hL, ?_⟩
  rw [clK (sc1 i 1 1 rfl) (by omega), h9 (i + 1) (show i + 1 < L by omega)]
  refine ⟨⟨rfl, ltB rfl⟩, hR _ (fun m2 hS => ?_)⟩
  refine ifI (fun _ => ?_) (fun z => absurd rfl z)
  exact hN m2 _ _ hS ⟨by omega, by omega⟩
