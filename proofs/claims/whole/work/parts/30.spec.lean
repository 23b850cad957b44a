-- what the numbers mean: pure functions over the array of the reference
def rm (x y : Int32) : Int32 := x - x / y * y
def clamp (v a b : Int32) : Int32 := if v < a then a else if b < v then b else v
def NONEv : Int32 := -1000000005
def tol (v : Int32) : Int32 := if v < 0 then NONEv else v
def opI (o : Option Nat) : Int32 := match o with
  | none => -1
  | some k => nI k
def drawN (z : Int32) : Int32 := z * 1103515245 + 12345
def drawV (z : Int32) : Int32 := ((drawN z).toUInt32 >>> ((8 : Int32).toUInt32 &&& Int32.toUInt32 31)).toInt32
def yardP (p m : Int32) : Int32 := if rm p m < 0 then rm p m + m else rm p m
def lapsP (p m : Int32) : Int32 := (p - yardP p m) / m
def yardA (A : Nat → Int32) (t : Nat) : Int32 := yardP (A (44 + 6 * t + 2)) (A 3)
def lapsA (A : Nat → Int32) (t : Nat) : Int32 := lapsP (A (44 + 6 * t + 2)) (A 3)
def worthV (k p : Int32) : Int32 := if k = 1 then p + 30 else if k = 2 then 50 - p else if k = 3 then 2 * (p + 30) else if k = 4 then 42 - p else if k = 5 then 1 else p
def cntO (A : Nat → Int32) (key : Int32) : Nat → Option Nat
  | 0 => none
  | n + 1 => if A (92 + 2 * n) / 1000 = key then some n else cntO A key n
def twoV (s a b : Int32) : Int32 := if s = -1 then (if a = 0 then (if b = 0 then 0 else 1) else 1) else if s = -2 then (if a = 0 then 0 else if b = 0 then 0 else 1) else if s = -3 then (if a < b then 1 else 0) else if s = -4 then (if a = b then 1 else 0) else if s = -5 then (if b < a then 1 else 0)
  else if s = -6 then a + b else if s = -7 then a - b else if s = -8 then a * b else (if b = 0 then 0 else a / b)
def evL (c fa : Nat → Int32) : Nat → List Int32
  | 0 => []
  | k + 1 => if c k < 0 then (if c k = -10 then (match evL c fa k with
      | x :: r => (if x = 0 then 1 else 0) :: r
      | [] => []) else (match evL c fa k with
      | y :: x :: r => twoV (c k) x y :: r
      | r => r)) else (if c k < 10000 then c k else fa (c k - 10000).toNatClampNeg) :: evL c fa k
def evR (c fa : Nat → Int32) (n : Nat) : Int32 := (evL c fa n).headD 0
def dpt (c : Nat → Int32) : Nat → Nat
  | 0 => 0
  | k + 1 => if c k < 0 then (if c k = -10 then dpt c k else dpt c k - 1) else dpt c k + 1
/-- codes that can be worked out: never too few on the stack, one at the end -/
def wfc (c : Nat → Int32) (nm n : Nat) : Prop := n ≤ 96 ∧ dpt c n = 1 ∧ ∀ k, k < n → (c k < 0 → (c k = -10 ∧ 1 ≤ dpt c k) ∨ (¬ c k = -10 ∧ 2 ≤ dpt c k)) ∧ (¬ c k < 0 → c k < 10000 ∨ ∃ i, i < nm ∧ c k = nI (10000 + i))
def cdA (A : Nat → Int32) (x : Nat) : Nat → Int32 := fun i => A (120 + 96 * x + i)
def lenA (A : Nat → Int32) (x : Nat) : Nat := (rm (A (92 + 2 * x)) 1000).toNatClampNeg
def nmK (key : Nat) : Nat := match key with
  | 0 => 4 | 1 => 3 | _ => 2
def woA (A : Nat → Int32) (x : Nat) (fa : Nat → Int32) : Int32 := evR (cdA A x) fa (lenA A x)
def nxA (A : Nat → Int32) : Nat := (A 7).toNatClampNeg
def ntA (A : Nat → Int32) : Nat := (A 1).toNatClampNeg
def nwA (A : Nat → Int32) : Nat := (A 6).toNatClampNeg
def fa4 (a b c d : Int32) : Nat → Int32 := fun i => match i with
  | 0 => a | 1 => b | 2 => c | _ => d
def plainA (A : Nat → Int32) (t : Nat) (x : Int32) : Int32 := match cntO A 0 (nxA A) with
  | none => A (44 + 6 * t + 1)
  | some k => clamp (woA A k (fa4 (A (44 + 6 * t + 1)) (A (44 + 6 * t + 3)) (A 4) x)) 0 99
def quickV (cold p : Int32) : Int32 := if cold < 20 then p + 3 else p
def oldV (p age : Int32) : Int32 := if p / 2 - age / 1000 < 0 then 0 else p / 2 - age / 1000
def stepV (kind p cold age x : Int32) : Int32 := if kind = 1 then p / 2 else if kind = 2 then quickV cold p else if kind = 3 then oldV p age else if kind = 4 then quickV cold p + x else if kind = 5 then 0 else p
def stepA (A : Nat → Int32) (t : Nat) (x : Int32) : Int32 := stepV (A (44 + 6 * t + 0)) (plainA A t x) (A 4) (A (44 + 6 * t + 3)) x
def drawA (A : Nat → Int32) : Nat → Int32 := upd A 0 (drawN (A 0))
def farV (A : Nat → Int32) (t : Nat) : Int32 := if A 4 < 60 then stepA (drawA A) t (rm (drawV (A 0)) 10) else 0
def dayT (A : Nat → Int32) (t : Nat) : Nat → Int32 := if A (44 + 6 * t + 5) = 1 then A else
  upd (upd (upd (drawA A) (44 + 6 * t + 2) (A (44 + 6 * t + 2) + (if A (44 + 6 * t + 4) = 1 then -farV A t else farV A t))) (44 + 6 * t + 3) (A (44 + 6 * t + 3) + 1)) (44 + 6 * t + 5) (if A (44 + 6 * t + 3) + 1 < A 5 then 0 else 1)
def dayL (A : Nat → Int32) : Nat → Nat → Int32
  | 0 => A
  | t + 1 => dayT (dayL A t) t
def dayA (A : Nat → Int32) : Nat → Int32 := upd (dayL A (ntA A)) 2 (A 2 + 1)
def goesA : Nat → (Nat → Int32) → Nat → Int32
  | 0, A => A
  | n + 1, A => goesA n (dayA A)
def ahO (A : Nat → Int32) : Nat → Option Nat
  | 0 => none
  | t + 1 => match ahO A t with
    | none => some t
    | some b => if A (44 + 6 * b + 2) < A (44 + 6 * t + 2) then some t else some b
def ahA (A : Nat → Int32) : Option Nat := ahO A (ntA A)
def stF (A : Nat → Int32) (tt : Int32) : Nat → Int32
  | 0 => 0
  | w + 1 => stF A tt w + (if tt < 0 then A (8 + 3 * w + 2) else if A (8 + 3 * w + 1) = tt then A (8 + 3 * w + 2) else 0)
def stA (A : Nat → Int32) (tt : Int32) : Int32 := stF A tt (nwA A)
def payV (all stake its : Int32) : Int32 := if its = 0 then 0 else (all.toInt64 * stake.toInt64 / its.toInt64).toInt32
def paysA (A : Nat → Int32) (w : Nat) (tt : Int32) : Int32 := if A (8 + 3 * w + 1) = tt then (match cntO A 1 (nxA A) with
  | some k => clamp (woA A k (fa4 (stA A (-1)) (A (8 + 3 * w + 2)) (stA A tt) 0)) 0 (stA A (-1))
  | none => payV (stA A (-1)) (A (8 + 3 * w + 2)) (stA A tt)) else 0
def pdF (A : Nat → Int32) (o tt : Int32) : Nat → Int32
  | 0 => 0
  | w + 1 => pdF A o tt w + (if A (8 + 3 * w) = o then paysA A w tt else 0)
def paidA (A : Nat → Int32) (o tt : Int32) : Int32 := pdF A o tt (nwA A)
def fineA (A : Nat → Int32) (t : Nat) : Int32 := match cntO A 2 (nxA A) with
  | none => lapsA A t
  | some k => woA A k (fa4 (lapsA A t) (A (44 + 6 * t + 1)) 0 0)
def smF (A : Nat → Int32) (w : Nat) : Nat → Int32
  | 0 => 0
  | t + 1 => smF A w t + A (44 + 6 * t + w)
def smA (A : Nat → Int32) (w : Nat) : Int32 := smF A w (ntA A)
def comesA (A : Nat → Int32) (t : Nat) (kind pace : Int32) : Nat → Int32 := upd (upd (upd (upd (upd (upd (upd A (44 + 6 * t + 2) 0) (44 + 6 * t + 3) 0) (44 + 6 * t + 4) 0) (44 + 6 * t + 5) 0) (44 + 6 * t + 0) kind) (44 + 6 * t + 1) pace) 1 (nI (t + 1))
def betA (A : Nat → Int32) (w : Nat) (o tt s : Int32) : Nat → Int32 := upd (upd (upd (upd A (8 + 3 * w) o) (8 + 3 * w + 1) tt) (8 + 3 * w + 2) s) 6 (nI (w + 1))
-- the stack of numbers in a row
def okS : List Int32 → (Nat → Int32) → Prop
  | [], _ => True
  | x :: r, st => st r.length = x ∧ okS r st
theorem okS_upd : ∀ {l : List Int32} {st : Nat → Int32} {i : Nat} {v : Int32}, l.length ≤ i → okS l st → okS l (upd st i v)
  | [], _, _, _, _, _ => trivial
  | x :: r, st, i, v, h, ⟨h1, h2⟩ => by
    have h' : r.length + 1 ≤ i := h
    exact ⟨by rw [pk_un (by omega)]; exact h1, okS_upd (by omega) h2⟩
theorem evL_len {c fa : Nat → Int32} {n : Nat} (hw : ∀ k, k < n → (c k < 0 → (c k = -10 ∧ 1 ≤ dpt c k) ∨ (¬ c k = -10 ∧ 2 ≤ dpt c k))) : ∀ k, k ≤ n → (evL c fa k).length = dpt c k
  | 0, _ => rfl
  | k + 1, hk => by
    have ih := evL_len (fa := fa) hw k (by omega)
    have h1 := hw k (by omega)
    unfold evL dpt
    by_cases hc : c k < 0
    · rw [if_pos hc, if_pos hc]
      rcases h1 hc with ⟨e, h2⟩ | ⟨e, h2⟩
      · rw [if_pos e, if_pos e]
        cases hl : evL c fa k with
        | nil => rw [hl] at ih; simp at ih; omega
        | cons x r => rw [hl] at ih; simpa using ih
      · rw [if_neg e, if_neg e]
        match hl : evL c fa k, ih with
        | [], ih => simp at ih; omega
        | [x], ih => simp at ih; omega
        | y :: x :: r, ih => simp at ih ⊢; omega
    · rw [if_neg hc, if_neg hc]
      simp [ih]
theorem dpt_le {c : Nat → Int32} : ∀ k, dpt c k ≤ k
  | 0 => Nat.le_refl _
  | k + 1 => by
    have := dpt_le (c := c) k
    unfold dpt
    split
    · split <;> omega
    · omega
theorem evL_congr {c fa fb : Nat → Int32} {nm : Nat} (hf : ∀ i, i < nm → fa i = fb i) : ∀ n, (∀ k, k < n → ¬ c k < 0 → c k < 10000 ∨ ∃ i, i < nm ∧ c k = nI (10000 + i)) → nm ≤ 4 → evL c fa n = evL c fb n
  | 0, _, _ => rfl
  | n + 1, hw, h4 => by
    have ih := evL_congr hf n (fun k hk => hw k (by omega)) h4
    unfold evL
    rw [ih]
    by_cases hc : c n < 0
    · rw [if_pos hc, if_pos hc]
    · rw [if_neg hc, if_neg hc]
      by_cases h5 : c n < 10000
      · rw [if_pos h5, if_pos h5]
      · rw [if_neg h5, if_neg h5]
        rcases hw n (by omega) hc with q | ⟨i, hi, q⟩
        · exact absurd q h5
        · have e : (c n - 10000).toNatClampNeg = i := by
            rw [q]
            have := pk_sub (a := 10000 + i) (b := 10000) (by omega)
            rw [show (10000 : Int32) = nI 10000 from rfl, this, nI_clamp (by omega)]
            omega
          rw [e, hf i hi]
theorem nI_lit (n : Nat) : nI n = (OfNat.ofNat n : Int32) := rfl
