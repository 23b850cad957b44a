-- the world at the law's start
def sIx (i : Nat) : Nat := (STL.getD i (0, "")).1
def tmS (i : Nat) : Term := .string RX2 (sIx i)
theorem six {P : Nat → Prop} (h0 : P 0) (h1 : P 1) (h2 : P 2) (h3 : P 3) (h4 : P 4) (h5 : P 5) : ∀ i, i < 6 → P i := fun i hi => by
  rcases k6 hi with rfl | rfl | rfl | rfl | rfl | rfl
  · exact h0
  · exact h1
  · exact h2
  · exact h3
  · exact h4
  · exact h5
theorem fl_str {b : Nat} {s : State} (hg : (Jvm.Cond.and given_1 narrow_1).before #[Value.ref b] s = true) :
    (∀ i, i < 6 → (Cond.exactly (tmS i) "java/lang/String").before #[Value.ref b] s = true) ∧ (∀ i, i < 6 → (Cond.eq (.field (tmS i) "java/lang/String" "coder" "B") (.int 0)).before #[Value.ref b] s = true) ∧ (∀ i, i < 6 → (Cond.arrayOf (.field (tmS i) "java/lang/String" "value" "[B") .byte).before #[Value.ref b] s = true) ∧ (∀ i, i < 6 → (Cond.eq (.length (.field (tmS i) "java/lang/String" "value" "[B")) (.int (Int32.ofNat (SLEN.getD i 0)))).before #[Value.ref b] s = true) := by
  have hs := flat_of_before _ hg
  refine ⟨six ?_ ?_ ?_ ?_ ?_ ?_, six ?_ ?_ ?_ ?_ ?_ ?_, six ?_ ?_ ?_ ?_ ?_ ?_, six ?_ ?_ ?_ ?_ ?_ ?_⟩
  all_goals exact hs _ (by decide +kernel)
theorem fl_el {b : Nat} {s : State} (hg : (Jvm.Cond.and given_1 narrow_1).before #[Value.ref b] s = true) : ∀ i, i < 6 → ∀ j, j < SLEN.getD i 0 → (Cond.eq (.elem (.field (tmS i) "java/lang/String" "value" "[B") (.int (Int32.ofNat j))) (.int ((SBYT.getD i []).getD j 0))).before #[Value.ref b] s = true := by
  have hs := flat_of_before _ hg
  refine six ?_ ?_ ?_ ?_ ?_ ?_
  · intro j hj
    have : j = 0 ∨ j = 1 ∨ j = 2 ∨ j = 3 := by have : j < 4 := hj; omega
    rcases this with rfl | rfl | rfl | rfl <;> exact hs _ (by decide +kernel)
  · intro j hj
    have : j = 0 ∨ j = 1 ∨ j = 2 := by have : j < 3 := hj; omega
    rcases this with rfl | rfl | rfl <;> exact hs _ (by decide +kernel)
  · intro j hj
    have : j = 0 ∨ j = 1 ∨ j = 2 ∨ j = 3 := by have : j < 4 := hj; omega
    rcases this with rfl | rfl | rfl | rfl <;> exact hs _ (by decide +kernel)
  · intro j hj
    have : j = 0 ∨ j = 1 ∨ j = 2 ∨ j = 3 := by have : j < 4 := hj; omega
    rcases this with rfl | rfl | rfl | rfl <;> exact hs _ (by decide +kernel)
  · intro j hj
    have : j = 0 ∨ j = 1 ∨ j = 2 := by have : j < 3 := hj; omega
    rcases this with rfl | rfl | rfl <;> exact hs _ (by decide +kernel)
  · intro j hj
    have : j = 0 ∨ j = 1 := by have : j < 2 := hj; omega
    rcases this with rfl | rfl <;> exact hs _ (by decide +kernel)
theorem fl_ne {b : Nat} {s : State} (hg : (Jvm.Cond.and given_1 narrow_1).before #[Value.ref b] s = true) : ∀ i j : Nat, i < 6 → j < 6 → i ≠ j → (Cond.not (Cond.eq (tmS i) (tmS j))).before #[Value.ref b] s = true ∨ (Cond.not (Cond.eq (tmS j) (tmS i))).before #[Value.ref b] s = true := by
  have hs := flat_of_before _ hg
  intro i j hi hj hne
  rcases k6 hi with rfl | rfl | rfl | rfl | rfl | rfl <;> rcases k6 hj with rfl | rfl | rfl | rfl | rfl | rfl <;>
    first
    | exact absurd rfl hne
    | exact Or.inl (hs _ (by decide +kernel))
    | exact Or.inr (hs _ (by decide +kernel))
theorem fl_above {b : Nat} {s : State} (hg : (Jvm.Cond.and given_1 narrow_1).before #[Value.ref b] s = true) : (Cond.arrayOf (.static "TurtleBet" "ABOVE" "[I") .int).before #[Value.ref b] s = true ∧ (Cond.eq (.length (.static "TurtleBet" "ABOVE" "[I")) (.int 6)).before #[Value.ref b] s = true ∧ (∀ j, j < 6 → (Cond.eq (.elem (.static "TurtleBet" "ABOVE" "[I") (.int (Int32.ofNat j))) (.int (abv j))).before #[Value.ref b] s = true) ∧ (Cond.eq (.static "java/lang/String" "COMPACT_STRINGS" "Z") (.int 1)).before #[Value.ref b] s = true ∧ (Cond.isRef (.static "jdk/internal/util/Preconditions" "SIOOBE_FORMATTER" "Ljava/util/function/BiFunction;")).before #[Value.ref b] s = true := by
  have hs := flat_of_before _ hg
  refine ⟨hs _ (by decide +kernel), hs _ (by decide +kernel), six ?_ ?_ ?_ ?_ ?_ ?_, hs _ (by decide +kernel), hs _ (by decide +kernel)⟩
  all_goals exact hs _ (by decide +kernel)
theorem w_in : Cond.laysStatic "TurtleBet" "ABOVE" "[I" ∈ lw_tbl ∧ Cond.laysStatic "java/lang/String" "COMPACT_STRINGS" "Z" ∈ lw_tbl ∧ Cond.laysStatic "jdk/internal/util/Preconditions" "SIOOBE_FORMATTER" "Ljava/util/function/BiFunction;" ∈ lw_tbl ∧ Cond.initialized "TurtleBet" ∈ lw_tbl ∧ Cond.initialized "java/lang/String" ∈ lw_tbl ∧ Cond.initialized "jdk/internal/util/Preconditions" ∈ lw_tbl := ⟨by decide +kernel, by decide +kernel, by decide +kernel, by decide +kernel, by decide +kernel, by decide +kernel⟩
theorem w_str : ∀ i, i < 6 → Cond.stringRef RX2 (sIx i) (STL.getD i (0, "")).2 ∈ lw_tbl := by
  refine six ?_ ?_ ?_ ?_ ?_ ?_
  all_goals decide +kernel
theorem w_arr : Cond.arrayClass .int ∈ lw_tbl ∧ Cond.arrayClass .boolean ∈ lw_tbl ∧ Cond.arrayClass .char ∈ lw_tbl ∧ Cond.arrayOver (.object RX5) ∈ lw_tbl ∧ Cond.arrayOver (.object RX6) ∈ lw_tbl ∧ Cond.arrayOver (.object RX7) ∈ lw_tbl ∧ Cond.arrayOver (.object RX3) ∈ lw_tbl ∧ Cond.arrayOver (.object RX4) ∈ lw_tbl := ⟨by decide +kernel, by decide +kernel, by decide +kernel, by decide +kernel, by decide +kernel, by decide +kernel, by decide +kernel, by decide +kernel⟩
