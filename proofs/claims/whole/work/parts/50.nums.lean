/-! numbers: ints of small size, widened without loss -/
theorem tr_1 (a b : Int64) : ((1 * a + b) * a + b * b) * a + b * b * b = a * a * a + a * a * b + a * b * b + b * b * b := by grind
theorem tr_2 (xi xj xk yi yj yk : Int64) : (xj - xi) * (yk - yi) - (xk - xi) * (yj - yi) = -((xi - xj) * (yk - yj) - (yi - yj) * (xk - xj)) := by grind
theorem tr_3 (a b c d : Int) : (a * c + b * d) * (a * c + b * d) + (a * d - b * c) * (a * d - b * c) = (a * a + b * b) * (c * c + d * d) := by grind
def sm (A : Nat) (a : Int32) : Prop := a.toInt.natAbs ≤ A
theorem w_toInt (a : Int32) : a.toInt64.toInt = a.toInt := Int32.toInt_toInt64 a
theorem i64_ext {a b : Int64} (h : a.toInt = b.toInt) : a = b := Int64.toInt_inj.mp h
theorem sm_sub {a b : Int32} {A B : Nat} (ha : sm A a) (hb : sm B b) (h : A + B < 2147483648) : (a - b).toInt = a.toInt - b.toInt ∧ sm (A + B) (a - b) := by
  unfold sm at *
  have e : (a - b).toInt = a.toInt - b.toInt := by
    rw [Int32.toInt_sub]; exact Int.bmod_eq_of_le (by omega) (by omega)
  exact ⟨e, by rw [e]; omega⟩
theorem sm_add {a b : Int32} {A B : Nat} (ha : sm A a) (hb : sm B b) (h : A + B < 2147483648) : (a + b).toInt = a.toInt + b.toInt ∧ sm (A + B) (a + b) := by
  unfold sm at *
  have e : (a + b).toInt = a.toInt + b.toInt := by
    rw [Int32.toInt_add]; exact Int.bmod_eq_of_le (by omega) (by omega)
  exact ⟨e, by rw [e]; omega⟩
theorem sm_mul {a b : Int32} {A B : Nat} (ha : sm A a) (hb : sm B b) (h : A * B < 2147483648) : (a * b).toInt = a.toInt * b.toInt ∧ sm (A * B) (a * b) := by
  unfold sm at *
  have hm : (a.toInt * b.toInt).natAbs ≤ A * B := by rw [Int.natAbs_mul]; exact Nat.mul_le_mul ha hb
  have e : (a * b).toInt = a.toInt * b.toInt := by
    rw [Int32.toInt_mul]; exact Int.bmod_eq_of_le (by omega) (by omega)
  exact ⟨e, by rw [e]; exact hm⟩
theorem w_sub {a b : Int32} {A B : Nat} (ha : sm A a) (hb : sm B b) (h : A + B < 2147483648) : (a - b).toInt64 = a.toInt64 - b.toInt64 := by
  have h1 := sm_sub ha hb h
  unfold sm at *
  refine i64_ext ?_
  rw [w_toInt, h1.1, Int64.toInt_sub, w_toInt, w_toInt]
  exact (Int.bmod_eq_of_le (by omega) (by omega)).symm
theorem w_add {a b : Int32} {A B : Nat} (ha : sm A a) (hb : sm B b) (h : A + B < 2147483648) : (a + b).toInt64 = a.toInt64 + b.toInt64 := by
  have h1 := sm_add ha hb h
  unfold sm at *
  refine i64_ext ?_
  rw [w_toInt, h1.1, Int64.toInt_add, w_toInt, w_toInt]
  exact (Int.bmod_eq_of_le (by omega) (by omega)).symm
theorem w_mul {a b : Int32} {A B : Nat} (ha : sm A a) (hb : sm B b) (h : A * B < 2147483648) : (a * b).toInt64 = a.toInt64 * b.toInt64 := by
  have h1 := sm_mul ha hb h
  unfold sm at *
  refine i64_ext ?_
  have hm : (a.toInt * b.toInt).natAbs ≤ A * B := by rw [Int.natAbs_mul]; exact Nat.mul_le_mul ha hb
  rw [w_toInt, h1.1, Int64.toInt_mul, w_toInt, w_toInt]
  exact (Int.bmod_eq_of_le (by omega) (by omega)).symm
theorem w_neg {a : Int32} {A : Nat} (ha : sm A a) (h : A < 2147483648) : (-a).toInt64 = -a.toInt64 := by
  unfold sm at *
  refine i64_ext ?_
  rw [w_toInt, Int32.toInt_neg, Int64.toInt_neg, w_toInt, Int.bmod_eq_of_le (by omega) (by omega), Int.bmod_eq_of_le (by omega) (by omega)]
theorem cmp_lt (x y : Int64) : lg_cmp x y < 0 ↔ x < y := by
  unfold lg_cmp
  by_cases h1 : y < x
  · rw [if_pos h1]
    exact ⟨fun h => absurd h (by decide), fun h => absurd h1 (Int64.not_lt.mpr (Int64.le_of_lt h))⟩
  · rw [if_neg h1]
    by_cases h2 : x = y
    · rw [if_pos h2]
      exact ⟨fun h => absurd h (by decide), fun h => absurd h (h2 ▸ Int64.lt_irrefl)⟩
    · rw [if_neg h2]
      exact ⟨fun _ => Int64.lt_of_le_of_ne (Int64.not_lt.mp h1) h2, fun _ => by decide⟩
theorem cmp_eq (x y : Int64) : lg_cmp x y = 0 ↔ x = y := by
  unfold lg_cmp
  by_cases h1 : y < x
  · rw [if_pos h1]
    exact ⟨fun h => absurd h (by decide), fun h => absurd h1 (h ▸ Int64.lt_irrefl)⟩
  · rw [if_neg h1]
    by_cases h2 : x = y
    · rw [if_pos h2]; exact ⟨fun _ => h2, fun _ => rfl⟩
    · rw [if_neg h2]; exact ⟨fun h => absurd h (by decide), fun h => absurd h h2⟩
theorem cmp_gt (x y : Int64) : 0 < lg_cmp x y ↔ y < x := by
  unfold lg_cmp
  by_cases h1 : y < x
  · rw [if_pos h1]; exact ⟨fun _ => h1, fun _ => by decide⟩
  · rw [if_neg h1]
    by_cases h2 : x = y
    · rw [if_pos h2]; exact ⟨fun h => absurd h (by decide), fun h => absurd h h1⟩
    · rw [if_neg h2]; exact ⟨fun h => absurd h (by decide), fun h => absurd h h1⟩
theorem cmp_le (x y : Int64) : lg_cmp x y ≤ 0 ↔ x ≤ y := by
  rw [← Int32.not_lt, cmp_gt, Int64.not_lt]
theorem cmp_ge (x y : Int64) : 0 ≤ lg_cmp x y ↔ y ≤ x := by
  rw [← Int32.not_lt, cmp_lt, Int64.not_lt]
def b2i (b : Bool) : Int32 := if b = true then 1 else 0
theorem b2i_0 (b : Bool) : b2i b = 0 ↔ b = false := by cases b <;> decide
theorem b2i_and (b : Bool) : b2i b &&& 1 = b2i b := by cases b <;> decide
/-! loops that count -/
theorem lpf_for {V O : Type} {step : V → Option (V ⊕ O)} (st : Nat → V) {c : Nat} {o : O} (hs : ∀ i, i < c → step (st i) = some (.inl (st (i + 1)))) (hx : step (st c) = some (.inr o)) : ∀ {n : Nat}, c < n → lpf step n (st 0) = some o := by
  have key : ∀ (d i n : Nat), i + d = c → d < n → lpf step n (st i) = some o := by
    intro d
    induction d with
    | zero =>
      intro i n hi hn
      obtain ⟨n, rfl⟩ : ∃ m, n = m + 1 := ⟨n - 1, by omega⟩
      have : i = c := by omega
      subst this
      show (step (st i)).bind _ = some o
      rw [hx]; rfl
    | succ d ih =>
      intro i n hi hn
      obtain ⟨n, rfl⟩ : ∃ m, n = m + 1 := ⟨n - 1, by omega⟩
      show (step (st i)).bind _ = some o
      rw [hs i (by omega)]
      exact ih (i + 1) n (by omega) (by omega)
  intro n hn
  exact key c 0 n (by omega) hn
/-- with a place k at which it ends early -/
theorem lpf_to {V O : Type} {step : V → Option (V ⊕ O)} (st : Nat → V) (k : Nat) {o : O} (hs : ∀ i, i < k → step (st i) = some (.inl (st (i + 1)))) (hx : step (st k) = some (.inr o)) {n : Nat} (hn : k < n) : lpf step n (st 0) = some o := lpf_for st hs hx hn
