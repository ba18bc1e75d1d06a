/-! fractions in lowest terms -/
theorem lpf_inl {V O : Type} {step : V → Option (V ⊕ O)} {n : Nat} {v v' : V} (h : step v = some (.inl v')) : lpf step (n + 1) v = lpf step n v' := by
  show (step v).bind _ = _
  rw [h]; rfl
theorem lpf_inr {V O : Type} {step : V → Option (V ⊕ O)} {n : Nat} {v : V} {o : O} (h : step v = some (.inr o)) : lpf step (n + 1) v = some o := by
  show (step v).bind _ = _
  rw [h]; rfl
theorem lN_ne0 {b : Nat} (h : 0 < b) (hb : b < 2 ^ 62) : ¬ lN b = 0 := by
  intro e
  have := (pk_lEQ (a := b) (b := 0) (by omega) (by decide)).mp e
  omega
theorem c_euc : ∀ (k a b s n : Nat), a < 2 ^ 62 → b < 2 ^ k → k ≤ 40 → s + (2 * k + 1) ≤ 100 → 2 * k + 1 < n → lpf s_X1_commonDivisor_9 n (lN a, lN b, nI s) = some (lN (Nat.gcd a b)) := by
  have stop : ∀ (a s n : Nat), s < 100 → 0 < n → lpf s_X1_commonDivisor_9 n (lN a, lN 0, nI s) = some (lN a) := by
    intro a s n hs hn
    obtain ⟨n, rfl⟩ : ∃ m, n = m + 1 := ⟨n - 1, by omega⟩
    refine lpf_inr ?_
    unfold s_X1_commonDivisor_9
    simp only []
    rw [if_neg (show ¬ (100 : Int32) ≤ nI s from nI_ge (b := 100) hs (by decide)), if_pos ((cmp_eq (lN 0) 0).mpr rfl)]
  have go : ∀ (a b s n : Nat), a < 2 ^ 62 → 0 < b → b < 2 ^ 62 → s < 100 → lpf s_X1_commonDivisor_9 (n + 1) (lN a, lN b, nI s) = lpf s_X1_commonDivisor_9 n (lN b, lN (a % b), nI (s + 1)) := by
    intro a b s n ha h0 hb hs
    refine lpf_inl ?_
    unfold s_X1_commonDivisor_9
    simp only []
    rw [if_neg (show ¬ (100 : Int32) ≤ nI s from nI_ge (b := 100) hs (by decide)), if_neg (fun q => lN_ne0 h0 hb ((cmp_eq _ _).mp q)), if_neg (lN_ne0 h0 hb)]
    simp only [ov, nI_1]
    rw [pk_lRem (by omega) h0 (by omega)]
  intro k
  induction k with
  | zero =>
    intro a b s n ha hb hk hs hn
    have : b = 0 := by omega
    subst this
    rw [stop a s n (by omega) (by omega), Nat.gcd_zero_right]
  | succ k ih =>
    intro a b s n ha hb hk hs hn
    have hp : 2 ^ (k + 1) ≤ 2 ^ 40 := Nat.pow_le_pow_right (by decide) hk
    have hp2 : 2 ^ (k + 1) = 2 * 2 ^ k := by rw [Nat.pow_succ, Nat.mul_comm]
    by_cases h0 : b = 0
    · subst h0
      rw [stop a s n (by omega) (by omega), Nat.gcd_zero_right]
    · obtain ⟨n, rfl⟩ : ∃ m, n = m + 2 := ⟨n - 2, by omega⟩
      have hr : a % b < b := Nat.mod_lt a (by omega)
      rw [go a b s (n + 1) ha (by omega) (by omega) (by omega)]
      have e1 : Nat.gcd a b = Nat.gcd b (a % b) := by rw [Nat.gcd_comm a b, Nat.gcd_rec b a, Nat.gcd_comm]
      by_cases h1 : a % b = 0
      · rw [h1, stop b (s + 1) (n + 1) (by omega) (by omega), e1, h1, Nat.gcd_zero_right]
      · have hr2 : b % (a % b) < a % b := Nat.mod_lt b (by omega)
        have hr3 : 2 * (b % (a % b)) < b := by
          have := Nat.div_add_mod b (a % b)
          have h5 : 1 ≤ b / (a % b) := Nat.div_pos (by omega) (by omega)
          have h6 : (a % b) * 1 ≤ (a % b) * (b / (a % b)) := Nat.mul_le_mul_left _ h5
          omega
        rw [go b (a % b) (s + 1) n (by omega) (by omega) (by omega) (by omega)]
        rw [ih (a % b) (b % (a % b)) (s + 1 + 1) n (by omega) (by omega) (by omega) (by omega) (by omega)]
        have e2 : Nat.gcd b (a % b) = Nat.gcd (a % b) (b % (a % b)) := by rw [Nat.gcd_comm b, Nat.gcd_rec (a % b) b, Nat.gcd_comm]
        rw [e1, e2]
theorem m_euc : ∀ (k a b n : Nat), a < 2 ^ 62 → b < 2 ^ k → k ≤ 40 → 2 * k + 1 < n → lpf s_X2_common_28 n (lN a, lN b) = some (lN (Nat.gcd a b)) := by
  have stop : ∀ (a n : Nat), 0 < n → lpf s_X2_common_28 n (lN a, lN 0) = some (lN a) := by
    intro a n hn
    obtain ⟨n, rfl⟩ : ∃ m, n = m + 1 := ⟨n - 1, by omega⟩
    refine lpf_inr ?_
    unfold s_X2_common_28
    simp only []
    rw [if_pos ((cmp_eq (lN 0) 0).mpr rfl)]
  have go : ∀ (a b n : Nat), a < 2 ^ 62 → 0 < b → b < 2 ^ 62 → lpf s_X2_common_28 (n + 1) (lN a, lN b) = lpf s_X2_common_28 n (lN b, lN (a % b)) := by
    intro a b n ha h0 hb
    refine lpf_inl ?_
    unfold s_X2_common_28
    simp only []
    rw [if_neg (fun q => lN_ne0 h0 hb ((cmp_eq _ _).mp q)), if_neg (lN_ne0 h0 hb)]
    simp only [ov]
    rw [pk_lRem (by omega) h0 (by omega)]
  intro k
  induction k with
  | zero =>
    intro a b n ha hb hk hn
    have : b = 0 := by omega
    subst this
    rw [stop a n (by omega), Nat.gcd_zero_right]
  | succ k ih =>
    intro a b n ha hb hk hn
    have hp : 2 ^ (k + 1) ≤ 2 ^ 40 := Nat.pow_le_pow_right (by decide) hk
    have hp2 : 2 ^ (k + 1) = 2 * 2 ^ k := by rw [Nat.pow_succ, Nat.mul_comm]
    by_cases h0 : b = 0
    · subst h0
      rw [stop a n (by omega), Nat.gcd_zero_right]
    · obtain ⟨n, rfl⟩ : ∃ m, n = m + 2 := ⟨n - 2, by omega⟩
      have hr : a % b < b := Nat.mod_lt a (by omega)
      rw [go a b (n + 1) ha (by omega) (by omega)]
      have e1 : Nat.gcd a b = Nat.gcd b (a % b) := by rw [Nat.gcd_comm a b, Nat.gcd_rec b a, Nat.gcd_comm]
      by_cases h1 : a % b = 0
      · rw [h1, stop b (n + 1) (by omega), e1, h1, Nat.gcd_zero_right]
      · have hr2 : b % (a % b) < a % b := Nat.mod_lt b (by omega)
        have hr3 : 2 * (b % (a % b)) < b := by
          have := Nat.div_add_mod b (a % b)
          have h5 : 1 ≤ b / (a % b) := Nat.div_pos (by omega) (by omega)
          have h6 : (a % b) * 1 ≤ (a % b) * (b / (a % b)) := Nat.mul_le_mul_left _ h5
          omega
        rw [go b (a % b) n (by omega) (by omega) (by omega)]
        rw [ih (a % b) (b % (a % b)) n (by omega) (by omega) (by omega) (by omega)]
        have e2 : Nat.gcd b (a % b) = Nat.gcd (a % b) (b % (a % b)) := by rw [Nat.gcd_comm b, Nat.gcd_rec (a % b) b, Nat.gcd_comm]
        rw [e1, e2]
/-! longs of small size -/
def lb (A : Nat) (a : Int64) : Prop := a.toInt.natAbs ≤ A
theorem lb_add {a b : Int64} {A B : Nat} (ha : lb A a) (hb : lb B b) (h : A + B < 9223372036854775808) : (a + b).toInt = a.toInt + b.toInt ∧ lb (A + B) (a + b) := by
  unfold lb at *
  have e : (a + b).toInt = a.toInt + b.toInt := by rw [Int64.toInt_add]; exact Int.bmod_eq_of_le (by omega) (by omega)
  exact ⟨e, by rw [e]; omega⟩
theorem lb_sub {a b : Int64} {A B : Nat} (ha : lb A a) (hb : lb B b) (h : A + B < 9223372036854775808) : (a - b).toInt = a.toInt - b.toInt ∧ lb (A + B) (a - b) := by
  unfold lb at *
  have e : (a - b).toInt = a.toInt - b.toInt := by rw [Int64.toInt_sub]; exact Int.bmod_eq_of_le (by omega) (by omega)
  exact ⟨e, by rw [e]; omega⟩
theorem lb_mul {a b : Int64} {A B : Nat} (ha : lb A a) (hb : lb B b) (h : A * B < 9223372036854775808) : (a * b).toInt = a.toInt * b.toInt ∧ lb (A * B) (a * b) := by
  unfold lb at *
  have hm : (a.toInt * b.toInt).natAbs ≤ A * B := by rw [Int.natAbs_mul]; exact Nat.mul_le_mul ha hb
  have e : (a * b).toInt = a.toInt * b.toInt := by rw [Int64.toInt_mul]; exact Int.bmod_eq_of_le (by omega) (by omega)
  exact ⟨e, by rw [e]; exact hm⟩
theorem lb_neg {a : Int64} {A : Nat} (ha : lb A a) (h : A < 9223372036854775808) : (-a).toInt = -a.toInt ∧ lb A (-a) := by
  unfold lb at *
  have e : (-a).toInt = -a.toInt := by rw [Int64.toInt_neg]; exact Int.bmod_eq_of_le (by omega) (by omega)
  exact ⟨e, by rw [e]; omega⟩
theorem lb_w {a : Int32} {A : Nat} (h : sm A a) : lb A a.toInt64 := by unfold lb; rw [w_toInt]; exact h
theorem lb_le {a : Int64} {A B : Nat} (h : lb A a) (hAB : A ≤ B) : lb B a := Nat.le_trans h hAB
theorem lb_sum {t : Nat → Int64} {A : Nat} : ∀ {c : Nat}, (∀ i, i < c → lb A (t i)) → c * A < 9223372036854775808 → lb (c * A) (sumTo t c)
  | 0, _, _ => by unfold lb sumTo; simp
  | c + 1, h, hA => by
    have e : (c + 1) * A = c * A + A := Nat.succ_mul c A
    rw [e] at hA ⊢
    have h1 := lb_sum (c := c) (fun i hi => h i (by omega)) (by omega)
    exact (lb_add h1 (h c (by omega)) hA).2
theorem lb_pw {a b : Int64} (ha : lb 100 a) (hb : lb 100 b) {k : Nat} (h1 : 1 ≤ k) (h3 : k ≤ 3) : lb 4000000 (pw k a b) := by
  rcases (show k = 1 ∨ k = 2 ∨ k = 3 by omega) with rfl | rfl | rfl
  · exact lb_le (lb_add ha hb (by decide)).2 (by decide)
  · exact lb_le (lb_add (lb_add (lb_mul ha ha (by decide)).2 (lb_mul ha hb (by decide)).2 (by decide)).2 (lb_mul hb hb (by decide)).2 (by decide)).2 (by decide)
  · have haa := (lb_mul ha ha (by decide)).2
    exact lb_le (lb_add (lb_add (lb_add (lb_mul haa ha (by decide)).2 (lb_mul haa hb (by decide)).2 (by decide)).2 (lb_mul (lb_mul ha hb (by decide)).2 hb (by decide)).2 (by decide)).2 (lb_mul (lb_mul hb hb (by decide)).2 hb (by decide)).2 (by decide)).2 (by decide)
theorem lb_along {c : Nat} {xs ys : Nat → Int32} (hF : Fg c xs ys) {k m : Nat} (h1 : 1 ≤ k) (h3 : k ≤ 3) (hm : m ≤ c) : lb 19200000000 (sumTo (aL k c xs ys) m) := by
  have hc := hF.1
  refine lb_le (lb_sum (A := 800000000) (fun i hi => ?_) (by omega)) (by omega)
  have hi' : i < c := by omega
  have b1 := hF.2 i hi'
  have b2 := hF.2 _ (nx_lt hi')
  exact (lb_mul (lb_sub (lb_w b2.1) (lb_w b1.1) (by decide)).2 (lb_pw (lb_w b1.2) (lb_w b2.2) h1 h3) (by decide)).2
/-- both sides tell the same fraction -/
theorem frac {U : Int64} {b : Nat} (hU : lb 2305843009213693952 U) (h0 : 0 < b) (hb : b < 2 ^ 30) (a3 : Int32) : ∃ r, f_X1_fraction U (lN b) a3 = some r ∧ f_X2_term U (lN b) a3 = some r := by
  have hb2 : b < 2 ^ 62 := Nat.lt_trans hb (by decide)
  have eA : mabsL U = lN U.toInt.natAbs := by
    unfold mabsL
    unfold lb at hU
    have q := pk_lT (n := U.toInt.natAbs) (by omega)
    by_cases h : 0 < U
    · rw [if_pos h]
      have h2 := Int64.lt_iff_toInt_lt.mp h
      rw [show (0 : Int64).toInt = 0 from rfl] at h2
      exact i64_ext (by rw [q]; omega)
    · rw [if_neg h]
      have h2 : ¬ (0 : Int64).toInt < U.toInt := fun z => h (Int64.lt_iff_toInt_lt.mpr z)
      rw [show (0 : Int64).toInt = 0 from rfl] at h2
      exact i64_ext (by rw [q, (lb_neg hU (by decide)).1]; omega)
  have eM : ∀ k : Int64 → Option Int64, ((if 0 ≤ lg_cmp U 0 then some U else some (-U)).bind k) = k (lN U.toInt.natAbs) := by
    intro k
    unfold lb at hU
    have q := pk_lT (n := U.toInt.natAbs) (by omega)
    by_cases h : 0 ≤ lg_cmp U 0
    · rw [if_pos h, Option.bind_some]
      have h2 := Int64.le_iff_toInt_le.mp ((cmp_ge _ _).mp h)
      rw [show (0 : Int64).toInt = 0 from rfl] at h2
      rw [show U = lN U.toInt.natAbs from i64_ext (by rw [q]; omega)]
      rw [q]; rfl
    · rw [if_neg h, Option.bind_some]
      have h2 : ¬ (0 : Int64).toInt ≤ U.toInt := fun z => h ((cmp_ge _ _).mpr (Int64.le_iff_toInt_le.mpr z))
      rw [show (0 : Int64).toInt = 0 from rfl] at h2
      rw [show -U = lN U.toInt.natAbs from i64_ext (by rw [q, (lb_neg hU (by decide)).1]; omega)]
  have eB : ∀ k : Int64 → Option Int64, ((if 0 ≤ lg_cmp (lN b) 0 then some (lN b) else some (-(lN b))).bind k) = k (lN b) := by
    intro k
    rw [if_pos (show 0 ≤ lg_cmp (lN b) 0 from (cmp_ge _ _).mpr ((pk_lLE (a := 0) (b := b) (by decide) (by omega)).mpr (Nat.zero_le b))), Option.bind_some]
  have hA : U.toInt.natAbs < 2 ^ 62 := by unfold lb at hU; omega
  have hg0 : 0 < Nat.gcd U.toInt.natAbs b := Nat.gcd_pos_of_pos_right _ h0
  have hgb : Nat.gcd U.toInt.natAbs b ≤ b := Nat.gcd_le_right _ h0
  have c1 : f_X1_commonDivisor (lN U.toInt.natAbs) (lN b) = some (lN (Nat.gcd U.toInt.natAbs b)) := by
    unfold f_X1_commonDivisor
    rw [show ((0 : Int32)) = nI 0 from rfl, c_euc 30 _ _ 0 1000 hA hb (by decide) (by decide) (by decide)]; rfl
  have m1 : f_X2_common U (lN b) = some (lN (Nat.gcd U.toInt.natAbs b)) := by
    unfold f_X2_common
    rw [eM, eB, m_euc 30 _ _ 1000 hA hb (by decide) (by decide)]; rfl
  generalize Nat.gcd U.toInt.natAbs b = g at c1 m1 hg0 hgb
  have cu : ∀ z : Int64, f_X1_cut z (lN g) = some (z / lN g) := by
    intro z
    unfold f_X1_cut
    rw [if_neg (fun q => by
      have q2 := (pk_lLE (a := g) (b := 0) (by omega) (by decide)).mp ((cmp_le _ _).mp q)
      omega), if_neg (lN_ne0 hg0 (by omega))]
  unfold f_X1_fraction f_X2_term
  simp only [ov]
  rw [eA, c1, m1]
  simp only [Option.bind_some, cu]
  rw [if_neg (lN_ne0 hg0 (by omega)), if_neg (lN_ne0 hg0 (by omega))]
  by_cases h : a3 = 0
  · rw [if_pos h]; exact ⟨_, rfl, rfl⟩
  · rw [if_neg h]; exact ⟨_, rfl, rfl⟩
