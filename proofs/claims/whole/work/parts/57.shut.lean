/-! roots, and F shut in -/
def sqR (V : Nat) : Nat → Nat
  | 0 => 0
  | i + 1 => if (sqR V i + 2 ^ (18 - i)) * (sqR V i + 2 ^ (18 - i)) ≤ V then sqR V i + 2 ^ (18 - i) else sqR V i
def sq (V : Nat) : Nat := sqR V 19
theorem sqR_inv {V : Nat} (hV : V < 2 ^ 38) : ∀ i, i ≤ 19 → sqR V i * sqR V i ≤ V ∧ V < (sqR V i + 2 ^ (19 - i)) * (sqR V i + 2 ^ (19 - i)) ∧ sqR V i + 2 ^ (19 - i) ≤ 2 ^ 19
  | 0, _ => by
    unfold sqR
    refine ⟨Nat.zero_le _, ?_, Nat.le_refl _⟩
    rw [Nat.zero_add, show (2 : Nat) ^ (19 - 0) * 2 ^ (19 - 0) = 2 ^ 38 by decide]; exact hV
  | i + 1, hi => by
    obtain ⟨h1, h2, h3⟩ := sqR_inv hV i (by omega)
    have e : 2 ^ (19 - i) = 2 ^ (18 - i) + 2 ^ (18 - i) := by
      rw [show 19 - i = (18 - i) + 1 by omega, Nat.pow_succ]; omega
    rw [show 19 - (i + 1) = 18 - i by omega]
    rw [e] at h2 h3
    unfold sqR
    split
    · rename_i hq
      refine ⟨hq, ?_, by omega⟩
      rw [Nat.add_assoc]; exact h2
    · rename_i hq
      have hg : 0 < 2 ^ (18 - i) := Nat.pow_pos (by decide)
      exact ⟨h1, by omega, by omega⟩
theorem sq_spec {V : Nat} (hV : V < 2 ^ 38) : sq V * sq V ≤ V ∧ V < (sq V + 1) * (sq V + 1) ∧ sq V < 2 ^ 19 := by
  have h := sqR_inv hV 19 (Nat.le_refl _)
  rw [show 19 - 19 = 0 from rfl, show (2 : Nat) ^ 0 = 1 from rfl] at h
  exact ⟨h.1, h.2.1, by have := h.2.2; unfold sq; omega⟩
theorem sq_one {V a b : Nat} (ha : a * a ≤ V) (ha2 : V < (a + 1) * (a + 1)) (hb : b * b ≤ V) (hb2 : V < (b + 1) * (b + 1)) : a = b := by
  rcases Nat.lt_trichotomy a b with h | h | h
  · have : (a + 1) * (a + 1) ≤ b * b := Nat.mul_le_mul h h
    omega
  · exact h
  · have : (b + 1) * (b + 1) ≤ a * a := Nat.mul_le_mul h h
    omega
theorem shl_1 : ∀ k, k < 19 → (1 : Int64) <<< ((nI k).toInt64 &&& 63) = lN (2 ^ k) := by decide +kernel
theorem c_rootOf {V : Nat} (hV : V < 2 ^ 38) : f_X1_rootOf (lN V) = some (lN (sq V)) := by
  unfold f_X1_rootOf
  have hL : lpf (s_X1_rootOf_6 (lN V)) 1000 ((0 : Int64), (18 : Int32)) = some (lN (sq V)) := by
    refine lpf_run (fun i => (lN (sqR V i), if i ≤ 18 then nI (18 - i) else -1)) 19 rfl (fun i hi => ?_) ?_ (by decide)
    · have inv := sqR_inv hV i (by omega)
      have hp : 2 ^ (18 - i) ≤ 2 ^ 18 := Nat.pow_le_pow_right (by decide) (by omega)
      have hp0 : 0 < 2 ^ (19 - i) := Nat.pow_pos (by decide)
      have h19 : sqR V i < 2 ^ 19 := by omega
      have hb : (sqR V i + 2 ^ (18 - i)) * (sqR V i + 2 ^ (18 - i)) ≤ 2 ^ 20 * 2 ^ 20 := Nat.mul_le_mul (by omega) (by omega)
      unfold s_X1_rootOf_6
      simp only [if_pos (show i ≤ 18 by omega), ov_e]
      rw [if_neg (nI_pos (by omega)), shl_1 _ (by omega), lN_add, lN_mul]
      have e1 : nI (18 - i) + -1 = (if i + 1 ≤ 18 then nI (18 - (i + 1)) else -1) := by
        by_cases h : i + 1 ≤ 18
        · rw [if_pos h, show 18 - i = (18 - (i + 1)) + 1 by omega]; exact pk_m1 _
        · rw [if_neg h, show 18 - i = 0 by omega]; rfl
      rw [e1]
      by_cases hq : (sqR V i + 2 ^ (18 - i)) * (sqR V i + 2 ^ (18 - i)) ≤ V
      · rw [if_neg (fun q => by
          have q2 := (pk_lLT (by omega) (by omega)).mp ((cmp_gt _ _).mp q)
          omega), show sqR V (i + 1) = sqR V i + 2 ^ (18 - i) by rw [sqR, if_pos hq]]
      · rw [if_pos ((cmp_gt _ _).mpr ((pk_lLT (by omega) (by omega)).mpr (by omega))), show sqR V (i + 1) = sqR V i by rw [sqR, if_neg hq]]
    · unfold s_X1_rootOf_6
      simp only [if_neg (show ¬ 19 ≤ 18 by decide)]
      rw [if_pos (by decide)]
      rfl
  rw [hL]; rfl
theorem m_rootS {V : Nat} (hV : V < 2 ^ 38) : ∀ (k lo hi n : Nat), hi - lo ≤ 2 ^ k → lo < hi → hi ≤ 1000000 → lo * lo ≤ V → V < hi * hi → k < n → lpf (s_X2_root_7 (lN V)) n (lN lo, lN hi) = some (lN (sq V)) := by
  have sp := sq_spec hV
  have stop : ∀ (lo n : Nat), lo < 1000000 → lo * lo ≤ V → V < (lo + 1) * (lo + 1) → 0 < n → lpf (s_X2_root_7 (lN V)) n (lN lo, lN (lo + 1)) = some (lN (sq V)) := by
    intro lo n h1 h2 h3 hn
    obtain ⟨n, rfl⟩ : ∃ m, n = m + 1 := ⟨n - 1, by omega⟩
    refine lpf_inr ?_
    unfold s_X2_root_7
    simp only []
    rw [lN_sub (by omega), if_pos (show lg_cmp (lN (lo + 1 - lo)) 1 ≤ 0 from (cmp_le _ _).mpr ((pk_lLE (b := 1) (by omega) (by decide)).mpr (by omega))), sq_one h2 h3 sp.1 sp.2.1]
  intro k
  induction k with
  | zero =>
    intro lo hi n hd hl hh h1 h2 hn
    obtain rfl : hi = lo + 1 := by rw [show (2 : Nat) ^ 0 = 1 from rfl] at hd; omega
    exact stop lo n (by omega) h1 h2 (by omega)
  | succ k ih =>
    intro lo hi n hd hl hh h1 h2 hn
    by_cases hs : hi = lo + 1
    · subst hs
      exact stop lo n (by omega) h1 h2 (by omega)
    · obtain ⟨n, rfl⟩ : ∃ m, n = m + 1 := ⟨n - 1, by omega⟩
      have hp : 2 ^ (k + 1) = 2 * 2 ^ k := by rw [Nat.pow_succ, Nat.mul_comm]
      have hm : (lo + hi) / 2 * ((lo + hi) / 2) ≤ 1000000 * 1000000 := Nat.mul_le_mul (by omega) (by omega)
      have st : s_X2_root_7 (lN V) (lN lo, lN hi) = some (.inl (if (lo + hi) / 2 * ((lo + hi) / 2) ≤ V then (lN ((lo + hi) / 2), lN hi) else (lN lo, lN ((lo + hi) / 2)))) := by
        unfold s_X2_root_7
        simp only [ov_e]
        rw [lN_sub (by omega), if_neg (fun q => by
          have q2 := (pk_lLE (b := 1) (by omega) (by decide)).mp ((cmp_le _ _).mp q)
          omega), lN_add, show (2 : Int64) = lN 2 from rfl, pk_lDiv (by omega) (by decide) (by decide), lN_mul]
        by_cases hq : (lo + hi) / 2 * ((lo + hi) / 2) ≤ V
        · rw [if_pos hq, if_neg (fun q => by
            have q2 := (pk_lLT (by omega) (by omega)).mp ((cmp_gt _ _).mp q)
            omega)]
        · rw [if_neg hq, if_pos ((cmp_gt _ _).mpr ((pk_lLT (by omega) (by omega)).mpr (by omega)))]
      rw [lpf_inl st]
      by_cases hq : (lo + hi) / 2 * ((lo + hi) / 2) ≤ V
      · rw [if_pos hq]
        exact ih _ _ n (by omega) (by omega) hh hq h2 (by omega)
      · rw [if_neg hq]
        exact ih _ _ n (by omega) (by omega) (by omega) h1 (by omega) (by omega)
theorem m_root {V : Nat} (hV : V < 2 ^ 38) : f_X2_root (lN V) = some (lN (sq V)) := by
  unfold f_X2_root
  have h := m_rootS hV 20 0 1000000 1000 (by decide) (by decide) (by decide) (Nat.zero_le _) (by omega) (by decide)
  rw [show ((0 : Int64), (1000000 : Int64)) = (lN 0, lN 1000000) from rfl, h]; rfl
def hV (r k : Nat) : Nat := 1000000 * (r * r - k * k)
theorem hV_lt {r k : Nat} (hr : r ≤ 400) : hV r k < 2 ^ 38 := by
  have : r * r ≤ 400 * 400 := Nat.mul_le_mul hr hr
  unfold hV; omega
theorem c_height {r k : Nat} (hr : r ≤ 400) (hk : k ≤ r) : f_X1_heightRoot (nI r) (nI k) = some (lN (sq (hV r k))) := by
  have h1 : r * r ≤ 400 * 400 := Nat.mul_le_mul hr hr
  have h2 : k * k ≤ r * r := Nat.mul_le_mul hk hk
  unfold f_X1_heightRoot
  rw [pk_mul, pk_mul, pk_sub h2, nI_l (by omega), show (1000000 : Int64) = lN 1000000 from rfl, lN_mul]
  rw [show lN (1000000 * (r * r - k * k)) = lN (hV r k) from rfl, c_rootOf (hV_lt hr)]; rfl
theorem m_slope {r k : Nat} (hr : r ≤ 400) (hk : k ≤ r) : f_X2_slope (nI r) (nI k) = some (lN (sq (hV r k))) := by
  have h1 : r * r ≤ 400 * 400 := Nat.mul_le_mul hr hr
  have h2 : k * k ≤ r * r := Nat.mul_le_mul hk hk
  unfold f_X2_slope
  rw [nI_l (by omega), nI_l (by omega), lN_mul, lN_mul, lN_sub h2, show (1000000 : Int64) = lN 1000000 from rfl, lN_mul]
  rw [show lN (1000000 * (r * r - k * k)) = lN (hV r k) from rfl, m_root (hV_lt hr)]; rfl
theorem cut_pos {b : Nat} (h0 : 0 < b) (hb : b < 2 ^ 62) (z : Int64) : f_X1_cut z (lN b) = some (z / lN b) := by
  unfold f_X1_cut
  rw [if_neg (fun q => by
    have q2 := (pk_lLE (a := b) (b := 0) (by omega) (by decide)).mp ((cmp_le _ _).mp q)
    omega), if_neg (lN_ne0 h0 hb)]
def lowT (r k : Nat) : Int64 := lN (k * k * 1000000000) / lN (r * (sq (hV r k) + 1))
def highT (r k : Nat) : Int64 := 1 + lN (k * k * 1000000000) / lN (r * sq (hV r k))
theorem op_shut {ro rn tn fx fy ar wh : Int32} (hG : Rg ro rn tn fx fy ar wh) (a1 a2 : Int32) : Ag (f_X1_shut ro a1 a2) (f_X2_shut ro a1 a2) := by
  obtain ⟨g1, -⟩ := hG
  obtain ⟨r, h1, h2, rfl⟩ := inb_nat (lo := 1) (hi := 400) g1 (by decide) (by decide)
  unfold f_X1_shut f_X2_shut
  have e0 : nI r - 1 = nI (r - 1) := pk_sub (b := 1) h1
  simp only [e0, c_from0To, m_in2, c_zeroOrOne, m_isPart, bs_e, b2i_0]
  cases e1 : inb a1 0 (nI (r - 1)) with
  | false => exact Ag.e _
  | true =>
    cases e2 : inb a2 0 1 with
    | false => exact Ag.e _
    | true =>
      obtain ⟨h, hh, rfl⟩ := inb_nI (show r - 1 < 2 ^ 31 by omega) e1
      have step : ∀ k, k ≤ h → (lN k * lN k * 1000000000 = lN (k * k * 1000000000) ∧ lN k * (lN k * 1000000000) = lN (k * k * 1000000000)) ∧ lN r * (lN (sq (hV r k)) + 1) = lN (r * (sq (hV r k) + 1)) ∧ lN r * lN (sq (hV r k)) = lN (r * sq (hV r k)) ∧ 0 < r * (sq (hV r k) + 1) ∧ r * (sq (hV r k) + 1) < 2 ^ 62 ∧ 0 < r * sq (hV r k) ∧ r * sq (hV r k) < 2 ^ 62 := by
        intro k hk
        have sp := sq_spec (hV_lt (r := r) (k := k) h2)
        have q1 : r * (sq (hV r k) + 1) ≤ 400 * 2 ^ 19 := Nat.mul_le_mul h2 (by omega)
        have q2 : r * sq (hV r k) ≤ 400 * 2 ^ 19 := Nat.mul_le_mul h2 (by omega)
        have q3 : 0 < sq (hV r k) := by
          have q4 : k * k < r * r := Nat.mul_lt_mul'' (by omega) (by omega)
          have q5 : 1 ≤ hV r k := by unfold hV; omega
          rcases Nat.eq_zero_or_pos (sq (hV r k)) with z | z
          · rw [z] at sp; omega
          · exact z
        refine ⟨⟨?_, ?_⟩, ?_, ?_, Nat.mul_pos (by omega) (by omega), by omega, Nat.mul_pos (by omega) q3, by omega⟩
        · rw [lN_mul, show (1000000000 : Int64) = lN 1000000000 from rfl, lN_mul]
        · rw [show (1000000000 : Int64) = lN 1000000000 from rfl, lN_mul, lN_mul, Nat.mul_assoc]
        · rw [lN_1, lN_mul]
        · rw [lN_mul]
      simp only [Bool.true_eq_false, if_false, bind_id]
      rcases zo e2 with rfl | rfl
      · rw [if_pos rfl]
        refine Ag.of (r := sumTo (lowT r) h) ?_ ?_
        · unfold f_X1_shutLow
          have hL : lpf (s_X1_shutLow_5 (nI r) (nI h)) 1000 ((0 : Int64), (0 : Int32)) = some (sumTo (lowT r) h) := by
            refine lpf_run (fun i => (sumTo (lowT r) i, nI i)) h rfl (fun i hi => ?_) ?_ (by omega)
            · obtain ⟨⟨s1, s2⟩, s3, s4, s5, s6, s7, s8⟩ := step i (by omega)
              unfold s_X1_shutLow_5
              simp only []
              rw [if_neg (nI_ge hi (by omega)), c_height h2 (by omega), bs_e, nI_l (show i < 2 ^ 31 by omega), nI_l (show r < 2 ^ 31 by omega), s2, s3, cut_pos s5 s6, bs_e]
              simp only [ov_e, nI_1]
              rfl
            · unfold s_X1_shutLow_5
              simp only []
              rw [if_pos (nI_le (Nat.le_refl h) (by omega))]
          rw [hL]; rfl
        · have hL : lpf (s_X2_shut_30 (nI r) (nI h) 0) 1000 ((0 : Int64), (0 : Int32)) = some (sumTo (lowT r) h) := by
            refine lpf_run (fun i => (sumTo (lowT r) i, nI i)) h rfl (fun i hi => ?_) ?_ (by omega)
            · obtain ⟨⟨s1, s2⟩, s3, s4, s5, s6, s7, s8⟩ := step i (by omega)
              unfold s_X2_shut_30
              simp only []
              rw [show nI h + 0 = nI h from Int32.add_zero _, if_neg (nI_ge hi (by omega)), ov_e, if_pos trivial, m_slope h2 (by omega), bs_e, nI_l (show i < 2 ^ 31 by omega), nI_l (show r < 2 ^ 31 by omega), s1, s3, if_neg (lN_ne0 s5 s6)]
              simp only [ov_e, nI_1]
              rfl
            · unfold s_X2_shut_30
              simp only []
              rw [show nI h + 0 = nI h from Int32.add_zero _, if_pos (nI_le (Nat.le_refl h) (by omega))]
          exact hL
      · rw [if_neg (by decide)]
        refine Ag.of (r := sumTo (fun i => highT r (i + 1)) h) ?_ ?_
        · unfold f_X1_shutHigh
          have hL : lpf (s_X1_shutHigh_5 (nI r) (nI h)) 1000 ((0 : Int64), (1 : Int32)) = some (sumTo (fun i => highT r (i + 1)) h) := by
            refine lpf_run (fun i => (sumTo (fun i => highT r (i + 1)) i, nI (i + 1))) h rfl (fun i hi => ?_) ?_ (by omega)
            · obtain ⟨⟨s1, s2⟩, s3, s4, s5, s6, s7, s8⟩ := step (i + 1) (by omega)
              unfold s_X1_shutHigh_5
              simp only []
              rw [if_neg (nI_nlt (by omega) (by omega)), c_height h2 (by omega), bs_e, nI_l (show i + 1 < 2 ^ 31 by omega), nI_l (show r < 2 ^ 31 by omega), s2, s4, cut_pos s7 s8, bs_e]
              simp only [ov_e, nI_1]
              rfl
            · unfold s_X1_shutHigh_5
              simp only []
              rw [if_pos (nI_lt (by omega) (by omega))]
          rw [hL]; rfl
        · have hL : lpf (s_X2_shut_30 (nI r) (nI h) 1) 1000 ((0 : Int64), (1 : Int32)) = some (sumTo (fun i => highT r (i + 1)) h) := by
            refine lpf_run (fun i => (sumTo (fun i => highT r (i + 1)) i, nI (i + 1))) h rfl (fun i hi => ?_) ?_ (by omega)
            · obtain ⟨⟨s1, s2⟩, s3, s4, s5, s6, s7, s8⟩ := step (i + 1) (by omega)
              unfold s_X2_shut_30
              simp only []
              rw [nI_1, if_neg (nI_ge (by omega) (by omega)), ov_e, if_neg (by decide), m_slope h2 (by omega), bs_e, nI_l (show i + 1 < 2 ^ 31 by omega), nI_l (show r < 2 ^ 31 by omega), s1, s4, if_neg (lN_ne0 s7 s8)]
              simp only [ov_e, nI_1]
              rfl
            · unfold s_X2_shut_30
              simp only []
              rw [nI_1, if_pos (nI_le (Nat.le_refl _) (by omega))]
          exact hL
