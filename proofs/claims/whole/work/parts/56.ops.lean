/-! ring, count, may, fits; rod, arm, teeth -/
theorem tS_sm {t : Nat → Int32} (h : ∀ i, sm 1 (t i)) : ∀ k, k ≤ 1000 → sm k (tS t k)
  | 0, _ => by unfold sm tS; decide
  | k + 1, hk => (sm_add (tS_sm h k (by omega)) (h k) (by omega)).2
theorem dT_sm (c : Nat) (xs ys : Nat → Int32) (p q : Int32) (i : Nat) : sm 1 (dT c xs ys p q i) := by
  unfold dT sm
  split <;> split <;> first | decide | (split <;> decide)
theorem lN_lb {k A : Nat} (h : k ≤ A) (hA : A < 2 ^ 63) : lb A (lN k) := by unfold lb; rw [pk_lT (by omega)]; omega
theorem inb_nat {a : Int32} {lo hi : Nat} (h : inb a (nI lo) (nI hi) = true) (h1 : lo < 2 ^ 31) (h2 : hi < 2 ^ 31) : ∃ j : Nat, lo ≤ j ∧ j ≤ hi ∧ a = nI j := by
  have q := inb_iff.mp h
  rw [nI_toInt h1, nI_toInt h2] at q
  obtain ⟨j, hj, rfl⟩ := nI_of (x := a) (fun z => by
    have := Int32.lt_iff_toInt_lt.mp z
    rw [show (0 : Int32).toInt = 0 from rfl] at this
    omega)
  rw [nI_toInt hj] at q
  exact ⟨j, by omega, by omega, rfl⟩
def Rg (ro rn tn fx fy ar wh : Int32) : Prop := inb ro 1 400 = true ∧ inb rn 1 1000 = true ∧ inb tn 1 10000 = true ∧ inb fx (-200) 200 = true ∧ inb fy (-200) 200 = true ∧ inb ar 1 400 = true ∧ inb wh (-100) 100 = true
theorem Ro_of {ro : Int32} (h : inb ro 1 400 = true) : Ro ro := by
  have q := inb_iff.mp h
  exact q
section Ops2
variable {X Y : Nat → Nat → Int32} {N : Nat → Int32} {pt px py : Nat → Int32}
theorem zo {a : Int32} (h : inb a 0 1 = true) : a = 0 ∨ a = 1 := by
  obtain ⟨j, -, hj, rfl⟩ := inb_nat (lo := 0) (hi := 1) h (by decide) (by decide)
  rcases (show j = 0 ∨ j = 1 by omega) with rfl | rfl
  · exact Or.inl rfl
  · exact Or.inr rfl
theorem op_ring {ro rn tn fx fy ar wh : Int32} (hG : Rg ro rn tn fx fy ar wh) (hR : Rl X Y N pt px py) (a1 a2 : Int32) : Ag (f_X1_ring ro fx fy ar wh X Y N a1 a2) (f_X2_ring ro fx fy ar pt px py wh a1 a2) := by
  obtain ⟨g1, -, -, g4, g5, g6, g7⟩ := hG
  unfold f_X1_ring f_X2_ring f_X1_withPi
  rcases fig_case hR a1 with h | ⟨f, c, hf, rfl, hF, hN, hM⟩
  · simp only [m_isFigure, h, Option.bind_some, b2i_0]
    exact Ag.e _
  · have hc := hF.1
    have s4 : sm 300 fx := sm_of_inb g4 (by decide) (by decide)
    have s5 : sm 300 fy := sm_of_inb g5 (by decide) (by decide)
    have b1 : sm 400 ro := sm_of_inb g1 (by decide) (by decide)
    have b6 : sm 400 ar := sm_of_inb g6 (by decide) (by decide)
    have b7 : sm 100 wh := sm_of_inb g7 (by decide) (by decide)
    simp only [m_isFigure, bin_nI hf (by decide), if_true, ov, nI_clamp (show f < 2 ^ 31 by omega), hN, Option.bind_some, b2i_0, c_closed hc, m_isClosed hf hc hM.1, c_zeroOrOne, m_in2, c_carries hF, c_turnsRound hF, m_windsOf hF hM hf s4 s5]
    cases e1 : inb a2 0 1 with
    | false => exact Ag.e _
    | true =>
      cases decide (3 ≤ c) with
      | false => exact Ag.e _
      | true =>
        cases anyTo (onS c (X f) (Y f) fx fy) c with
        | true => exact Ag.e _
        | false =>
          have hn : ¬ tS (dT c (X f) (Y f) fx fy) c = -1006 := by
            intro q
            have := tS_sm (dT_sm c (X f) (Y f) fx fy) c (by omega)
            rw [q] at this
            unfold sm at this
            rw [show ((-1006 : Int32)).toInt.natAbs = 1006 from rfl] at this
            omega
          simp only [Bool.true_eq_false, Bool.false_eq_true, if_false, if_true]
          rw [if_neg hn]
          rcases zo e1 with rfl | rfl
          · rw [if_pos rfl, if_neg (by decide)]
            have m1 := sm_mul b6 b6 (by decide)
            have m2 := sm_mul b1 b1 (by decide)
            have two : sm 2 (2 : Int32) := show (2 : Int32).toInt.natAbs ≤ 2 by decide
            have m3 := sm_mul two b7 (by decide)
            have m4 := sm_mul m3.2 b1 (by decide)
            rw [w_add (sm_add m1.2 m2.2 (by decide)).2 m4.2 (by decide), w_add m1.2 m2.2 (by decide), w_mul b6 b6 (by decide), w_mul b1 b1 (by decide), w_mul m3.2 b1 (by decide), w_mul two b7 (by decide)]
            exact Ag.e _
          · rw [if_neg (by decide), if_pos rfl]; exact Ag.e _
theorem abs_bind {β : Type} (U : Int64) (k : Int64 → Option β) : ((if 0 ≤ lg_cmp U 0 then some U else some (-U)).bind k) = k (mabsL U) := by
  unfold mabsL
  by_cases h : 0 ≤ lg_cmp U 0
  · rw [if_pos h, Option.bind_some]
    have h2 := (cmp_ge _ _).mp h
    by_cases h3 : 0 < U
    · rw [if_pos h3]
    · have h4 : U = 0 := Int64.le_antisymm (Int64.not_lt.mp h3) h2
      subst h4; rfl
  · rw [if_neg h, Option.bind_some]
    have h2 : ¬ 0 ≤ U := fun z => h ((cmp_ge _ _).mpr z)
    rw [if_neg (fun z => h2 (Int64.le_of_lt z))]
theorem op_count {ro rn tn fx fy ar wh : Int32} (hG : Rg ro rn tn fx fy ar wh) (hR : Rl X Y N pt px py) (a1 : Int32) : Ag (f_X1_count ro rn tn X Y N a1) (f_X2_count ro pt px py rn tn a1) := by
  obtain ⟨g1, g2, -⟩ := hG
  have hr := Ro_of g1
  unfold f_X1_count f_X2_count
  rcases fig_case hR a1 with h | ⟨f, c, hf, rfl, hF, hN, hM⟩
  · simp only [m_isFigure, h, Option.bind_some, b2i_0]
    exact Ag.e _
  · have hc := hF.1
    have k1 : f_X0_alongX (X f) (Y f) (nI c) 1 (nI c) = some (sumTo (aL 1 c (X f) (Y f)) c) := c_alongX (k := 1) hF (by decide) (by decide) (Nat.le_refl c)
    have j1 : f_X2_along pt px py (nI f) (nI c) 1 = some (sumTo (aL 1 c (X f) (Y f)) c) := m_along (k := 1) hF hM hf (by decide) (by decide) (Nat.le_refl c)
    simp only [m_isFigure, bin_nI hf (by decide), if_true, ov, nI_clamp (show f < 2 ^ 31 by omega), hN, hM.1, Option.bind_some, b2i_0, m_isClosed hf hc hM.1, c_goesRound hF hr, m_canGo hM hf hc, k1, j1, bind_id, abs_bind]
    obtain ⟨r, h1, h2, rfl⟩ := inb_nat (lo := 1) (hi := 400) g1 (by decide) (by decide)
    obtain ⟨u, h3, h4, rfl⟩ := inb_nat (lo := 1) (hi := 1000) g2 (by decide) (by decide)
    have e : (2 : Int64) * (nI r).toInt64 * (nI u).toInt64 = lN (2 * r * u) := by
      rw [nI_l (by omega), nI_l (by omega), show (2 : Int64) = lN 2 from rfl, lN_mul, lN_mul]
    rw [e]
    have p1 : 1 * 1 ≤ 2 * r * u := Nat.mul_le_mul (by omega) h3
    have p2 : 2 * r * u ≤ 800 * 1000 := Nat.mul_le_mul (by omega) h4
    have hz := lN_ne0 (b := 2 * r * u) (by omega) (by omega)
    have cu : ∀ z : Int64, f_X1_cut z (lN (2 * r * u)) = some (z / lN (2 * r * u)) := by
      intro z
      unfold f_X1_cut
      rw [if_neg (fun q => by
        have q2 := (pk_lLE (a := 2 * r * u) (b := 0) (by omega) (by decide)).mp ((cmp_le _ _).mp q)
        omega), if_neg hz]
    simp only [cu, if_neg hz]
    cases decide (3 ≤ c) <;> cases anyTo (farB (Y f) (nI r)) c <;> exact Ag.e _
def cntB (a b c : Int32) : Bool := inb a 0 1000000 && (inb b 0 100 && inb c 0 100)
theorem c_readable (a b c : Int32) : f_X1_readable a b c = some (b2i (cntB a b c)) := by
  unfold f_X1_readable cntB
  simp only [c_from0To, Option.bind_some, b2i_0]
  cases inb a 0 1000000 <;> cases inb b 0 100 <;> cases inb c 0 100 <;> rfl
theorem m_isCount (a b c : Int32) : f_X2_isCount a b c = some (b2i (cntB a b c)) := by
  unfold f_X2_isCount cntB
  simp only [m_in2, Option.bind_some, b2i_0]
  cases inb a 0 1000000 <;> cases inb b 0 100 <;> cases inb c 0 100 <;> rfl
theorem cnt_nat {a b c : Int32} (h : cntB a b c = true) : ∃ i j k : Nat, i ≤ 1000000 ∧ j ≤ 100 ∧ k ≤ 100 ∧ a = nI i ∧ b = nI j ∧ c = nI k := by
  unfold cntB at h
  rw [Bool.and_eq_true, Bool.and_eq_true] at h
  obtain ⟨i, -, hi, e1⟩ := inb_nat (lo := 0) (hi := 1000000) h.1 (by decide) (by decide)
  obtain ⟨j, -, hj, e2⟩ := inb_nat (lo := 0) (hi := 100) h.2.1 (by decide) (by decide)
  obtain ⟨k, -, hk, e3⟩ := inb_nat (lo := 0) (hi := 100) h.2.2 (by decide) (by decide)
  exact ⟨i, j, k, hi, hj, hk, e1, e2, e3⟩
theorem c_least {i j k : Nat} (hi : i ≤ 1000000) (hj : j ≤ 100) (hk : k ≤ 100) : f_X1_leastTeeth (nI i) (nI j) (nI k) = some (lN (i - j * k)) := by
  have hjk : j * k ≤ 100 * 100 := Nat.mul_le_mul hj hk
  unfold f_X1_leastTeeth mmax
  simp only [ov]
  rw [pk_mul]
  congr 1
  by_cases h : j * k ≤ i
  · rw [pk_sub h]
    by_cases h2 : i - j * k = 0
    · rw [h2]; rfl
    · rw [if_pos (show (0 : Int32) < nI (i - j * k) from nI_lt (a := 0) (by omega) (by omega)), nI_l (by omega)]
  · rw [if_neg (Int32.not_lt.mpr (Int32.le_of_lt (pk_sneg (by omega) (by omega)))), show i - j * k = 0 by omega]; rfl
theorem c_below {i j k : Nat} (hi : i ≤ 1000000) (hj : j ≤ 100) (hk : k ≤ 100) : f_X1_belowTeeth (nI i) (nI j) (nI k) = some (lN (i + 1 + j * k)) := by
  have hjk : j * k ≤ 100 * 100 := Nat.mul_le_mul hj hk
  unfold f_X1_belowTeeth
  rw [pk_mul, nI_1, nI_add, nI_l (by omega)]
theorem m_bound0 {i j k : Nat} (hi : i ≤ 1000000) (hj : j ≤ 100) (hk : k ≤ 100) : f_X2_bound (nI i) (nI j) (nI k) 0 = some (lN (i - j * k)) := by
  have hjk : j * k ≤ 100 * 100 := Nat.mul_le_mul hj hk
  unfold f_X2_bound
  rw [if_pos rfl, Option.bind_some, nI_l (by omega), nI_l (by omega), nI_l (by omega), lN_mul]
  by_cases h : j * k ≤ i
  · rw [lN_sub h, if_pos (show 0 ≤ lg_cmp (lN (i - j * k)) 0 from (cmp_ge _ _).mpr ((pk_lLE (a := 0) (by decide) (by omega)).mpr (Nat.zero_le _)))]
  · have hn : ¬ (0 : Int64) ≤ lN i - lN (j * k) := by
      intro q
      have q2 := Int64.le_iff_toInt_le.mp q
      rw [(lb_sub (lN_lb (k := i) (Nat.le_refl i) (by omega)) (lN_lb (k := j * k) (Nat.le_refl _) (by omega)) (by omega)).1, pk_lT (by omega), pk_lT (by omega), show (0 : Int64).toInt = 0 from rfl] at q2
      omega
    rw [if_neg (fun q => hn ((cmp_ge _ _).mp q)), show i - j * k = 0 by omega]; rfl
theorem m_bound1 {i j k : Nat} (hi : i ≤ 1000000) (hj : j ≤ 100) (hk : k ≤ 100) : f_X2_bound (nI i) (nI j) (nI k) 1 = some (lN (i + 1 + j * k)) := by
  have hjk : j * k ≤ 100 * 100 := Nat.mul_le_mul hj hk
  unfold f_X2_bound
  rw [if_neg (by decide), Option.bind_some, nI_l (by omega), nI_l (by omega), nI_l (by omega), lN_mul, show (1 : Int64) = lN 1 from rfl, lN_add, lN_add]
  rw [if_pos (show 0 ≤ lg_cmp (lN (i + 1 + j * k)) 0 from (cmp_ge _ _).mpr ((pk_lLE (a := 0) (by decide) (by omega)).mpr (Nat.zero_le _)))]
theorem op_may {ro rn tn fx fy ar wh : Int32} (hG : Rg ro rn tn fx fy ar wh) (a1 a2 a3 a4 a5 : Int32) : Ag (f_X1_may ro rn tn a1 a2 a3 a4 a5) (f_X2_may ro rn tn a1 a2 a3 a4 a5) := by
  obtain ⟨g1, g2, g3, -⟩ := hG
  unfold f_X1_may f_X2_may
  simp only [c_readable, m_isCount, c_zeroOrOne, m_isPart, Option.bind_some, b2i_0, bind_id]
  cases e1 : cntB a1 a2 a3 with
  | false => exact Ag.e _
  | true =>
    cases e4 : inb a4 0 1 with
    | false => exact Ag.e _
    | true =>
      cases e5 : inb a5 0 1 with
      | false => exact Ag.e _
      | true =>
        obtain ⟨i, j, k, hi, hj, hk, rfl, rfl, rfl⟩ := cnt_nat e1
        obtain ⟨r, h1, h2, rfl⟩ := inb_nat (lo := 1) (hi := 400) g1 (by decide) (by decide)
        obtain ⟨u, h3, h4, rfl⟩ := inb_nat (lo := 1) (hi := 1000) g2 (by decide) (by decide)
        obtain ⟨t, h5, h6, rfl⟩ := inb_nat (lo := 1) (hi := 10000) g3 (by decide) (by decide)
        have hjk : j * k ≤ 100 * 100 := Nat.mul_le_mul hj hk
        simp only [Bool.true_eq_false, if_false]
        have fin : ∀ v : Nat, v ≤ 1010001 → Ag (f_X1_fraction (lN v * (nI u).toInt64 * (nI r).toInt64) (nI t).toInt64 a5) (f_X2_term (lN v * (nI u).toInt64 * (nI r).toInt64) (nI t).toInt64 a5) := by
          intro v hv
          rw [nI_l (show t < 2 ^ 31 by omega), nI_l (show u < 2 ^ 31 by omega), nI_l (show r < 2 ^ 31 by omega)]
          exact frac (lb_le (lb_mul (lb_mul (lN_lb hv (by decide)) (lN_lb h4 (by decide)) (by decide)).2 (lN_lb h2 (by decide)) (by decide)).2 (by decide)) (by omega) (by omega) a5
        rcases zo e4 with rfl | rfl
        · rw [if_pos rfl, c_least hi hj hk, m_bound0 hi hj hk, Option.bind_some, Option.bind_some]
          exact fin _ (by omega)
        · rw [if_neg (by decide), c_below hi hj hk, m_bound1 hi hj hk, Option.bind_some, Option.bind_some]
          exact fin _ (by omega)
theorem c_oneIf0 : f_X1_oneIf 0 = some 0 := by unfold f_X1_oneIf; rw [if_pos rfl]
theorem c_oneIf1 : f_X1_oneIf 1 = some 1 := by unfold f_X1_oneIf; rw [if_neg (by decide)]
theorem ov_e {α β : Type} (e : α) (k : α → Option β) : ov e k = k e := id rfl
theorem bs_e {α β : Type} (e : α) (k : α → Option β) : (some e).bind k = k e := id rfl
theorem op_fits {ro rn tn fx fy ar wh : Int32} (hG : Rg ro rn tn fx fy ar wh) (hR : Rl X Y N pt px py) (a1 a2 a3 a4 : Int32) : Ag (f_X1_fits ro rn tn X Y N a1 a2 a3 a4) (f_X2_fits ro pt px py rn tn a1 a2 a3 a4) := by
  unfold f_X1_fits f_X2_fits
  rcases fig_case hR a1 with h | ⟨f, c, hf, rfl, hF, hN, hM⟩
  · simp only [m_isFigure, h, Option.bind_some, b2i_0]
    exact Ag.e _
  · have hc := hF.1
    simp only [m_isFigure, bin_nI hf (by decide), if_true, ov_e, nI_clamp (show f < 2 ^ 31 by omega), hN, bs_e, b2i_0, c_closed hc, m_isClosed hf hc hM.1, c_readable, m_isCount, c_oneIf0, c_oneIf1]
    rw [c_doubleArea hF, m_twiceOf hM hf hc]
    simp only [bs_e, abs_bind]
    cases e1 : cntB a2 a3 a4 with
    | false => exact Ag.e _
    | true =>
      obtain ⟨i, j, k, hi, hj, hk, rfl, rfl, rfl⟩ := cnt_nat e1
      simp only [c_least hi hj hk, c_below hi hj hk, m_bound0 hi hj hk, m_bound1 hi hj hk, bs_e, cmp_lt, cmp_ge, Bool.true_eq_false, if_false]
      cases decide (3 ≤ c) with
      | false => exact Ag.e _
      | true =>
        simp only [Bool.true_eq_false, if_false]
        generalize mabsL (sumTo (dA c (X f) (Y f)) c) * tn.toInt64 = z
        by_cases q1 : z < lN (i - j * k) * (2 * rn.toInt64 * ro.toInt64)
        · simp only [if_pos q1]; exact Ag.e _
        · simp only [if_neg q1]
          by_cases q2 : lN (i + 1 + j * k) * (2 * rn.toInt64 * ro.toInt64) ≤ z
          · simp only [if_pos q2]; exact Ag.e _
          · simp only [if_neg q2]; exact Ag.e _
end Ops2
/-! settings -/
theorem op_rod {ro rn tn fx fy ar wh : Int32} (hG : Rg ro rn tn fx fy ar wh) (a1 : Int32) : ∃ r : Int32 × Int32, f_X1_rod ro a1 = some r ∧ f_X2_rod ro a1 = some r ∧ Rg r.2 rn tn fx fy ar wh := by
  unfold f_X1_rod f_X2_rod
  simp only [c_from1To, m_in2, Option.bind_some, b2i_0]
  cases e : inb a1 1 400 with
  | false => exact ⟨_, rfl, rfl, hG⟩
  | true => exact ⟨_, rfl, rfl, e, hG.2⟩
theorem op_teeth {ro rn tn fx fy ar wh : Int32} (hG : Rg ro rn tn fx fy ar wh) (a1 a2 : Int32) : ∃ r : Int32 × Int32 × Int32, f_X1_teeth rn tn a1 a2 = some r ∧ f_X2_teeth rn tn a1 a2 = some r ∧ Rg ro r.2.1 r.2.2 fx fy ar wh := by
  unfold f_X1_teeth f_X2_teeth
  simp only [c_from1To, m_in2, Option.bind_some, b2i_0]
  cases e : inb a1 1 1000 with
  | false => exact ⟨_, rfl, rfl, hG⟩
  | true =>
    cases e2 : inb a2 1 10000 with
    | false => exact ⟨_, rfl, rfl, hG⟩
    | true => exact ⟨_, rfl, rfl, hG.1, e, e2, hG.2.2.2⟩
theorem op_arm {ro rn tn fx fy ar wh : Int32} (hG : Rg ro rn tn fx fy ar wh) (a1 a2 a3 a4 : Int32) : ∃ r : Int32 × Int32 × Int32 × Int32 × Int32, f_X1_arm fx fy ar wh a1 a2 a3 a4 = some r ∧ f_X2_arm fx fy ar wh a1 a2 a3 a4 = some r ∧ Rg ro rn tn r.2.1 r.2.2.1 r.2.2.2.1 r.2.2.2.2 := by
  unfold f_X1_arm f_X2_arm
  simp only [c_from1To, c_within, m_in2, m_isPlace, Option.bind_some, b2i_0]
  cases e : inb a1 (-200) 200 with
  | false => exact ⟨_, rfl, rfl, hG⟩
  | true =>
    cases e2 : inb a2 (-200) 200 with
    | false => exact ⟨_, rfl, rfl, hG⟩
    | true =>
      cases e3 : inb a3 1 400 with
      | false => exact ⟨_, rfl, rfl, hG⟩
      | true =>
        cases e4 : inb a4 (-100) 100 with
        | false => exact ⟨_, rfl, rfl, hG⟩
        | true => exact ⟨_, rfl, rfl, hG.1, hG.2.1, hG.2.2.1, e, e2, e3, e4⟩
