/-! the object and the model hold the same figures; calls that read, one by one -/
def Rl (X Y : Nat → Nat → Int32) (N : Nat → Int32) (pt px py : Nat → Int32) : Prop := ∀ f, f < 6 → ∃ c, Fg c (X f) (Y f) ∧ N f = nI c ∧ Mf c (X f) (Y f) pt px py f
def Ag {α : Type} (a b : Option α) : Prop := ∃ r, a = some r ∧ b = some r
theorem Ag.of {α : Type} {a b : Option α} {r : α} (h1 : a = some r) (h2 : b = some r) : Ag a b := ⟨r, h1, h2⟩
theorem Ag.e {α : Type} (r : α) : Ag (some r) (some r) := ⟨r, rfl, rfl⟩
section Ops
variable {X Y : Nat → Nat → Int32} {N : Nat → Int32} {pt px py : Nat → Int32}
theorem fig_case (hR : Rl X Y N pt px py) (a : Int32) : bin a 6 = false ∨ ∃ f c, f < 6 ∧ a = nI f ∧ Fg c (X f) (Y f) ∧ N f = nI c ∧ Mf c (X f) (Y f) pt px py f := by
  cases h : bin a 6 with
  | false => exact Or.inl rfl
  | true =>
    obtain ⟨f, hf, rfl⟩ := bin_of h (by decide)
    obtain ⟨c, h1, h2, h3⟩ := hR f hf
    exact Or.inr ⟨f, c, hf, rfl, h1, h2, h3⟩
theorem op_twice (hR : Rl X Y N pt px py) (a1 : Int32) : Ag (f_X1_twice X Y N a1) (f_X2_twice pt px py a1) := by
  unfold f_X1_twice f_X2_twice
  rcases fig_case hR a1 with h | ⟨f, c, hf, rfl, hF, hN, hM⟩
  · simp only [m_isFigure, h, Option.bind_some, b2i_0]
    exact Ag.e _
  · have hc := hF.1
    simp only [m_isFigure, bin_nI hf (by decide), if_true, ov, nI_clamp (show f < 2 ^ 31 by omega), hN, Option.bind_some, b2i_0, c_closed hc, m_isClosed hf hc hM.1, c_doubleArea hF, m_twiceOf hM hf hc]
    cases decide (3 ≤ c) <;> exact Ag.e _
theorem op_at (hR : Rl X Y N pt px py) (a1 a2 a3 : Int32) : Ag (f_X1_at X Y N a1 a2 a3) (f_X2_at pt px py a1 a2 a3) := by
  unfold f_X1_at f_X2_at
  rcases fig_case hR a1 with h | ⟨f, c, hf, rfl, hF, hN, hM⟩
  · simp only [m_isFigure, h, Option.bind_some, b2i_0]
    exact Ag.e _
  · have hc := hF.1
    simp only [m_isFigure, bin_nI hf (by decide), if_true, ov, nI_clamp (show f < 2 ^ 31 by omega), hN, Option.bind_some, b2i_0, c_has hc, m_isPoint hf hc hM.1, hM.1, c_zeroOrOne, Bool.true_eq_false, if_false]
    by_cases h1 : a2 = -1
    · rw [if_pos h1, if_pos h1]; exact Ag.e _
    · rw [if_neg h1, if_neg h1]
      cases hb : bin a2 c with
      | false => exact Ag.e _
      | true =>
        obtain ⟨i, hi, rfl⟩ := bin_of hb (by omega)
        simp only [c_x (show i < 24 by omega), c_y (show i < 24 by omega), m_x0 hM hf hc hi, m_y0 hM hf hc hi, Option.bind_some, Bool.true_eq_false, if_false]
        by_cases h2 : a3 = 0
        · subst h2; exact Ag.e _
        · by_cases h3 : a3 = 1
          · subst h3; exact Ag.e _
          · have e : inb a3 0 1 = false := by
              cases e : inb a3 0 1 with
              | false => rfl
              | true =>
                have q := inb_iff.mp e
                rw [show (0 : Int32).toInt = 0 from rfl, show (1 : Int32).toInt = 1 from rfl] at q
                rcases (show a3.toInt = 0 ∨ a3.toInt = 1 by omega) with z | z
                · exact absurd (Int32.toInt_inj.mp (z.trans (show (0 : Int) = (0 : Int32).toInt from rfl))) h2
                · exact absurd (Int32.toInt_inj.mp (z.trans (show (1 : Int) = (1 : Int32).toInt from rfl))) h3
            rw [e, if_pos rfl, if_neg h2, if_neg h3]; exact Ag.e _
theorem sm_of_inb {a lo hi : Int32} {A : Nat} (h : inb a lo hi = true) (h1 : -(A : Int) ≤ lo.toInt) (h2 : hi.toInt ≤ A) : sm A a := by
  have q := inb_iff.mp h
  unfold sm; omega
theorem op_winds (hR : Rl X Y N pt px py) (a1 a2 a3 : Int32) : Ag (f_X1_winds X Y N a1 a2 a3) (f_X2_winds pt px py a1 a2 a3) := by
  unfold f_X1_winds f_X2_winds
  rcases fig_case hR a1 with h | ⟨f, c, hf, rfl, hF, hN, hM⟩
  · simp only [m_isFigure, h, Option.bind_some, b2i_0]
    exact Ag.e _
  · have hc := hF.1
    simp only [m_isFigure, bin_nI hf (by decide), if_true, ov, nI_clamp (show f < 2 ^ 31 by omega), hN, Option.bind_some, b2i_0, c_closed hc, m_isClosed hf hc hM.1, c_within, m_in2]
    cases e1 : inb a2 (-300) 300 with
    | false => exact Ag.e _
    | true =>
      cases e2 : inb a3 (-300) 300 with
      | false => exact Ag.e _
      | true =>
        have s2 : sm 300 a2 := sm_of_inb e1 (by decide) (by decide)
        have s3 : sm 300 a3 := sm_of_inb e2 (by decide) (by decide)
        simp only [c_carries hF, c_turnsRound hF, m_windsOf hF hM hf s2 s3, Option.bind_some, b2i_0]
        cases decide (3 ≤ c) with
        | false => exact Ag.e _
        | true => cases anyTo (onS c (X f) (Y f) a2 a3) c <;> exact Ag.e _
theorem op_can {ro : Int32} (hr : Ro ro) (hR : Rl X Y N pt px py) (a1 : Int32) : Ag (f_X1_can ro X Y N a1) (f_X2_can ro pt py a1) := by
  unfold f_X1_can f_X2_can
  rcases fig_case hR a1 with h | ⟨f, c, hf, rfl, hF, hN, hM⟩
  · simp only [m_isFigure, h, Option.bind_some, b2i_0]
    exact Ag.e _
  · have hc := hF.1
    simp only [m_isFigure, bin_nI hf (by decide), if_true, ov, nI_clamp (show f < 2 ^ 31 by omega), hN, Option.bind_some, b2i_0, c_closed hc, m_isClosed hf hc hM.1, c_goesRound hF hr, m_canGo hM hf hc]
    cases decide (3 ≤ c) <;> cases anyTo (farB (Y f) ro) c <;> exact Ag.e _
theorem Ro_nat {ro : Int32} (h : Ro ro) : ∃ r : Nat, 1 ≤ r ∧ r ≤ 400 ∧ ro = nI r := by
  unfold Ro at h
  obtain ⟨j, hj, rfl⟩ := nI_of (x := ro) (fun q => by
    have := Int32.lt_iff_toInt_lt.mp q
    rw [show (0 : Int32).toInt = 0 from rfl] at this
    omega)
  rw [nI_toInt hj] at h
  exact ⟨j, by omega, by omega, rfl⟩
theorem inb_nI {a : Int32} {m : Nat} (hm : m < 2 ^ 31) (h : inb a 0 (nI m) = true) : ∃ j : Nat, j ≤ m ∧ a = nI j := by
  have q := inb_iff.mp h
  rw [show (0 : Int32).toInt = 0 from rfl, nI_toInt hm] at q
  obtain ⟨j, hj, rfl⟩ := nI_of (x := a) (fun z => by
    have := Int32.lt_iff_toInt_lt.mp z
    rw [show (0 : Int32).toInt = 0 from rfl] at this
    omega)
  rw [nI_toInt hj] at q
  exact ⟨j, by omega, rfl⟩
theorem bind_id {α : Type} (a : Option α) : (a.bind fun r => some r) = a := by cases a <;> rfl
theorem op_told {ro : Int32} (hr : Ro ro) (hR : Rl X Y N pt px py) (a1 a2 a3 : Int32) : Ag (f_X1_told ro X Y N a1 a2 a3) (f_X2_told ro pt px py a1 a2 a3) := by
  unfold f_X1_told f_X2_told
  rcases fig_case hR a1 with h | ⟨f, c, hf, rfl, hF, hN, hM⟩
  · simp only [m_isFigure, h, Option.bind_some, b2i_0]
    exact Ag.e _
  · have hc := hF.1
    simp only [m_isFigure, bin_nI hf (by decide), if_true, ov, nI_clamp (show f < 2 ^ 31 by omega), hN, hM.1, Option.bind_some, b2i_0, m_isClosed hf hc hM.1, c_goesRound hF hr, m_canGo hM hf hc, c_from0To, m_in2, c_zeroOrOne, m_isPart]
    cases e1 : inb a2 0 (nI c) with
    | false => exact Ag.e _
    | true =>
      obtain ⟨m, hm, rfl⟩ := inb_nI (show c < 2 ^ 31 by omega) e1
      cases inb a3 0 1 with
      | false => exact Ag.e _
      | true =>
        obtain ⟨r, h1, h2, rfl⟩ := Ro_nat hr
        cases decide (3 ≤ c) <;> cases anyTo (farB (Y f) (nI r)) c
        · exact Ag.e _
        · exact Ag.e _
        · simp only [bind_id]
          show Ag ((f_X0_alongX (X f) (Y f) (nI c) (nI 1) (nI m)).bind _) ((f_X2_along pt px py (nI f) (nI m) (nI 1)).bind _)
          rw [c_alongX hF (by decide) (by decide) hm, m_along hF hM hf (by decide) (by decide) hm, Option.bind_some, Option.bind_some]
          rw [nI_l (by omega), show (2 : Int64) = lN 2 from rfl, lN_mul]
          exact frac (lb_le (lb_along hF (by decide) (by decide) hm) (by decide)) (by omega) (by omega) a3
        · exact Ag.e _
theorem op_moment (hR : Rl X Y N pt px py) (a1 a2 a3 : Int32) : Ag (f_X1_moment X Y N a1 a2 a3) (f_X2_moment pt px py a1 a2 a3) := by
  unfold f_X1_moment f_X2_moment
  rcases fig_case hR a1 with h | ⟨f, c, hf, rfl, hF, hN, hM⟩
  · simp only [m_isFigure, h, Option.bind_some, b2i_0]
    exact Ag.e _
  · have hc := hF.1
    simp only [m_isFigure, bin_nI hf (by decide), if_true, ov, nI_clamp (show f < 2 ^ 31 by omega), hN, hM.1, Option.bind_some, b2i_0, c_closed hc, m_isClosed hf hc hM.1, c_from0To, m_in2, c_zeroOrOne, m_isPart]
    cases e1 : inb a2 0 2 with
    | false => exact Ag.e _
    | true =>
      obtain ⟨m, hm, rfl⟩ := inb_nI (m := 2) (by decide) e1
      cases inb a3 0 1 with
      | false => exact Ag.e _
      | true =>
        cases decide (3 ≤ c)
        · exact Ag.e _
        · simp only [bind_id, nI_1, c_alongX hF (show 1 ≤ m + 1 by omega) (show m + 1 ≤ 3 by omega) (Nat.le_refl c), m_along hF hM hf (show 1 ≤ m + 1 by omega) (show m + 1 ≤ 3 by omega) (Nat.le_refl c), Option.bind_some]
          rw [nI_l (by omega), show (2 : Int64) = lN 2 from rfl, show (1 : Int64) = lN 1 from rfl, lN_add, lN_add, lN_mul, lN_mul, Nat.mul_comm (m + 1) (m + 2)]
          have hm3 : (m + 2) * (m + 1) ≤ 4 * 3 := Nat.mul_le_mul (by omega) (by omega)
          have hm4 : 0 < (m + 2) * (m + 1) := Nat.mul_pos (by omega) (by omega)
          exact frac (lb_le (lb_neg (lb_along hF (by omega) (by omega) (Nat.le_refl c)) (by decide)).2 (by decide)) hm4 (by omega) a3
theorem op_geared {ro : Int32} (hr : Ro ro) (hR : Rl X Y N pt px py) (a1 a2 a3 : Int32) : Ag (f_X1_geared ro X Y N a1 a2 a3) (f_X2_geared ro pt px py a1 a2 a3) := by
  unfold f_X1_geared f_X2_geared f_X1_gearedRound
  rcases fig_case hR a1 with h | ⟨f, c, hf, rfl, hF, hN, hM⟩
  · simp only [m_isFigure, h, Option.bind_some, b2i_0]
    exact Ag.e _
  · have hc := hF.1
    have k1 : f_X0_alongX (X f) (Y f) (nI c) 1 (nI c) = some (sumTo (aL 1 c (X f) (Y f)) c) := c_alongX (k := 1) hF (by decide) (by decide) (Nat.le_refl c)
    have k2 : f_X0_alongX (X f) (Y f) (nI c) 2 (nI c) = some (sumTo (aL 2 c (X f) (Y f)) c) := c_alongX (k := 2) hF (by decide) (by decide) (Nat.le_refl c)
    have k3 : f_X0_alongX (X f) (Y f) (nI c) 3 (nI c) = some (sumTo (aL 3 c (X f) (Y f)) c) := c_alongX (k := 3) hF (by decide) (by decide) (Nat.le_refl c)
    have j1 : f_X2_along pt px py (nI f) (nI c) 1 = some (sumTo (aL 1 c (X f) (Y f)) c) := m_along (k := 1) hF hM hf (by decide) (by decide) (Nat.le_refl c)
    have j2 : f_X2_along pt px py (nI f) (nI c) 2 = some (sumTo (aL 2 c (X f) (Y f)) c) := m_along (k := 2) hF hM hf (by decide) (by decide) (Nat.le_refl c)
    have j3 : f_X2_along pt px py (nI f) (nI c) 3 = some (sumTo (aL 3 c (X f) (Y f)) c) := m_along (k := 3) hF hM hf (by decide) (by decide) (Nat.le_refl c)
    simp only [m_isFigure, bin_nI hf (by decide), if_true, ov, nI_clamp (show f < 2 ^ 31 by omega), hN, hM.1, Option.bind_some, b2i_0, m_isClosed hf hc hM.1, c_goesRound hF hr, m_canGo hM hf hc, c_from1To, m_in2, c_zeroOrOne, m_isPart, k1, k2, k3, j1, j2, j3, bind_id]
    have b1 := lb_along hF (k := 1) (by decide) (by decide) (Nat.le_refl c)
    have b2 := lb_along hF (k := 2) (by decide) (by decide) (Nat.le_refl c)
    have b3 := lb_along hF (k := 3) (by decide) (by decide) (Nat.le_refl c)
    generalize sumTo (aL 1 c (X f) (Y f)) c = s1 at b1 ⊢
    generalize sumTo (aL 2 c (X f) (Y f)) c = s2 at b2 ⊢
    generalize sumTo (aL 3 c (X f) (Y f)) c = s3 at b3 ⊢
    cases inb a2 1 3 with
    | false => exact Ag.e _
    | true =>
      cases inb a3 0 1 with
      | false => exact Ag.e _
      | true =>
        obtain ⟨r, h1, h2, rfl⟩ := Ro_nat hr
        have br : lb 400 (lN r) := by unfold lb; rw [pk_lT (by omega)]; omega
        have brr := (lb_mul br br (by decide)).2
        have l2 : lb 2 (2 : Int64) := show (2 : Int64).toInt.natAbs ≤ 2 by decide
        have l3 : lb 3 (3 : Int64) := show (3 : Int64).toInt.natAbs ≤ 3 by decide
        have lm2 : lb 2 (-2 : Int64) := show (-2 : Int64).toInt.natAbs ≤ 2 by decide
        cases decide (3 ≤ c) <;> cases anyTo (farB (Y f) (nI r)) c
        · exact Ag.e _
        · exact Ag.e _
        · rw [nI_l (by omega)]
          by_cases g1 : a2 = 1
          · subst g1
            show Ag (f_X1_fraction s1 ((2 : Int64) * lN r) a3) (f_X2_term s1 ((2 : Int64) * lN r) a3)
            rw [show (2 : Int64) = lN 2 from rfl, lN_mul]
            exact frac (lb_le b1 (by decide)) (by omega) (by omega) a3
          · by_cases g2 : a2 = 2
            · subst g2
              show Ag (f_X1_fraction ((-2 : Int64) * s2) ((3 : Int64) * (lN r * lN r)) a3) (f_X2_term ((-2 : Int64) * s2) ((3 : Int64) * lN r * lN r) a3)
              have hrr : r * r ≤ 400 * 400 := Nat.mul_le_mul h2 h2
              have hrp : 1 * 1 ≤ r * r := Nat.mul_le_mul h1 h1
              rw [show (3 : Int64) = lN 3 from rfl, lN_mul, lN_mul, lN_mul, lN_mul, Nat.mul_assoc]
              exact frac (lb_le (lb_mul lm2 b2 (by decide)).2 (by decide)) (by omega) (by omega) a3
            · simp only [if_neg g1, if_neg g2]
              show Ag (f_X1_fraction ((3 : Int64) * (lN r * lN r) * s1 - (2 : Int64) * s3) ((2 : Int64) * (lN r * lN r) * lN r) a3) (f_X2_term ((3 : Int64) * s1 * lN r * lN r - (2 : Int64) * s3) ((2 : Int64) * lN r * lN r * lN r) a3)
              have hrr : r * r ≤ 400 * 400 := Nat.mul_le_mul h2 h2
              have hrp : 1 * 1 ≤ r * r := Nat.mul_le_mul h1 h1
              have hr3 : r * r * r ≤ 160000 * 400 := Nat.mul_le_mul hrr h2
              have hr4 : 1 * 1 ≤ r * r * r := Nat.mul_le_mul hrp h1
              have e1 : (3 : Int64) * s1 * lN r * lN r - 2 * s3 = 3 * (lN r * lN r) * s1 - 2 * s3 := by grind
              have e2 : (2 : Int64) * lN r * lN r * lN r = lN (2 * (r * r * r)) := by
                rw [show (2 : Int64) = lN 2 from rfl, lN_mul, lN_mul, lN_mul, Nat.mul_assoc, Nat.mul_assoc, Nat.mul_assoc]
              have e3 : (2 : Int64) * (lN r * lN r) * lN r = lN (2 * (r * r * r)) := by
                rw [show (2 : Int64) = lN 2 from rfl, lN_mul, lN_mul, lN_mul, Nat.mul_assoc]
              rw [e1, e2, e3]
              exact frac (lb_le (lb_sub (lb_mul (lb_mul l3 brr (by decide)).2 b1 (by decide)).2 (lb_mul l2 b3 (by decide)).2 (by decide)).2 (by decide)) (by omega) (by omega) a3
        · exact Ag.e _
end Ops
