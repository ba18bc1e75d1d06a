/-! gates: what lies where -/
def inb (a lo hi : Int32) : Bool := decide (lo ≤ a) && decide (a ≤ hi)
theorem inb_iff {a lo hi : Int32} : inb a lo hi = true ↔ lo.toInt ≤ a.toInt ∧ a.toInt ≤ hi.toInt := by
  unfold inb
  rw [Bool.and_eq_true, decide_eq_true_iff, decide_eq_true_iff, Int32.le_iff_toInt_le, Int32.le_iff_toInt_le]
theorem two_if (a lo hi : Int32) : (if a < lo then some (0 : Int32) else if hi < a then some 0 else some 1) = some (b2i (inb a lo hi)) := by
  unfold inb b2i
  grind
theorem c_within (a r : Int32) : f_X1_within a r = some (b2i (inb a (-r) r)) := two_if a (-r) r
theorem c_from0To (a r : Int32) : f_X1_from0To a r = some (b2i (inb a 0 r)) := two_if a 0 r
theorem c_from1To (a r : Int32) : f_X1_from1To a r = some (b2i (inb a 1 r)) := two_if a 1 r
theorem m_in2 (a lo hi : Int32) : f_X2_in a lo hi = some (b2i (inb a lo hi)) := two_if a lo hi
theorem c_zeroOrOne (a : Int32) : f_X1_zeroOrOne a = some (b2i (inb a 0 1)) := by
  unfold f_X1_zeroOrOne inb b2i
  grind
theorem m_isPart (a : Int32) : f_X2_isPart a = some (b2i (inb a 0 1)) := by
  unfold f_X2_isPart
  rw [m_in2, Option.bind_some, if_pos (b2i_and _)]
theorem m_isPlace (a : Int32) : f_X2_isPlace a = some (b2i (inb a (-100) 100)) := by
  unfold f_X2_isPlace
  rw [m_in2, Option.bind_some, if_pos (b2i_and _)]
theorem bin6 (a : Int32) : inb a 0 5 = bin a 6 := by
  have h : inb a 0 5 = true ↔ bin a 6 = true := by
    rw [inb_iff, bin_in, vp_in_iff, show (0 : Int32).toInt = 0 from rfl, show (5 : Int32).toInt = 5 from rfl]
    omega
  cases e : bin a 6 with
  | true => exact h.mpr e
  | false =>
    cases e2 : inb a 0 5 with
    | false => rfl
    | true => rw [h.mp e2] at e; cases e
theorem m_isFigure (a : Int32) : f_X2_isFigure a = some (b2i (bin a 6)) := by
  unfold f_X2_isFigure
  rw [m_in2, Option.bind_some, if_pos (b2i_and _), bin6]
theorem bin_of {a : Int32} {n : Nat} (h : bin a n = true) (hn : n < 2 ^ 31) : ∃ j : Nat, j < n ∧ a = nI j := vp_in_of (bin_in.mp h) hn
theorem c_has {c : Nat} (hc : c ≤ 24) (a : Int32) : f_X0_has (nI c) a = some (b2i (bin a c)) := by
  unfold f_X0_has
  have e : ∀ b : Bool, (b = true ↔ ¬ a < 0 ∧ ¬ nI c ≤ a) → (if a < 0 then some (0 : Int32) else if nI c ≤ a then some 0 else some 1) = some (b2i b) := by
    intro b hb
    unfold b2i
    grind
  refine e _ ?_
  rw [bin_in, vp_in_iff, Int32.lt_iff_toInt_lt, Int32.le_iff_toInt_le, nI_toInt (by omega), show (0 : Int32).toInt = 0 from rfl]
  omega
theorem m_isPoint {c f : Nat} {pt : Nat → Int32} (hf : f < 6) (hc : c ≤ 24) (hp : pt f = nI c) (a : Int32) : f_X2_isPoint pt (nI f) a = some (b2i (bin a c)) := by
  unfold f_X2_isPoint
  rw [m_isFigure, bin_nI hf (by decide), Option.bind_some]
  rw [if_neg (by decide), if_pos rfl, nI_clamp (by omega), hp, m_in2, Option.bind_some]
  have e : inb a 0 (nI c - 1) = bin a c := by
    have h : inb a 0 (nI c - 1) = true ↔ bin a c = true := by
      rw [inb_iff, bin_in, vp_in_iff, show (nI c - 1).toInt = (c : Int) - 1 from pk_sub_toInt (a := c) (b := 1) (by omega) (by decide), show (0 : Int32).toInt = 0 from rfl]
      omega
    cases e : bin a c with
    | true => exact h.mpr e
    | false =>
      cases e2 : inb a 0 (nI c - 1) with
      | false => rfl
      | true => rw [h.mp e2] at e; cases e
  rw [e]
  cases bin a c <;> rfl
theorem closed_lt {c : Nat} (hc : c ≤ 24) : (if nI c < 3 then some (0 : Int32) else some 1) = some (b2i (decide (3 ≤ c))) := by
  by_cases h : 3 ≤ c
  · rw [if_neg (show ¬ nI c < (3 : Int32) from nI_nlt (a := c) (b := 3) h (by omega)), decide_eq_true h]; rfl
  · rw [if_pos (show nI c < (3 : Int32) from nI_lt (a := c) (b := 3) (by omega) (by decide)), decide_eq_false h]; rfl
theorem c_closed {c : Nat} (hc : c ≤ 24) : f_X0_closed (nI c) = some (b2i (decide (3 ≤ c))) := closed_lt hc
theorem m_isClosed {c f : Nat} {pt : Nat → Int32} (hf : f < 6) (hc : c ≤ 24) (hp : pt f = nI c) : f_X2_isClosed pt (nI f) = some (b2i (decide (3 ≤ c))) := by
  unfold f_X2_isClosed
  rw [if_pos (bin_nI hf (by decide)), nI_clamp (by omega), hp]
  exact closed_lt hc
/-! can it go round -/
def farB (ys : Nat → Int32) (ro : Int32) (i : Nat) : Bool := decide (ro ≤ ys i) || decide (ys i ≤ -ro)
def Ro (ro : Int32) : Prop := 1 ≤ ro.toInt ∧ ro.toInt ≤ 400
theorem neg_ro {ro : Int32} (h : Ro ro) : (-ro).toInt = -ro.toInt := by
  unfold Ro at h
  rw [Int32.toInt_neg]; exact Int.bmod_eq_of_le (by omega) (by omega)
theorem mabs_lt {y ro : Int32} (hy : sm 100 y) (hr : Ro ro) : mabs y < ro ↔ (decide (ro ≤ y) || decide (y ≤ -ro)) = false := by
  have e0 : (decide (ro ≤ y) || decide (y ≤ -ro)) = false ↔ ¬ ro.toInt ≤ y.toInt ∧ ¬ y.toInt ≤ -ro.toInt := by
    rw [Bool.or_eq_false_iff, decide_eq_false_iff_not, decide_eq_false_iff_not, Int32.le_iff_toInt_le, Int32.le_iff_toInt_le, neg_ro hr]
  rw [e0]
  unfold mabs
  unfold sm at hy
  unfold Ro at hr
  by_cases h : 0 ≤ y
  · rw [if_pos h, Int32.lt_iff_toInt_lt]
    have h0 := Int32.le_iff_toInt_le.mp h
    rw [show (0 : Int32).toInt = 0 from rfl] at h0
    omega
  · rw [if_neg h, Int32.lt_iff_toInt_lt]
    have h0 : ¬ (0 : Int32).toInt ≤ y.toInt := fun q => h (Int32.le_iff_toInt_le.mpr q)
    rw [show (0 : Int32).toInt = 0 from rfl] at h0
    have e : (0 - y).toInt = -y.toInt := by
      rw [Int32.toInt_sub, show (0 : Int32).toInt = 0 from rfl, Int.zero_sub]
      exact Int.bmod_eq_of_le (by omega) (by omega)
    rw [e]
    omega
theorem c_staysNearer {c : Nat} {xs ys : Nat → Int32} {ro : Int32} (hF : Fg c xs ys) (hr : Ro ro) : f_X0_staysNearer ys (nI c) ro = some (b2i (!anyTo (farB ys ro) c)) := by
  have hc := hF.1
  unfold f_X0_staysNearer
  have hL : lpf (s_X0_staysNearer_2 ys (nI c) ro) 1000 (0 : Int32) = some (if anyTo (farB ys ro) c = true then .inl 0 else .inr ()) := by
    refine lpf_any (fun i => nI i) c _ _ _ rfl (fun i hi h => ?_) (fun i hi h => ?_) ?_ (by omega)
    · unfold s_X0_staysNearer_2
      rw [if_neg (nI_ge hi (by omega)), c_y (by omega)]
      simp only [Option.bind_some, ov, nI_1]
      rw [if_pos ((mabs_lt (hF.2 i hi).2 hr).mpr h)]
    · unfold s_X0_staysNearer_2
      rw [if_neg (nI_ge hi (by omega)), c_y (by omega)]
      simp only [Option.bind_some, ov, nI_1]
      rw [if_neg (fun q => by have q2 := (mabs_lt (hF.2 i hi).2 hr).mp q; unfold farB at h; rw [h] at q2; cases q2)]
    · unfold s_X0_staysNearer_2
      rw [if_pos (nI_le (Nat.le_refl c) (by omega))]
  rw [hL]
  cases h : anyTo (farB ys ro) c <;> rfl
theorem m_canGo {c f : Nat} {xs ys pt px py : Nat → Int32} {ro : Int32} (hM : Mf c xs ys pt px py f) (hf : f < 6) (hc : c ≤ 24) : f_X2_canGo ro pt py (nI f) = some (b2i (!anyTo (farB ys ro) c)) := by
  unfold f_X2_canGo
  have hL : lpf (s_X2_canGo_4 ro pt py (nI f)) 1000 ((1 : Int32), (0 : Int32)) = some (b2i (!anyTo (farB ys ro) c)) := by
    refine lpf_run (fun i => (b2i (!anyTo (farB ys ro) i), nI i)) c rfl (fun i hi => ?_) ?_ (by omega)
    rotate_left
    · unfold s_X2_canGo_4
      simp only []
      rw [if_pos (bin_nI hf (by decide)), nI_clamp (by omega), hM.1, if_pos (nI_le (Nat.le_refl c) (by omega))]
    unfold s_X2_canGo_4
    simp only [anyTo]
    rw [if_pos (bin_nI hf (by decide)), nI_clamp (by omega), hM.1, if_neg (nI_ge hi (by omega))]
    simp only [m_y0 hM hf hc hi, Option.bind_some, ov, nI_1, b2i_0]
    unfold farB
    cases anyTo (fun i => decide (ro ≤ ys i) || decide (ys i ≤ -ro)) i <;> by_cases h1 : ro ≤ ys i <;> by_cases h2 : ys i ≤ -ro <;> simp [h1, h2, b2i]
  rw [hL, Option.bind_some, if_pos (b2i_and _)]
theorem c_goesRound {c : Nat} {xs ys : Nat → Int32} {ro : Int32} (hF : Fg c xs ys) (hr : Ro ro) : f_X1_goesRound ro ys (nI c) = some (b2i (decide (3 ≤ c) && !anyTo (farB ys ro) c)) := by
  unfold f_X1_goesRound
  rw [c_closed hF.1, Option.bind_some, c_staysNearer hF hr, Option.bind_some]
  cases decide (3 ≤ c) <;> cases anyTo (farB ys ro) c <;> rfl
/-! y to a power along x -/
def pw (k : Nat) (a b : Int64) : Int64 := match k with
  | 0 => 1
  | 1 => a + b
  | 2 => a * a + a * b + b * b
  | _ => a * a * a + a * a * b + a * b * b + b * b * b
def aL (k c : Nat) (xs ys : Nat → Int32) (i : Nat) : Int64 := ((xs (nx c i)).toInt64 - (xs i).toInt64) * pw k (ys i).toInt64 (ys (nx c i)).toInt64
def mpS (a b : Int64) : Nat → Int64 × Int64
  | 0 => (1, 1)
  | k + 1 => ((mpS a b k).1 * a + (mpS a b k).2 * b, (mpS a b k).2 * b)
theorem c_mixed (a b : Int64) {k : Nat} (h1 : 1 ≤ k) (h3 : k ≤ 3) : f_X0_mixedPowers a b (nI k) = some (pw k a b) := by
  unfold f_X0_mixedPowers
  have hL : lpf (s_X0_mixedPowers_9 a b (nI k)) 1000 ((1 : Int64), (1 : Int64), (0 : Int32)) = some (mpS a b k).1 := by
    refine lpf_run (fun i => ((mpS a b i).1, (mpS a b i).2, nI i)) k rfl (fun i hi => ?_) ?_ (by omega)
    · unfold s_X0_mixedPowers_9
      simp only []
      rw [if_neg (nI_ge hi (by omega))]
      simp only [ov, nI_1, mpS]
    · unfold s_X0_mixedPowers_9
      simp only []
      rw [if_pos (nI_le (Nat.le_refl k) (by omega))]
  rw [hL, Option.bind_some]
  congr 1
  rcases (show k = 1 ∨ k = 2 ∨ k = 3 by omega) with rfl | rfl | rfl
  · simp only [mpS, pw]; grind
  · simp only [mpS, pw]; grind
  · simp only [mpS, pw]; grind
theorem c_alongX {c : Nat} {xs ys : Nat → Int32} (hF : Fg c xs ys) {k m : Nat} (h1 : 1 ≤ k) (h3 : k ≤ 3) (hm : m ≤ c) : f_X0_alongX xs ys (nI c) (nI k) (nI m) = some (sumTo (aL k c xs ys) m) := by
  have hc := hF.1
  unfold f_X0_alongX
  have hL : lpf (s_X0_alongX_5 xs ys (nI c) (nI k) (nI m)) 1000 ((0 : Int64), (0 : Int32)) = some (sumTo (aL k c xs ys) m) := by
    refine lpf_run (fun i => (sumTo (aL k c xs ys) i, nI i)) m rfl (fun i hi => ?_) ?_ (by omega)
    · have hi' : i < c := by omega
      have hj := nx_lt hi'
      unfold s_X0_alongX_5
      simp only []
      rw [if_neg (nI_ge hi (by omega))]
      simp only [c_next hi' hc, Option.bind_some, c_x (show i < 24 by omega), c_y (show nx c i < 24 by omega), c_x (show nx c i < 24 by omega), c_y (show i < 24 by omega), ov, nI_1, c_mixed _ _ h1 h3]
      rw [w_sub (hF.2 _ hj).1 (hF.2 _ hi').1 (by decide)]
      rfl
    · unfold s_X0_alongX_5
      simp only []
      rw [if_pos (nI_le (Nat.le_refl m) (by omega))]
  rw [hL]; rfl
theorem m_along {c f : Nat} {xs ys pt px py : Nat → Int32} (hF : Fg c xs ys) (hM : Mf c xs ys pt px py f) (hf : f < 6) {k m : Nat} (h1 : 1 ≤ k) (h3 : k ≤ 3) (hm : m ≤ c) : f_X2_along pt px py (nI f) (nI m) (nI k) = some (sumTo (aL k c xs ys) m) := by
  have hc := hF.1
  unfold f_X2_along
  have hL : lpf (s_X2_along_6 pt px py (nI f) (nI m) (nI k)) 1000 ((0 : Int64), (0 : Int32)) = some (sumTo (aL k c xs ys) m) := by
    refine lpf_run (fun i => (sumTo (aL k c xs ys) i, nI i)) m rfl (fun i hi => ?_) ?_ (by omega)
    · have hi' : i < c := by omega
      have hj := nx_lt hi'
      unfold s_X2_along_6
      simp only []
      rw [if_neg (nI_ge hi (by omega))]
      simp only [nI_1, m_x0 hM hf hc hi', m_y0 hM hf hc hi', m_x1 hM hf hc hi', m_y1 hM hf hc hi', Option.bind_some, ov]
      rw [w_sub (hF.2 _ hj).1 (hF.2 _ hi').1 (by decide)]
      rcases (show k = 1 ∨ k = 2 ∨ k = 3 by omega) with rfl | rfl | rfl
      · rw [if_pos (show nI 1 = (1 : Int32) from rfl)]; rfl
      · rw [if_neg (show ¬ nI 2 = (1 : Int32) by decide), if_pos (show nI 2 = (2 : Int32) from rfl)]; rfl
      · rw [if_neg (show ¬ nI 3 = (1 : Int32) by decide), if_neg (show ¬ nI 3 = (2 : Int32) by decide)]; rfl
    · unfold s_X2_along_6
      simp only []
      rw [if_pos (nI_le (Nat.le_refl m) (by omega))]
  rw [hL]; rfl
