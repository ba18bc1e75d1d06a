/-! figures: the class's reads and the model's reads in one word -/
def nx (c i : Nat) : Nat := if i + 1 < c then i + 1 else 0
theorem nx_lt {c i : Nat} (h : i < c) : nx c i < c := by unfold nx; split <;> omega
theorem nx_mod {c i : Nat} (h : i < c) : (i + 1) % c = nx c i := by
  unfold nx
  split
  · exact Nat.mod_eq_of_lt (by assumption)
  · have : i + 1 = c := by omega
    rw [this, Nat.mod_self]
theorem lpf_run {V O : Type} {step : V → Option (V ⊕ O)} {v0 : V} {o : O} {n : Nat} (st : Nat → V) (c : Nat) (h0 : st 0 = v0) (hs : ∀ i, i < c → step (st i) = some (.inl (st (i + 1)))) (hx : step (st c) = some (.inr o)) (hn : c < n) : lpf step n v0 = some o := h0 ▸ lpf_for st hs hx hn
theorem lit_nI (n : Nat) : (OfNat.ofNat n : Int32) = nI n := rfl
theorem c_x {xs : Nat → Int32} {i : Nat} (h : i < 24) : f_X0_x xs (nI i) = some (xs i) := by
  unfold f_X0_x
  rw [if_neg (nI_pos (by omega)), if_neg (show ¬ (24 : Int32) ≤ nI i from nI_ge h (by decide)), if_pos (bin_in.mpr (vp_in_nI h (by decide))), nI_clamp (by omega)]
theorem c_y {ys : Nat → Int32} {i : Nat} (h : i < 24) : f_X0_y ys (nI i) = some (ys i) := by
  unfold f_X0_y
  rw [if_neg (nI_pos (by omega)), if_neg (show ¬ (24 : Int32) ≤ nI i from nI_ge h (by decide)), if_pos (bin_in.mpr (vp_in_nI h (by decide))), nI_clamp (by omega)]
theorem c_next {c i : Nat} (h : i < c) (hc : c ≤ 24) : f_X0_next (nI c) (nI i) = some (nI (nx c i)) := by
  unfold f_X0_next nx
  rw [nI_1]
  by_cases h2 : i + 1 < c
  · rw [if_neg (nI_ge h2 (by omega)), if_pos h2]
  · rw [if_pos (nI_le (by omega) (by omega)), if_neg h2]; rfl
/-- the model's figure f holds c points xs, ys -/
def Mf (c : Nat) (xs ys : Nat → Int32) (pt px py : Nat → Int32) (f : Nat) : Prop := pt f = nI c ∧ ∀ i, i < c → px (24 * f + i) = xs i ∧ py (24 * f + i) = ys i
/-- c points, small -/
def Fg (c : Nat) (xs ys : Nat → Int32) : Prop := c ≤ 24 ∧ ∀ i, i < c → sm 100 (xs i) ∧ sm 100 (ys i)
theorem m_ix {f c i : Nat} (hf : f < 6) (h0 : 0 < c) (hc : c ≤ 24) (hi : i < 1000) : (24 : Int32) * nI f + (nI i - nI i / nI c * nI c) = nI (24 * f + i % c) ∧ 24 * f + i % c < 144 := by
  have h1 : i % c < c := Nat.mod_lt i h0
  rw [pk_rem (by omega) h0 (by omega), show (24 : Int32) = nI 24 from rfl, pk_mul, nI_add]
  exact ⟨rfl, by omega⟩
theorem bin_nI {i n : Nat} (h : i < n) (hn : n < 2 ^ 31) : bin (nI i) n = true := bin_in.mpr (vp_in_nI h hn)
theorem m_x {c f i : Nat} {xs ys pt px py : Nat → Int32} (hM : Mf c xs ys pt px py f) (hf : f < 6) (h0 : 0 < c) (hc : c ≤ 24) (hi : i < 1000) : f_X2_x pt px (nI f) (nI i) = some (xs (i % c)) := by
  unfold f_X2_x
  have h1 := m_ix hf h0 hc hi
  rw [if_pos (bin_nI hf (by decide)), nI_clamp (by omega), hM.1, if_neg (nI_ne0 h0 (by omega)), h1.1, if_pos (bin_nI h1.2 (by decide)), nI_clamp (by omega), (hM.2 _ (Nat.mod_lt i h0)).1]
theorem m_y {c f i : Nat} {xs ys pt px py : Nat → Int32} (hM : Mf c xs ys pt px py f) (hf : f < 6) (h0 : 0 < c) (hc : c ≤ 24) (hi : i < 1000) : f_X2_y pt py (nI f) (nI i) = some (ys (i % c)) := by
  unfold f_X2_y
  have h1 := m_ix hf h0 hc hi
  rw [if_pos (bin_nI hf (by decide)), nI_clamp (by omega), hM.1, if_neg (nI_ne0 h0 (by omega)), h1.1, if_pos (bin_nI h1.2 (by decide)), nI_clamp (by omega), (hM.2 _ (Nat.mod_lt i h0)).2]
theorem m_x0 {c f i : Nat} {xs ys pt px py : Nat → Int32} (hM : Mf c xs ys pt px py f) (hf : f < 6) (hc : c ≤ 24) (hi : i < c) : f_X2_x pt px (nI f) (nI i) = some (xs i) := by
  rw [m_x hM hf (by omega) hc (by omega), Nat.mod_eq_of_lt hi]
theorem m_y0 {c f i : Nat} {xs ys pt px py : Nat → Int32} (hM : Mf c xs ys pt px py f) (hf : f < 6) (hc : c ≤ 24) (hi : i < c) : f_X2_y pt py (nI f) (nI i) = some (ys i) := by
  rw [m_y hM hf (by omega) hc (by omega), Nat.mod_eq_of_lt hi]
theorem m_x1 {c f i : Nat} {xs ys pt px py : Nat → Int32} (hM : Mf c xs ys pt px py f) (hf : f < 6) (hc : c ≤ 24) (hi : i < c) : f_X2_x pt px (nI f) (nI (i + 1)) = some (xs (nx c i)) := by
  rw [m_x hM hf (by omega) hc (by omega), nx_mod hi]
theorem m_y1 {c f i : Nat} {xs ys pt px py : Nat → Int32} (hM : Mf c xs ys pt px py f) (hf : f < 6) (hc : c ≤ 24) (hi : i < c) : f_X2_y pt py (nI f) (nI (i + 1)) = some (ys (nx c i)) := by
  rw [m_y hM hf (by omega) hc (by omega), nx_mod hi]
/-! twice the area -/
def sumTo (t : Nat → Int64) : Nat → Int64
  | 0 => 0
  | k + 1 => sumTo t k + t k
def dA (c : Nat) (xs ys : Nat → Int32) (i : Nat) : Int64 := (xs i).toInt64 * (ys (nx c i)).toInt64 - (xs (nx c i)).toInt64 * (ys i).toInt64
theorem c_doubleArea {c : Nat} {xs ys : Nat → Int32} (hF : Fg c xs ys) : f_X0_doubleArea xs ys (nI c) = some (sumTo (dA c xs ys) c) := by
  have hc := hF.1
  unfold f_X0_doubleArea
  have hL : lpf (s_X0_doubleArea_4 xs ys (nI c)) 1000 ((0 : Int64), (0 : Int32)) = some (sumTo (dA c xs ys) c) := by
    refine lpf_run (fun i => (sumTo (dA c xs ys) i, nI i)) c rfl (fun i hi => ?_) ?_ (by omega)
    rotate_left
    · unfold s_X0_doubleArea_4
      simp only []
      rw [if_pos (nI_le (Nat.le_refl c) (by omega))]
    have hj := nx_lt hi
    have b1 := hF.2 i hi
    have b2 := hF.2 _ hj
    unfold s_X0_doubleArea_4
    simp only []
    rw [if_neg (nI_ge hi (by omega)), c_next hi hc]
    simp only [Option.bind_some, c_x (show i < 24 by omega), c_y (show nx c i < 24 by omega), c_x (show nx c i < 24 by omega), c_y (show i < 24 by omega), ov, nI_1]
    rw [w_sub (sm_mul b1.1 b2.2 (by decide)).2 (sm_mul b2.1 b1.2 (by decide)).2 (by decide), w_mul b1.1 b2.2 (by decide), w_mul b2.1 b1.2 (by decide)]
    rfl
  rw [hL]; rfl
theorem m_twiceOf {c f : Nat} {xs ys pt px py : Nat → Int32} (hM : Mf c xs ys pt px py f) (hf : f < 6) (hc : c ≤ 24) : f_X2_twiceOf pt px py (nI f) = some (sumTo (dA c xs ys) c) := by
  unfold f_X2_twiceOf
  have hL : lpf (s_X2_twiceOf_5 pt px py (nI f)) 1000 ((0 : Int64), (0 : Int32)) = some (sumTo (dA c xs ys) c) := by
    refine lpf_run (fun i => (sumTo (dA c xs ys) i, nI i)) c rfl (fun i hi => ?_) ?_ (by omega)
    rotate_left
    · unfold s_X2_twiceOf_5
      simp only []
      rw [if_pos (bin_nI hf (by decide)), nI_clamp (by omega), hM.1, if_pos (nI_le (Nat.le_refl c) (by omega))]
    unfold s_X2_twiceOf_5
    simp only []
    rw [if_pos (bin_nI hf (by decide)), nI_clamp (by omega), hM.1, if_neg (nI_ge hi (by omega)), m_x0 hM hf hc hi]
    simp only [Option.bind_some, m_y1 hM hf hc hi, m_x1 hM hf hc hi, m_y0 hM hf hc hi, ov, nI_1]
    rfl
  rw [hL]; rfl
/-! lying on a side -/
def LO (c : Nat) (xs ys : Nat → Int32) (i : Nat) (p q : Int64) : Int64 := ((xs (nx c i)).toInt64 - (xs i).toInt64) * (q - (ys i).toInt64) - (p - (xs i).toInt64) * ((ys (nx c i)).toInt64 - (ys i).toInt64)
theorem c_leftOf {c i : Nat} {xs ys : Nat → Int32} (hF : Fg c xs ys) (hi : i < c) (p q : Int64) : f_X0_leftOf xs ys (nI c) (nI i) p q = some (LO c xs ys i p q) := by
  have hc := hF.1
  have hj := nx_lt hi
  have b1 := hF.2 i hi
  have b2 := hF.2 _ hj
  unfold f_X0_leftOf
  simp only [c_next hi hc, Option.bind_some, c_x (show i < 24 by omega), c_y (show nx c i < 24 by omega), c_x (show nx c i < 24 by omega), c_y (show i < 24 by omega)]
  rw [w_sub b2.1 b1.1 (by decide), w_sub b2.2 b1.2 (by decide)]
  rfl
def btw (v a b : Int32) : Prop := (a ≤ v ∨ b ≤ v) ∧ (v ≤ a ∨ v ≤ b)
theorem wl_lt (a b : Int32) : a.toInt64 < b.toInt64 ↔ a < b := by rw [Int64.lt_iff_toInt_lt, w_toInt, w_toInt, Int32.lt_iff_toInt_lt]
theorem c_between (v a b : Int32) : (btw v a b → f_X0_between v.toInt64 a b = some 1) ∧ (¬ btw v a b → f_X0_between v.toInt64 a b = some 0) := by
  unfold f_X0_between ov mmin mmax btw
  simp only [cmp_lt, cmp_gt, wl_lt]
  grind
