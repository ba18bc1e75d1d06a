/-! part -/
theorem mid0 {D e L Q : Int} (h : Q * L = D * e) (hL : 0 < L) (he : 0 < e) (heL : e < L) (hD : 0 ≤ D) : 0 ≤ Q ∧ Q ≤ D := by
  have h1 : 0 ≤ D * e := Int.mul_nonneg hD (by omega)
  have h2 : D * e ≤ D * L := Int.mul_le_mul_of_nonneg_left (by omega) hD
  refine ⟨le_of_mul hL (by rw [Int.zero_mul]; omega), le_of_mul hL (by omega)⟩
theorem mid1 {D e L Q : Int} (h : Q * L = D * e) (hL : 0 < L) (he : 0 < e) (heL : e < L) : (0 ≤ Q ∧ Q ≤ D) ∨ (D ≤ Q ∧ Q ≤ 0) := by
  rcases Int.le_total 0 D with hD | hD
  · exact Or.inl (mid0 h hL he heL hD)
  · have := mid0 (D := -D) (Q := -Q) (e := e) (L := L) (by rw [Int.neg_mul, Int.neg_mul, h]) hL he heL (by omega)
    exact Or.inr (by omega)
theorem mid2 {D e L Q : Int} (h : Q * L = D * e) (hc : (0 < e ∧ e < L) ∨ (e < 0 ∧ L < e)) : (0 ≤ Q ∧ Q ≤ D) ∨ (D ≤ Q ∧ Q ≤ 0) := by
  rcases hc with hc | hc
  · exact mid1 h (by omega) hc.1 hc.2
  · exact mid1 (e := -e) (L := -L) (by rw [Int.mul_neg, Int.mul_neg, h]) (by omega) (by omega) (by omega)
section Part
variable {c : Nat} {xs ys : Nat → Int32}
def keepB (ys : Nat → Int32) (h : Int32) (i : Nat) : Bool := decide (¬ ys i < h)
def crsB (c : Nat) (ys : Nat → Int32) (h : Int32) (i : Nat) : Bool := (decide (ys i < h) && decide (h < ys (nx c i))) || (decide (h < ys i) && decide (ys (nx c i) < h))
def lowV (c : Nat) (ys : Nat → Int32) (i : Nat) : Int32 := ys (nx c i) - ys i
def uppV (c : Nat) (xs ys : Nat → Int32) (h : Int32) (i : Nat) : Int32 := (xs (nx c i) - xs i) * (h - ys i)
def crx (c : Nat) (xs ys : Nat → Int32) (h : Int32) (i : Nat) : Int32 := xs i + uppV c xs ys h i / lowV c ys i
def notW (c : Nat) (xs ys : Nat → Int32) (h : Int32) (i : Nat) : Bool := crsB c ys h i && decide (¬ uppV c xs ys h i - uppV c xs ys h i / lowV c ys i * lowV c ys i = 0)
def kN (b : Bool) : Nat := if b = true then 1 else 0
def cnt (c : Nat) (ys : Nat → Int32) (h : Int32) : Nat → Nat
  | 0 => 0
  | i + 1 => cnt c ys h i + kN (keepB ys h i) + kN (crsB c ys h i)
def arW (k : Nat → Nat) (kp cr : Nat → Bool) (w z : Nat → Int32) (base : Nat → Int32) : Nat → Nat → Int32
  | 0 => base
  | i + 1 => if cr i = true then upd (if kp i = true then upd (arW k kp cr w z base i) (k i) (w i) else arW k kp cr w z base i) (k i + kN (kp i)) (z i) else (if kp i = true then upd (arW k kp cr w z base i) (k i) (w i) else arW k kp cr w z base i)
theorem cnt_le (h : Int32) : ∀ i, cnt c ys h i ≤ 2 * i
  | 0 => Nat.le_refl 0
  | i + 1 => by
    have := cnt_le h i
    unfold cnt kN
    split <;> split <;> omega
theorem cnt_mono (h : Int32) : ∀ d i, cnt c ys h i ≤ cnt c ys h (i + d)
  | 0, i => Nat.le_refl _
  | d + 1, i => by
    have := cnt_mono h d i
    rw [show i + (d + 1) = (i + d) + 1 by omega, cnt]; omega
theorem c_crosses {i : Nat} (hc : c ≤ 24) (hi : i < c) (h : Int32) : f_X0_crosses ys (nI c) (nI i) h = some (b2i (crsB c ys h i)) := by
  have hj := nx_lt hi
  unfold f_X0_crosses crsB
  simp only [c_y (show i < 24 by omega), c_next hi hc, bs_e, c_y (show nx c i < 24 by omega)]
  generalize ys i = A
  generalize ys (nx c i) = B
  unfold b2i
  by_cases h1 : h ≤ A <;> by_cases h2 : A ≤ h <;> by_cases h3 : h ≤ B <;> by_cases h4 : B ≤ h <;> simp [h1, h2, h3, h4, ← Int32.not_le]
theorem low_ne {i : Nat} (hF : Fg c xs ys) (hi : i < c) {h : Int32} (hcr : crsB c ys h i = true) : ¬ lowV c ys i = 0 := by
  intro z
  have bi := (hF.2 i hi).2
  have bj := (hF.2 _ (nx_lt hi)).2
  have e := (sm_sub bj bi (by decide)).1
  unfold lowV at z
  rw [z, show (0 : Int32).toInt = 0 from rfl] at e
  unfold crsB at hcr
  rcases (Bool.or_eq_true _ _).mp hcr with q | q
  · rw [Bool.and_eq_true, decide_eq_true_iff, decide_eq_true_iff, Int32.lt_iff_toInt_lt, Int32.lt_iff_toInt_lt] at q
    omega
  · rw [Bool.and_eq_true, decide_eq_true_iff, decide_eq_true_iff, Int32.lt_iff_toInt_lt, Int32.lt_iff_toInt_lt] at q
    omega
theorem c_lower {i : Nat} (hc : c ≤ 24) (hi : i < c) : f_X0_crossingLower ys (nI c) (nI i) = some (lowV c ys i) := by
  have hj := nx_lt hi
  unfold f_X0_crossingLower
  rw [c_next hi hc, bs_e, c_y (by omega), bs_e, c_y (by omega), bs_e]; rfl
theorem c_upper {i : Nat} (hc : c ≤ 24) (hi : i < c) (h : Int32) : f_X0_crossingUpper xs ys (nI c) (nI i) h = some (uppV c xs ys h i) := by
  have hj := nx_lt hi
  unfold f_X0_crossingUpper
  rw [c_next hi hc, bs_e, c_x (by omega), bs_e, c_x (by omega), bs_e, c_y (by omega), bs_e]; rfl
theorem c_placesFrom (hF : Fg c xs ys) (h : Int32) : f_X0_placesFrom ys (nI c) h = some (nI (cnt c ys h c)) := by
  have hc := hF.1
  unfold f_X0_placesFrom
  have hL : lpf (s_X0_placesFrom_4 ys (nI c) h) 1000 ((0 : Int32), (0 : Int32)) = some (nI (cnt c ys h c)) := by
    refine lpf_run (fun i => (nI (cnt c ys h i), nI i)) c rfl (fun i hi => ?_) ?_ (by omega)
    · unfold s_X0_placesFrom_4
      simp only [cnt]
      rw [if_neg (nI_ge hi (by omega)), c_y (by omega), bs_e]
      have e : (if ys i < h then some (nI (cnt c ys h i)) else ov (nI (cnt c ys h i) + 1) fun v10 => some v10) = some (nI (cnt c ys h i + kN (keepB ys h i))) := by
        unfold keepB kN
        rw [ov_e, nI_1]
        by_cases h1 : ys i < h
        · simp [h1]
        · simp [h1]
      rw [e, bs_e, c_crosses hc hi, bs_e]
      simp only [ov_e, nI_1, b2i_0]
      cases crsB c ys h i <;> rfl
    · unfold s_X0_placesFrom_4
      simp only []
      rw [if_pos (nI_le (Nat.le_refl c) (by omega))]
  rw [hL]; rfl
theorem c_crossesWhole (hF : Fg c xs ys) {h : Int32} (hh : sm 100 h) : f_X0_crossesWhole xs ys (nI c) h = some (b2i (!anyTo (notW c xs ys h) c)) := by
  have hc := hF.1
  unfold f_X0_crossesWhole
  have hL : lpf (s_X0_crossesWhole_2 xs ys (nI c) h) 1000 (0 : Int32) = some (if anyTo (notW c xs ys h) c = true then .inl 0 else .inr ()) := by
    have st : ∀ i, i < c → s_X0_crossesWhole_2 xs ys (nI c) h (nI i) = some (if notW c xs ys h i = true then .inr (.inl 0) else .inl (nI (i + 1))) := by
      intro i hi
      unfold s_X0_crossesWhole_2
      rw [if_neg (nI_ge hi (by omega)), c_lower hc hi, bs_e, c_crosses hc hi, bs_e, c_upper hc hi, bs_e]
      simp only [ov_e, nI_1, b2i_0]
      unfold notW
      cases q : crsB c ys h i with
      | false =>
        by_cases z : lowV c ys i = 0
        · simp [z]
        · simp [z]
      | true =>
        have z := low_ne hF hi q
        by_cases w : uppV c xs ys h i - uppV c xs ys h i / lowV c ys i * lowV c ys i = 0
        · simp [z, w]
        · simp [z, w]
    refine lpf_any (fun i => nI i) c _ _ _ rfl (fun i hi q => ?_) (fun i hi q => ?_) ?_ (by omega)
    · rw [st i hi, if_neg (by rw [q]; decide)]
    · rw [st i hi, if_pos q]
    · unfold s_X0_crossesWhole_2
      rw [if_pos (nI_le (Nat.le_refl c) (by omega))]
  rw [hL]
  cases q : anyTo (notW c xs ys h) c <;> rfl
theorem c_becomeUpper {us vs : Nat → Int32} (hF : Fg c xs ys) {h : Int32} (hh : sm 100 h) (hk : cnt c ys h c ≤ 24) : f_X0_becomeUpper us vs xs ys (nI c) h = some (arW (cnt c ys h) (keepB ys h) (crsB c ys h) xs (crx c xs ys h) us c, arW (cnt c ys h) (keepB ys h) (crsB c ys h) ys (fun _ => h) vs c, nI (cnt c ys h c)) := by
  have hc := hF.1
  unfold f_X0_becomeUpper
  have hL : lpf (s_X0_becomeUpper_7 xs ys (nI c) h) 1000 ((0 : Int32), us, vs, (0 : Int32)) = some (arW (cnt c ys h) (keepB ys h) (crsB c ys h) xs (crx c xs ys h) us c, arW (cnt c ys h) (keepB ys h) (crsB c ys h) ys (fun _ => h) vs c, nI (cnt c ys h c)) := by
    refine lpf_run (fun i => (nI i, arW (cnt c ys h) (keepB ys h) (crsB c ys h) xs (crx c xs ys h) us i, arW (cnt c ys h) (keepB ys h) (crsB c ys h) ys (fun _ => h) vs i, nI (cnt c ys h i))) c rfl (fun i hi => ?_) ?_ (by omega)
    · have m1 := cnt_mono (c := c) (ys := ys) h (c - (i + 1)) (i + 1)
      rw [show i + 1 + (c - (i + 1)) = c by omega, cnt] at m1
      unfold s_X0_becomeUpper_7
      simp only [cnt, arW]
      generalize arW (cnt c ys h) (keepB ys h) (crsB c ys h) xs (crx c xs ys h) us i = W1
      generalize arW (cnt c ys h) (keepB ys h) (crsB c ys h) ys (fun _ => h) vs i = W2
      rw [if_neg (nI_ge hi (by omega))]
      simp only [c_y (show i < 24 by omega), c_x (show i < 24 by omega), c_lower hc hi, c_crosses hc hi, c_upper hc hi, bs_e, ov_e, nI_1, b2i_0]
      have kp : (if ys i < h then some (W1, W2, nI (cnt c ys h i)) else (f_X0_add W1 W2 (nI (cnt c ys h i)) (xs i) (ys i)).bind fun r18 => some (r18.1, r18.2.1, r18.2.2)) = some (if keepB ys h i = true then upd W1 (cnt c ys h i) (xs i) else W1, if keepB ys h i = true then upd W2 (cnt c ys h i) (ys i) else W2, nI (cnt c ys h i + kN (keepB ys h i))) := by
        by_cases h1 : ys i < h
        · have e : keepB ys h i = false := by unfold keepB; simp [h1]
          rw [if_pos h1, e]; rfl
        · have e : keepB ys h i = true := by unfold keepB; simp [h1]
          rw [e, show kN true = 1 from rfl] at m1
          rw [if_neg h1, c_add (by omega), bs_e, e]; rfl
      rw [kp, bs_e]
      dsimp only
      cases q : crsB c ys h i with
      | false =>
        by_cases z : lowV c ys i = 0
        · rw [if_pos z]; rfl
        · rw [if_neg z, if_pos rfl]; rfl
      | true =>
        rw [q, show kN true = 1 from rfl] at m1
        have z := low_ne hF hi q
        rw [if_neg z, if_neg (by decide), if_neg z, c_add (by omega), bs_e]; rfl
    · unfold s_X0_becomeUpper_7
      simp only []
      rw [if_pos (nI_le (Nat.le_refl c) (by omega))]
  rw [hL]; rfl
/-! the model's, and both -/
theorem ar_same {k : Nat → Nat} {kp cr : Nat → Bool} {w z u v : Nat → Int32} (hk : ∀ i, k (i + 1) = k i + kN (kp i) + kN (cr i)) : ∀ i j, j < k i → k 0 = 0 → arW k kp cr w z u i j = arW k kp cr w z v i j
  | 0, j, h, h0 => absurd h (by omega)
  | i + 1, j, h, h0 => by
    rw [hk i] at h
    have ih := ar_same (w := w) (z := z) (u := u) (v := v) hk i
    simp only [arW]
    cases hkp : kp i with
    | false =>
      rw [hkp] at h
      cases hcr : cr i with
      | false =>
        rw [hcr] at h
        simp only [Bool.false_eq_true, if_false]
        exact ih j (by rw [show kN false = 0 from rfl] at h; omega) h0
      | true =>
        rw [hcr] at h
        simp only [Bool.false_eq_true, if_false, if_true, upd_at]
        by_cases e : j = k i + kN false
        · rw [if_pos e, if_pos e]
        · rw [if_neg e, if_neg e]
          exact ih j (by rw [show kN false = 0 from rfl] at h e; rw [show kN true = 1 from rfl] at h; omega) h0
    | true =>
      rw [hkp] at h
      cases hcr : cr i with
      | false =>
        rw [hcr] at h
        simp only [Bool.false_eq_true, if_false, if_true, upd_at]
        by_cases e : j = k i
        · rw [if_pos e, if_pos e]
        · rw [if_neg e, if_neg e]
          exact ih j (by rw [show kN false = 0 from rfl, show kN true = 1 from rfl] at h; omega) h0
      | true =>
        rw [hcr] at h
        simp only [if_true, upd_at]
        by_cases e : j = k i + kN true
        · rw [if_pos e, if_pos e]
        · rw [if_neg e, if_neg e]
          by_cases e2 : j = k i
          · rw [if_pos e2, if_pos e2]
          · rw [if_neg e2, if_neg e2]
            exact ih j (by rw [show kN true = 1 from rfl] at h e; omega) h0
theorem ar_sm {k : Nat → Nat} {kp cr : Nat → Bool} {w z u : Nat → Int32} {n : Nat} (hk : ∀ i, k (i + 1) = k i + kN (kp i) + kN (cr i)) (h0 : k 0 = 0) (hw : ∀ i, i < n → sm 100 (w i)) (hz : ∀ i, i < n → cr i = true → sm 100 (z i)) : ∀ i j, i ≤ n → j < k i → sm 100 (arW k kp cr w z u i j)
  | 0, j, _, h => absurd h (by omega)
  | i + 1, j, hi, h => by
    rw [hk i] at h
    have ih := ar_sm (u := u) hk h0 hw hz i
    simp only [arW]
    cases hkp : kp i with
    | false =>
      rw [hkp] at h
      cases hcr : cr i with
      | false =>
        rw [hcr] at h
        simp only [Bool.false_eq_true, if_false]
        exact ih j (by omega) (by rw [show kN false = 0 from rfl] at h; omega)
      | true =>
        rw [hcr] at h
        simp only [Bool.false_eq_true, if_false, if_true, upd_at]
        by_cases e : j = k i + kN false
        · rw [if_pos e]; exact hz i (by omega) hcr
        · rw [if_neg e]
          exact ih j (by omega) (by rw [show kN false = 0 from rfl] at h e; rw [show kN true = 1 from rfl] at h; omega)
    | true =>
      rw [hkp] at h
      cases hcr : cr i with
      | false =>
        rw [hcr] at h
        simp only [Bool.false_eq_true, if_false, if_true, upd_at]
        by_cases e : j = k i
        · rw [if_pos e]; exact hw i (by omega)
        · rw [if_neg e]
          exact ih j (by omega) (by rw [show kN false = 0 from rfl, show kN true = 1 from rfl] at h; omega)
      | true =>
        rw [hcr] at h
        simp only [if_true, upd_at]
        by_cases e : j = k i + kN true
        · rw [if_pos e]; exact hz i (by omega) hcr
        · rw [if_neg e]
          by_cases e2 : j = k i
          · rw [if_pos e2]; exact hw i (by omega)
          · rw [if_neg e2]
            exact ih j (by omega) (by rw [show kN true = 1 from rfl] at h e; omega)
theorem crx_sm {i : Nat} (hF : Fg c xs ys) (hi : i < c) {h : Int32} (hh : sm 100 h) (hcr : crsB c ys h i = true) (hw : notW c xs ys h i = false) : sm 100 (crx c xs ys h i) := by
  have bi := hF.2 i hi
  have bj := hF.2 _ (nx_lt hi)
  have dX := sm_sub bj.1 bi.1 (by decide)
  have dH := sm_sub hh bi.2 (by decide)
  have dL := sm_sub bj.2 bi.2 (by decide)
  have up := sm_mul dX.2 dH.2 (by decide)
  have w0 : uppV c xs ys h i - uppV c xs ys h i / lowV c ys i * lowV c ys i = 0 := by
    unfold notW at hw
    rw [hcr, Bool.true_and, decide_eq_false_iff_not, Decidable.not_not] at hw
    exact hw
  have eU : (uppV c xs ys h i).toInt = ((xs (nx c i)).toInt - (xs i).toInt) * (h.toInt - (ys i).toInt) := by
    unfold uppV; rw [up.1, dX.1, dH.1]
  have eL : (lowV c ys i).toInt = (ys (nx c i)).toInt - (ys i).toInt := by unfold lowV; exact dL.1
  have bU : (uppV c xs ys h i).toInt.natAbs ≤ 40000 := up.2
  have bL : sm 200 (lowV c ys i) := dL.2
  unfold crx
  generalize uppV c xs ys h i = U at w0 eU bU
  generalize lowV c ys i = L at w0 eL bL
  have q1 : (U / L).toInt = U.toInt.tdiv L.toInt := by
    rw [Int32.toInt_div]
    have hb : (U.toInt.tdiv L.toInt).natAbs ≤ 40000 := by
      exact Nat.le_trans (Int.natAbs_tdiv_le_natAbs _ _) bU
    exact Int.bmod_eq_of_le (by omega) (by omega)
  have bQ : sm 40000 (U / L) := by
    unfold sm; rw [q1]; exact Nat.le_trans (Int.natAbs_tdiv_le_natAbs _ _) bU
  have pr := sm_mul bQ bL (by decide)
  have df := sm_sub (show sm 40000 U from bU) pr.2 (by decide)
  have e2 : (U / L).toInt * L.toInt = U.toInt := by
    have := df.1
    rw [w0, show (0 : Int32).toInt = 0 from rfl, pr.1] at this
    omega
  have md := mid2 (D := (xs (nx c i)).toInt - (xs i).toInt) (e := h.toInt - (ys i).toInt) (L := L.toInt) (Q := (U / L).toInt) (by rw [e2, eU]) (by
    unfold crsB at hcr
    rw [eL]
    rcases (Bool.or_eq_true _ _).mp hcr with q | q
    · rw [Bool.and_eq_true, decide_eq_true_iff, decide_eq_true_iff, Int32.lt_iff_toInt_lt, Int32.lt_iff_toInt_lt] at q
      omega
    · rw [Bool.and_eq_true, decide_eq_true_iff, decide_eq_true_iff, Int32.lt_iff_toInt_lt, Int32.lt_iff_toInt_lt] at q
      omega)
  have ad := sm_add bi.1 bQ (by decide)
  have z1 := bi.1
  have z2 := bj.1
  unfold sm at z1 z2 ⊢
  rw [ad.1]
  omega
end Part
