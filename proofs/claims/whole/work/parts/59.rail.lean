/-! the rail, the arm's reach: how near a side comes -/
theorem le_of_mul {a b l : Int} (hl : 0 < l) (h : a * l ≤ b * l) : a ≤ b := Int.le_of_mul_le_mul_right h hl
theorem lt_of_mul {a b l : Int} (hl : 0 < l) (h : a * l < b * l) : a < b := Int.lt_of_mul_lt_mul_right h (Int.le_of_lt hl)
theorem sq_nn (a : Int) : 0 ≤ a * a := by
  rcases Int.le_total 0 a with h | h
  · exact Int.mul_nonneg h h
  · exact Int.mul_nonneg_of_nonpos_of_nonpos h h
theorem near_id (dx dy ex ey : Int) : (ex * ex + ey * ey) * (dx * dx + dy * dy) = (dx * ex + dy * ey) * (dx * ex + dy * ey) + (dx * ey - ex * dy) * (dx * ey - ex * dy) := by grind
theorem near_j (dx dy ex ey : Int) : (ex - dx) * (ex - dx) + (ey - dy) * (ey - dy) = ex * ex + ey * ey - 2 * (dx * ex + dy * ey) + (dx * dx + dy * dy) := by grind
theorem near_ge {r dx dy ex ey : Int} (h : if 0 < dx * ex + dy * ey then (if dx * ex + dy * ey < dx * dx + dy * dy then ¬ (dx * ey - ex * dy) * (dx * ey - ex * dy) < r * (dx * dx + dy * dy) else ¬ (ex - dx) * (ex - dx) + (ey - dy) * (ey - dy) < r) else ¬ ex * ex + ey * ey < r) : r ≤ ex * ex + ey * ey := by
  have i1 := near_id dx dy ex ey
  have i2 := near_j dx dy ex ey
  have i3 := sq_nn (dx * ex + dy * ey)
  by_cases h1 : 0 < dx * ex + dy * ey
  · rw [if_pos h1] at h
    by_cases h2 : dx * ex + dy * ey < dx * dx + dy * dy
    · rw [if_pos h2] at h
      exact le_of_mul (l := dx * dx + dy * dy) (by omega) (by omega)
    · rw [if_neg h2] at h; omega
  · rw [if_neg h1] at h; omega
theorem near_gt {r dx dy ex ey : Int} (h : if 0 < dx * ex + dy * ey then (if dx * ex + dy * ey < dx * dx + dy * dy then r * (dx * dx + dy * dy) < (dx * ey - ex * dy) * (dx * ey - ex * dy) else r < (ex - dx) * (ex - dx) + (ey - dy) * (ey - dy)) else r < ex * ex + ey * ey) : r < ex * ex + ey * ey := by
  have i1 := near_id dx dy ex ey
  have i2 := near_j dx dy ex ey
  have i3 := sq_nn (dx * ex + dy * ey)
  by_cases h1 : 0 < dx * ex + dy * ey
  · rw [if_pos h1] at h
    by_cases h2 : dx * ex + dy * ey < dx * dx + dy * dy
    · rw [if_pos h2] at h
      exact lt_of_mul (l := dx * dx + dy * dy) (by omega) (by omega)
    · rw [if_neg h2] at h; omega
  · rw [if_neg h1] at h; exact h
/-! the same in longs -/
def SQ (xs ys : Nat → Int32) (i : Nat) (p q : Int64) : Int64 := (p - (xs i).toInt64) * (p - (xs i).toInt64) + (q - (ys i).toInt64) * (q - (ys i).toInt64)
def LEN (c : Nat) (xs ys : Nat → Int32) (i : Nat) : Int64 := ((xs (nx c i)).toInt64 - (xs i).toInt64) * ((xs (nx c i)).toInt64 - (xs i).toInt64) + ((ys (nx c i)).toInt64 - (ys i).toInt64) * ((ys (nx c i)).toInt64 - (ys i).toInt64)
def AL (c : Nat) (xs ys : Nat → Int32) (i : Nat) (p q : Int64) : Int64 := ((xs (nx c i)).toInt64 - (xs i).toInt64) * (p - (xs i).toInt64) + ((ys (nx c i)).toInt64 - (ys i).toInt64) * (q - (ys i).toInt64)
section Rail
variable {c : Nat} {xs ys : Nat → Int32}
theorem c_squareTo {i : Nat} (hi : i < 24) (p q : Int64) : f_X0_squareTo xs ys (nI i) p q = some (SQ xs ys i p q) := by
  unfold f_X0_squareTo
  simp only [c_x hi, c_y hi, bs_e, ov_e]
  rfl
def cv (a b : Int64) : Int32 := if a < b then -1 else if b < a then 1 else 0
theorem c_cmp (a b : Int64) : f_J13_compare_74951 a b = some (cv a b) := by
  unfold f_J13_compare_74951 cv
  simp only [cmp_ge, cmp_eq]
  by_cases h1 : a < b
  · rw [if_neg (Int64.not_le.mpr h1), if_pos h1]
  · rw [if_pos (Int64.not_lt.mp h1), if_neg h1]
    by_cases h2 : a = b
    · rw [if_pos h2, if_neg (h2 ▸ Int64.lt_irrefl)]
    · rw [if_neg h2, if_pos (Int64.lt_of_le_of_ne (Int64.not_lt.mp h1) (Ne.symm h2))]
theorem cv_ge (a b : Int64) : 0 ≤ cv a b ↔ ¬ a < b := by
  unfold cv
  by_cases h1 : a < b
  · simp [h1]
  · by_cases h2 : b < a <;> simp [h1, h2]
theorem cv_gt (a b : Int64) : 0 < cv a b ↔ b < a := by
  unfold cv
  by_cases h1 : a < b
  · simp [h1, Int64.le_of_lt h1]
  · by_cases h2 : b < a <;> simp [h1, h2]
theorem c_nearest {i : Nat} (hF : Fg c xs ys) (hi : i < c) {p q : Int32} (hp : sm 1000 p) (hq : sm 1000 q) (r : Int64) : f_X0_nearestAgainst xs ys (nI c) (nI i) p q r = some (if 0 < AL c xs ys i p.toInt64 q.toInt64 then (if AL c xs ys i p.toInt64 q.toInt64 < LEN c xs ys i then cv (LO c xs ys i p.toInt64 q.toInt64 * LO c xs ys i p.toInt64 q.toInt64) (r * LEN c xs ys i) else cv (SQ xs ys (nx c i) p.toInt64 q.toInt64) r) else cv (SQ xs ys i p.toInt64 q.toInt64) r) := by
  have hc := hF.1
  have hj := nx_lt hi
  have bi := hF.2 i hi
  have bj := hF.2 _ hj
  unfold f_X0_nearestAgainst
  simp only [c_next hi hc, bs_e, c_x (show i < 24 by omega), c_x (show nx c i < 24 by omega), c_y (show i < 24 by omega), c_y (show nx c i < 24 by omega), ov_e, c_leftOf hF hi, c_squareTo (show i < 24 by omega), c_squareTo (show nx c i < 24 by omega), c_cmp, cmp_gt, cmp_lt]
  rw [w_sub bj.1 bi.1 (by decide), w_sub bj.2 bi.2 (by decide), w_sub hp bi.1 (by decide), w_sub hq bi.2 (by decide)]
  rw [show ((xs (nx c i)).toInt64 - (xs i).toInt64) * (p.toInt64 - (xs i).toInt64) + ((ys (nx c i)).toInt64 - (ys i).toInt64) * (q.toInt64 - (ys i).toInt64) = AL c xs ys i p.toInt64 q.toInt64 from rfl, show ((xs (nx c i)).toInt64 - (xs i).toInt64) * ((xs (nx c i)).toInt64 - (xs i).toInt64) + ((ys (nx c i)).toInt64 - (ys i).toInt64) * ((ys (nx c i)).toInt64 - (ys i).toInt64) = LEN c xs ys i from rfl]
  by_cases h1 : 0 < AL c xs ys i p.toInt64 q.toInt64
  · rw [if_pos h1, if_pos h1]
    by_cases h2 : AL c xs ys i p.toInt64 q.toInt64 < LEN c xs ys i
    · rw [if_pos h2, if_pos h2]
    · rw [if_neg h2, if_neg h2]
  · rw [if_neg h1, if_neg h1]
/-- the long numbers as whole numbers -/
theorem ints {i : Nat} (hF : Fg c xs ys) (hi : i < c) {p q : Int32} (hp : sm 1000 p) (hq : sm 1000 q) {r : Int64} (hr : lb 640000 r) :
    ∃ dx dy ex ey : Int, (AL c xs ys i p.toInt64 q.toInt64).toInt = dx * ex + dy * ey ∧ (LEN c xs ys i).toInt = dx * dx + dy * dy ∧ (LO c xs ys i p.toInt64 q.toInt64 * LO c xs ys i p.toInt64 q.toInt64).toInt = (dx * ey - ex * dy) * (dx * ey - ex * dy) ∧ (SQ xs ys i p.toInt64 q.toInt64).toInt = ex * ex + ey * ey ∧ (SQ xs ys (nx c i) p.toInt64 q.toInt64).toInt = (ex - dx) * (ex - dx) + (ey - dy) * (ey - dy) ∧ (r * LEN c xs ys i).toInt = r.toInt * (dx * dx + dy * dy) := by
  have bi := hF.2 i hi
  have bj := hF.2 _ (nx_lt hi)
  have d1 := lb_sub (lb_w bj.1) (lb_w bi.1) (by decide)
  have d2 := lb_sub (lb_w bj.2) (lb_w bi.2) (by decide)
  have e1 := lb_sub (lb_w hp) (lb_w bi.1) (by decide)
  have e2 := lb_sub (lb_w hq) (lb_w bi.2) (by decide)
  have f1 := lb_sub (lb_w hp) (lb_w bj.1) (by decide)
  have f2 := lb_sub (lb_w hq) (lb_w bj.2) (by decide)
  have a1 := lb_mul d1.2 e1.2 (by decide)
  have a2 := lb_mul d2.2 e2.2 (by decide)
  have a3 := lb_add a1.2 a2.2 (by decide)
  have l1 := lb_mul d1.2 d1.2 (by decide)
  have l2 := lb_mul d2.2 d2.2 (by decide)
  have l3 := lb_add l1.2 l2.2 (by decide)
  have o1 := lb_mul d1.2 e2.2 (by decide)
  have o2 := lb_mul e1.2 d2.2 (by decide)
  have o3 := lb_sub o1.2 o2.2 (by decide)
  have o4 := lb_mul o3.2 o3.2 (by decide)
  have s1 := lb_mul e1.2 e1.2 (by decide)
  have s2 := lb_mul e2.2 e2.2 (by decide)
  have s3 := lb_add s1.2 s2.2 (by decide)
  have t1 := lb_mul f1.2 f1.2 (by decide)
  have t2 := lb_mul f2.2 f2.2 (by decide)
  have t3 := lb_add t1.2 t2.2 (by decide)
  have g1 := lb_mul hr l3.2 (by decide)
  refine ⟨(xs (nx c i)).toInt - (xs i).toInt, (ys (nx c i)).toInt - (ys i).toInt, p.toInt - (xs i).toInt, q.toInt - (ys i).toInt, ?_, ?_, ?_, ?_, ?_, ?_⟩
  · unfold AL; rw [a3.1, a1.1, a2.1, d1.1, d2.1, e1.1, e2.1]; simp only [w_toInt]
  · unfold LEN; rw [l3.1, l1.1, l2.1, d1.1, d2.1]; simp only [w_toInt]
  · unfold LO; rw [o4.1, o3.1, o1.1, o2.1, d1.1, d2.1, e1.1, e2.1]; simp only [w_toInt]
  · unfold SQ; rw [s3.1, s1.1, s2.1, e1.1, e2.1]; simp only [w_toInt]
  · unfold SQ; rw [t3.1, t1.1, t2.1, f1.1, f2.1]; simp only [w_toInt]; grind
  · unfold LEN; rw [g1.1, l3.1, l1.1, l2.1, d1.1, d2.1]; simp only [w_toInt]
theorem z_lt (a b : Int64) : a < b ↔ a.toInt < b.toInt := Int64.lt_iff_toInt_lt
/-- nearer than r (as a square)? -/
def nearB (c : Nat) (xs ys : Nat → Int32) (p q r : Int64) (i : Nat) : Bool := if 0 < AL c xs ys i p q then (if AL c xs ys i p q < LEN c xs ys i then decide (LO c xs ys i p q * LO c xs ys i p q < r * LEN c xs ys i) else decide (SQ xs ys (nx c i) p q < r)) else decide (SQ xs ys i p q < r)
def nearE (c : Nat) (xs ys : Nat → Int32) (p q r : Int64) (i : Nat) : Bool := if 0 < AL c xs ys i p q then (if AL c xs ys i p q < LEN c xs ys i then decide (¬ r * LEN c xs ys i < LO c xs ys i p q * LO c xs ys i p q) else decide (¬ r < SQ xs ys (nx c i) p q)) else decide (¬ r < SQ xs ys i p q)
def dipB (c : Nat) (xs ys : Nat → Int32) (p q r : Int64) (i : Nat) : Bool := decide (0 < AL c xs ys i p q) && (decide (AL c xs ys i p q < LEN c xs ys i) && decide (LO c xs ys i p q * LO c xs ys i p q < r * LEN c xs ys i))
def dipE (c : Nat) (xs ys : Nat → Int32) (p q r : Int64) (i : Nat) : Bool := decide (0 < AL c xs ys i p q) && (decide (AL c xs ys i p q < LEN c xs ys i) && decide (¬ r * LEN c xs ys i < LO c xs ys i p q * LO c xs ys i p q))
theorem near_any (hF : Fg c xs ys) {p q : Int32} (hp : sm 1000 p) (hq : sm 1000 q) {r : Int64} (hr : lb 640000 r) : (∃ i, i < c ∧ nearB c xs ys p.toInt64 q.toInt64 r i = true) ↔ ∃ i, i < c ∧ (SQ xs ys i p.toInt64 q.toInt64 < r ∨ dipB c xs ys p.toInt64 q.toInt64 r i = true) := by
  constructor
  · rintro ⟨i, hi, h⟩
    unfold nearB at h
    by_cases h1 : 0 < AL c xs ys i p.toInt64 q.toInt64
    · rw [if_pos h1] at h
      by_cases h2 : AL c xs ys i p.toInt64 q.toInt64 < LEN c xs ys i
      · rw [if_pos h2] at h
        exact ⟨i, hi, Or.inr (by unfold dipB; rw [decide_eq_true h1, decide_eq_true h2, h]; rfl)⟩
      · rw [if_neg h2] at h
        exact ⟨nx c i, nx_lt hi, Or.inl (of_decide_eq_true h)⟩
    · rw [if_neg h1] at h
      exact ⟨i, hi, Or.inl (of_decide_eq_true h)⟩
  · rintro ⟨i, hi, h⟩
    refine ⟨i, hi, ?_⟩
    cases hn : nearB c xs ys p.toInt64 q.toInt64 r i with
    | true => rfl
    | false =>
      exfalso
      obtain ⟨dx, dy, ex, ey, q1, q2, q3, q4, q5, q6⟩ := ints hF hi hp hq hr
      unfold nearB at hn
      rcases h with h | h
      · rw [z_lt, q4] at h
        have := near_ge (r := r.toInt) (dx := dx) (dy := dy) (ex := ex) (ey := ey) (by
          by_cases h1 : 0 < AL c xs ys i p.toInt64 q.toInt64
          · rw [if_pos h1] at hn
            have h1' := (z_lt _ _).mp h1
            rw [q1, show (0 : Int64).toInt = 0 from rfl] at h1'
            rw [if_pos h1']
            by_cases h2 : AL c xs ys i p.toInt64 q.toInt64 < LEN c xs ys i
            · rw [if_pos h2, decide_eq_false_iff_not, z_lt, q3, q6] at hn
              have h2' := (z_lt _ _).mp h2
              rw [q1, q2] at h2'
              rw [if_pos h2']; exact hn
            · rw [if_neg h2, decide_eq_false_iff_not, z_lt, q5] at hn
              have h2' := fun z => h2 ((z_lt _ _).mpr z)
              rw [q1, q2] at h2'
              rw [if_neg h2']; exact hn
          · rw [if_neg h1, decide_eq_false_iff_not, z_lt, q4] at hn
            have h1' := fun z => h1 ((z_lt _ _).mpr z)
            rw [q1, show (0 : Int64).toInt = 0 from rfl] at h1'
            rw [if_neg h1']; exact hn)
        omega
      · unfold dipB at h
        rw [Bool.and_eq_true, Bool.and_eq_true] at h
        rw [if_pos (of_decide_eq_true h.1), if_pos (of_decide_eq_true h.2.1), h.2.2] at hn
        cases hn
theorem near_anyE (hF : Fg c xs ys) {p q : Int32} (hp : sm 1000 p) (hq : sm 1000 q) {r : Int64} (hr : lb 640000 r) : (∃ i, i < c ∧ nearE c xs ys p.toInt64 q.toInt64 r i = true) ↔ ∃ i, i < c ∧ (¬ r < SQ xs ys i p.toInt64 q.toInt64 ∨ dipE c xs ys p.toInt64 q.toInt64 r i = true) := by
  constructor
  · rintro ⟨i, hi, h⟩
    unfold nearE at h
    by_cases h1 : 0 < AL c xs ys i p.toInt64 q.toInt64
    · rw [if_pos h1] at h
      by_cases h2 : AL c xs ys i p.toInt64 q.toInt64 < LEN c xs ys i
      · rw [if_pos h2] at h
        exact ⟨i, hi, Or.inr (by unfold dipE; rw [decide_eq_true h1, decide_eq_true h2, h]; rfl)⟩
      · rw [if_neg h2] at h
        exact ⟨nx c i, nx_lt hi, Or.inl (of_decide_eq_true h)⟩
    · rw [if_neg h1] at h
      exact ⟨i, hi, Or.inl (of_decide_eq_true h)⟩
  · rintro ⟨i, hi, h⟩
    refine ⟨i, hi, ?_⟩
    cases hn : nearE c xs ys p.toInt64 q.toInt64 r i with
    | true => rfl
    | false =>
      exfalso
      obtain ⟨dx, dy, ex, ey, q1, q2, q3, q4, q5, q6⟩ := ints hF hi hp hq hr
      unfold nearE at hn
      rcases h with h | h
      · rw [z_lt, q4] at h
        have := near_gt (r := r.toInt) (dx := dx) (dy := dy) (ex := ex) (ey := ey) (by
          by_cases h1 : 0 < AL c xs ys i p.toInt64 q.toInt64
          · rw [if_pos h1] at hn
            have h1' := (z_lt _ _).mp h1
            rw [q1, show (0 : Int64).toInt = 0 from rfl] at h1'
            rw [if_pos h1']
            by_cases h2 : AL c xs ys i p.toInt64 q.toInt64 < LEN c xs ys i
            · rw [if_pos h2, decide_eq_false_iff_not, Decidable.not_not, z_lt, q3, q6] at hn
              have h2' := (z_lt _ _).mp h2
              rw [q1, q2] at h2'
              rw [if_pos h2']; exact hn
            · rw [if_neg h2, decide_eq_false_iff_not, Decidable.not_not, z_lt, q5] at hn
              have h2' := fun z => h2 ((z_lt _ _).mpr z)
              rw [q1, q2] at h2'
              rw [if_neg h2']; exact hn
          · rw [if_neg h1, decide_eq_false_iff_not, Decidable.not_not, z_lt, q4] at hn
            have h1' := fun z => h1 ((z_lt _ _).mpr z)
            rw [q1, show (0 : Int64).toInt = 0 from rfl] at h1'
            rw [if_neg h1']; exact hn)
        omega
      · unfold dipE at h
        rw [Bool.and_eq_true, Bool.and_eq_true] at h
        rw [if_pos (of_decide_eq_true h.1), if_pos (of_decide_eq_true h.2.1), h.2.2] at hn
        cases hn
end Rail
