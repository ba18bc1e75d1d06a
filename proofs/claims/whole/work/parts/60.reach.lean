/-! rail and reaches -/
section Reach
variable {c f : Nat} {xs ys : Nat → Int32} {pt px py : Nat → Int32}
theorem near_val (r p q : Int64) (i : Nat) : (0 ≤ (if 0 < AL c xs ys i p q then (if AL c xs ys i p q < LEN c xs ys i then cv (LO c xs ys i p q * LO c xs ys i p q) (r * LEN c xs ys i) else cv (SQ xs ys (nx c i) p q) r) else cv (SQ xs ys i p q) r)) ↔ nearB c xs ys p q r i = false := by
  unfold nearB
  by_cases h1 : 0 < AL c xs ys i p q
  · rw [if_pos h1, if_pos h1]
    by_cases h2 : AL c xs ys i p q < LEN c xs ys i
    · rw [if_pos h2, if_pos h2, cv_ge, decide_eq_false_iff_not]
    · rw [if_neg h2, if_neg h2, cv_ge, decide_eq_false_iff_not]
  · rw [if_neg h1, if_neg h1, cv_ge, decide_eq_false_iff_not]
theorem near_valE (r p q : Int64) (i : Nat) : (0 < (if 0 < AL c xs ys i p q then (if AL c xs ys i p q < LEN c xs ys i then cv (LO c xs ys i p q * LO c xs ys i p q) (r * LEN c xs ys i) else cv (SQ xs ys (nx c i) p q) r) else cv (SQ xs ys i p q) r)) ↔ nearE c xs ys p q r i = false := by
  unfold nearE
  by_cases h1 : 0 < AL c xs ys i p q
  · rw [if_pos h1, if_pos h1]
    by_cases h2 : AL c xs ys i p q < LEN c xs ys i
    · rw [if_pos h2, if_pos h2, cv_gt, decide_eq_false_iff_not, Decidable.not_not]
    · rw [if_neg h2, if_neg h2, cv_gt, decide_eq_false_iff_not, Decidable.not_not]
  · rw [if_neg h1, if_neg h1, cv_gt, decide_eq_false_iff_not, Decidable.not_not]
def badL (c : Nat) (xs ys : Nat → Int32) (a : Int32) (r : Int64) (i : Nat) : Bool := decide (xs i < a) || nearB c xs ys a.toInt64 (0 : Int32).toInt64 r i
def badRt (xs ys : Nat → Int32) (b : Int32) (r : Int64) (i : Nat) : Bool := decide (b < xs i) && decide (r < SQ xs ys i b.toInt64 (0 : Int32).toInt64)
theorem sm0 : sm 1000 (0 : Int32) := show (0 : Int32).toInt.natAbs ≤ 1000 by decide
theorem c_neverLeftOf {ro a : Int32} (hF : Fg c xs ys) (ha : sm 1000 a) : f_X1_neverLeftOf ro xs ys (nI c) a = some (b2i (!anyTo (badL c xs ys a (ro.toInt64 * ro.toInt64)) c)) := by
  have hc := hF.1
  unfold f_X1_neverLeftOf
  rw [ov_e]
  have hL : lpf (s_X1_neverLeftOf_15 xs ys (nI c) a (ro.toInt64 * ro.toInt64)) 1000 (0 : Int32) = some (if anyTo (badL c xs ys a (ro.toInt64 * ro.toInt64)) c = true then .inl 0 else .inr ()) := by
    have st : ∀ i, i < c → s_X1_neverLeftOf_15 xs ys (nI c) a (ro.toInt64 * ro.toInt64) (nI i) = some (if badL c xs ys a (ro.toInt64 * ro.toInt64) i = true then .inr (.inl 0) else .inl (nI (i + 1))) := by
      intro i hi
      unfold s_X1_neverLeftOf_15
      rw [if_neg (nI_ge hi (by omega)), c_x (show i < 24 by omega), bs_e, c_nearest hF hi ha sm0, bs_e, ov_e, nI_1]
      simp only [near_val]
      unfold badL
      by_cases h1 : xs i < a
      · simp [h1]
      · cases nearB c xs ys a.toInt64 (0 : Int32).toInt64 (ro.toInt64 * ro.toInt64) i <;> simp [h1]
    refine lpf_any (fun i => nI i) c _ _ _ rfl (fun i hi h => ?_) (fun i hi h => ?_) ?_ (by omega)
    · rw [st i hi, if_neg (by rw [h]; decide)]
    · rw [st i hi, if_pos h]
    · unfold s_X1_neverLeftOf_15
      rw [if_pos (nI_le (Nat.le_refl c) (by omega))]
  rw [hL]
  cases h : anyTo (badL c xs ys a (ro.toInt64 * ro.toInt64)) c <;> rfl
theorem c_neverRightOf {ro b : Int32} (hF : Fg c xs ys) : f_X1_neverRightOf ro xs ys (nI c) b = some (b2i (!anyTo (badRt xs ys b (ro.toInt64 * ro.toInt64)) c)) := by
  have hc := hF.1
  unfold f_X1_neverRightOf
  rw [ov_e]
  have hL : lpf (s_X1_neverRightOf_15 xs ys (nI c) b (ro.toInt64 * ro.toInt64)) 1000 (0 : Int32) = some (if anyTo (badRt xs ys b (ro.toInt64 * ro.toInt64)) c = true then .inl 0 else .inr ()) := by
    have st : ∀ i, i < c → s_X1_neverRightOf_15 xs ys (nI c) b (ro.toInt64 * ro.toInt64) (nI i) = some (if badRt xs ys b (ro.toInt64 * ro.toInt64) i = true then .inr (.inl 0) else .inl (nI (i + 1))) := by
      intro i hi
      unfold s_X1_neverRightOf_15
      rw [if_neg (nI_ge hi (by omega)), c_x (show i < 24 by omega), bs_e, c_squareTo (show i < 24 by omega), bs_e, ov_e, nI_1]
      simp only [cmp_le]
      unfold badRt
      rw [show (0 : Int32).toInt64 = (0 : Int64) from rfl]
      by_cases h1 : xs i ≤ b
      · simp [h1, ← Int32.not_le]
      · by_cases h2 : SQ xs ys i b.toInt64 0 ≤ ro.toInt64 * ro.toInt64
        · simp [h1, h2, ← Int32.not_le, ← Int64.not_le]
        · simp [h1, h2, ← Int32.not_le, ← Int64.not_le]
    refine lpf_any (fun i => nI i) c _ _ _ rfl (fun i hi h => ?_) (fun i hi h => ?_) ?_ (by omega)
    · rw [st i hi, if_neg (by rw [h]; decide)]
    · rw [st i hi, if_pos h]
    · unfold s_X1_neverRightOf_15
      rw [if_pos (nI_le (Nat.le_refl c) (by omega))]
  rw [hL]
  cases h : anyTo (badRt xs ys b (ro.toInt64 * ro.toInt64)) c <;> rfl
/-- the model's places -/
def stB (xs ys : Nat → Int32) (a b : Int32) (r : Int64) (i : Nat) : Bool := !(decide (xs i < a) || (decide (SQ xs ys i a.toInt64 (0 : Int32).toInt64 < r) || (decide (b < xs i) && decide (r < SQ xs ys i b.toInt64 (0 : Int32).toInt64))))
theorem sq_int {i : Nat} (hF : Fg c xs ys) (hi : i < c) {p q : Int32} (hp : sm 1000 p) (hq : sm 1000 q) : (SQ xs ys i p.toInt64 q.toInt64).toInt = (p.toInt - (xs i).toInt) * (p.toInt - (xs i).toInt) + (q.toInt - (ys i).toInt) * (q.toInt - (ys i).toInt) := by
  have bi := hF.2 i hi
  have e1 := lb_sub (lb_w hp) (lb_w bi.1) (by decide)
  have e2 := lb_sub (lb_w hq) (lb_w bi.2) (by decide)
  have s1 := lb_mul e1.2 e1.2 (by decide)
  have s2 := lb_mul e2.2 e2.2 (by decide)
  have s3 := lb_add s1.2 s2.2 (by decide)
  unfold SQ; rw [s3.1, s1.1, s2.1, e1.1, e2.1]; simp only [w_toInt]
theorem m_stands {i : Nat} {ro a b : Int32} (hF : Fg c xs ys) (hi : i < c) (hr : sm 400 ro) (ha : sm 1000 a) (hb : sm 1000 b) : f_X2_standsWell ro (xs i) (ys i) a b = some (b2i (stB xs ys a b (ro.toInt64 * ro.toInt64) i)) := by
  have bi := hF.2 i hi
  have qa := sq_int hF hi ha sm0
  have qb := sq_int hF hi hb sm0
  have r2 := lb_mul (lb_w hr) (lb_w hr) (by decide)
  have y2 := lb_mul (lb_w bi.2) (lb_w bi.2) (by decide)
  have wd := lb_sub r2.2 y2.2 (by decide)
  have va := lb_sub (lb_w bi.1) (lb_w ha) (by decide)
  have vb := lb_sub (lb_w bi.1) (lb_w hb) (by decide)
  have va2 := lb_mul va.2 va.2 (by decide)
  have vb2 := lb_mul vb.2 vb.2 (by decide)
  unfold f_X2_standsWell
  simp only [ov_e, cmp_lt, cmp_le, cmp_gt]
  rw [w_sub bi.1 ha (by decide), w_sub bi.1 hb (by decide)]
  have e1 : (xs i).toInt64 - a.toInt64 < 0 ↔ xs i < a := by
    rw [z_lt, va.1, w_toInt, w_toInt, Int32.lt_iff_toInt_lt, show (0 : Int64).toInt = 0 from rfl]; omega
  have e2 : ((xs i).toInt64 - a.toInt64) * ((xs i).toInt64 - a.toInt64) < ro.toInt64 * ro.toInt64 - (ys i).toInt64 * (ys i).toInt64 ↔ SQ xs ys i a.toInt64 (0 : Int32).toInt64 < ro.toInt64 * ro.toInt64 := by
    rw [z_lt, z_lt, qa, va2.1, va.1, wd.1, r2.1, y2.1]
    simp only [w_toInt]
    rw [show (0 : Int32).toInt = 0 from rfl]
    have g1 : ((xs i).toInt - a.toInt) * ((xs i).toInt - a.toInt) = (a.toInt - (xs i).toInt) * (a.toInt - (xs i).toInt) := by grind
    have g2 : (0 - (ys i).toInt) * (0 - (ys i).toInt) = (ys i).toInt * (ys i).toInt := by grind
    rw [g1, g2]; omega
  have e3 : (xs i).toInt64 - b.toInt64 ≤ 0 ↔ ¬ b < xs i := by
    rw [← Int64.not_lt, z_lt, vb.1, w_toInt, w_toInt, Int32.lt_iff_toInt_lt, show (0 : Int64).toInt = 0 from rfl]; omega
  have e4 : ro.toInt64 * ro.toInt64 - (ys i).toInt64 * (ys i).toInt64 < ((xs i).toInt64 - b.toInt64) * ((xs i).toInt64 - b.toInt64) ↔ ro.toInt64 * ro.toInt64 < SQ xs ys i b.toInt64 (0 : Int32).toInt64 := by
    rw [z_lt, z_lt, qb, vb2.1, vb.1, wd.1, r2.1, y2.1]
    simp only [w_toInt]
    rw [show (0 : Int32).toInt = 0 from rfl]
    have g1 : ((xs i).toInt - b.toInt) * ((xs i).toInt - b.toInt) = (b.toInt - (xs i).toInt) * (b.toInt - (xs i).toInt) := by grind
    have g2 : (0 - (ys i).toInt) * (0 - (ys i).toInt) = (ys i).toInt * (ys i).toInt := by grind
    rw [g1, g2]; omega
  simp only [e1, e2, e3, e4]
  unfold stB
  by_cases h1 : xs i < a <;> by_cases h2 : SQ xs ys i a.toInt64 (0 : Int32).toInt64 < ro.toInt64 * ro.toInt64 <;> by_cases h3 : b < xs i <;> by_cases h4 : ro.toInt64 * ro.toInt64 < SQ xs ys i b.toInt64 (0 : Int32).toInt64 <;> simp only [h1, h2, h3, h4, decide_true, decide_false, if_true, if_false, not_true_eq_false, not_false_eq_true] <;> rfl
theorem m_dips {i : Nat} {p q : Int32} (hF : Fg c xs ys) (hM : Mf c xs ys pt px py f) (hf : f < 6) (hi : i < c) (hp : sm 1000 p) (hq : sm 1000 q) (w : Int64) : f_X2_dips pt px py (nI f) (nI i) p q w = some (b2i (dipB c xs ys p.toInt64 q.toInt64 (w * w) i)) := by
  have hc := hF.1
  have bi := hF.2 i hi
  have bj := hF.2 _ (nx_lt hi)
  unfold f_X2_dips
  simp only [nI_1, m_x0 hM hf hc hi, m_y0 hM hf hc hi, m_x1 hM hf hc hi, m_y1 hM hf hc hi, bs_e, ov_e, cmp_le, cmp_ge]
  rw [w_sub bj.1 bi.1 (by decide), w_sub bj.2 bi.2 (by decide), w_sub hp bi.1 (by decide), w_sub hq bi.2 (by decide)]
  have e1 : (p.toInt64 - (xs i).toInt64) * ((xs (nx c i)).toInt64 - (xs i).toInt64) + (q.toInt64 - (ys i).toInt64) * ((ys (nx c i)).toInt64 - (ys i).toInt64) = AL c xs ys i p.toInt64 q.toInt64 := by unfold AL; grind
  have e2 : ((p.toInt64 - (xs i).toInt64) * ((ys (nx c i)).toInt64 - (ys i).toInt64) - (q.toInt64 - (ys i).toInt64) * ((xs (nx c i)).toInt64 - (xs i).toInt64)) * ((p.toInt64 - (xs i).toInt64) * ((ys (nx c i)).toInt64 - (ys i).toInt64) - (q.toInt64 - (ys i).toInt64) * ((xs (nx c i)).toInt64 - (xs i).toInt64)) = LO c xs ys i p.toInt64 q.toInt64 * LO c xs ys i p.toInt64 q.toInt64 := by unfold LO; grind
  rw [e1, e2, show ((xs (nx c i)).toInt64 - (xs i).toInt64) * ((xs (nx c i)).toInt64 - (xs i).toInt64) + ((ys (nx c i)).toInt64 - (ys i).toInt64) * ((ys (nx c i)).toInt64 - (ys i).toInt64) = LEN c xs ys i from rfl]
  unfold dipB
  by_cases h1 : AL c xs ys i p.toInt64 q.toInt64 ≤ 0
  · simp [h1, ← Int64.not_le, b2i]
  · by_cases h2 : LEN c xs ys i ≤ AL c xs ys i p.toInt64 q.toInt64
    · simp [h1, h2, ← Int64.not_le, b2i]
    · by_cases h3 : w * w * LEN c xs ys i ≤ LO c xs ys i p.toInt64 q.toInt64 * LO c xs ys i p.toInt64 q.toInt64
      · simp [h1, h2, h3, ← Int64.not_le, b2i]
      · simp [h1, h2, h3, ← Int64.not_le, b2i]
theorem m_touches {i : Nat} {p q : Int32} (hF : Fg c xs ys) (hM : Mf c xs ys pt px py f) (hf : f < 6) (hi : i < c) (hp : sm 1000 p) (hq : sm 1000 q) (w : Int64) : f_X2_touches p q pt px py (nI f) (nI i) w = some (b2i (dipE c xs ys p.toInt64 q.toInt64 (w * w) i)) := by
  have hc := hF.1
  have bi := hF.2 i hi
  have bj := hF.2 _ (nx_lt hi)
  unfold f_X2_touches
  simp only [nI_1, m_x0 hM hf hc hi, m_y0 hM hf hc hi, m_x1 hM hf hc hi, m_y1 hM hf hc hi, bs_e, ov_e, cmp_le, cmp_ge, cmp_gt]
  rw [w_sub bj.1 bi.1 (by decide), w_sub bj.2 bi.2 (by decide), w_sub hp bi.1 (by decide), w_sub hq bi.2 (by decide)]
  have e1 : (p.toInt64 - (xs i).toInt64) * ((xs (nx c i)).toInt64 - (xs i).toInt64) + (q.toInt64 - (ys i).toInt64) * ((ys (nx c i)).toInt64 - (ys i).toInt64) = AL c xs ys i p.toInt64 q.toInt64 := by unfold AL; grind
  have e2 : ((p.toInt64 - (xs i).toInt64) * ((ys (nx c i)).toInt64 - (ys i).toInt64) - (q.toInt64 - (ys i).toInt64) * ((xs (nx c i)).toInt64 - (xs i).toInt64)) * ((p.toInt64 - (xs i).toInt64) * ((ys (nx c i)).toInt64 - (ys i).toInt64) - (q.toInt64 - (ys i).toInt64) * ((xs (nx c i)).toInt64 - (xs i).toInt64)) = LO c xs ys i p.toInt64 q.toInt64 * LO c xs ys i p.toInt64 q.toInt64 := by unfold LO; grind
  rw [e1, e2, show ((xs (nx c i)).toInt64 - (xs i).toInt64) * ((xs (nx c i)).toInt64 - (xs i).toInt64) + ((ys (nx c i)).toInt64 - (ys i).toInt64) * ((ys (nx c i)).toInt64 - (ys i).toInt64) = LEN c xs ys i from rfl]
  unfold dipE
  by_cases h1 : AL c xs ys i p.toInt64 q.toInt64 ≤ 0
  · simp [h1, ← Int64.not_le, b2i]
  · by_cases h2 : LEN c xs ys i ≤ AL c xs ys i p.toInt64 q.toInt64
    · simp [h1, h2, ← Int64.not_le, b2i]
    · by_cases h3 : w * w * LEN c xs ys i < LO c xs ys i p.toInt64 q.toInt64 * LO c xs ys i p.toInt64 q.toInt64
      · simp only [if_pos h3, if_neg h1, if_neg h2, decide_eq_true h3]; simp [h1, h2, h3, ← Int64.not_le, b2i]
      · simp only [if_neg h3, if_neg h1, if_neg h2]; simp [h1, h2, h3, ← Int64.not_le, b2i]
def badMr (c : Nat) (xs ys : Nat → Int32) (a b : Int32) (r : Int64) (i : Nat) : Bool := !stB xs ys a b r i || dipB c xs ys a.toInt64 (0 : Int32).toInt64 r i
theorem rail_any {a b : Int32} (hF : Fg c xs ys) (ha : sm 1000 a) {r : Int64} (hr : lb 640000 r) : (anyTo (badL c xs ys a r) c || anyTo (badRt xs ys b r) c) = anyTo (badMr c xs ys a b r) c := by
  have na := near_any (c := c) hF ha sm0 hr
  have key : (anyTo (badL c xs ys a r) c || anyTo (badRt xs ys b r) c) = true ↔ anyTo (badMr c xs ys a b r) c = true := by
    rw [Bool.or_eq_true, anyTo_iff, anyTo_iff, anyTo_iff]
    constructor
    · rintro (⟨i, hi, h⟩ | ⟨i, hi, h⟩)
      · unfold badL at h
        rcases (Bool.or_eq_true _ _).mp h with h | h
        · exact ⟨i, hi, by unfold badMr stB; rw [h]; rfl⟩
        · obtain ⟨j, hj, h⟩ := na.mp ⟨i, hi, h⟩
          rcases h with h | h
          · exact ⟨j, hj, by unfold badMr stB; rw [decide_eq_true h]; simp⟩
          · exact ⟨j, hj, by unfold badMr; rw [h]; simp⟩
      · exact ⟨i, hi, by unfold badRt at h; unfold badMr stB; rw [h]; simp⟩
    · rintro ⟨i, hi, h⟩
      unfold badMr at h
      rcases (Bool.or_eq_true _ _).mp h with h | h
      · unfold stB at h
        rw [Bool.not_not] at h
        rcases (Bool.or_eq_true _ _).mp h with h | h
        · exact Or.inl ⟨i, hi, by unfold badL; rw [h]; rfl⟩
        · rcases (Bool.or_eq_true _ _).mp h with h | h
          · obtain ⟨j, hj, h⟩ := na.mpr ⟨i, hi, Or.inl (of_decide_eq_true h)⟩
            exact Or.inl ⟨j, hj, by unfold badL; rw [h]; simp⟩
          · exact Or.inr ⟨i, hi, h⟩
      · obtain ⟨j, hj, h⟩ := na.mpr ⟨i, hi, Or.inr h⟩
        exact Or.inl ⟨j, hj, by unfold badL; rw [h]; simp⟩
  cases e : anyTo (badMr c xs ys a b r) c with
  | true => exact key.mpr e
  | false =>
    cases e2 : (anyTo (badL c xs ys a r) c || anyTo (badRt xs ys b r) c) with
    | false => rfl
    | true => rw [key.mp e2] at e; cases e
theorem m_railL {ro a b : Int32} (hF : Fg c xs ys) (hM : Mf c xs ys pt px py f) (hf : f < 6) (hr : sm 400 ro) (ha : sm 1000 a) (hb : sm 1000 b) : lpf (s_X2_rail_64 ro pt px py (nI f) a b) 1000 (1, 0) = some (b2i (!anyTo (badMr c xs ys a b (ro.toInt64 * ro.toInt64)) c)) := by
  have hc := hF.1
  refine lpf_flag 0 c _ (fun i hi => ?_) (fun i hi => ?_) ?_ (by omega)
  · rw [Nat.zero_add]
    unfold s_X2_rail_64
    simp only []
    rw [if_pos (bin_nI hf (by decide)), nI_clamp (by omega), hM.1, if_neg (nI_ge hi (by omega)), if_neg (by decide), m_x0 hM hf hc hi, bs_e, m_y0 hM hf hc hi, bs_e, m_stands hF hi hr ha hb, bs_e, m_dips hF hM hf hi ha sm0, bs_e]
    simp only [b2i_0, ov_e, nI_1]
    unfold badMr
    cases stB xs ys a b (ro.toInt64 * ro.toInt64) i <;> cases dipB c xs ys a.toInt64 (0 : Int32).toInt64 (ro.toInt64 * ro.toInt64) i <;> rfl
  · unfold s_X2_rail_64
    simp only []
    rw [if_pos (bin_nI hf (by decide)), nI_clamp (by omega), hM.1]
    by_cases q : nI c ≤ nI (0 + i)
    · rw [if_pos q]
    · rw [if_neg q, if_pos trivial]
  · unfold s_X2_rail_64
    simp only []
    rw [if_pos (bin_nI hf (by decide)), nI_clamp (by omega), hM.1, Nat.zero_add, if_pos (nI_le (Nat.le_refl c) (by omega))]
end Reach
theorem op_rail {X Y : Nat → Nat → Int32} {N : Nat → Int32} {pt px py : Nat → Int32} {ro rn tn fx fy ar wh : Int32} (hG : Rg ro rn tn fx fy ar wh) (hR : Rl X Y N pt px py) (a1 a2 a3 : Int32) : Ag (f_X1_rail ro X Y N a1 a2 a3) (f_X2_rail ro pt px py a1 a2 a3) := by
  have g1 := hG.1
  have hr := Ro_of g1
  have b1 : sm 400 ro := sm_of_inb g1 (by decide) (by decide)
  unfold f_X1_rail f_X2_rail
  rcases fig_case hR a1 with h | ⟨f, c, hf, rfl, hF, hN, hM⟩
  · simp only [m_isFigure, h, bs_e, b2i_0]
    exact Ag.e _
  · have hc := hF.1
    simp only [m_isFigure, bin_nI hf (by decide), if_true, ov_e, nI_clamp (show f < 2 ^ 31 by omega), hN, hM.1, bs_e, b2i_0, c_closed hc, m_isClosed hf hc hM.1, c_oneIf0, c_oneIf1, c_within, m_in2, c_goesRound hF hr, m_canGo hM hf hc, Bool.true_eq_false, if_false]
    cases e1 : inb a2 (-1000) 1000 with
    | false => exact Ag.e _
    | true =>
      cases e2 : inb a3 (-1000) 1000 with
      | false => exact Ag.e _
      | true =>
        have s2 : sm 1000 a2 := sm_of_inb e1 (by decide) (by decide)
        have s3 : sm 1000 a3 := sm_of_inb e2 (by decide) (by decide)
        rw [c_neverLeftOf hF s2, c_neverRightOf hF]
        simp only [bs_e, b2i_0, Bool.true_eq_false, if_false]
        by_cases h3 : a2 ≤ a3
        · rw [if_pos h3, if_pos h3]
          cases decide (3 ≤ c) with
          | false => exact Ag.e _
          | true =>
            cases anyTo (farB (Y f) ro) c with
            | true =>
              have hz : lpf (s_X2_rail_64 ro pt px py (nI f) a2 a3) 1000 (b2i (!true), 0) = some 0 := by
                refine lpf_inr ?_
                unfold s_X2_rail_64
                simp only []
                rw [if_pos (bin_nI hf (by decide)), nI_clamp (by omega), hM.1]
                by_cases q : nI c ≤ 0
                · rw [if_pos q]; rfl
                · rw [if_neg q, if_pos (by decide)]; rfl
              rw [hz, bs_e]; exact Ag.e _
            | false =>
              rw [show b2i (!false) = 1 from rfl, m_railL hF hM hf b1 s2 s3, bs_e, ← rail_any hF s2 (lb_le (lb_mul (lb_w b1) (lb_w b1) (by decide)).2 (by decide))]
              simp only [b2i_0]
              cases anyTo (badL c (X f) (Y f) a2 (ro.toInt64 * ro.toInt64)) c <;> cases anyTo (badRt (X f) (Y f) a3 (ro.toInt64 * ro.toInt64)) c <;> exact Ag.e _
        · rw [if_neg h3, if_neg h3]; exact Ag.e _
