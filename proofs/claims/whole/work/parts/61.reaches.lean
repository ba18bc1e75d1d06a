/-! reaches -/
section Reaches
variable {c f : Nat} {xs ys : Nat → Int32} {pt px py : Nat → Int32}
def farE (xs ys : Nat → Int32) (p q r : Int64) (i : Nat) : Bool := decide (¬ SQ xs ys i p q < r)
theorem c_beyond {ro ar p q : Int32} (hF : Fg c xs ys) (hp : sm 1000 p) (hq : sm 1000 q) : f_X1_beyondFolded ro p q ar xs ys (nI c) = some (b2i (!anyTo (nearE c xs ys p.toInt64 q.toInt64 ((ar - ro).toInt64 * (ar - ro).toInt64)) c)) := by
  have hc := hF.1
  unfold f_X1_beyondFolded
  rw [ov_e]
  generalize (ar - ro).toInt64 = w
  have hL : lpf (s_X1_beyondFolded_14 p q xs ys (nI c) w) 1000 (0 : Int32) = some (if anyTo (nearE c xs ys p.toInt64 q.toInt64 (w * w)) c = true then .inl 0 else .inr ()) := by
    have st : ∀ i, i < c → s_X1_beyondFolded_14 p q xs ys (nI c) w (nI i) = some (if nearE c xs ys p.toInt64 q.toInt64 (w * w) i = true then .inr (.inl 0) else .inl (nI (i + 1))) := by
      intro i hi
      unfold s_X1_beyondFolded_14
      rw [if_neg (nI_ge hi (by omega)), c_nearest hF hi hp hq, bs_e, ov_e, nI_1]
      simp only [near_valE]
      cases nearE c xs ys p.toInt64 q.toInt64 (w * w) i <;> rfl
    refine lpf_any (fun i => nI i) c _ _ _ rfl (fun i hi h => ?_) (fun i hi h => ?_) ?_ (by omega)
    · rw [st i hi, if_neg (by rw [h]; decide)]
    · rw [st i hi, if_pos h]
    · unfold s_X1_beyondFolded_14
      rw [if_pos (nI_le (Nat.le_refl c) (by omega))]
  rw [hL]
  cases h : anyTo (nearE c xs ys p.toInt64 q.toInt64 (w * w)) c <;> rfl
theorem c_withinS {ro ar p q : Int32} (hF : Fg c xs ys) : f_X1_withinStretched ro p q ar xs ys (nI c) = some (b2i (!anyTo (farE xs ys p.toInt64 q.toInt64 ((ar + ro).toInt64 * (ar + ro).toInt64)) c)) := by
  have hc := hF.1
  unfold f_X1_withinStretched
  rw [ov_e]
  generalize (ar + ro).toInt64 = w
  have hL : lpf (s_X1_withinStretched_14 p q xs ys (nI c) w) 1000 (0 : Int32) = some (if anyTo (farE xs ys p.toInt64 q.toInt64 (w * w)) c = true then .inl 0 else .inr ()) := by
    have st : ∀ i, i < c → s_X1_withinStretched_14 p q xs ys (nI c) w (nI i) = some (if farE xs ys p.toInt64 q.toInt64 (w * w) i = true then .inr (.inl 0) else .inl (nI (i + 1))) := by
      intro i hi
      unfold s_X1_withinStretched_14
      rw [if_neg (nI_ge hi (by omega)), c_squareTo (show i < 24 by omega), bs_e, ov_e, nI_1]
      simp only [cmp_lt]
      unfold farE
      by_cases h : SQ xs ys i p.toInt64 q.toInt64 < w * w
      · simp [h]
      · simp [h]
    refine lpf_any (fun i => nI i) c _ _ _ rfl (fun i hi h => ?_) (fun i hi h => ?_) ?_ (by omega)
    · rw [st i hi, if_neg (by rw [h]; decide)]
    · rw [st i hi, if_pos h]
    · unfold s_X1_withinStretched_14
      rw [if_pos (nI_le (Nat.le_refl c) (by omega))]
  rw [hL]
  cases h : anyTo (farE xs ys p.toInt64 q.toInt64 (w * w)) c <;> rfl
def badRe (c : Nat) (xs ys : Nat → Int32) (p q r s : Int64) (i : Nat) : Bool := decide (¬ r < SQ xs ys i p q) || (farE xs ys p q s i || dipE c xs ys p q r i)
theorem m_reachL {p q : Int32} (hF : Fg c xs ys) (hM : Mf c xs ys pt px py f) (hf : f < 6) (hp : sm 1000 p) (hq : sm 1000 q) (u w : Int64) : lpf (s_X2_reaches_49 p q pt px py (nI f) u w) 1000 (1, 0) = some (b2i (!anyTo (badRe c xs ys p.toInt64 q.toInt64 (u * u) (w * w)) c)) := by
  have hc := hF.1
  refine lpf_run (fun i => (b2i (!anyTo (badRe c xs ys p.toInt64 q.toInt64 (u * u) (w * w)) i), nI i)) c rfl (fun i hi => ?_) ?_ (by omega)
  · have bi := hF.2 i hi
    unfold s_X2_reaches_49
    simp only [anyTo]
    rw [if_pos (bin_nI hf (by decide)), nI_clamp (by omega), hM.1, if_neg (nI_ge hi (by omega)), m_x0 hM hf hc hi, bs_e, m_y0 hM hf hc hi, ov_e, bs_e, ov_e, m_touches hF hM hf hi hp hq, bs_e]
    rw [w_sub bi.1 hp (by decide), w_sub bi.2 hq (by decide)]
    have e : ((xs i).toInt64 - p.toInt64) * ((xs i).toInt64 - p.toInt64) + ((ys i).toInt64 - q.toInt64) * ((ys i).toInt64 - q.toInt64) = SQ xs ys i p.toInt64 q.toInt64 := by unfold SQ; grind
    rw [e]
    simp only [ov_e, nI_1, b2i_0, cmp_le, cmp_ge]
    unfold badRe farE
    generalize SQ xs ys i p.toInt64 q.toInt64 = z
    have h1 : (z ≤ u * u) ↔ ¬ u * u < z := by rw [Int64.not_lt]
    have h2 : (w * w ≤ z) ↔ ¬ z < w * w := by rw [Int64.not_lt]
    simp only [h1, h2]
    cases anyTo (fun i => decide (¬ u * u < SQ xs ys i p.toInt64 q.toInt64) || (decide (¬ SQ xs ys i p.toInt64 q.toInt64 < w * w) || dipE c xs ys p.toInt64 q.toInt64 (u * u) i)) i <;> by_cases h3 : u * u < z <;> by_cases h4 : z < w * w <;> cases dipE c xs ys p.toInt64 q.toInt64 (u * u) i <;> simp [h3, h4, b2i]
  · unfold s_X2_reaches_49
    simp only []
    rw [if_pos (bin_nI hf (by decide)), nI_clamp (by omega), hM.1, if_pos (nI_le (Nat.le_refl c) (by omega))]
theorem reach_any {p q : Int32} (hF : Fg c xs ys) (hp : sm 1000 p) (hq : sm 1000 q) {r s : Int64} (hr : lb 640000 r) : (anyTo (nearE c xs ys p.toInt64 q.toInt64 r) c || anyTo (farE xs ys p.toInt64 q.toInt64 s) c) = anyTo (badRe c xs ys p.toInt64 q.toInt64 r s) c := by
  have na := near_anyE (c := c) hF hp hq hr
  have key : (anyTo (nearE c xs ys p.toInt64 q.toInt64 r) c || anyTo (farE xs ys p.toInt64 q.toInt64 s) c) = true ↔ anyTo (badRe c xs ys p.toInt64 q.toInt64 r s) c = true := by
    rw [Bool.or_eq_true, anyTo_iff, anyTo_iff, anyTo_iff]
    constructor
    · rintro (h | ⟨i, hi, h⟩)
      · obtain ⟨j, hj, h⟩ := na.mp h
        rcases h with h | h
        · exact ⟨j, hj, by unfold badRe; rw [decide_eq_true h]; rfl⟩
        · exact ⟨j, hj, by unfold badRe; rw [h]; simp⟩
      · exact ⟨i, hi, by unfold badRe; rw [h]; simp⟩
    · rintro ⟨i, hi, h⟩
      unfold badRe at h
      rcases (Bool.or_eq_true _ _).mp h with h | h
      · exact Or.inl (na.mpr ⟨i, hi, Or.inl (of_decide_eq_true h)⟩)
      · rcases (Bool.or_eq_true _ _).mp h with h | h
        · exact Or.inr ⟨i, hi, h⟩
        · exact Or.inl (na.mpr ⟨i, hi, Or.inr h⟩)
  cases e : anyTo (badRe c xs ys p.toInt64 q.toInt64 r s) c with
  | true => exact key.mpr e
  | false =>
    cases e2 : (anyTo (nearE c xs ys p.toInt64 q.toInt64 r) c || anyTo (farE xs ys p.toInt64 q.toInt64 s) c) with
    | false => rfl
    | true => rw [key.mp e2] at e; cases e
end Reaches
theorem op_reaches {X Y : Nat → Nat → Int32} {N : Nat → Int32} {pt px py : Nat → Int32} {ro rn tn fx fy ar wh : Int32} (hG : Rg ro rn tn fx fy ar wh) (hR : Rl X Y N pt px py) (a1 : Int32) : Ag (f_X1_reaches ro fx fy ar X Y N a1) (f_X2_reaches ro fx fy ar pt px py a1) := by
  obtain ⟨g1, -, -, g4, g5, g6, -⟩ := hG
  have b1 : sm 400 ro := sm_of_inb g1 (by decide) (by decide)
  have b6 : sm 400 ar := sm_of_inb g6 (by decide) (by decide)
  have s4 : sm 1000 fx := sm_of_inb g4 (by decide) (by decide)
  have s5 : sm 1000 fy := sm_of_inb g5 (by decide) (by decide)
  unfold f_X1_reaches f_X2_reaches
  rcases fig_case hR a1 with h | ⟨f, c, hf, rfl, hF, hN, hM⟩
  · simp only [m_isFigure, h, bs_e, b2i_0]
    exact Ag.e _
  · have hc := hF.1
    simp only [m_isFigure, bin_nI hf (by decide), if_true, ov_e, nI_clamp (show f < 2 ^ 31 by omega), hN, hM.1, bs_e, b2i_0, c_closed hc, m_isClosed hf hc hM.1, c_oneIf0, c_oneIf1, Bool.true_eq_false, if_false]
    have bw := (sm_sub b6 b1 (by decide)).2
    rw [c_beyond hF s4 s5, c_withinS hF, m_reachL hF hM hf s4 s5, bs_e, bs_e, bs_e, ← reach_any hF s4 s5 (lb_le (lb_mul (lb_w bw) (lb_w bw) (by decide)).2 (by decide))]
    simp only [b2i_0]
    cases decide (3 ≤ c) <;> cases anyTo (nearE c (X f) (Y f) fx.toInt64 fy.toInt64 ((ar - ro).toInt64 * (ar - ro).toInt64)) c <;> cases anyTo (farE (X f) (Y f) fx.toInt64 fy.toInt64 ((ar + ro).toInt64 * (ar + ro).toInt64)) c <;> exact Ag.e _
