/-! part, in the model, and both -/
section Part2
variable {c f : Nat} {xs ys : Nat → Int32} {pt px py : Nat → Int32}
theorem m_partS {i k : Nat} {W1 W2 : Nat → Int32} {h : Int32} (hF : Fg c xs ys) (hM : Mf c xs ys pt px py f) (hf : f < 6) (hi : i < c) (hk : k ≤ 46) (F : Bool) : s_X2_part_53 pt px py (nI f) h (b2i F, nI i, nI k, W1, W2) = some (.inl (b2i (F && !notW c xs ys h i), nI (i + 1), nI (k + kN (keepB ys h i) + kN (crsB c ys h i)), (if crsB c ys h i = true then upd (if keepB ys h i = true then upd W1 k (xs i) else W1) (k + kN (keepB ys h i)) (crx c xs ys h i) else (if keepB ys h i = true then upd W1 k (xs i) else W1)), (if crsB c ys h i = true then upd (if keepB ys h i = true then upd W2 k (ys i) else W2) (k + kN (keepB ys h i)) h else (if keepB ys h i = true then upd W2 k (ys i) else W2)))) := by
  have hc := hF.1
  have hlow : ys (nx c i) - ys i = lowV c ys i := rfl
  have hupp : (xs (nx c i) - xs i) * (h - ys i) = uppV c xs ys h i := rfl
  unfold s_X2_part_53
  simp only []
  rw [if_pos (bin_nI hf (by decide)), nI_clamp (by omega), hM.1, if_neg (nI_ge hi (by omega))]
  simp only [nI_1, m_x0 hM hf hc hi, m_y0 hM hf hc hi, m_x1 hM hf hc hi, m_y1 hM hf hc hi, bs_e, ov_e, b2i_0, hlow, hupp]
  have kp : (if ys i < h then some (nI k, W1, W2) else (f_X2_lay (nI k) W1 W2 (xs i) (ys i)).bind fun r72 => some (r72.1, r72.2.1, r72.2.2)) = some (nI (k + kN (keepB ys h i)), if keepB ys h i = true then upd W1 k (xs i) else W1, if keepB ys h i = true then upd W2 k (ys i) else W2) := by
    by_cases h1 : ys i < h
    · have e : keepB ys h i = false := by unfold keepB; simp [h1]
      rw [if_pos h1, e]; rfl
    · have e : keepB ys h i = true := by unfold keepB; simp [h1]
      rw [if_neg h1, m_lay (by omega), bs_e, e]; rfl
  rw [kp, bs_e]
  dsimp only
  have hkk : k + kN (keepB ys h i) < 48 := by
    have : kN (keepB ys h i) ≤ 1 := by unfold kN; split <;> omega
    omega
  have lt_ : ∀ {a b : Int32}, ¬ a ≤ b → b < a := fun q => Int32.not_le.mp q
  cases q : crsB c ys h i with
  | false =>
    have nw : notW c xs ys h i = false := by unfold notW; rw [q]; rfl
    rw [nw]
    unfold crsB at q
    rw [Bool.or_eq_false_iff, Bool.and_eq_false_iff, Bool.and_eq_false_iff, decide_eq_false_iff_not, decide_eq_false_iff_not, decide_eq_false_iff_not, decide_eq_false_iff_not, Int32.not_lt, Int32.not_lt, Int32.not_lt, Int32.not_lt] at q
    have fin : (some (Sum.inl (b2i F, nI (i + 1), nI (k + kN (keepB ys h i)), if keepB ys h i = true then upd W1 k (xs i) else W1, if keepB ys h i = true then upd W2 k (ys i) else W2)) : Option ((Int32 × Int32 × Int32 × (Nat → Int32) × (Nat → Int32)) ⊕ (Int32 × Int32 × (Nat → Int32) × (Nat → Int32)))) = some (Sum.inl (b2i (F && !false), nI (i + 1), nI (k + kN (keepB ys h i) + kN false), (if false = true then upd (if keepB ys h i = true then upd W1 k (xs i) else W1) (k + kN (keepB ys h i)) (crx c xs ys h i) else (if keepB ys h i = true then upd W1 k (xs i) else W1)), (if false = true then upd (if keepB ys h i = true then upd W2 k (ys i) else W2) (k + kN (keepB ys h i)) h else (if keepB ys h i = true then upd W2 k (ys i) else W2)))) := by
      cases F <;> rfl
    by_cases h1 : h ≤ ys i
    · rw [if_pos h1]
      by_cases h2 : ys i ≤ h
      · rw [if_pos h2]; exact fin
      · rw [if_neg h2, if_pos (q.2.resolve_left h2)]; exact fin
    · have h2 : ys i ≤ h := Int32.le_of_lt (lt_ h1)
      rw [if_neg h1, if_neg (Int32.not_lt.mpr (q.1.resolve_left h1)), if_pos h2]; exact fin
  | true =>
    have z := low_ne hF hi q
    have nw : notW c xs ys h i = decide (¬ uppV c xs ys h i - uppV c xs ys h i / lowV c ys i * lowV c ys i = 0) := by unfold notW; rw [q]; rfl
    have fl : (if F = false then some (0 : Int32) else if lowV c ys i = 0 then none else if uppV c xs ys h i - uppV c xs ys h i / lowV c ys i * lowV c ys i = 0 then some 1 else some 0) = some (b2i (F && !notW c xs ys h i)) := by
      rw [nw, if_neg z]
      by_cases w : uppV c xs ys h i - uppV c xs ys h i / lowV c ys i * lowV c ys i = 0
      · rw [if_pos w, decide_eq_false (fun x => x w)]; cases F <;> rfl
      · rw [if_neg w, decide_eq_true w]; cases F <;> rfl
    unfold crsB at q
    rcases (Bool.or_eq_true _ _).mp q with q | q
    · rw [Bool.and_eq_true, decide_eq_true_iff, decide_eq_true_iff] at q
      rw [if_neg (Int32.not_le.mpr q.1), if_pos q.2, fl, bs_e, if_neg z, m_lay hkk, bs_e]; rfl
    · rw [Bool.and_eq_true, decide_eq_true_iff, decide_eq_true_iff] at q
      rw [if_pos (Int32.le_of_lt q.1), if_neg (Int32.not_le.mpr q.1), if_neg (Int32.not_le.mpr q.2), fl, bs_e, if_neg z, m_lay hkk, bs_e]; rfl
theorem m_partL {u v : Nat → Int32} {h : Int32} (hF : Fg c xs ys) (hM : Mf c xs ys pt px py f) (hf : f < 6) : lpf (s_X2_part_53 pt px py (nI f) h) 1000 ((1 : Int32), (0 : Int32), (0 : Int32), u, v) = some (b2i (!anyTo (notW c xs ys h) c), nI (cnt c ys h c), arW (cnt c ys h) (keepB ys h) (crsB c ys h) xs (crx c xs ys h) u c, arW (cnt c ys h) (keepB ys h) (crsB c ys h) ys (fun _ => h) v c) := by
  have hc := hF.1
  refine lpf_run (fun i => (b2i (!anyTo (notW c xs ys h) i), nI i, nI (cnt c ys h i), arW (cnt c ys h) (keepB ys h) (crsB c ys h) xs (crx c xs ys h) u i, arW (cnt c ys h) (keepB ys h) (crsB c ys h) ys (fun _ => h) v i)) c rfl (fun i hi => ?_) ?_ (by omega)
  · have hk := cnt_le (c := c) (ys := ys) h i
    rw [m_partS hF hM hf hi (by omega)]
    simp only [anyTo, cnt, arW]
    rw [Bool.not_or]
  · unfold s_X2_part_53
    simp only []
    rw [if_pos (bin_nI hf (by decide)), nI_clamp (by omega), hM.1, if_pos (nI_le (Nat.le_refl c) (by omega))]
end Part2
theorem op_part {X Y : Nat → Nat → Int32} {N : Nat → Int32} {pt px py : Nat → Int32} (hR : Rl X Y N pt px py) (ma : Int32) (u v : Nat → Int32) (a1 a2 a3 : Int32) : Av (f_X1_part X Y N a1 a2 a3) (f_X2_part pt px py ma u v a1 a2 a3) := by
  unfold f_X1_part f_X2_part
  rcases fig_case hR a1 with h | ⟨f, c, hf, rfl, hF, hN, hM⟩
  · simp only [m_isFigure, h, bs_e, b2i_0, Bool.false_eq_true, if_false, ov_e, if_true]
    refine ⟨_, _, _, _, _, _, _, _, _, _, ?_, rfl, hR⟩
    split <;> rfl
  · rcases fig_case hR a2 with h | ⟨g, k, hg, rfl, hG, hK, hL⟩
    · simp only [m_isFigure, bin_nI hf (by decide), h, bs_e, b2i_0, Bool.false_eq_true, Bool.true_eq_false, if_false, ov_e, if_true]
      exact ⟨_, _, _, _, _, _, _, _, _, _, rfl, rfl, hR⟩
    · have hc := hF.1
      simp only [m_isFigure, m_isPlace, c_within, bin_nI hf (by decide), bin_nI hg (by decide), bs_e, b2i_0, Bool.true_eq_false, if_false, ov_e, if_true, nI_clamp (show f < 2 ^ 31 by omega), nI_clamp (show g < 2 ^ 31 by omega), hN, hK, c_closed hc, m_isClosed hf hc hM.1]
      by_cases e : nI f = nI g
      · rw [if_pos e, if_pos e]
        exact ⟨_, _, _, _, _, _, _, _, _, _, rfl, rfl, hR⟩
      · rw [if_neg e, if_neg e]
        cases e3 : inb a3 (-100) 100 with
        | false => exact ⟨_, _, _, _, _, _, _, _, _, _, rfl, rfl, hR⟩
        | true =>
          have hh := sm100 e3
          cases decide (3 ≤ c) with
          | false => exact ⟨_, _, _, _, _, _, _, _, _, _, rfl, rfl, hR⟩
          | true =>
            simp only [Bool.true_eq_false, if_false]
            rw [c_placesFrom hF, bs_e, m_partL hF hM hf, bs_e]
            dsimp only
            have hle := cnt_le (c := c) (ys := Y f) a3 c
            by_cases full : cnt c (Y f) a3 c ≤ 24
            · rw [if_pos (show nI (cnt c (Y f) a3 c) ≤ (24 : Int32) from nI_le (b := 24) full (by decide)), if_pos (show nI (cnt c (Y f) a3 c) ≤ (24 : Int32) from nI_le (b := 24) full (by decide)), c_crossesWhole hF hh, bs_e]
              simp only [b2i_0]
              cases nw : anyTo (notW c (X f) (Y f) a3) c with
              | true => exact ⟨_, _, _, _, _, _, _, _, _, _, rfl, rfl, hR⟩
              | false =>
                have nw' := anyTo_no' nw
                rw [if_neg (by decide), if_neg (by decide), c_becomeUpper hF hh full, bs_e, m_take full hg, bs_e]
                refine ⟨_, _, _, _, _, _, _, _, _, _, rfl, rfl, ?_⟩
                refine Rl_take hR full (fun i hi => ?_)
                dsimp only
                have hks : ∀ i, cnt c (Y f) a3 (i + 1) = cnt c (Y f) a3 i + kN (keepB (Y f) a3 i) + kN (crsB c (Y f) a3 i) := fun _ => rfl
                refine ⟨⟨?_, ?_⟩, ar_same hks c i hi rfl, ar_same hks c i hi rfl⟩
                · exact ar_sm (n := c) hks rfl (fun j hj => (hF.2 j hj).1) (fun j hj hcr => crx_sm hF hj hh hcr (nw' j hj)) c i (Nat.le_refl c) hi
                · exact ar_sm (n := c) hks rfl (fun j hj => (hF.2 j hj).2) (fun j hj hcr => hh) c i (Nat.le_refl c) hi
            · rw [if_neg (show ¬ nI (cnt c (Y f) a3 c) ≤ (24 : Int32) from nI_ge (a := 24) (by omega) (by omega)), if_neg (show ¬ nI (cnt c (Y f) a3 c) ≤ (24 : Int32) from nI_ge (a := 24) (by omega) (by omega))]
              exact ⟨_, _, _, _, _, _, _, _, _, _, rfl, rfl, hR⟩
