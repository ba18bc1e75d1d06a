/-! copy -/
def src (t : Bool) (c j : Nat) : Nat := if t = true then (c - j) % c else j
theorem src_lt {t : Bool} {c j : Nat} (h : j < c) : src t c j < c := by
  unfold src; split
  · exact Nat.mod_lt _ (by omega)
  · exact h
/-- the first k places anew -/
def cpb (u w : Nat → Int32) (k : Nat) : Nat → Int32 := fun j => if j < k then w j else u j
theorem cpb_step (u w : Nat → Int32) (k : Nat) : upd (cpb u w k) k (w k) = cpb u w (k + 1) := by
  funext j
  rw [upd_at]
  unfold cpb
  by_cases h : j = k
  · rw [if_pos h, if_pos (by omega), h]
  · rw [if_neg h]
    by_cases h2 : j < k
    · rw [if_pos h2, if_pos (by omega)]
    · rw [if_neg h2, if_neg (by omega)]
theorem cpb_0 (u w : Nat → Int32) : cpb u w 0 = u := by funext j; unfold cpb; rw [if_neg (by omega)]
theorem cpb_in {u w : Nat → Int32} {k j : Nat} (h : j < k) : cpb u w k j = w j := by unfold cpb; rw [if_pos h]
theorem c_become {xs ys us vs : Nat → Int32} {k : Nat} (hk : k ≤ 24) : f_X0_become xs ys us vs (nI k) = some (cpb xs us k, cpb ys vs k, nI k) := by
  unfold f_X0_become
  have hL : lpf (s_X0_become_7 us vs (nI k)) 1000 ((0 : Int32), xs, ys, (0 : Int32)) = some (cpb xs us k, cpb ys vs k, nI k) := by
    refine lpf_run (fun i => (nI i, cpb xs us i, cpb ys vs i, nI i)) k (by simp only [cpb_0]; rfl) (fun i hi => ?_) ?_ (by omega)
    · unfold s_X0_become_7
      simp only []
      rw [if_neg (nI_ge hi (by omega)), c_x (by omega), bs_e, c_y (by omega), bs_e, c_add (by omega), bs_e, ov_e, nI_1, cpb_step, cpb_step]
    · unfold s_X0_become_7
      simp only []
      rw [if_pos (nI_le (Nat.le_refl k) (by omega))]
  rw [hL]; rfl
def trk (w : Nat → Int32) (c m : Nat) : Nat → Int32 := fun j => if (1 ≤ j ∧ j < m) ∨ (c < j + m ∧ j < c) then w (c - j) else w j
theorem trk_step {w : Nat → Int32} {c i : Nat} (h1 : 1 ≤ i) (h2 : i + i < c) : upd (upd (trk w c i) i (w (c - i))) (c - i) (w i) = trk w c (i + 1) := by
  funext j
  rw [upd_at, upd_at]
  unfold trk
  by_cases e1 : j = c - i
  · rw [if_pos e1, if_pos (by omega), show c - j = i by omega]
  · rw [if_neg e1]
    by_cases e2 : j = i
    · rw [if_pos e2, if_pos (by omega), e2]
    · rw [if_neg e2]
      by_cases e3 : (1 ≤ j ∧ j < i) ∨ (c < j + i ∧ j < c)
      · rw [if_pos e3, if_pos (by omega)]
      · rw [if_neg e3, if_neg (by omega)]
theorem trk_1 (w : Nat → Int32) (c : Nat) : trk w c 1 = w := by funext j; unfold trk; rw [if_neg (by omega)]
theorem c_turn {xs ys : Nat → Int32} {c : Nat} (hc : c ≤ 24) : f_X0_turn xs ys (nI c) = some (trk xs c ((c + 1) / 2 - 1 + 1), trk ys c ((c + 1) / 2 - 1 + 1)) := by
  unfold f_X0_turn
  have cond : ∀ i, i ≤ 30 → (nI c - nI i ≤ nI i ↔ c ≤ i + i) := by
    intro i hi
    rw [Int32.le_iff_toInt_le, pk_sub_toInt (by omega) (by omega), nI_toInt (by omega)]; omega
  have hL : lpf (s_X0_turn_2 (nI c)) 1000 ((1 : Int32), xs, ys) = some (trk xs c ((c + 1) / 2 - 1 + 1), trk ys c ((c + 1) / 2 - 1 + 1)) := by
    refine lpf_run (fun d => (nI (d + 1), trk xs c (d + 1), trk ys c (d + 1))) ((c + 1) / 2 - 1) (by simp only [trk_1, Nat.zero_add]; rfl) (fun d hd => ?_) ?_ (by omega)
    · have h2 : (d + 1) + (d + 1) < c := by omega
      unfold s_X0_turn_2
      simp only []
      rw [if_neg (fun q => by have := (cond (d + 1) (by omega)).mp q; omega), ov_e, pk_sub (show d + 1 ≤ c by omega)]
      have r1 : ∀ w : Nat → Int32, trk w c (d + 1) (d + 1) = w (d + 1) := by intro w; unfold trk; rw [if_neg (by omega)]
      have r2 : ∀ w : Nat → Int32, trk w c (d + 1) (c - (d + 1)) = w (c - (d + 1)) := by intro w; unfold trk; rw [if_neg (by omega)]
      rw [c_x (show d + 1 < 24 by omega), bs_e, c_y (show d + 1 < 24 by omega), bs_e, c_x (show c - (d + 1) < 24 by omega), bs_e, c_y (show c - (d + 1) < 24 by omega), bs_e, c_put (show d + 1 < 24 by omega), bs_e]
      simp only [r1, r2]
      rw [c_put (show c - (d + 1) < 24 by omega), bs_e, trk_step (by omega) h2, trk_step (by omega) h2, ov_e, nI_1]
    · unfold s_X0_turn_2
      simp only []
      rw [if_pos ((cond _ (by omega)).mpr (by omega))]
  rw [hL]; rfl
theorem trk_src {w : Nat → Int32} {c j : Nat} (h : j < c) : trk w c ((c + 1) / 2 - 1 + 1) j = w (src true c j) := by
  unfold trk src
  rw [if_pos rfl]
  by_cases h0 : j = 0
  · subst h0
    rw [if_neg (by omega), Nat.sub_zero, Nat.mod_self]
  · rw [Nat.mod_eq_of_lt (show c - j < c by omega)]
    by_cases h2 : (1 ≤ j ∧ j < (c + 1) / 2 - 1 + 1) ∨ (c < j + ((c + 1) / 2 - 1 + 1) ∧ j < c)
    · rw [if_pos h2]
    · rw [if_neg h2, show c - j = j by omega]
theorem m_copyL {c f : Nat} {xs ys pt px py u v : Nat → Int32} {t : Bool} {a3 : Int32} (ht : t = true ↔ ¬ a3 = 0) (hc : c ≤ 24) (hM : Mf c xs ys pt px py f) (hf : f < 6) : lpf (s_X2_copy_24 pt px py (nI f) a3) 1000 ((0 : Int32), (0 : Int32), u, v) = some (nI c, cpb u (fun j => xs (src t c j)) c, cpb v (fun j => ys (src t c j)) c) := by
  refine lpf_run (fun i => (nI i, nI i, cpb u (fun j => xs (src t c j)) i, cpb v (fun j => ys (src t c j)) i)) c (by simp only [cpb_0]; rfl) (fun i hi => ?_) ?_ (by omega)
  · unfold s_X2_copy_24
    simp only []
    rw [if_pos (bin_nI hf (by decide)), nI_clamp (by omega), hM.1, if_neg (nI_ge hi (by omega)), if_pos (bin_nI hf (by decide)), pk_sub (show i ≤ c by omega)]
    have e : (if a3 = 0 then some (nI i) else some (nI (c - i))) = some (nI (if t = true then c - i else i)) := by
      by_cases q : a3 = 0
      · rw [if_pos q, if_neg (fun z => (ht.mp z) q)]
      · rw [if_neg q, if_pos (ht.mpr q)]
    have e2 : (if t = true then c - i else i) % c = src t c i := by
      unfold src; split
      · rfl
      · exact Nat.mod_eq_of_lt hi
    rw [e, bs_e, m_x hM hf (by omega) hc (by split <;> omega), bs_e, m_y hM hf (by omega) hc (by split <;> omega), bs_e, m_lay (by omega), bs_e, ov_e, nI_1, e2]
    rw [cpb_step u (fun j => xs (src t c j)) i, cpb_step v (fun j => ys (src t c j)) i]
  · unfold s_X2_copy_24
    simp only []
    rw [if_pos (bin_nI hf (by decide)), nI_clamp (by omega), hM.1, if_pos (nI_le (Nat.le_refl c) (by omega))]
def Av (o1 : Option (Int32 × (Nat → Nat → Int32) × (Nat → Nat → Int32) × (Nat → Int32))) (o2 : Option (Int32 × (Nat → Int32) × (Nat → Int32) × (Nat → Int32) × Int32 × (Nat → Int32) × (Nat → Int32))) : Prop := ∃ r X' Y' N' pt' px' py' ma' u' v', o1 = some (r, X', Y', N') ∧ o2 = some (r, pt', px', py', ma', u', v') ∧ Rl X' Y' N' pt' px' py'
section Copy
variable {X Y : Nat → Nat → Int32} {N : Nat → Int32} {pt px py : Nat → Int32}
/-- a figure taken from laid points -/
theorem Rl_take (hR : Rl X Y N pt px py) {g c' : Nat} (hc : c' ≤ 24) {xs' ys' u v : Nat → Int32} (h : ∀ i, i < c' → (sm 100 (xs' i) ∧ sm 100 (ys' i)) ∧ u i = xs' i ∧ v i = ys' i) : Rl (va_up X g xs') (va_up Y g ys') (va_up N g (nI c')) (upd pt g (nI c')) (fil px u g c') (fil py v g c') := by
  refine Rl_upd hR ⟨hc, fun i hi => (h i hi).1⟩ (by rw [pk_us]) (fun f hf => pk_un hf) (fun i hi => ?_) (fun f hf i hi => ?_)
  · rw [fil_in hi, fil_in hi]; exact (h i hi).2
  · rw [fil_out hc hf hi, fil_out hc hf hi]; exact ⟨rfl, rfl⟩
theorem op_copy (hR : Rl X Y N pt px py) (ma : Int32) (u v : Nat → Int32) (a1 a2 a3 : Int32) : Av (f_X1_copy X Y N a1 a2 a3) (f_X2_copy pt px py ma u v a1 a2 a3) := by
  unfold f_X1_copy f_X2_copy
  rcases fig_case hR a1 with h | ⟨f, c, hf, rfl, hF, hN, hM⟩
  · simp only [m_isFigure, h, bs_e, b2i_0, Bool.false_eq_true, if_false, ov_e, if_true]
    refine ⟨_, _, _, _, _, _, _, _, _, _, ?_, rfl, hR⟩
    split <;> rfl
  · rcases fig_case hR a2 with h | ⟨g, k, hg, rfl, hG, hK, hL⟩
    · simp only [m_isFigure, bin_nI hf (by decide), h, bs_e, b2i_0, Bool.false_eq_true, Bool.true_eq_false, if_false, ov_e, if_true]
      exact ⟨_, _, _, _, _, _, _, _, _, _, rfl, rfl, hR⟩
    · have hc := hF.1
      simp only [m_isFigure, bin_nI hf (by decide), bin_nI hg (by decide), bs_e, b2i_0, Bool.true_eq_false, if_false, ov_e, if_true, nI_clamp (show f < 2 ^ 31 by omega), nI_clamp (show g < 2 ^ 31 by omega), hN, hK]
      obtain ⟨t, ht⟩ : ∃ t : Bool, (t = true ↔ ¬ a3 = 0) := ⟨decide (¬ a3 = 0), decide_eq_true_iff⟩
      rw [m_copyL ht hc hM hf, bs_e, m_take hc hg, bs_e]
      -- the class's figure before it is turned
      have pre : ∃ us' vs' : Nat → Int32, (if nI f = nI g then some (X g, Y g, nI k) else (f_X0_become (X g) (Y g) (X f) (Y f) (nI c)).bind fun r5 => some (r5.1, r5.2.1, r5.2.2)) = some (us', vs', nI c) ∧ ∀ j, j < c → us' j = X f j ∧ vs' j = Y f j := by
        by_cases e : f = g
        · subst e
          have : nI k = nI c := hK.symm.trans hN
          exact ⟨X f, Y f, by rw [if_pos rfl, this], fun j hj => ⟨rfl, rfl⟩⟩
        · refine ⟨cpb (X g) (X f) c, cpb (Y g) (Y f) c, ?_, fun j hj => ⟨cpb_in hj, cpb_in hj⟩⟩
          rw [if_neg (fun z => e ((nI_eq (by omega) (by omega)).mp z)), c_become hc, bs_e]
      obtain ⟨us', vs', e1, e2⟩ := pre
      rw [e1, bs_e]
      by_cases q : a3 = 0
      · rw [if_pos q]
        refine ⟨_, _, _, _, _, _, _, _, _, _, rfl, rfl, ?_⟩
        refine Rl_take hR hc (fun i hi => ?_)
        have es : src t c i = i := by unfold src; rw [if_neg (fun z => (ht.mp z) q)]
        dsimp only
        rw [cpb_in hi, cpb_in hi, es, (e2 i hi).1, (e2 i hi).2]
        exact ⟨hF.2 i hi, rfl, rfl⟩
      · rw [if_neg q, c_turn hc, bs_e]
        refine ⟨_, _, _, _, _, _, _, _, _, _, rfl, rfl, ?_⟩
        refine Rl_take hR hc (fun i hi => ?_)
        have hs := src_lt (t := true) hi
        dsimp only
        rw [cpb_in hi, cpb_in hi, ht.mpr q, trk_src hi, trk_src hi, (e2 _ hs).1, (e2 _ hs).2]
        exact ⟨hF.2 _ hs, rfl, rfl⟩
end Copy
