/-! join -/
theorem nx_mod2 {d a : Nat} (h : 0 < d) : nx d (a % d) = (a + 1) % d := by
  rw [← nx_mod (Nat.mod_lt a h), Nat.mod_add_mod]
def shf (w : Nat → Int32) (c e m : Nat) : Nat → Int32 := fun j => if c + e - m ≤ j ∧ j < c + e then w (j - e) else w j
theorem shf_step {w : Nat → Int32} {c e m : Nat} (h : m < c) : upd (shf w c e m) (c - 1 - m + e) (w (c - 1 - m)) = shf w c e (m + 1) := by
  funext j
  rw [upd_at]
  unfold shf
  by_cases q : j = c - 1 - m + e
  · rw [if_pos q, if_pos (by omega), show j - e = c - 1 - m by omega]
  · rw [if_neg q]
    by_cases q2 : c + e - m ≤ j ∧ j < c + e
    · rw [if_pos q2, if_pos (by omega)]
    · rw [if_neg q2, if_neg (by omega)]
def ins (w us : Nat → Int32) (s t d m : Nat) : Nat → Int32 := fun j => if s < j ∧ j ≤ s + m then us ((t + 1 + (j - s)) % d) else w j
theorem ins_step {w us : Nat → Int32} {s t d m : Nat} : upd (ins w us s t d m) (s + 1 + m) (us ((t + 2 + m) % d)) = ins w us s t d (m + 1) := by
  funext j
  rw [upd_at]
  unfold ins
  by_cases q : j = s + 1 + m
  · rw [if_pos q, if_pos (by omega), show t + 1 + (j - s) = t + 2 + m by omega]
  · rw [if_neg q]
    by_cases q2 : s < j ∧ j ≤ s + m
    · rw [if_pos q2, if_pos (by omega)]
    · rw [if_neg q2, if_neg (by omega)]
theorem ins_0 (w us : Nat → Int32) (s t d : Nat) : ins w us s t d 0 = w := by funext j; unfold ins; rw [if_neg (by omega)]
def lst (w xs : Nat → Int32) (s e m : Nat) : Nat → Int32 := fun j => if s + 1 + e ≤ j ∧ j < s + 1 + e + m then xs (j - e) else w j
theorem lst_step {w xs : Nat → Int32} {s e m : Nat} : upd (lst w xs s e m) (s + 1 + e + m) (xs (s + 1 + m)) = lst w xs s e (m + 1) := by
  funext j
  rw [upd_at]
  unfold lst
  by_cases q : j = s + 1 + e + m
  · rw [if_pos q, if_pos (by omega), show j - e = s + 1 + m by omega]
  · rw [if_neg q]
    by_cases q2 : s + 1 + e ≤ j ∧ j < s + 1 + e + m
    · rw [if_pos q2, if_pos (by omega)]
    · rw [if_neg q2, if_neg (by omega)]
theorem lst_0 (w xs : Nat → Int32) (s e : Nat) : lst w xs s e 0 = w := by funext j; unfold lst; rw [if_neg (by omega)]
theorem c_takeIn {xs ys us vs : Nat → Int32} {c d s t : Nat} (hs : s < c) (ht : t < d) (hd : 3 ≤ d) (hcd : c + (d - 2) ≤ 24) (hd2 : d ≤ 24) : f_X0_takeIn xs ys (nI c) us vs (nI d) (nI s) (nI t) = some (ins (shf xs c (d - 2) (c - 1 - s)) us s t d (d - 2), ins (shf ys c (d - 2) (c - 1 - s)) vs s t d (d - 2), nI (c + (d - 2))) := by
  have hL1 : lpf (s_X0_takeIn_16 (nI s) (nI (d - 2))) 1000 (nI (c - 1), xs, ys) = some (shf xs c (d - 2) (c - 1 - s), shf ys c (d - 2) (c - 1 - s)) := by
    refine lpf_run (fun m => (nI (c - 1 - m), shf xs c (d - 2) m, shf ys c (d - 2) m)) (c - 1 - s) ?_ (fun m hm => ?_) ?_ (by omega)
    · have e : ∀ w : Nat → Int32, shf w c (d - 2) 0 = w := by intro w; funext j; unfold shf; rw [if_neg (by omega)]
      simp only [e]; rfl
    · have r : ∀ w : Nat → Int32, shf w c (d - 2) m (c - 1 - m) = w (c - 1 - m) := by intro w; unfold shf; rw [if_neg (by omega)]
      unfold s_X0_takeIn_16
      simp only []
      rw [if_neg (nI_ge (by omega) (by omega)), c_x (by omega), bs_e, c_y (by omega), bs_e, nI_add, c_put (by omega), bs_e, r, r, shf_step (by omega), shf_step (by omega), ov_e]
      have e : nI (c - 1 - m) + -1 = nI (c - 1 - (m + 1)) := by
        rw [show c - 1 - m = (c - 1 - (m + 1)) + 1 by omega]; exact pk_m1 _
      rw [e]
    · unfold s_X0_takeIn_16
      simp only []
      rw [if_pos (nI_le (by omega) (by omega))]
  have hL2 : ∀ w1 w2 : Nat → Int32, lpf (s_X0_takeIn_63 us vs (nI d) (nI s) (nI (d - 2))) 1000 (nI ((t + 2) % d), (1 : Int32), w1, w2) = some (ins w1 us s t d (d - 2), ins w2 vs s t d (d - 2)) := by
    intro w1 w2
    refine lpf_run (fun m => (nI ((t + 2 + m) % d), nI (1 + m), ins w1 us s t d m, ins w2 vs s t d m)) (d - 2) (by simp only [ins_0]; rfl) (fun m hm => ?_) ?_ (by omega)
    · have hmod : (t + 2 + m) % d < d := Nat.mod_lt _ (by omega)
      unfold s_X0_takeIn_63
      simp only []
      rw [if_neg (nI_nlt (by omega) (by omega)), c_x (by omega), bs_e, c_y (by omega), bs_e, nI_add, show s + (1 + m) = s + 1 + m by omega, c_put (by omega), bs_e, c_next hmod hd2, bs_e, nx_mod2 (by omega), ins_step, ins_step, ov_e, nI_1]
      rfl
    · unfold s_X0_takeIn_63
      simp only []
      rw [if_pos (nI_lt (by omega) (by omega))]
  unfold f_X0_takeIn
  have e1 : nI d - 2 = nI (d - 2) := pk_sub (b := 2) (by omega)
  have e2 : nI c - 1 = nI (c - 1) := pk_sub (b := 1) (by omega)
  have e3 : nx d (nx d t) = (t + 2) % d := by
    rw [← nx_mod ht, nx_mod2 (by omega)]
  simp only [ov_e, e1, e2]
  rw [hL1, bs_e, c_next ht hd2, bs_e, c_next (nx_lt ht) hd2, bs_e, e3, hL2, bs_e, nI_add]
theorem join_val {u xs us : Nat → Int32} {c d s t e i : Nat} (hs : s < c) (hi : i < c + e) : lst (ins (cpb u xs (s + 1)) us s t d e) xs s e (c - 1 - s) i = ins (shf xs c e (c - 1 - s)) us s t d e i := by
  unfold lst ins shf cpb
  repeat' split
  all_goals first | rfl | (exfalso; omega)
section Join
variable {X Y : Nat → Nat → Int32} {N : Nat → Int32} {pt px py : Nat → Int32}
theorem m_joinL {f g c d s t : Nat} {xs ys us vs u v : Nat → Int32} (hf : f < 6) (hg : g < 6) (hM : Mf c xs ys pt px py f) (hL : Mf d us vs pt px py g) (hs : s < c) (ht : t < d) (hd : 3 ≤ d) (hc : c ≤ 24) (hd2 : d ≤ 24) (hcd : c + (d - 2) ≤ 24) : ((lpf (s_X2_join_163 pt px py (nI f) (nI s)) 1000 ((0 : Int32), (0 : Int32), u, v)).bind fun x22 => (lpf (s_X2_join_196 pt px py (nI g) (nI t)) 1000 ((2 : Int32), x22.1, x22.2.1, x22.2.2)).bind fun x29 => (lpf (s_X2_join_242 pt px py (nI f)) 1000 (nI (s + 1), x29.1, x29.2.1, x29.2.2))) = some (nI (c + (d - 2)), lst (ins (cpb u xs (s + 1)) us s t d (d - 2)) xs s (d - 2) (c - 1 - s), lst (ins (cpb v ys (s + 1)) vs s t d (d - 2)) ys s (d - 2) (c - 1 - s)) := by
  have h1 : lpf (s_X2_join_163 pt px py (nI f) (nI s)) 1000 ((0 : Int32), (0 : Int32), u, v) = some (nI (s + 1), cpb u xs (s + 1), cpb v ys (s + 1)) := by
    refine lpf_run (fun m => (nI m, nI m, cpb u xs m, cpb v ys m)) (s + 1) (by simp only [cpb_0]; rfl) (fun m hm => ?_) ?_ (by omega)
    · unfold s_X2_join_163
      simp only []
      rw [if_neg (nI_nlt (by omega) (by omega)), m_x0 hM hf hc (by omega), bs_e, m_y0 hM hf hc (by omega), bs_e, m_lay (by omega), bs_e, ov_e, nI_1, cpb_step, cpb_step]
    · unfold s_X2_join_163
      simp only []
      rw [if_pos (nI_lt (by omega) (by omega))]
  have h2 : ∀ w1 w2 : Nat → Int32, lpf (s_X2_join_196 pt px py (nI g) (nI t)) 1000 ((2 : Int32), nI (s + 1), w1, w2) = some (nI (s + 1 + (d - 2)), ins w1 us s t d (d - 2), ins w2 vs s t d (d - 2)) := by
    intro w1 w2
    refine lpf_run (fun m => (nI (2 + m), nI (s + 1 + m), ins w1 us s t d m, ins w2 vs s t d m)) (d - 2) (by simp only [ins_0]; rfl) (fun m hm => ?_) ?_ (by omega)
    · unfold s_X2_join_196
      simp only []
      rw [if_pos (bin_nI hg (by decide)), nI_clamp (by omega), hL.1, if_neg (nI_ge (by omega) (by omega)), nI_add, m_x hL hg (by omega) hd2 (by omega), bs_e, m_y hL hg (by omega) hd2 (by omega), bs_e, m_lay (by omega), bs_e, ov_e, nI_1, show t + (2 + m) = t + 2 + m by omega, ins_step, ins_step]
      rfl
    · unfold s_X2_join_196
      simp only []
      rw [if_pos (bin_nI hg (by decide)), nI_clamp (by omega), hL.1, if_pos (nI_le (by omega) (by omega))]
  have h3 : ∀ w1 w2 : Nat → Int32, lpf (s_X2_join_242 pt px py (nI f)) 1000 (nI (s + 1), nI (s + 1 + (d - 2)), w1, w2) = some (nI (c + (d - 2)), lst w1 xs s (d - 2) (c - 1 - s), lst w2 ys s (d - 2) (c - 1 - s)) := by
    intro w1 w2
    refine lpf_run (fun m => (nI (s + 1 + m), nI (s + 1 + (d - 2) + m), lst w1 xs s (d - 2) m, lst w2 ys s (d - 2) m)) (c - 1 - s) (by simp only [lst_0]; rfl) (fun m hm => ?_) ?_ (by omega)
    · unfold s_X2_join_242
      simp only []
      rw [if_pos (bin_nI hf (by decide)), nI_clamp (by omega), hM.1, if_neg (nI_ge (by omega) (by omega)), m_x0 hM hf hc (by omega), bs_e, m_y0 hM hf hc (by omega), bs_e, m_lay (by omega), bs_e, ov_e, nI_1, lst_step, lst_step]
      rfl
    · unfold s_X2_join_242
      simp only []
      rw [if_pos (bin_nI hf (by decide)), nI_clamp (by omega), hM.1, if_pos (nI_le (by omega) (by omega)), show s + 1 + (d - 2) + (c - 1 - s) = c + (d - 2) by omega]
  rw [h1, bs_e, h2, bs_e, h3]
theorem op_join (hR : Rl X Y N pt px py) (ma : Int32) (u v : Nat → Int32) (a1 a2 a3 a4 : Int32) : Av (f_X1_join X Y N a1 a2 a3 a4) (f_X2_join pt px py ma u v a1 a2 a3 a4) := by
  unfold f_X1_join f_X2_join
  rcases fig_case hR a1 with h | ⟨f, c, hf, rfl, hF, hN, hM⟩
  · rw [m_noPoint h, bs_e, if_pos rfl, h, if_neg (by decide)]
    refine ⟨_, _, _, _, _, _, _, _, _, _, ?_, rfl, hR⟩
    simp only [ov_e]
    split <;> rfl
  · have hc := hF.1
    rcases fig_case hR a3 with h | ⟨g, d, hg, rfl, hG, hK, hL⟩
    · rw [m_noPoint h, m_isPoint hf hc hM.1, bs_e, bs_e, h]
      simp only [bin_nI hf (by decide), if_true, ov_e, Bool.false_eq_true, if_false, b2i_0]
      cases bin a2 c <;> exact ⟨_, _, _, _, _, _, _, _, _, _, rfl, rfl, hR⟩
    · have hd := hG.1
      simp only [bin_nI hf (by decide), bin_nI hg (by decide), ov_e, if_true, nI_clamp (show f < 2 ^ 31 by omega), nI_clamp (show g < 2 ^ 31 by omega), hN, hK, hM.1, hL.1, m_isPoint hf hc hM.1, m_isPoint hg hd hL.1, c_has hc, c_has hd, c_closed hc, c_closed hd, m_isClosed hf hc hM.1, m_isClosed hg hd hL.1, bs_e, b2i_0]
      by_cases e : nI f = nI g
      · rw [if_pos e, if_pos e]
        cases bin a2 c <;> cases bin a4 d <;> exact ⟨_, _, _, _, _, _, _, _, _, _, rfl, rfl, hR⟩
      · rw [if_neg e, if_neg e]
        cases e2 : bin a2 c with
        | false => exact ⟨_, _, _, _, _, _, _, _, _, _, rfl, rfl, hR⟩
        | true =>
          cases e4 : bin a4 d with
          | false => exact ⟨_, _, _, _, _, _, _, _, _, _, rfl, rfl, hR⟩
          | true =>
            obtain ⟨s, hs, rfl⟩ := bin_of e2 (by omega)
            obtain ⟨t, ht, rfl⟩ := bin_of e4 (by omega)
            simp only [Bool.true_eq_false, if_false]
            by_cases c3 : 3 ≤ c
            · by_cases d3 : 3 ≤ d
              · rw [decide_eq_true c3, decide_eq_true d3]
                simp only [Bool.true_eq_false, if_false]
                have e1 : nI c + nI d - 2 = nI (c + d - 2) := by rw [nI_add]; exact pk_sub (b := 2) (by omega)
                rw [e1]
                by_cases full : c + d - 2 ≤ 24
                · rw [if_pos (show nI (c + d - 2) ≤ (24 : Int32) from nI_le (b := 24) full (by decide)), if_pos (show nI (c + d - 2) ≤ (24 : Int32) from nI_le (b := 24) full (by decide))]
                  have hnt := nx_lt ht
                  have hns := nx_lt hs
                  rw [c_next ht hd, bs_e, c_same (show s < 24 by omega) (show nx d t < 24 by omega), bs_e, c_next hs hc, bs_e, c_same (show nx c s < 24 by omega) (show t < 24 by omega), bs_e]
                  simp only [nI_1, m_x0 hM hf hc hs, m_y0 hM hf hc hs, m_x1 hM hf hc hs, m_y1 hM hf hc hs, m_x0 hL hg hd ht, m_y0 hL hg hd ht, m_x1 hL hg hd ht, m_y1 hL hg hd ht, bs_e, b2i_0]
                  by_cases q1 : X f s = X g (nx d t)
                  · by_cases q2 : Y f s = Y g (nx d t)
                    · by_cases q3 : X f (nx c s) = X g t
                      · by_cases q4 : Y f (nx c s) = Y g t
                        · simp only [q1, q2, q3, q4, decide_true, Bool.and_self, Bool.true_eq_false, if_false, if_true, bs_e]
                          rw [if_neg (by decide), c_takeIn hs ht d3 (by omega) hd, bs_e]
                          have hj := m_joinL (u := u) (v := v) hf hg hM hL hs ht d3 hc hd (by omega)
                          obtain ⟨x22, y1, hj⟩ := og_bind hj
                          obtain ⟨x29, y2, y3⟩ := og_bind hj
                          rw [y1, bs_e, y2, bs_e, y3, bs_e, m_take (by omega) hf, bs_e]
                          refine ⟨_, _, _, _, _, _, _, _, _, _, rfl, rfl, ?_⟩
                          refine Rl_take hR (by omega) (fun i hi => ?_)
                          dsimp only
                          refine ⟨⟨?_, ?_⟩, join_val hs (by omega), join_val hs (by omega)⟩
                          · unfold ins shf
                            repeat' split
                            all_goals first | exact (hG.2 _ (Nat.mod_lt _ (by omega))).1 | exact (hF.2 _ (by omega)).1
                          · unfold ins shf
                            repeat' split
                            all_goals first | exact (hG.2 _ (Nat.mod_lt _ (by omega))).2 | exact (hF.2 _ (by omega)).2
                        · simp only [q1, q2, q3, q4, decide_true, decide_false, Bool.and_self, Bool.and_false, Bool.true_eq_false, if_false, if_true, bs_e]
                          exact ⟨_, _, _, _, _, _, _, _, _, _, rfl, rfl, hR⟩
                      · simp only [q1, q2, q3, decide_true, decide_false, Bool.and_self, Bool.false_and, Bool.true_eq_false, if_false, if_true, bs_e]
                        exact ⟨_, _, _, _, _, _, _, _, _, _, rfl, rfl, hR⟩
                    · simp only [q1, q2, decide_true, decide_false, Bool.and_false, if_false, if_true, bs_e]
                      exact ⟨_, _, _, _, _, _, _, _, _, _, rfl, rfl, hR⟩
                  · simp only [q1, decide_false, Bool.false_and, if_false, if_true, bs_e]
                    exact ⟨_, _, _, _, _, _, _, _, _, _, rfl, rfl, hR⟩
                · rw [if_neg (show ¬ nI (c + d - 2) ≤ (24 : Int32) from nI_ge (a := 24) (by omega) (by omega)), if_neg (show ¬ nI (c + d - 2) ≤ (24 : Int32) from nI_ge (a := 24) (by omega) (by omega))]
                  exact ⟨_, _, _, _, _, _, _, _, _, _, rfl, rfl, hR⟩
              · rw [decide_eq_true c3, decide_eq_false d3]
                exact ⟨_, _, _, _, _, _, _, _, _, _, rfl, rfl, hR⟩
            · rw [decide_eq_false c3]
              exact ⟨_, _, _, _, _, _, _, _, _, _, rfl, rfl, hR⟩
end Join
