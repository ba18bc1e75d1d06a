/-! point, move, clear -/
theorem c_put {xs ys : Nat → Int32} {i : Nat} (hi : i < 24) (a b : Int32) : f_X0_put xs ys (nI i) a b = some (upd xs i a, upd ys i b) := by
  unfold f_X0_put
  rw [if_neg (nI_pos (by omega)), if_neg (show ¬ (24 : Int32) ≤ nI i from nI_ge hi (by decide)), if_neg (show ¬ (24 : Int32) ≤ nI i from nI_ge hi (by decide)), if_pos (bin_nI hi (by decide)), nI_clamp (by omega), ov_e, if_pos (bin_nI hi (by decide)), ov_e]
theorem c_add {xs ys : Nat → Int32} {c : Nat} (hc : c < 24) (a b : Int32) : f_X0_add xs ys (nI c) a b = some (upd xs c a, upd ys c b, nI (c + 1)) := by
  unfold f_X0_add
  rw [if_neg (show ¬ (24 : Int32) ≤ nI c from nI_ge hc (by decide)), c_put hc, bs_e, ov_e, nI_1]
theorem m_lay {u v : Nat → Int32} {m : Nat} (hm : m < 48) (a b : Int32) : f_X2_lay (nI m) u v a b = some (nI (m + 1), upd u m a, upd v m b) := by
  unfold f_X2_lay
  rw [if_pos (bin_nI hm (by decide)), nI_clamp (by omega), ov_e, if_pos (bin_nI hm (by decide)), ov_e, ov_e, nI_1]
theorem Rl_upd {X Y : Nat → Nat → Int32} {N : Nat → Int32} {pt px py : Nat → Int32} (hR : Rl X Y N pt px py) {g c' : Nat} {xs' ys' pt' px' py' : Nat → Int32} (hF : Fg c' xs' ys') (h1 : pt' g = nI c') (h2 : ∀ f, f ≠ g → pt' f = pt f) (h3 : ∀ i, i < c' → px' (24 * g + i) = xs' i ∧ py' (24 * g + i) = ys' i) (h4 : ∀ f, f ≠ g → ∀ i, i < 24 → px' (24 * f + i) = px (24 * f + i) ∧ py' (24 * f + i) = py (24 * f + i)) : Rl (va_up X g xs') (va_up Y g ys') (va_up N g (nI c')) pt' px' py' := by
  intro f hf
  by_cases e : f = g
  · subst e
    rw [va_up_self, va_up_self, va_up_self]
    exact ⟨c', hF, rfl, h1, h3⟩
  · rw [va_up_ne _ _ e, va_up_ne _ _ e, va_up_ne _ _ e]
    obtain ⟨c, q1, q2, q3, q4⟩ := hR f hf
    refine ⟨c, q1, q2, (h2 f e).trans q3, fun i hi => ?_⟩
    have := h4 f e i (by have := q1.1; omega)
    rw [this.1, this.2]; exact q4 i hi
theorem upd_at (u : Nat → Int32) (k : Nat) (v : Int32) (j : Nat) : upd u k v j = if j = k then v else u j := rfl
def Aw (o1 : Option (Int32 × (Nat → Nat → Int32) × (Nat → Nat → Int32) × (Nat → Int32))) (o2 : Option (Int32 × (Nat → Int32) × (Nat → Int32) × (Nat → Int32))) : Prop := ∃ r X' Y' N' pt' px' py', o1 = some (r, X', Y', N') ∧ o2 = some (r, pt', px', py') ∧ Rl X' Y' N' pt' px' py'
section Writes
variable {X Y : Nat → Nat → Int32} {N : Nat → Int32} {pt px py : Nat → Int32}
theorem sm100 {a : Int32} (h : inb a (-100) 100 = true) : sm 100 a := sm_of_inb h (by decide) (by decide)
theorem op_point (hR : Rl X Y N pt px py) (a1 a2 a3 : Int32) : Aw (f_X1_point X Y N a1 a2 a3) (f_X2_point pt px py a1 a2 a3) := by
  unfold f_X1_point f_X2_point
  rcases fig_case hR a1 with h | ⟨f, c, hf, rfl, hF, hN, hM⟩
  · simp only [m_isFigure, h, bs_e, b2i_0]
    exact ⟨_, _, _, _, _, _, _, rfl, rfl, hR⟩
  · have hc := hF.1
    simp only [m_isFigure, m_isPlace, c_within, bin_nI hf (by decide), if_true, ov_e, nI_clamp (show f < 2 ^ 31 by omega), hN, hM.1, bs_e, b2i_0, Bool.true_eq_false, if_false]
    cases e2 : inb a2 (-100) 100 with
    | false => exact ⟨_, _, _, _, _, _, _, rfl, rfl, hR⟩
    | true =>
      cases e3 : inb a3 (-100) 100 with
      | false => exact ⟨_, _, _, _, _, _, _, rfl, rfl, hR⟩
      | true =>
        simp only [Bool.true_eq_false, if_false]
        by_cases h24 : c < 24
        · have ix : (24 : Int32) * nI f + nI c = nI (24 * f + c) := by rw [show (24 : Int32) = nI 24 from rfl, pk_mul, nI_add]
          rw [if_pos (show nI c < (24 : Int32) from nI_lt h24 (by decide)), if_neg (show ¬ nI c = (24 : Int32) from fun z => by have := (nI_eq (b := 24) (by omega) (by decide)).mp z; omega), c_add h24, bs_e, ix, if_pos (bin_nI (show 24 * f + c < 144 by omega) (by decide)), if_pos (bin_nI (show 24 * f + c < 144 by omega) (by decide)), nI_clamp (show 24 * f + c < 2 ^ 31 by omega), nI_1]
          refine ⟨_, _, _, _, _, _, _, rfl, by rw [pk_us], ?_⟩
          refine Rl_upd hR ⟨by omega, fun i hi => ?_⟩ (by rw [pk_us]) (fun g hg => pk_un hg) (fun i hi => ?_) (fun g hg i hi => ?_)
          · simp only [upd_at]
            by_cases e : i = c
            · rw [if_pos e, if_pos e]; exact ⟨sm100 e2, sm100 e3⟩
            · rw [if_neg e, if_neg e]; exact hF.2 i (by omega)
          · simp only [upd_at]
            by_cases e : i = c
            · rw [if_pos e, if_pos e, if_pos (by omega), if_pos (by omega)]; exact ⟨rfl, rfl⟩
            · rw [if_neg e, if_neg e, if_neg (by omega), if_neg (by omega)]; exact hM.2 i (by omega)
          · simp only [upd_at]
            rw [if_neg (by omega), if_neg (by omega)]; exact ⟨rfl, rfl⟩
        · obtain rfl : c = 24 := by omega
          rw [if_neg (show ¬ nI 24 < (24 : Int32) by decide), if_pos (show nI 24 = (24 : Int32) from rfl)]
          exact ⟨_, _, _, _, _, _, _, rfl, rfl, hR⟩
theorem m_noPoint {pt : Nat → Int32} {a1 a2 : Int32} (h : bin a1 6 = false) : f_X2_isPoint pt a1 a2 = some 0 := by
  unfold f_X2_isPoint
  rw [m_isFigure, h, bs_e, if_pos (show b2i false = 0 from rfl)]
theorem op_move (hR : Rl X Y N pt px py) (a1 a2 a3 a4 : Int32) : ∃ r X' Y' N' px' py', f_X1_move X Y N a1 a2 a3 a4 = some (r, X', Y', N') ∧ f_X2_move pt px py a1 a2 a3 a4 = some (r, px', py') ∧ Rl X' Y' N' pt px' py' := by
  unfold f_X1_move f_X2_move
  rcases fig_case hR a1 with h | ⟨f, c, hf, rfl, hF, hN, hM⟩
  · rw [h, m_noPoint h, bs_e, if_neg (by decide), if_pos rfl]
    exact ⟨_, _, _, _, _, _, rfl, rfl, hR⟩
  · have hc := hF.1
    simp only [m_isPoint hf hc hM.1, c_has hc, m_isPlace, c_within, bin_nI hf (by decide), if_true, ov_e, nI_clamp (show f < 2 ^ 31 by omega), hN, bs_e, b2i_0]
    cases e1 : bin a2 c with
    | false => exact ⟨_, _, _, _, _, _, rfl, rfl, hR⟩
    | true =>
      obtain ⟨i, hi, rfl⟩ := bin_of e1 (by omega)
      cases e2 : inb a3 (-100) 100 with
      | false => exact ⟨_, _, _, _, _, _, rfl, rfl, hR⟩
      | true =>
        cases e3 : inb a4 (-100) 100 with
        | false => exact ⟨_, _, _, _, _, _, rfl, rfl, hR⟩
        | true =>
          simp only [Bool.true_eq_false, if_false]
          have ix : (24 : Int32) * nI f + nI i = nI (24 * f + i) := by rw [show (24 : Int32) = nI 24 from rfl, pk_mul, nI_add]
          rw [c_put (by omega), bs_e, ix, if_pos (bin_nI (show 24 * f + i < 144 by omega) (by decide)), if_pos (bin_nI (show 24 * f + i < 144 by omega) (by decide)), nI_clamp (show 24 * f + i < 2 ^ 31 by omega)]
          refine ⟨_, _, _, _, _, _, rfl, rfl, ?_⟩
          refine Rl_upd hR ⟨hc, fun j hj => ?_⟩ hM.1 (fun g hg => rfl) (fun j hj => ?_) (fun g hg j hj => ?_)
          · simp only [upd_at]
            by_cases e : j = i
            · rw [if_pos e, if_pos e]; exact ⟨sm100 e2, sm100 e3⟩
            · rw [if_neg e, if_neg e]; exact hF.2 j hj
          · simp only [upd_at]
            by_cases e : j = i
            · rw [if_pos e, if_pos e, if_pos (by omega), if_pos (by omega)]; exact ⟨rfl, rfl⟩
            · rw [if_neg e, if_neg e, if_neg (by omega), if_neg (by omega)]; exact hM.2 j hj
          · simp only [upd_at]
            rw [if_neg (by omega), if_neg (by omega)]; exact ⟨rfl, rfl⟩
theorem op_clear (hR : Rl X Y N pt px py) (a1 : Int32) : ∃ r X' Y' N' pt', f_X1_clear X Y N a1 = some (r, X', Y', N') ∧ f_X2_clear pt a1 = some (r, pt') ∧ Rl X' Y' N' pt' px py := by
  unfold f_X1_clear f_X2_clear
  rcases fig_case hR a1 with h | ⟨f, c, hf, rfl, hF, hN, hM⟩
  · simp only [m_isFigure, h, bs_e, b2i_0]
    exact ⟨_, _, _, _, _, rfl, rfl, hR⟩
  · have hc := hF.1
    simp only [m_isFigure, bin_nI hf (by decide), if_true, ov_e, nI_clamp (show f < 2 ^ 31 by omega), hN, hM.1, bs_e, b2i_0, Bool.true_eq_false, if_false]
    refine ⟨_, _, _, _, _, rfl, rfl, ?_⟩
    exact Rl_upd hR (c' := 0) ⟨by decide, fun i hi => absurd hi (by omega)⟩ (by rw [pk_us]; rfl) (fun g hg => pk_un hg) (fun i hi => absurd hi (by omega)) (fun g hg i hi => ⟨rfl, rfl⟩)
end Writes
/-! the model's take -/
def fil (u v : Nat → Int32) (g k : Nat) : Nat → Int32 := fun j => if 24 * g ≤ j ∧ j < 24 * g + k then v (j - 24 * g) else u j
theorem fil_step (u v : Nat → Int32) (g k : Nat) : upd (fil u v g k) (24 * g + k) (v k) = fil u v g (k + 1) := by
  funext j
  rw [upd_at]
  unfold fil
  by_cases h : j = 24 * g + k
  · rw [if_pos h, if_pos (by omega), show j - 24 * g = k by omega]
  · rw [if_neg h]
    by_cases h2 : 24 * g ≤ j ∧ j < 24 * g + k
    · rw [if_pos h2, if_pos (by omega)]
    · rw [if_neg h2, if_neg (by omega)]
theorem fil_in {u v : Nat → Int32} {g k i : Nat} (h : i < k) : fil u v g k (24 * g + i) = v i := by
  unfold fil; rw [if_pos (by omega), show 24 * g + i - 24 * g = i by omega]
theorem fil_out {u v : Nat → Int32} {g k f i : Nat} (hk : k ≤ 24) (hf : f ≠ g) (hi : i < 24) : fil u v g k (24 * f + i) = u (24 * f + i) := by
  unfold fil; rw [if_neg (by omega)]
theorem m_take {pt px py u v : Nat → Int32} {m g : Nat} (hm : m ≤ 24) (hg : g < 6) : f_X2_take pt px py (nI m) u v (nI g) = some (nI m, upd pt g (nI m), fil px u g m, fil py v g m) := by
  unfold f_X2_take
  rw [if_pos (bin_nI hg (by decide)), nI_clamp (by omega), ov_e]
  have hL : lpf (s_X2_take_12 (nI m) u v (nI g)) 1000 ((0 : Int32), px, py) = some (fil px u g m, fil py v g m) := by
    refine lpf_run (fun i => (nI i, fil px u g i, fil py v g i)) m ?_ (fun i hi => ?_) ?_ (by omega)
    · have e : ∀ a b : Nat → Int32, fil a b g 0 = a := by
        intro a b; funext j; unfold fil; rw [if_neg (by omega)]
      simp only [e]; rfl
    · unfold s_X2_take_12
      simp only []
      have ix : (24 : Int32) * nI g + nI i = nI (24 * g + i) := by rw [show (24 : Int32) = nI 24 from rfl, pk_mul, nI_add]
      rw [if_neg (nI_ge hi (by omega)), ix, if_pos (bin_nI (show i < 48 by omega) (by decide)), if_pos (bin_nI (show 24 * g + i < 144 by omega) (by decide)), nI_clamp (show 24 * g + i < 2 ^ 31 by omega), nI_clamp (show i < 2 ^ 31 by omega), fil_step, ov_e, if_pos (bin_nI (show i < 48 by omega) (by decide)), if_pos (bin_nI (show 24 * g + i < 144 by omega) (by decide)), fil_step, ov_e, ov_e, nI_1]
    · unfold s_X2_take_12
      simp only []
      rw [if_pos (nI_le (Nat.le_refl m) (by omega))]
  rw [hL]; rfl
