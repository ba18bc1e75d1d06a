/-! simple -/
def sameB (c : Nat) (xs ys : Nat → Int32) (i : Nat) : Bool := decide (xs i = xs (nx c i)) && decide (ys i = ys (nx c i))
def dotW (xs ys : Nat → Int32) (i j k : Nat) : Int64 := ((xs j).toInt64 - (xs i).toInt64) * ((xs k).toInt64 - (xs j).toInt64) + ((ys j).toInt64 - (ys i).toInt64) * ((ys k).toInt64 - (ys j).toInt64)
def foldB (c : Nat) (xs ys : Nat → Int32) (i : Nat) : Bool := decide (dotW xs ys i (nx c i) (nx c (nx c i)) < 0) && decide (LO c xs ys i (xs (nx c (nx c i))).toInt64 (ys (nx c (nx c i))).toInt64 = 0)
def prt (c : Nat) (xs ys : Nat → Int32) (i j : Nat) : Bool := (decide (LO c xs ys i (xs j).toInt64 (ys j).toInt64 < 0) && decide (0 < LO c xs ys i (xs (nx c j)).toInt64 (ys (nx c j)).toInt64)) || (decide (0 < LO c xs ys i (xs j).toInt64 (ys j).toInt64) && decide (LO c xs ys i (xs (nx c j)).toInt64 (ys (nx c j)).toInt64 < 0))
def meetB (c : Nat) (xs ys : Nat → Int32) (i j : Nat) : Bool := onS c xs ys (xs j) (ys j) i || (onS c xs ys (xs (nx c j)) (ys (nx c j)) i || (onS c xs ys (xs i) (ys i) j || (onS c xs ys (xs (nx c i)) (ys (nx c i)) j || (prt c xs ys i j && prt c xs ys j i))))
section Simple
variable {c : Nat} {xs ys : Nat → Int32}
theorem c_same {us vs : Nat → Int32} {i j : Nat} (hi : i < 24) (hj : j < 24) : f_X0_samePlace xs ys us vs (nI i) (nI j) = some (b2i (decide (xs i = us j) && decide (ys i = vs j))) := by
  unfold f_X0_samePlace
  simp only [c_x hi, c_x hj, c_y hi, c_y hj, bs_e]
  by_cases h1 : xs i = us j <;> by_cases h2 : ys i = vs j <;> simp [h1, h2, b2i]
theorem c_foldsBack {i : Nat} (hF : Fg c xs ys) (hi : i < c) : f_X0_foldsBack xs ys (nI c) (nI i) = some (b2i (foldB c xs ys i)) := by
  have hc := hF.1
  have hj := nx_lt hi
  have hk := nx_lt hj
  have bi := hF.2 i hi
  have bj := hF.2 _ hj
  have bk := hF.2 _ hk
  unfold f_X0_foldsBack
  simp only [c_next hi hc, c_next hj hc, bs_e, c_x (show i < 24 by omega), c_x (show nx c i < 24 by omega), c_x (show nx c (nx c i) < 24 by omega), c_y (show i < 24 by omega), c_y (show nx c i < 24 by omega), c_y (show nx c (nx c i) < 24 by omega), ov_e, c_leftOf hF hi, cmp_eq]
  have s1 := sm_sub bj.1 bi.1 (by decide)
  have s2 := sm_sub bk.1 bj.1 (by decide)
  have s3 := sm_sub bj.2 bi.2 (by decide)
  have s4 := sm_sub bk.2 bj.2 (by decide)
  have e : ∀ v : Int32, v = (xs (nx c i) - xs i) * (xs (nx c (nx c i)) - xs (nx c i)) + (ys (nx c i) - ys i) * (ys (nx c (nx c i)) - ys (nx c i)) → (0 ≤ v ↔ ¬ dotW xs ys i (nx c i) (nx c (nx c i)) < 0) := by
    intro v hv
    have w : v.toInt64 = dotW xs ys i (nx c i) (nx c (nx c i)) := by
      rw [hv, w_add (sm_mul s1.2 s2.2 (by decide)).2 (sm_mul s3.2 s4.2 (by decide)).2 (by decide), w_mul s1.2 s2.2 (by decide), w_mul s3.2 s4.2 (by decide), w_sub bj.1 bi.1 (by decide), w_sub bk.1 bj.1 (by decide), w_sub bj.2 bi.2 (by decide), w_sub bk.2 bj.2 (by decide)]
      rfl
    rw [← w, show (0 : Int64) = (0 : Int32).toInt64 from rfl, wl_lt, Int32.not_lt]
  simp only [e _ rfl]
  unfold foldB
  by_cases h1 : dotW xs ys i (nx c i) (nx c (nx c i)) < 0 <;> by_cases h2 : LO c xs ys i (xs (nx c (nx c i))).toInt64 (ys (nx c (nx c i))).toInt64 = 0 <;> simp [h1, h2, b2i]
theorem c_parts {i j : Nat} (hF : Fg c xs ys) (hi : i < c) (hj : j < c) : f_X0_parts xs ys (nI c) (nI i) (nI j) = some (b2i (prt c xs ys i j)) := by
  have hc := hF.1
  have hj' := nx_lt hj
  unfold f_X0_parts
  simp only [c_next hj hc, bs_e, c_x (show j < 24 by omega), c_x (show nx c j < 24 by omega), c_y (show j < 24 by omega), c_y (show nx c j < 24 by omega), c_leftOf hF hi, cmp_ge, cmp_le, cmp_gt]
  unfold prt
  generalize LO c xs ys i (xs j).toInt64 (ys j).toInt64 = u
  generalize LO c xs ys i (xs (nx c j)).toInt64 (ys (nx c j)).toInt64 = v
  by_cases h1 : 0 ≤ u <;> by_cases h2 : u ≤ 0 <;> by_cases h3 : 0 ≤ v <;> by_cases h4 : v ≤ 0 <;> simp [h1, h2, h3, h4, b2i, ← Int64.not_le]
theorem c_sidesMeet {i j : Nat} (hF : Fg c xs ys) (hi : i < c) (hj : j < c) : f_X0_sidesMeet xs ys (nI c) (nI i) (nI j) = some (b2i (meetB c xs ys i j)) := by
  have hc := hF.1
  have hi' := nx_lt hi
  have hj' := nx_lt hj
  unfold f_X0_sidesMeet
  simp only [c_next hi hc, c_next hj hc, bs_e, c_x (show i < 24 by omega), c_x (show nx c i < 24 by omega), c_y (show i < 24 by omega), c_y (show nx c i < 24 by omega), c_x (show j < 24 by omega), c_x (show nx c j < 24 by omega), c_y (show j < 24 by omega), c_y (show nx c j < 24 by omega), c_sideCarries hF hi, c_sideCarries hF hj, c_parts hF hi hj, c_parts hF hj hi, b2i_0]
  unfold meetB
  cases onS c xs ys (xs j) (ys j) i <;> cases onS c xs ys (xs (nx c j)) (ys (nx c j)) i <;> cases onS c xs ys (xs i) (ys i) j <;> cases onS c xs ys (xs (nx c i)) (ys (nx c i)) j <;> cases prt c xs ys i j <;> cases prt c xs ys j i <;> rfl
variable {f : Nat} {pt px py : Nat → Int32}
theorem m_sign (z : Int64) : f_X2_sign z = some (if z < 0 then -1 else if 0 < z then 1 else 0) := by
  unfold f_X2_sign
  simp only [cmp_ge, cmp_le]
  by_cases h1 : 0 ≤ z <;> by_cases h2 : z ≤ 0 <;> simp [h1, h2, ← Int64.not_le]
theorem sign_mul (u v : Int64) : (0 : Int32) ≤ (if u < 0 then (-1 : Int32) else if 0 < u then 1 else 0) * (if v < 0 then (-1 : Int32) else if 0 < v then 1 else 0) ↔ ¬ ((u < 0 ∧ 0 < v) ∨ (0 < u ∧ v < 0)) := by
  have a1 : ∀ z : Int64, z < 0 → ¬ 0 < z := fun z h => Int64.not_lt.mpr (Int64.le_of_lt h)
  by_cases h1 : u < 0 <;> by_cases h2 : 0 < u <;> by_cases h3 : v < 0 <;> by_cases h4 : 0 < v <;> simp [h1, h2, h3, h4] <;> first | (exact absurd h2 (a1 _ h1)) | (exact absurd h4 (a1 _ h3)) | decide | skip
theorem m_meet {i j : Nat} (hF : Fg c xs ys) (hM : Mf c xs ys pt px py f) (hf : f < 6) (hi : i < c) (hj : j < c) : f_X2_meet pt px py (nI f) (nI i) (nI j) = some (b2i (meetB c xs ys i j)) := by
  have hc := hF.1
  have bi := hF.2 i hi
  have bj := hF.2 j hj
  have bi' := hF.2 _ (nx_lt hi)
  have bj' := hF.2 _ (nx_lt hj)
  have up : ∀ {a : Int32}, sm 100 a → sm 300 a := fun h => Nat.le_trans h (by decide)
  unfold f_X2_meet
  simp only [nI_1, m_x0 hM hf hc hi, m_y0 hM hf hc hi, m_x1 hM hf hc hi, m_y1 hM hf hc hi, m_x0 hM hf hc hj, m_y0 hM hf hc hj, m_x1 hM hf hc hj, m_y1 hM hf hc hj, bs_e, m_isOn hF hM hf hi (up bj.1) (up bj.2), m_isOn hF hM hf hi (up bj'.1) (up bj'.2), m_isOn hF hM hf hj (up bi.1) (up bi.2), m_isOn hF hM hf hj (up bi'.1) (up bi'.2), m_side hF hi (up bj.1) (up bj.2), m_side hF hi (up bj'.1) (up bj'.2), m_side hF hj (up bi.1) (up bi.2), m_side hF hj (up bi'.1) (up bi'.2), m_sign, sign_mul, b2i_0]
  unfold meetB
  have ep : ∀ a b, ((LO c xs ys a (xs b).toInt64 (ys b).toInt64 < 0 ∧ 0 < LO c xs ys a (xs (nx c b)).toInt64 (ys (nx c b)).toInt64) ∨ (0 < LO c xs ys a (xs b).toInt64 (ys b).toInt64 ∧ LO c xs ys a (xs (nx c b)).toInt64 (ys (nx c b)).toInt64 < 0)) ↔ prt c xs ys a b = true := by
    intro a b; unfold prt; simp
  simp only [ep]
  cases onS c xs ys (xs j) (ys j) i <;> cases onS c xs ys (xs (nx c j)) (ys (nx c j)) i <;> cases onS c xs ys (xs i) (ys i) j <;> cases onS c xs ys (xs (nx c i)) (ys (nx c i)) j <;> cases prt c xs ys i j <;> cases prt c xs ys j i <;> rfl
def pv (c i : Nat) : Nat := (i + c - 1) % c
theorem pv_lt {i : Nat} (hi : i < c) : pv c i < c := Nat.mod_lt _ (by omega)
theorem nx_pv {i : Nat} (hi : i < c) : nx c (pv c i) = i := by
  unfold pv nx
  by_cases h : i = 0
  · subst h
    rw [show 0 + c - 1 = c - 1 by omega, Nat.mod_eq_of_lt (show c - 1 < c by omega)]
    split <;> omega
  · rw [show i + c - 1 = (i - 1) + c by omega, Nat.add_mod_right, Nat.mod_eq_of_lt (show i - 1 < c by omega)]
    split <;> omega
theorem pv_nx {i : Nat} (hi : i < c) : pv c (nx c i) = i := by
  unfold pv nx
  split
  · rw [show i + 1 + c - 1 = i + c by omega, Nat.add_mod_right, Nat.mod_eq_of_lt hi]
  · rw [show 0 + c - 1 = c - 1 by omega, Nat.mod_eq_of_lt (show c - 1 < c by omega)]; omega
theorem m_turnsBack {j : Nat} (hF : Fg c xs ys) (hM : Mf c xs ys pt px py f) (hf : f < 6) (hj : j < c) : f_X2_turnsBack pt px py (nI f) (nI j) = some (b2i (foldB c xs ys (pv c j))) := by
  have hc := hF.1
  have hp := pv_lt hj
  have hk := nx_lt hj
  have bi := hF.2 _ hp
  have bj := hF.2 _ hj
  have bk := hF.2 _ hk
  have e0 : nI j + nI c - 1 = nI (j + c - 1) := by rw [nI_add]; exact pk_sub (b := 1) (by omega)
  unfold f_X2_turnsBack
  rw [if_pos (bin_nI hf (by decide)), nI_clamp (by omega), hM.1, e0]
  simp only [ov_e, nI_1, m_x hM hf (show 0 < c by omega) hc (show j + c - 1 < 1000 by omega), m_y hM hf (show 0 < c by omega) hc (show j + c - 1 < 1000 by omega), m_x0 hM hf hc hj, m_y0 hM hf hc hj, m_x1 hM hf hc hj, m_y1 hM hf hc hj, bs_e, cmp_eq, cmp_le]
  rw [show (j + c - 1) % c = pv c j from rfl, w_sub bi.1 bj.1 (by decide), w_sub bi.2 bj.2 (by decide), w_sub bk.1 bj.1 (by decide), w_sub bk.2 bj.2 (by decide)]
  unfold foldB
  rw [nx_pv hj]
  have eD : ((xs (pv c j)).toInt64 - (xs j).toInt64) * ((xs (nx c j)).toInt64 - (xs j).toInt64) + ((ys (pv c j)).toInt64 - (ys j).toInt64) * ((ys (nx c j)).toInt64 - (ys j).toInt64) = -dotW xs ys (pv c j) j (nx c j) := by
    unfold dotW; grind
  have eL : ((xs (pv c j)).toInt64 - (xs j).toInt64) * ((ys (nx c j)).toInt64 - (ys j).toInt64) - ((ys (pv c j)).toInt64 - (ys j).toInt64) * ((xs (nx c j)).toInt64 - (xs j).toInt64) = -LO c xs ys (pv c j) (xs (nx c j)).toInt64 (ys (nx c j)).toInt64 := by
    unfold LO; rw [nx_pv hj]; grind
  rw [eD, eL]
  have bD : lb 80000 (dotW xs ys (pv c j) j (nx c j)) :=
    lb_le (lb_add (lb_mul (lb_sub (lb_w bj.1) (lb_w bi.1) (by decide)).2 (lb_sub (lb_w bk.1) (lb_w bj.1) (by decide)).2 (by decide)).2 (lb_mul (lb_sub (lb_w bj.2) (lb_w bi.2) (by decide)).2 (lb_sub (lb_w bk.2) (lb_w bj.2) (by decide)).2 (by decide)).2 (by decide)).2 (by decide)
  generalize dotW xs ys (pv c j) j (nx c j) = d at bD ⊢
  generalize LO c xs ys (pv c j) (xs (nx c j)).toInt64 (ys (nx c j)).toInt64 = z
  have q1 : -d ≤ 0 ↔ ¬ d < 0 := by
    rw [Int64.le_iff_toInt_le, Int64.lt_iff_toInt_lt, (lb_neg bD (by decide)).1, show (0 : Int64).toInt = 0 from rfl]; omega
  have q2 : -z = 0 ↔ z = 0 := by constructor <;> intro h <;> grind
  simp only [q1, q2]
  by_cases h1 : d < 0 <;> by_cases h2 : z = 0 <;> simp [h1, h2, b2i]
/-- what is wrong with the sides from i on, among those behind -/
def inBad (c : Nat) (xs ys : Nat → Int32) (i d : Nat) : Bool := !(decide (nx c (i + 2 + d) = i)) && meetB c xs ys i (i + 2 + d)
def badC (c : Nat) (xs ys : Nat → Int32) (i : Nat) : Bool := sameB c xs ys i || (foldB c xs ys i || anyTo (inBad c xs ys i) (c - (i + 2)))
def badM (c : Nat) (xs ys : Nat → Int32) (i : Nat) : Bool := sameB c xs ys i || (foldB c xs ys (pv c i) || anyTo (inBad c xs ys i) (c - (i + 2)))
theorem bad_eq : anyTo (badC c xs ys) c = anyTo (badM c xs ys) c := by
  refine anyTo_cong ⟨fun ⟨i, hi, h⟩ => ?_, fun ⟨i, hi, h⟩ => ?_⟩
  · unfold badC at h
    rcases (Bool.or_eq_true _ _).mp h with h | h
    · exact ⟨i, hi, by unfold badM; rw [h]; rfl⟩
    · rcases (Bool.or_eq_true _ _).mp h with h | h
      · exact ⟨nx c i, nx_lt hi, by unfold badM; rw [pv_nx hi, h]; simp⟩
      · exact ⟨i, hi, by unfold badM; rw [h]; simp⟩
  · unfold badM at h
    rcases (Bool.or_eq_true _ _).mp h with h | h
    · exact ⟨i, hi, by unfold badC; rw [h]; rfl⟩
    · rcases (Bool.or_eq_true _ _).mp h with h | h
      · exact ⟨pv c i, pv_lt hi, by unfold badC; rw [h]; simp⟩
      · exact ⟨i, hi, by unfold badC; rw [h]; simp⟩
theorem c_inner {i : Nat} (hF : Fg c xs ys) (hi : i < c) : lpf (s_X0_neverMeetsItself_38 xs ys (nI c) (nI i)) 1000 (nI (i + 2)) = some (if anyTo (inBad c xs ys i) (c - (i + 2)) = true then .inl 0 else .inr ()) := by
  have hc := hF.1
  refine lpf_any (fun d => nI (i + 2 + d)) (c - (i + 2)) _ _ _ rfl (fun d hd h => ?_) (fun d hd h => ?_) ?_ (by omega)
  · have hj : i + 2 + d < c := by omega
    unfold s_X0_neverMeetsItself_38
    rw [if_neg (nI_ge hj (by omega)), c_next hj hc, bs_e]
    have hj2 := nx_lt hj
    by_cases q : nx c (i + 2 + d) = i
    · rw [if_pos (by rw [q]), ov_e, nI_1]; rfl
    · rw [if_neg (fun z => q ((nI_eq (by omega) (by omega)).mp z)), c_sidesMeet hF hi hj, bs_e]
      have hm : meetB c xs ys i (i + 2 + d) = false := by
        unfold inBad at h
        rw [decide_eq_false q] at h
        simpa using h
      rw [hm, if_pos (show b2i false = 0 from rfl), ov_e, nI_1]; rfl
  · have hj : i + 2 + d < c := by omega
    unfold s_X0_neverMeetsItself_38
    rw [if_neg (nI_ge hj (by omega)), c_next hj hc, bs_e]
    have hj2 := nx_lt hj
    unfold inBad at h
    rw [Bool.and_eq_true] at h
    have q : ¬ nx c (i + 2 + d) = i := by simpa using h.1
    rw [if_neg (fun z => q ((nI_eq (by omega) (by omega)).mp z)), c_sidesMeet hF hi hj, bs_e, h.2, if_neg (by decide)]
  · unfold s_X0_neverMeetsItself_38
    rw [if_pos (nI_le (by omega) (by omega))]
theorem c_neverMeets (hF : Fg c xs ys) : f_X0_neverMeetsItself xs ys (nI c) = some (b2i (!anyTo (badC c xs ys) c)) := by
  have hc := hF.1
  unfold f_X0_neverMeetsItself
  have hL : lpf (s_X0_neverMeetsItself_2 xs ys (nI c)) 1000 (0 : Int32) = some (if anyTo (badC c xs ys) c = true then .inl 0 else .inr ()) := by
    have st : ∀ i, i < c → s_X0_neverMeetsItself_2 xs ys (nI c) (nI i) = some (if badC c xs ys i = true then .inr (.inl 0) else .inl (nI (i + 1))) := by
      intro i hi
      have hj := nx_lt hi
      unfold s_X0_neverMeetsItself_2
      rw [if_neg (nI_ge hi (by omega)), c_next hi hc, bs_e, c_same (show i < 24 by omega) (show nx c i < 24 by omega), bs_e, c_foldsBack hF hi, bs_e]
      have e2 : nI i + 2 = nI (i + 2) := nI_add i 2
      rw [ov_e, e2, c_inner hF hi, bs_e, show (decide (xs i = xs (nx c i)) && decide (ys i = ys (nx c i))) = sameB c xs ys i from rfl]
      simp only [b2i_0, ov_e, nI_1]
      unfold badC
      cases sameB c xs ys i <;> cases foldB c xs ys i <;> cases anyTo (inBad c xs ys i) (c - (i + 2)) <;> rfl
    refine lpf_any (fun i => nI i) c _ _ _ rfl (fun i hi h => ?_) (fun i hi h => ?_) ?_ (by omega)
    · rw [st i hi, if_neg (by rw [h]; decide)]
    · rw [st i hi, if_pos h]
    · unfold s_X0_neverMeetsItself_2
      rw [if_pos (nI_le (Nat.le_refl c) (by omega))]
  rw [hL]
  cases h : anyTo (badC c xs ys) c <;> rfl
theorem m_inner {i : Nat} (hF : Fg c xs ys) (hM : Mf c xs ys pt px py f) (hf : f < 6) (hi : i < c) (fl : Int32) : lpf (s_X2_simple_95 pt px py (nI f) (nI c) (fl, nI i)) 1000 (1, nI (i + 2)) = some (b2i (!anyTo (inBad c xs ys i) (c - (i + 2)))) := by
  have hc := hF.1
  refine lpf_flag (i + 2) (c - (i + 2)) _ (fun d hd => ?_) (fun d hd => ?_) ?_ (by omega)
  · have hj : i + 2 + d < c := by omega
    unfold s_X2_simple_95
    simp only []
    rw [if_neg (nI_ge hj (by omega)), if_neg (by decide), m_meet hF hM hf hi hj, bs_e, nI_1]
    simp only [ov_e, b2i_0]
    have e1 : nI c - 1 = nI (c - 1) := pk_sub (b := 1) (by omega)
    rw [e1]
    unfold inBad
    by_cases q : i = 0
    · subst q
      rw [if_pos nI_0]
      by_cases q2 : 0 + 2 + d = c - 1
      · rw [if_pos (by rw [q2]), decide_eq_true (show nx c (0 + 2 + d) = 0 by unfold nx; rw [if_neg (by omega)])]; rfl
      · rw [if_neg (fun z => q2 ((nI_eq (by omega) (by omega)).mp z)), decide_eq_false (show ¬ nx c (0 + 2 + d) = 0 by unfold nx; rw [if_pos (by omega)]; omega)]
        cases meetB c xs ys 0 (0 + 2 + d) <;> rfl
    · rw [if_neg (show ¬ nI i = 0 from fun z => q ((nI_eq (b := 0) (by omega) (by decide)).mp z)), decide_eq_false (show ¬ nx c (i + 2 + d) = i by unfold nx; split <;> omega)]
      cases meetB c xs ys i (i + 2 + d) <;> rfl
  · unfold s_X2_simple_95
    simp only []
    by_cases q : nI c ≤ nI (i + 2 + d)
    · rw [if_pos q]
    · rw [if_neg q, if_pos trivial]
  · unfold s_X2_simple_95
    simp only []
    rw [if_pos (nI_le (by omega) (by omega))]
theorem m_simpleL (hF : Fg c xs ys) (hM : Mf c xs ys pt px py f) (hf : f < 6) : lpf (s_X2_simple_25 pt px py (nI f) (nI c)) 1000 (1, 0) = some (b2i (!anyTo (badM c xs ys) c)) := by
  have hc := hF.1
  refine lpf_flag 0 c _ (fun i hi => ?_) (fun i hi => ?_) ?_ (by omega)
  · rw [Nat.zero_add]
    unfold s_X2_simple_25
    simp only []
    rw [if_neg (nI_ge hi (by omega)), if_neg (by decide)]
    have e2 : nI i + 2 = nI (i + 2) := nI_add i 2
    simp only [nI_1, e2, m_x0 hM hf hc hi, m_y0 hM hf hc hi, m_x1 hM hf hc hi, m_y1 hM hf hc hi, bs_e, m_turnsBack hF hM hf hi, ov_e, b2i_0]
    have em : (if xs i = xs (nx c i) then (if ys i = ys (nx c i) then some (0 : Int32) else if foldB c xs ys (pv c i) = false then some 1 else some 0) else if foldB c xs ys (pv c i) = false then some 1 else some 0) = some (b2i (!(sameB c xs ys i || foldB c xs ys (pv c i)))) := by
      unfold sameB
      by_cases h1 : xs i = xs (nx c i) <;> by_cases h2 : ys i = ys (nx c i) <;> cases foldB c xs ys (pv c i) <;> simp [h1, h2, b2i]
    rw [em, bs_e]
    unfold badM
    cases h : (sameB c xs ys i || foldB c xs ys (pv c i)) with
    | false =>
      rw [show b2i (!false) = 1 from rfl, m_inner hF hM hf hi, bs_e]
      rw [Bool.or_eq_false_iff] at h
      rw [h.1, h.2]; rfl
    | true =>
      have hz : lpf (s_X2_simple_95 pt px py (nI f) (nI c) (1, nI i)) 1000 (b2i (!true), nI (i + 2)) = some 0 := by
        refine lpf_inr ?_
        unfold s_X2_simple_95
        simp only []
        by_cases q : nI c ≤ nI (i + 2)
        · rw [if_pos q]; rfl
        · rw [if_neg q, if_pos (by decide)]; rfl
      rw [hz, bs_e, ← Bool.or_assoc, h]; rfl
  · unfold s_X2_simple_25
    simp only []
    by_cases q : nI c ≤ nI (0 + i)
    · rw [if_pos q]
    · rw [if_neg q, if_pos trivial]
  · unfold s_X2_simple_25
    simp only []
    rw [Nat.zero_add, if_pos (nI_le (Nat.le_refl c) (by omega))]
end Simple
theorem op_simple {X Y : Nat → Nat → Int32} {N : Nat → Int32} {pt px py : Nat → Int32} (hR : Rl X Y N pt px py) (a1 : Int32) : Ag (f_X1_simple X Y N a1) (f_X2_simple pt px py a1) := by
  unfold f_X1_simple f_X2_simple
  rcases fig_case hR a1 with h | ⟨f, c, hf, rfl, hF, hN, hM⟩
  · simp only [m_isFigure, h, bs_e, b2i_0]
    exact Ag.e _
  · have hc := hF.1
    simp only [m_isFigure, bin_nI hf (by decide), if_true, ov_e, nI_clamp (show f < 2 ^ 31 by omega), hN, hM.1, bs_e, b2i_0, c_closed hc, m_isClosed hf hc hM.1, c_oneIf0, c_oneIf1]
    rw [c_neverMeets hF, bs_e]
    by_cases h3 : 3 ≤ c
    · rw [decide_eq_true h3, show b2i true = 1 from rfl, m_simpleL hF hM hf, bs_e, bad_eq]
      simp only [b2i_0]
      cases anyTo (badM c (X f) (Y f)) c <;> exact Ag.e _
    · have hz : lpf (s_X2_simple_25 pt px py (nI f) (nI c)) 1000 (b2i false, 0) = some 0 := by
        refine lpf_inr ?_
        unfold s_X2_simple_25
        simp only []
        by_cases q : nI c ≤ 0
        · rw [if_pos q]; rfl
        · rw [if_neg q, if_pos (by decide)]; rfl
      rw [decide_eq_false h3, hz, bs_e]
      exact Ag.e _
