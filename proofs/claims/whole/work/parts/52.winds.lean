/-! loops that look for something -/
def anyTo (P : Nat → Bool) : Nat → Bool
  | 0 => false
  | k + 1 => anyTo P k || P k
theorem anyTo_iff {P : Nat → Bool} : ∀ {c : Nat}, anyTo P c = true ↔ ∃ i, i < c ∧ P i = true
  | 0 => by simp [anyTo]
  | c + 1 => by
    rw [anyTo, Bool.or_eq_true, anyTo_iff]
    constructor
    · rintro (⟨i, h, p⟩ | p)
      · exact ⟨i, by omega, p⟩
      · exact ⟨c, by omega, p⟩
    · rintro ⟨i, h, p⟩
      by_cases e : i = c
      · subst e; exact Or.inr p
      · exact Or.inl ⟨i, by omega, p⟩
theorem anyTo_no {P : Nat → Bool} {c : Nat} (h : ∀ i, i < c → P i = false) : anyTo P c = false := by
  cases e : anyTo P c with
  | false => rfl
  | true =>
    obtain ⟨i, hi, p⟩ := anyTo_iff.mp e
    rw [h i hi] at p; cases p
theorem anyTo_no' {P : Nat → Bool} {c : Nat} (h : anyTo P c = false) : ∀ i, i < c → P i = false := by
  intro i hi
  cases e : P i with
  | false => rfl
  | true => rw [anyTo_iff.mpr ⟨i, hi, e⟩] at h; cases h
theorem anyTo_cong {P Q : Nat → Bool} {c : Nat} (h : (∃ i, i < c ∧ P i = true) ↔ ∃ i, i < c ∧ Q i = true) : anyTo P c = anyTo Q c := by
  cases e : anyTo Q c with
  | true => exact anyTo_iff.mpr (h.mpr (anyTo_iff.mp e))
  | false =>
    cases e2 : anyTo P c with
    | false => rfl
    | true => rw [anyTo_iff.mpr (h.mp (anyTo_iff.mp e2))] at e; cases e
theorem first_of {P : Nat → Bool} {c : Nat} (h : anyTo P c = true) : ∃ k, k < c ∧ P k = true ∧ ∀ j, j < k → P j = false := by
  obtain ⟨k, ⟨hk, p⟩, m⟩ := pk_least (fun k => k < c ∧ P k = true) (anyTo_iff.mp h)
  refine ⟨k, hk, p, fun j hj => ?_⟩
  cases e : P j with
  | false => rfl
  | true => exact absurd ⟨by omega, e⟩ (m j hj)
theorem lpf_any {V T O : Type} {step : V → Option (V ⊕ (T ⊕ O))} {v0 : V} {n : Nat} (st : Nat → V) (c : Nat) (P : Nat → Bool) (t : T) (o : O) (h0 : st 0 = v0) (hs : ∀ i, i < c → P i = false → step (st i) = some (.inl (st (i + 1)))) (hr : ∀ i, i < c → P i = true → step (st i) = some (.inr (.inl t))) (hx : step (st c) = some (.inr (.inr o))) (hn : c < n) : lpf step n v0 = some (if anyTo P c = true then .inl t else .inr o) := by
  by_cases h : anyTo P c = true
  · rw [if_pos h]
    obtain ⟨k, hk, p, m⟩ := first_of h
    exact lpf_run st k h0 (fun i hi => hs i (by omega) (m i hi)) (hr k hk p) (by omega)
  · rw [if_neg h]
    have h' := anyTo_no' (Bool.not_eq_true _ ▸ h)
    exact lpf_run st c h0 (fun i hi => hs i hi (h' i hi)) hx hn
theorem lpf_flag {step : Int32 × Int32 → Option ((Int32 × Int32) ⊕ Int32)} {n : Nat} (a c : Nat) (bad : Nat → Bool) (hs : ∀ i, i < c → step (1, nI (a + i)) = some (.inl (b2i (!bad i), nI (a + i + 1)))) (h0 : ∀ i, i ≤ c → step (0, nI (a + i)) = some (.inr 0)) (hx : step (1, nI (a + c)) = some (.inr 1)) (hn : c + 1 < n) : lpf step n (1, nI a) = some (b2i (!anyTo bad c)) := by
  by_cases h : anyTo bad c = true
  · rw [h]
    obtain ⟨k, hk, p, m⟩ := first_of h
    refine lpf_run (fun i => if i ≤ k then ((1 : Int32), nI (a + i)) else ((0 : Int32), nI (a + i))) (k + 1) (by simp) (fun i hi => ?_) ?_ (by omega)
    · have e1 : i ≤ k := by omega
      simp only [if_pos e1]
      rw [hs i (by omega)]
      by_cases e : i = k
      · subst e; rw [p, if_neg (by omega)]; rfl
      · rw [m i (by omega), if_pos (by omega)]; rfl
    · simp only [if_neg (show ¬ k + 1 ≤ k by omega)]
      exact h0 (k + 1) (by omega)
  · have h' := anyTo_no' (Bool.not_eq_true _ ▸ h)
    have hff : anyTo bad c = false := by simpa using h
    rw [hff]
    exact lpf_run (fun i => ((1 : Int32), nI (a + i))) c rfl (fun i hi => by rw [hs i hi, h' i hi]; rfl) hx (by omega)
/-! on a side -/
def btwb (v a b : Int32) : Bool := (decide (a ≤ v) || decide (b ≤ v)) && (decide (v ≤ a) || decide (v ≤ b))
theorem c_btw (v a b : Int32) : f_X0_between v.toInt64 a b = some (b2i (btwb v a b)) := by
  have h := c_between v a b
  by_cases q : btw v a b
  · rw [h.1 q]
    have e : btwb v a b = true := by unfold btwb; unfold btw at q; simpa using q
    rw [e]; rfl
  · rw [h.2 q]
    have e : btwb v a b = false := by
      cases e : btwb v a b with
      | false => rfl
      | true => exact absurd (by unfold btwb at e; unfold btw; simpa using e) q
    rw [e]; rfl
def onS (c : Nat) (xs ys : Nat → Int32) (p q : Int32) (i : Nat) : Bool := decide (LO c xs ys i p.toInt64 q.toInt64 = 0) && (btwb p (xs i) (xs (nx c i)) && btwb q (ys i) (ys (nx c i)))
theorem c_sideCarries {c i : Nat} {xs ys : Nat → Int32} (hF : Fg c xs ys) (hi : i < c) (p q : Int32) : f_X0_sideCarries xs ys (nI c) (nI i) p q = some (b2i (onS c xs ys p q i)) := by
  have hc := hF.1
  have hj := nx_lt hi
  unfold f_X0_sideCarries onS
  simp only [c_next hi hc, Option.bind_some, c_leftOf hF hi, c_x (show i < 24 by omega), c_y (show nx c i < 24 by omega), c_x (show nx c i < 24 by omega), c_y (show i < 24 by omega), c_btw, cmp_eq, b2i_0]
  by_cases h : LO c xs ys i p.toInt64 q.toInt64 = 0
  · cases btwb p (xs i) (xs (nx c i)) <;> cases btwb q (ys i) (ys (nx c i)) <;> simp [h, b2i]
  · simp [h, b2i]
theorem m_side {c i : Nat} {xs ys : Nat → Int32} (hF : Fg c xs ys) (hi : i < c) {p q : Int32} (hp : sm 300 p) (hq : sm 300 q) : f_X2_side (xs i) (ys i) (xs (nx c i)) (ys (nx c i)) p q = some (LO c xs ys i p.toInt64 q.toInt64) := by
  have b1 := hF.2 i hi
  have b2 := hF.2 _ (nx_lt hi)
  unfold f_X2_side LO
  rw [w_sub b2.1 b1.1 (by decide), w_sub b2.2 b1.2 (by decide), w_sub hq b1.2 (by decide), w_sub hp b1.1 (by decide)]
  congr 1
  grind
theorem m_in (r1 r3 a3 : Int32) : ((if r3 ≤ r1 then some r3 else some r1).bind fun mv5 => if a3 < mv5 then some (0 : Int32) else if r1 ≤ r3 then (if r3 < a3 then some 0 else some 1) else (if r1 < a3 then some 0 else some 1)) = some (b2i (btwb a3 r1 r3)) := by
  unfold btwb b2i
  grind
theorem m_isOn {c f i : Nat} {xs ys pt px py : Nat → Int32} (hF : Fg c xs ys) (hM : Mf c xs ys pt px py f) (hf : f < 6) (hi : i < c) {p q : Int32} (hp : sm 300 p) (hq : sm 300 q) : f_X2_isOn pt px py (nI f) (nI i) p q = some (b2i (onS c xs ys p q i)) := by
  have hc := hF.1
  unfold f_X2_isOn
  simp only [nI_1, m_x0 hM hf hc hi, m_y0 hM hf hc hi, m_x1 hM hf hc hi, m_y1 hM hf hc hi, Option.bind_some, m_side hF hi hp hq, cmp_eq]
  rw [← Option.bind_assoc, m_in, Option.bind_some]
  simp only [m_in, b2i_0]
  unfold onS
  cases btwb p (xs i) (xs (nx c i)) <;> cases btwb q (ys i) (ys (nx c i)) <;> by_cases h : LO c xs ys i p.toInt64 q.toInt64 = 0 <;> simp [h, b2i]
/-! how often round -/
def dT (c : Nat) (xs ys : Nat → Int32) (p q : Int32) (i : Nat) : Int32 := if ys i ≤ q then (if ys (nx c i) ≤ q then 0 else if 0 < LO c xs ys i p.toInt64 q.toInt64 then 1 else 0) else (if ys (nx c i) ≤ q then (if LO c xs ys i p.toInt64 q.toInt64 < 0 then -1 else 0) else 0)
def tS (t : Nat → Int32) : Nat → Int32
  | 0 => 0
  | k + 1 => tS t k + t k
theorem c_turnsRound {c : Nat} {xs ys : Nat → Int32} (hF : Fg c xs ys) (p q : Int32) : f_X0_turnsRound xs ys (nI c) p q = some (tS (dT c xs ys p q) c) := by
  have hc := hF.1
  unfold f_X0_turnsRound
  have hL : lpf (s_X0_turnsRound_5 xs ys (nI c) p q) 1000 ((0 : Int32), (0 : Int32)) = some (tS (dT c xs ys p q) c) := by
    refine lpf_run (fun i => (tS (dT c xs ys p q) i, nI i)) c rfl (fun i hi => ?_) ?_ (by omega)
    rotate_left
    · unfold s_X0_turnsRound_5
      simp only []
      rw [if_pos (nI_le (Nat.le_refl c) (by omega))]
    have hj := nx_lt hi
    unfold s_X0_turnsRound_5
    simp only [tS]
    rw [if_neg (nI_ge hi (by omega))]
    simp only [c_next hi hc, Option.bind_some, c_leftOf hF hi, c_y (show nx c i < 24 by omega), c_y (show i < 24 by omega), ov, nI_1, cmp_le, cmp_ge, dT]
    generalize LO c xs ys i p.toInt64 q.toInt64 = z
    by_cases h1 : ys i ≤ q <;> by_cases h2 : ys (nx c i) ≤ q <;> by_cases h3 : z ≤ 0 <;> by_cases h4 : 0 ≤ z <;> simp [h1, h2, h3, h4, ← Int64.not_le]
  rw [hL]; rfl
theorem m_windsOf {c f : Nat} {xs ys pt px py : Nat → Int32} (hF : Fg c xs ys) (hM : Mf c xs ys pt px py f) (hf : f < 6) {p q : Int32} (hp : sm 300 p) (hq : sm 300 q) : f_X2_windsOf pt px py (nI f) p q = some (if anyTo (onS c xs ys p q) c = true then -1006 else tS (dT c xs ys p q) c) := by
  have hc := hF.1
  unfold f_X2_windsOf
  have hL : lpf (s_X2_windsOf_6 pt px py (nI f) p q) 1000 ((0 : Int32), (0 : Int32)) = some (if anyTo (onS c xs ys p q) c = true then .inl (-1006) else .inr (tS (dT c xs ys p q) c)) := by
    refine lpf_any (fun i => (tS (dT c xs ys p q) i, nI i)) c _ _ _ rfl (fun i hi h => ?_) (fun i hi h => ?_) ?_ (by omega)
    · unfold s_X2_windsOf_6
      simp only [tS]
      rw [if_pos (bin_nI hf (by decide)), nI_clamp (by omega), hM.1, if_neg (nI_ge hi (by omega)), m_isOn hF hM hf hi hp hq, h]
      simp only [nI_1, m_x0 hM hf hc hi, m_y0 hM hf hc hi, m_x1 hM hf hc hi, m_y1 hM hf hc hi, Option.bind_some, m_side hF hi hp hq, cmp_le, cmp_ge, ov, b2i_0, dT]
      generalize LO c xs ys i p.toInt64 q.toInt64 = z
      by_cases h1 : ys i ≤ q <;> by_cases h2 : ys (nx c i) ≤ q <;> by_cases h3 : z ≤ 0 <;> by_cases h4 : 0 ≤ z <;> simp [h1, h2, h3, h4, ← Int64.not_le, ← Int32.not_le]
    · unfold s_X2_windsOf_6
      simp only []
      rw [if_pos (bin_nI hf (by decide)), nI_clamp (by omega), hM.1, if_neg (nI_ge hi (by omega)), m_isOn hF hM hf hi hp hq, h]
      rfl
    · unfold s_X2_windsOf_6
      simp only []
      rw [if_pos (bin_nI hf (by decide)), nI_clamp (by omega), hM.1, if_pos (nI_le (Nat.le_refl c) (by omega))]
  rw [hL]
  by_cases h : anyTo (onS c xs ys p q) c = true
  · rw [if_pos h, if_pos h]; rfl
  · rw [if_neg h, if_neg h]; rfl
theorem c_carries {c : Nat} {xs ys : Nat → Int32} (hF : Fg c xs ys) (p q : Int32) : f_X0_carries xs ys (nI c) p q = some (b2i (anyTo (onS c xs ys p q) c)) := by
  have hc := hF.1
  unfold f_X0_carries
  have hL : lpf (s_X0_carries_2 xs ys (nI c) p q) 1000 (0 : Int32) = some (if anyTo (onS c xs ys p q) c = true then .inl 1 else .inr ()) := by
    refine lpf_any (fun i => nI i) c _ _ _ rfl (fun i hi h => ?_) (fun i hi h => ?_) ?_ (by omega)
    · unfold s_X0_carries_2
      rw [if_neg (nI_ge hi (by omega)), c_sideCarries hF hi, h]
      simp only [Option.bind_some, b2i_0, ov, nI_1]
      rfl
    · unfold s_X0_carries_2
      rw [if_neg (nI_ge hi (by omega)), c_sideCarries hF hi, h]
      rfl
    · unfold s_X0_carries_2
      rw [if_pos (nI_le (Nat.le_refl c) (by omega))]
  rw [hL]
  cases h : anyTo (onS c xs ys p q) c <;> rfl
