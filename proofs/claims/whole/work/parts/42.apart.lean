/-! the object's twenty cells, by number, and that they are apart -/
def dad (o qf : Nat) (g gx gy : Nat → Nat) (i : Nat) : Nat := if i = 0 then o else if i = 1 then qf else if (i - 2) % 3 = 0 then g ((i - 2) / 3) else if (i - 2) % 3 = 1 then gx ((i - 2) / 3) else gy ((i - 2) / 3)
def dpt (o qf : Nat) (g gx gy : Nat → Nat) : Prop := ∀ i j, i < 20 → j < 20 → dad o qf g gx gy i = dad o qf g gx gy j → i = j
def dall (o qf : Nat) (g gx gy : Nat → Nat) (a : Nat) : Prop := ∃ i, i < 20 ∧ a = dad o qf g gx gy i
section Apart
variable {o qf : Nat} {g gx gy : Nat → Nat}
theorem dad_0 : dad o qf g gx gy 0 = o := rfl
theorem dad_1 : dad o qf g gx gy 1 = qf := rfl
theorem dad_g (k : Nat) : dad o qf g gx gy (2 + 3 * k) = g k := by
  unfold dad
  rw [if_neg (by omega), if_neg (by omega), if_pos (by omega), show (2 + 3 * k - 2) / 3 = k by omega]
theorem dad_x (k : Nat) : dad o qf g gx gy (3 + 3 * k) = gx k := by
  unfold dad
  rw [if_neg (by omega), if_neg (by omega), if_neg (by omega), if_pos (by omega), show (3 + 3 * k - 2) / 3 = k by omega]
theorem dad_y (k : Nat) : dad o qf g gx gy (4 + 3 * k) = gy k := by
  unfold dad
  rw [if_neg (by omega), if_neg (by omega), if_neg (by omega), if_neg (by omega), show (4 + 3 * k - 2) / 3 = k by omega]
theorem idx_at {ws : va_W} {f : Nat → Nat} {idx : List Nat} (hm : ws.map Prod.fst = idx.map f) {k : Nat} {q : Nat × va_E} (h : ws[k]? = some q) : ∃ i, idx[k]? = some i ∧ f i = q.1 := by
  have h1 : (ws.map Prod.fst)[k]? = some q.1 := by rw [List.getElem?_map, h]; rfl
  rw [hm, List.getElem?_map] at h1
  cases hi : idx[k]? with
  | none => rw [hi] at h1; cases h1
  | some i => rw [hi] at h1; exact ⟨i, rfl, Option.some.inj h1⟩
theorem va_D_idx {ws : va_W} (hpt : dpt o qf g gx gy) (idx : List Nat) (hm : ws.map Prod.fst = idx.map (dad o qf g gx gy)) (hlt : ∀ i ∈ idx, i < 20) (hnd : idx.Nodup) : va_D (va_A0 ws) ws ∧ ∀ a, va_A0 ws a → dall o qf g gx gy a := by
  refine ⟨⟨fun i j p q hi hj e => ?_, fun k q hk => ⟨k, q.2, hk⟩⟩, fun a ha => ?_⟩
  · obtain ⟨x, h1, e1⟩ := idx_at hm hi
    obtain ⟨y, h2, e2⟩ := idx_at hm hj
    have hxy : x = y := hpt x y (hlt x (List.mem_of_getElem? h1)) (hlt y (List.mem_of_getElem? h2)) (by rw [e1, e2, e])
    subst hxy
    exact (List.getElem?_inj (List.getElem?_eq_some_iff.mp h1).1 hnd).mp (h1.trans h2.symm)
  · obtain ⟨k, x, h⟩ := ha
    obtain ⟨i, h1, e1⟩ := idx_at hm h
    exact ⟨i, hlt i (List.mem_of_getElem? h1), e1.symm⟩
theorem dpt_0 {cF : ClassId} {ro rn tn fx fy ar wh : Int32} (hpt : dpt o qf g gx gy) : va_D (va_A0 (drW cF o qf g ro rn tn fx fy ar wh)) (drW cF o qf g ro rn tn fx fy ar wh) ∧ ∀ a, va_A0 (drW cF o qf g ro rn tn fx fy ar wh) a → dall o qf g gx gy a :=
  va_D_idx hpt [0, 1] rfl (by decide) (by decide)
theorem dpt_1 {cI cF : ClassId} {ro rn tn fx fy ar wh : Int32} {xs ys : Nat → Int32} {n : Int32} {k q qx qy : Nat} (hpt : dpt o qf g gx gy) (hk : k < 6) (e1 : q = g k) (e2 : qx = gx k) (e3 : qy = gy k) : va_D (va_A0 (drfW cI cF o qf g ro rn tn fx fy ar wh q qx qy xs ys n)) (drfW cI cF o qf g ro rn tn fx fy ar wh q qx qy xs ys n) ∧ ∀ a, va_A0 (drfW cI cF o qf g ro rn tn fx fy ar wh q qx qy xs ys n) a → dall o qf g gx gy a := by
  refine va_D_idx hpt [0, 1, 2 + 3 * k, 3 + 3 * k, 4 + 3 * k] ?_ ?_ ?_
  · simp only [List.map_cons, List.map_nil, dad_g, dad_x, dad_y, dad_0, dad_1, e1, e2, e3]
  · intro i hi
    simp only [List.mem_cons, List.not_mem_nil, or_false] at hi
    omega
  · simp only [List.nodup_cons, List.mem_cons, List.not_mem_nil, or_false, not_or, List.nodup_nil, and_true, not_false_eq_true]
    refine ⟨⟨?_, ?_, ?_, ?_⟩, ⟨?_, ?_, ?_⟩, ⟨?_, ?_⟩, ?_⟩ <;> first | omega | (intro hh; omega)
theorem dpt_2 {cI cF : ClassId} {ro rn tn fx fy ar wh : Int32} {xs ys us vs : Nat → Int32} {n kk : Int32} {k j q qx qy w wx wy : Nat} (hpt : dpt o qf g gx gy) (hk : k < 6) (hj : j < 6) (hkj : k ≠ j) (e1 : q = g k) (e2 : qx = gx k) (e3 : qy = gy k) (e4 : w = g j) (e5 : wx = gx j) (e6 : wy = gy j) : va_D (va_A0 (drffW cI cF o qf g ro rn tn fx fy ar wh q qx qy xs ys n w wx wy us vs kk)) (drffW cI cF o qf g ro rn tn fx fy ar wh q qx qy xs ys n w wx wy us vs kk) ∧ ∀ a, va_A0 (drffW cI cF o qf g ro rn tn fx fy ar wh q qx qy xs ys n w wx wy us vs kk) a → dall o qf g gx gy a := by
  refine va_D_idx hpt [0, 1, 2 + 3 * k, 3 + 3 * k, 4 + 3 * k, 2 + 3 * j, 3 + 3 * j, 4 + 3 * j] ?_ ?_ ?_
  · simp only [List.map_cons, List.map_nil, dad_g, dad_x, dad_y, dad_0, dad_1, e1, e2, e3, e4, e5, e6]
  · intro i hi
    simp only [List.mem_cons, List.not_mem_nil, or_false] at hi
    omega
  · simp only [List.nodup_cons, List.mem_cons, List.not_mem_nil, or_false, not_or, List.nodup_nil, and_true, not_false_eq_true]
    refine ⟨⟨?_, ?_, ?_, ?_, ?_, ?_, ?_⟩, ⟨?_, ?_, ?_, ?_, ?_, ?_⟩, ⟨?_, ?_, ?_, ?_, ?_⟩, ⟨?_, ?_, ?_, ?_⟩, ⟨?_, ?_, ?_⟩, ⟨?_, ?_⟩, ?_⟩ <;> first | omega | (intro hh; omega)
/-- figures that a walk didn't touch stand as they stood -/
theorem fig_kept {D : va_G} {cI : ClassId} {ws : va_W} {idx : List Nat} {H0 H : Heap} {locs : List Loc} {xs ys : Nat → Int32} {n : Int32} {j : Nat} (hpt : dpt o qf g gx gy) (hj : j < 6) (hm : ws.map Prod.fst = idx.map (dad o qf g gx gy)) (hlt : ∀ i ∈ idx, i < 20) (hno : ∀ i ∈ idx, i ≠ 2 + 3 * j ∧ i ≠ 3 + 3 * j ∧ i ≠ 4 + 3 * j) (hS : va_S (va_A0 ws) H0 H locs)
    (hP : va_P D vwCl (figW cI (g j) (gx j) (gy j) xs ys n) H0) : va_P D vwCl (figW cI (g j) (gx j) (gy j) xs ys n) H := by
  have no : ∀ i, i < 20 → (∀ x ∈ idx, x ≠ i) → ¬ va_A0 ws (dad o qf g gx gy i) := by
    intro i hi hx ha
    obtain ⟨k, x, h⟩ := ha
    obtain ⟨y, h1, e1⟩ := idx_at hm h
    exact hx y (List.mem_of_getElem? h1) (hpt y i (hlt y (List.mem_of_getElem? h1)) hi e1)
  refine hP.kept (fun k q hk => hS.2.1 q.1 ((hP k q hk).lt) ?_)
  match k, hk with
  | 0, hk => cases hk; have z := no (2 + 3 * j) (by omega) (fun x hx => (hno x hx).1); rw [dad_g] at z; exact z
  | 1, hk => cases hk; have z := no (3 + 3 * j) (by omega) (fun x hx => (hno x hx).2.1); rw [dad_x] at z; exact z
  | 2, hk => cases hk; have z := no (4 + 3 * j) (by omega) (fun x hx => (hno x hx).2.2); rw [dad_y] at z; exact z
  | k + 3, hk => cases hk
variable {D : va_G} {cI cF : ClassId} {ro rn tn fx fy ar wh ro' rn' tn' fx' fy' ar' wh' : Int32} {X Y X' Y' : Nat → Nat → Int32} {N N' : Nat → Int32} {H0 H : Heap} {locs : List Loc}
theorem drP_back0 (hpt : dpt o qf g gx gy) (hO : drP D cI cF o qf g gx gy ro rn tn fx fy ar wh X Y N H0) (hS : va_S (va_A0 (drW cF o qf g ro rn tn fx fy ar wh)) H0 H locs) (hP : va_P D vwCl (drW cF o qf g ro' rn' tn' fx' fy' ar' wh') H) : drP D cI cF o qf g gx gy ro' rn' tn' fx' fy' ar' wh' X Y N H :=
  ⟨hP, fun j hj => fig_kept hpt hj (idx := [0, 1]) rfl (by decide) (fun i hi => by simp only [List.mem_cons, List.not_mem_nil, or_false] at hi; omega) hS (hO.2 j hj)⟩
theorem drP_back1 {xs ys xs' ys' : Nat → Int32} {n n' : Int32} {k q qx qy : Nat} (hpt : dpt o qf g gx gy) (hO : drP D cI cF o qf g gx gy ro rn tn fx fy ar wh X Y N H0) (hk : k < 6) (e1 : q = g k) (e2 : qx = gx k) (e3 : qy = gy k) (hS : va_S (va_A0 (drfW cI cF o qf g ro rn tn fx fy ar wh q qx qy xs ys n)) H0 H locs) (hP : va_P D vwCl (drfW cI cF o qf g ro' rn' tn' fx' fy' ar' wh' q qx qy xs' ys' n') H) : drP D cI cF o qf g gx gy ro' rn' tn' fx' fy' ar' wh' (va_up X k xs') (va_up Y k ys') (va_up N k n') H := by
  subst e1 e2 e3
  refine ⟨hP.sub [0, 1] rfl, fun j hj => ?_⟩
  by_cases hjk : j = k
  · subst hjk
    rw [va_up_self, va_up_self, va_up_self]
    exact hP.sub [2, 3, 4] rfl
  · rw [va_up_ne _ _ hjk, va_up_ne _ _ hjk, va_up_ne _ _ hjk]
    refine fig_kept hpt hj (idx := [0, 1, 2 + 3 * k, 3 + 3 * k, 4 + 3 * k]) ?_ ?_ ?_ hS (hO.2 j hj)
    · simp only [List.map_cons, List.map_nil, dad_g, dad_x, dad_y, dad_0, dad_1]
    · intro i hi
      simp only [List.mem_cons, List.not_mem_nil, or_false] at hi
      omega
    · intro i hi
      simp only [List.mem_cons, List.not_mem_nil, or_false] at hi
      omega
theorem drP_back2 {xs ys us vs xs' ys' us' vs' : Nat → Int32} {n kk n' kk' : Int32} {k i2 q qx qy w wx wy : Nat} (hpt : dpt o qf g gx gy) (hO : drP D cI cF o qf g gx gy ro rn tn fx fy ar wh X Y N H0) (hk : k < 6) (hi2 : i2 < 6) (e1 : q = g k) (e2 : qx = gx k) (e3 : qy = gy k) (e4 : w = g i2) (e5 : wx = gx i2) (e6 : wy = gy i2) (hS : va_S (va_A0 (drffW cI cF o qf g ro rn tn fx fy ar wh q qx qy xs ys n w wx wy us vs kk)) H0 H locs) (hP : va_P D vwCl (drffW cI cF o qf g ro' rn' tn' fx' fy' ar' wh' q qx qy xs' ys' n' w wx wy us' vs' kk') H)
    (h1 : X' k = xs' ∧ Y' k = ys' ∧ N' k = n') (h2 : X' i2 = us' ∧ Y' i2 = vs' ∧ N' i2 = kk') (h3 : ∀ j, j ≠ k → j ≠ i2 → X' j = X j ∧ Y' j = Y j ∧ N' j = N j) : drP D cI cF o qf g gx gy ro' rn' tn' fx' fy' ar' wh' X' Y' N' H := by
  subst e1 e2 e3 e4 e5 e6
  refine ⟨hP.sub [0, 1] rfl, fun j hj => ?_⟩
  by_cases hjk : j = k
  · subst hjk
    rw [h1.1, h1.2.1, h1.2.2]
    exact hP.sub [2, 3, 4] rfl
  · by_cases hji : j = i2
    · subst hji
      rw [h2.1, h2.2.1, h2.2.2]
      exact hP.sub [5, 6, 7] rfl
    · rw [(h3 j hjk hji).1, (h3 j hjk hji).2.1, (h3 j hjk hji).2.2]
      refine fig_kept hpt hj (idx := [0, 1, 2 + 3 * k, 3 + 3 * k, 4 + 3 * k, 2 + 3 * i2, 3 + 3 * i2, 4 + 3 * i2]) ?_ ?_ ?_ hS (hO.2 j hj)
      · simp only [List.map_cons, List.map_nil, dad_g, dad_x, dad_y, dad_0, dad_1]
      · intro i hi
        simp only [List.mem_cons, List.not_mem_nil, or_false] at hi
        omega
      · intro i hi
        simp only [List.mem_cons, List.not_mem_nil, or_false] at hi
        omega
end Apart
theorem va_F_weak {A B : Nat → Prop} {s t : State} (h : va_F A s t) (hAB : ∀ a, A a → B a) : va_F B s t := ⟨h.1, fun q h1 h2 => h.2 q h1 (fun z => h2 (hAB q z))⟩
/-- the whole object, for a method that writes -/
def wP (D : va_G) (cI cF : ClassId) (o qf : Nat) (g gx gy : Nat → Nat) (ro rn tn fx fy ar wh : Int32) (X Y : Nat → Nat → Int32) (N : Nat → Int32) (U : State) : Prop :=
  va_K D vwCl (tyl cI cF) U ∧ va_Nw nst U ∧ drP D cI cF o qf g gx gy ro rn tn fx fy ar wh X Y N U.heap ∧ dpt o qf g gx gy
theorem pre_p {s : State} {H : Heap} {D : va_G} {cI cF : ClassId} {As : List Value} {o qf : Nat} {g gx gy : Nat → Nat} {ro rn tn fx fy ar wh : Int32} {X Y : Nat → Nat → Int32} {N : Nat → Int32} (hK : va_K D vwCl (tyl cI cF) s) (hnw : va_Nw nst s) (hO : drP D cI cF o qf g gx gy ro rn tn fx fy ar wh X Y N H) (hpt : dpt o qf g gx gy) : PreV s H RX1 o (va_Pc (.ref o :: As) (fun U => wP D cI cF o qf g gx gy ro rn tn fx fy ar wh X Y N U)) As :=
  ⟨fun a U g mk q => ⟨q.1, va_K.moved (u := U) (U := U.calling g mk a) (Vm.Alike.refl U.vm) q.2.1, q.2.2.1.same rfl rfl, q.2.2.2⟩, va_recv (ci := 1) (q0 := 0) hK hO.1 rfl rfl, fun U hU hW => ⟨rfl, va_K.moved hW.alike hK, hnw.warmF hW, by rw [hU]; exact hO, hpt⟩⟩
theorem clamp_ne {a b : Int32} (ha : bin a 6 = true) (hb : bin b 6 = true) (h : ¬ a = b) : a.toNatClampNeg ≠ b.toNatClampNeg := by
  intro e
  obtain ⟨i, hi, rfl⟩ := vp_in_of (bin_in.mp ha) (by decide)
  obtain ⟨j, hj, rfl⟩ := vp_in_of (bin_in.mp hb) (by decide)
  rw [nI_clamp (by omega), nI_clamp (by omega)] at e
  exact h (by rw [e])
