def f_X0_put (xs : Nat → Int32) (ys : Nat → Int32) (a1 : Int32) (a2 : Int32) (a3 : Int32) : Option (((Nat → Int32) × (Nat → Int32))) :=
  if a1 < (0) then
  (some (xs, ys))
  else
  (if (24 : Int32) ≤ a1 then
  (some (xs, ys))
  else
  (if (24 : Int32) ≤ a1 then
  (some (xs, ys))
  else
  (if bin a1 24 = true then
  ov (upd xs a1.toNatClampNeg a2) fun xs5 =>
  if bin a1 24 = true then
  ov (upd ys a1.toNatClampNeg a3) fun ys7 =>
  some (xs5, ys7)
  else none
  else none)))
set_option maxHeartbeats 4000000 in
set_option maxRecDepth 100000 in
theorem k_X0_put (l : Launch) (D : va_G) (cI cF : ClassId) (q : Nat) (qx : Nat) (qy : Nat) (xs : Nat → Int32) (ys : Nat → Int32) (n : Int32) (a1 : Int32) (a2 : Int32) (a3 : Int32) (r0 : ((Nat → Int32) × (Nat → Int32))) (h : f_X0_put xs ys a1 a2 a3 = some r0) : Met l yX0_put wsX0_put ({ frames := 0, cells := 0, slots := 0, locals := 0 }) (va_Pc [.ref q, .int a1, .int a2, .int a3] (fun U => wD D cI cF (figW cI q qx qy xs ys n) U)) (qW none (va_A0 (figW cI q qx qy xs ys n)) (fun H => va_P D vwCl (figW cI q qx qy r0.1 r0.2 n) H)) 0 0 (va_A0 (figW cI q qx qy xs ys n)) := by
  refine Met.ofW (cc := cX0_put) (maxL := 4) (ret := none) (by decide) rfl ?_
  intro p e s m args below meth c s₁ B hml hv
  obtain ⟨rfl, hK, hP, hD0⟩ := hv
  have hx := B.exec
  have hb := B.bytes
  have hr := B.returns
  have hts := atoms_spec (ws := wsX0_put) B.pre
  have hown : s.vm.findClass RX0 = some m.cls := findClass_of_methodNamed B.named
  have hlocks := B.notSynchronized
  have ht1 := hts (.fieldLink RX0 9 "DrawnAreas$Figure" "xs" "[I") (by decide +kernel)
  have hinX0 : ∀ w ∈ u_ws RX0 TX0 3, w ∈ wsX0_put := by decide +kernel
  have ht3 := hts (.fieldLink RX0 15 "DrawnAreas$Figure" "ys" "[I") (by decide +kernel)
  have hD : va_D (va_A0 (figW cI q qx qy xs ys n)) (figW cI q qx qy xs ys n) := va_D_A0 hD0
  generalize hAe : va_A0 (figW cI q qx qy xs ys n) = AA at hD ⊢
  have hS : va_S AA s.heap s.heap [] := va_S.rf
  have hl := lv_entry ([.ref q, .int a1, .int a2, .int a3]) (n := 4) (Nat.le_of_ble_eq_true rfl)
  rw [lg_entry_eq]
  generalize (lg_sl ([.ref q, .int a1, .int a2, .int a3]) ++ List.replicate (4 - (lg_sl ([.ref q, .int a1, .int a2, .int a3])).length) Slot.unset).toArray = ls at hl ⊢
  have hl : lv_has ls 4 [(0, .ref q), (1, .int a1), (2, .int a2), (3, .int a3)] := hl
  unfold f_X0_put at h
  refine lv_iload_n hx hb dX0_put_0 rfl (lv_at hl 1 rfl) ?_
  refine lv_if_lt (tgt := 36) hx hb dX0_put_1 (by decide) (fun c0 => ?_) (fun c0 => ?_)
  · rw [if_pos c0] at h
    obtain rfl := Option.some.inj h
    exact W.vret hx hb hr (fun t ht _ => ⟨rfl, by rw [ht]; exact hP, hS.F ht⟩) hS.2.2 dX0_put_36
  · rw [if_neg c0] at h
    refine lv_iload_n hx hb dX0_put_4 rfl (lv_at hl 1 rfl) ?_
    refine lv_aload_n hx hb dX0_put_5 rfl (lv_at hl 0 rfl) ?_
    refine va_get (D := D) (ci := 0) (v := .ref qx) (C := RX0) (T := TX0) (N := 3) hx hb hts hinX0 hown hK hP 0 rfl rfl 0 (by decide) ht1 (fun _ h9 => h9) rfl dX0_put_6 ?_
    refine va_alen hx hb hK hP 1 0 rfl rfl (v := 24) rfl dX0_put_9 ?_
    refine lv_icmp_ge (tgt := 36) hx hb dX0_put_10 (by decide) (fun c1 => ?_) (fun c1 => ?_)
    · rw [if_pos c1] at h
      obtain rfl := Option.some.inj h
      exact W.vret hx hb hr (fun t ht _ => ⟨rfl, by rw [ht]; exact hP, hS.F ht⟩) hS.2.2 dX0_put_36
    · rw [if_neg c1] at h
      refine lv_iload_n hx hb dX0_put_13 rfl (lv_at hl 1 rfl) ?_
      refine lv_aload_n hx hb dX0_put_14 rfl (lv_at hl 0 rfl) ?_
      refine va_get (D := D) (ci := 0) (v := .ref qy) (C := RX0) (T := TX0) (N := 3) hx hb hts hinX0 hown hK hP 0 rfl rfl 1 (by decide) ht3 (fun _ h9 => h9) rfl dX0_put_15 ?_
      refine va_alen hx hb hK hP 2 0 rfl rfl (v := 24) rfl dX0_put_18 ?_
      refine lv_icmp_ge (tgt := 36) hx hb dX0_put_19 (by decide) (fun c2 => ?_) (fun c2 => ?_)
      · rw [if_pos c2] at h
        obtain rfl := Option.some.inj h
        exact W.vret hx hb hr (fun t ht _ => ⟨rfl, by rw [ht]; exact hP, hS.F ht⟩) hS.2.2 dX0_put_36
      · rw [if_neg c2] at h
        refine lv_aload_n hx hb dX0_put_22 rfl (lv_at hl 0 rfl) ?_
        refine va_get (D := D) (ci := 0) (v := .ref qx) (C := RX0) (T := TX0) (N := 3) hx hb hts hinX0 hown hK hP 0 rfl rfl 0 (by decide) ht1 (fun _ h9 => h9) rfl dX0_put_23 ?_
        refine lv_iload_n hx hb dX0_put_26 rfl (lv_at hl 1 rfl) ?_
        refine lv_iload_n hx hb dX0_put_27 rfl (lv_at hl 2 rfl) ?_
        obtain ⟨gi3, h⟩ := og_in h
        refine va_iast hx hb hK hP hD hS 1 0 rfl rfl gi3 dX0_put_28 (fun H locs hP hD hS => ?_)
        obtain ⟨xs5, exs5⟩ : ∃ y : Nat → Int32, y = upd xs a1.toNatClampNeg a2 := ⟨_, rfl⟩
        have h := og_ov h exs5
        rw [← exs5] at hP hD
        have hP : va_P D vwCl (figW cI q qx qy xs5 ys n) H := hP
        have hD : va_D AA (figW cI q qx qy xs5 ys n) := hD
        refine lv_aload_n hx hb dX0_put_29 rfl (lv_at hl 0 rfl) ?_
        refine va_get (D := D) (ci := 0) (v := .ref qy) (C := RX0) (T := TX0) (N := 3) hx hb hts hinX0 hown hK hP 0 rfl rfl 1 (by decide) ht3 (fun _ h9 => h9) rfl dX0_put_30 ?_
        refine lv_iload_n hx hb dX0_put_33 rfl (lv_at hl 1 rfl) ?_
        refine lv_iload_n hx hb dX0_put_34 rfl (lv_at hl 3 rfl) ?_
        obtain ⟨gi5, h⟩ := og_in h
        refine va_iast hx hb hK hP hD hS 2 0 rfl rfl gi5 dX0_put_35 (fun H locs hP hD hS => ?_)
        obtain ⟨ys7, eys7⟩ : ∃ y : Nat → Int32, y = upd ys a1.toNatClampNeg a3 := ⟨_, rfl⟩
        have h := og_ov h eys7
        rw [← eys7] at hP hD
        have hP : va_P D vwCl (figW cI q qx qy xs5 ys7 n) H := hP
        have hD : va_D AA (figW cI q qx qy xs5 ys7 n) := hD
        obtain rfl := Option.some.inj h
        exact W.vret hx hb hr (fun t ht _ => ⟨rfl, by rw [ht]; exact hP, hS.F ht⟩) hS.2.2 dX0_put_36
def f_X0_add (xs : Nat → Int32) (ys : Nat → Int32) (n : Int32) (a1 : Int32) (a2 : Int32) : Option (((Nat → Int32) × (Nat → Int32) × Int32)) :=
  if (24 : Int32) ≤ n then
  (some (xs, ys, n))
  else
  ((f_X0_put xs ys n a1 a2).bind fun r2 =>
  ov (n + (1 : Int32)) fun v3 =>
  some (r2.1, r2.2, v3))
set_option maxHeartbeats 4000000 in
set_option maxRecDepth 100000 in
theorem k_X0_add (l : Launch) (D : va_G) (cI cF : ClassId) (q : Nat) (qx : Nat) (qy : Nat) (xs : Nat → Int32) (ys : Nat → Int32) (n : Int32) (a1 : Int32) (a2 : Int32) (r0 : ((Nat → Int32) × (Nat → Int32) × Int32)) (h : f_X0_add xs ys n a1 a2 = some r0) : Met l yX0_add wsX0_add ({ frames := 1, cells := 0, slots := 0, locals := 23 }) (va_Pc [.ref q, .int a1, .int a2] (fun U => wD D cI cF (figW cI q qx qy xs ys n) U)) (qW none (va_A0 (figW cI q qx qy xs ys n)) (fun H => va_P D vwCl (figW cI q qx qy r0.1 r0.2.1 r0.2.2) H)) 0 0 (va_A0 (figW cI q qx qy xs ys n)) := by
  refine Met.ofW (cc := cX0_add) (maxL := 3) (ret := none) (by decide) rfl ?_
  intro p e s m args below meth c s₁ B hml hv
  obtain ⟨rfl, hK, hP, hD0⟩ := hv
  have hx := B.exec
  have hb := B.bytes
  have hr := B.returns
  have hts := atoms_spec (ws := wsX0_add) B.pre
  have hown : s.vm.findClass RX0 = some m.cls := findClass_of_methodNamed B.named
  have hlocks := B.notSynchronized
  have ht1 := hts (.fieldLink RX0 18 "DrawnAreas$Figure" "size" "I") (by decide +kernel)
  have hinX0 : ∀ w ∈ u_ws RX0 TX0 3, w ∈ wsX0_add := by decide +kernel
  have hD : va_D (va_A0 (figW cI q qx qy xs ys n)) (figW cI q qx qy xs ys n) := va_D_A0 hD0
  generalize hAe : va_A0 (figW cI q qx qy xs ys n) = AA at hD ⊢
  have hS : va_S AA s.heap s.heap [] := va_S.rf
  have hl := lv_entry ([.ref q, .int a1, .int a2]) (n := 3) (Nat.le_of_ble_eq_true rfl)
  rw [lg_entry_eq]
  generalize (lg_sl ([.ref q, .int a1, .int a2]) ++ List.replicate (3 - (lg_sl ([.ref q, .int a1, .int a2])).length) Slot.unset).toArray = ls at hl ⊢
  have hl : lv_has ls 3 [(0, .ref q), (1, .int a1), (2, .int a2)] := hl
  unfold f_X0_add at h
  refine lv_aload_n hx hb dX0_add_0 rfl (lv_at hl 0 rfl) ?_
  refine va_get (D := D) (ci := 0) (v := .int n) (C := RX0) (T := TX0) (N := 3) hx hb hts hinX0 hown hK hP 0 rfl rfl 2 (by decide) ht1 (fun _ h9 => h9) rfl dX0_add_1 ?_
  refine lv_bipush (v := 24) hx hb dX0_add_4 (by decide) ?_
  refine lv_icmp_ge (tgt := 29) hx hb dX0_add_6 (by decide) (fun c0 => ?_) (fun c0 => ?_)
  · rw [if_pos c0] at h
    obtain rfl := Option.some.inj h
    exact W.vret hx hb hr (fun t ht _ => ⟨rfl, by rw [ht]; exact hP, hS.F ht⟩) hS.2.2 dX0_add_29
  · rw [if_neg c0] at h
    refine lv_aload_n hx hb dX0_add_9 rfl (lv_at hl 0 rfl) ?_
    refine lv_aload_n hx hb dX0_add_10 rfl (lv_at hl 0 rfl) ?_
    refine va_get (D := D) (ci := 0) (v := .int n) (C := RX0) (T := TX0) (N := 3) hx hb hts hinX0 hown hK hP 0 rfl rfl 2 (by decide) ht1 (fun _ h9 => h9) rfl dX0_add_11 ?_
    refine lv_iload_n hx hb dX0_add_14 rfl (lv_at hl 1 rfl) ?_
    refine lv_iload_n hx hb dX0_add_15 rfl (lv_at hl 2 rfl) ?_
    obtain ⟨r2, hcr2, h⟩ := og_bind h
    refine cp_v (va_runV (As := [.int n, .int a1, .int a2]) (rest := []) ⟨hx, hb, hml, hown, hts⟩ (k_X0_put l D cI cF q qx qy xs ys n n a1 a2 _ hcr2) (cwV 3 hts gX0_add_X0_put rfl rfl rfl (by decide +kernel) ⟨(Nat.le_of_ble_eq_true rfl), (Nat.le_of_ble_eq_true rfl)⟩) (pre_d (q0 := 0) (ci := 0) hK hP hD rfl rfl) rfl rfl hl.1 rfl (lv_room (Nat.le_of_ble_eq_true rfl)) dX0_add_16 ⟨(Nat.zero_le _), (Nat.zero_le _)⟩) hS (fun a9 h9 => ?_) (fun H1 locs hP1 hz1 hk1 hS => ?_)
    · exact va_in hD h9 [0, 1, 2] rfl
    have hP1 : va_P D vwCl (figW cI q qx qy r2.1 r2.2 n) H1 := hP1
    have hD1 : va_D AA (figW cI q qx qy r2.1 r2.2 n) := va_D_same hD rfl
    generalize H1 = H at hP1 hS ⊢
    have hP := hP1
    have hD := hD1
    refine lv_aload_n hx hb dX0_add_19 rfl (lv_at hl 0 rfl) ?_
    refine lv_dup hx hb dX0_add_20 rfl ?_
    refine va_get (D := D) (ci := 0) (v := .int n) (C := RX0) (T := TX0) (N := 3) hx hb hts hinX0 hown hK hP 0 rfl rfl 2 (by decide) ht1 (fun _ h9 => h9) rfl dX0_add_21 ?_
    refine lv_iconst (v := 1) hx hb dX0_add_24 (by decide) ?_
    refine lv_iadd hx hb dX0_add_25 ?_
    refine lv_topi (fun v3 ev3 => ?_)
    have h := og_ov h ev3
    refine va_put (D := D) (ci := 0) (v := .int v3) (ty := .int) (C := RX0) (T := TX0) (N := 3) hx hb hts hinX0 tyX0 tyX0_ok nmX0 hown hK hP hD hS 0 rfl rfl 2 (by decide) ht1 (fun _ h9 => h9) rfl (by decide +kernel) rfl rfl (Nat.le_of_ble_eq_true rfl) dX0_add_26 (fun H locs hP hD hS => ?_)
    have hP : va_P D vwCl (figW cI q qx qy r2.1 r2.2 v3) H := hP
    have hD : va_D AA (figW cI q qx qy r2.1 r2.2 v3) := hD
    obtain rfl := Option.some.inj h
    exact W.vret hx hb hr (fun t ht _ => ⟨rfl, by rw [ht]; exact hP, hS.F ht⟩) hS.2.2 dX0_add_29
def s_X0_turn_2 (n : Int32) (u2 : (Int32 × (Nat → Int32) × (Nat → Int32))) : Option ((Int32 × (Nat → Int32) × (Nat → Int32)) ⊕ ((Nat → Int32) × (Nat → Int32))) :=
  if (n - u2.1) ≤ u2.1 then
  (some (.inr (u2.2.1, u2.2.2)))
  else
  (ov (n - u2.1) fun v2 =>
  (f_X0_x u2.2.1 u2.1).bind fun r3 =>
  (f_X0_y u2.2.2 u2.1).bind fun r4 =>
  (f_X0_x u2.2.1 v2).bind fun r5 =>
  (f_X0_y u2.2.2 v2).bind fun r6 =>
  (f_X0_put u2.2.1 u2.2.2 u2.1 r5 r6).bind fun r7 =>
  (f_X0_put r7.1 r7.2 v2 r3 r4).bind fun r8 =>
  ov (u2.1 + (1 : Int32)) fun v9 =>
  some (.inl (v9, r8.1, r8.2)))
def f_X0_turn (xs : Nat → Int32) (ys : Nat → Int32) (n : Int32) : Option (((Nat → Int32) × (Nat → Int32))) :=
  (lpf (s_X0_turn_2 n) 1000 ((1 : Int32), xs, ys)).bind fun x10 =>
  some (x10.1, x10.2)
set_option maxHeartbeats 4000000 in
set_option maxRecDepth 100000 in
theorem k_X0_turn (l : Launch) (D : va_G) (cI cF : ClassId) (q : Nat) (qx : Nat) (qy : Nat) (xs : Nat → Int32) (ys : Nat → Int32) (n : Int32) (r0 : ((Nat → Int32) × (Nat → Int32))) (h : f_X0_turn xs ys n = some r0) : Met l yX0_turn wsX0_turn ({ frames := 1, cells := 0, slots := 0, locals := 23 }) (va_Pc [.ref q] (fun U => wD D cI cF (figW cI q qx qy xs ys n) U)) (qW none (va_A0 (figW cI q qx qy xs ys n)) (fun H => va_P D vwCl (figW cI q qx qy r0.1 r0.2 n) H)) 0 0 (va_A0 (figW cI q qx qy xs ys n)) := by
  refine Met.ofW (cc := cX0_turn) (maxL := 5) (ret := none) (by decide) rfl ?_
  intro p e s m args below meth c s₁ B hml hv
  obtain ⟨rfl, hK, hP, hD0⟩ := hv
  have hx := B.exec
  have hb := B.bytes
  have hr := B.returns
  have hts := atoms_spec (ws := wsX0_turn) B.pre
  have hown : s.vm.findClass RX0 = some m.cls := findClass_of_methodNamed B.named
  have hlocks := B.notSynchronized
  have ht1 := hts (.fieldLink RX0 18 "DrawnAreas$Figure" "size" "I") (by decide +kernel)
  have hinX0 : ∀ w ∈ u_ws RX0 TX0 3, w ∈ wsX0_turn := by decide +kernel
  have hD : va_D (va_A0 (figW cI q qx qy xs ys n)) (figW cI q qx qy xs ys n) := va_D_A0 hD0
  generalize hAe : va_A0 (figW cI q qx qy xs ys n) = AA at hD ⊢
  have hS : va_S AA s.heap s.heap [] := va_S.rf
  have hl := lv_entry ([.ref q]) (n := 5) (Nat.le_of_ble_eq_true rfl)
  rw [lg_entry_eq]
  generalize (lg_sl ([.ref q]) ++ List.replicate (5 - (lg_sl ([.ref q])).length) Slot.unset).toArray = ls at hl ⊢
  have hl : lv_has ls 5 [(0, .ref q)] := hl
  unfold f_X0_turn at h
  refine lv_iconst (v := 1) hx hb dX0_turn_0 (by decide) ?_
  refine lv_istore_n (lv' := [(1, .int (1 : Int32)), (0, .ref q)]) hx hb dX0_turn_1 rfl hl (by decide) rfl (fun ls hl => ?_)
  obtain ⟨x10, hN2, h⟩ := og_bind h
  refine wlH hN2 2 61 (fun u2 ls H locs => lv_has ls 5 [(0, .ref q), (1, .int u2.1)] ∧ va_P D vwCl (figW cI q qx qy u2.2.1 u2.2.2 n) H ∧ va_D AA (figW cI q qx qy u2.2.1 u2.2.2 n) ∧ va_S AA s.heap H locs) (fun x10 ls H locs => lv_has ls 5 [] ∧ va_P D vwCl (figW cI q qx qy x10.1 x10.2 n) H ∧ va_D AA (figW cI q qx qy x10.1 x10.2 n) ∧ va_S AA s.heap H locs) (fun u2 xx h ki2 kx2 ls H locs hl => ?_) (fun ls H locs hl => ?_) ⟨lv_sub hl [1, 0] rfl, hP, hD, hS⟩
  · obtain ⟨hl, hP, hD, hS⟩ := hl
    unfold s_X0_turn_2 at h
    refine lv_iload_n hx hb dX0_turn_2 rfl (lv_at hl 1 rfl) ?_
    refine lv_aload_n hx hb dX0_turn_3 rfl (lv_at hl 0 rfl) ?_
    refine va_get (D := D) (ci := 0) (v := .int n) (C := RX0) (T := TX0) (N := 3) hx hb hts hinX0 hown hK hP 0 rfl rfl 2 (by decide) ht1 (fun _ h9 => h9) rfl dX0_turn_4 ?_
    refine lv_iload_n hx hb dX0_turn_7 rfl (lv_at hl 1 rfl) ?_
    refine lv_isub hx hb dX0_turn_8 ?_
    refine lv_icmp_ge (tgt := 61) hx hb dX0_turn_9 (by decide) (fun c0 => ?_) (fun c0 => ?_)
    · rw [if_pos c0] at h
      exact kx2 _ ls _ _ (Option.some.inj h).symm ⟨lv_sub hl [] rfl, hP, hD, hS⟩
    · rw [if_neg c0] at h
      refine lv_aload_n hx hb dX0_turn_12 rfl (lv_at hl 0 rfl) ?_
      refine va_get (D := D) (ci := 0) (v := .int n) (C := RX0) (T := TX0) (N := 3) hx hb hts hinX0 hown hK hP 0 rfl rfl 2 (by decide) ht1 (fun _ h9 => h9) rfl dX0_turn_13 ?_
      refine lv_iload_n hx hb dX0_turn_16 rfl (lv_at hl 1 rfl) ?_
      refine lv_isub hx hb dX0_turn_17 ?_
      refine lv_topi (fun v2 ev2 => ?_)
      have h := og_ov h ev2
      refine lv_istore_n (lv' := [(2, .int v2), (0, .ref q), (1, .int u2.1)]) hx hb dX0_turn_18 rfl hl (by decide) rfl (fun ls hl => ?_)
      refine lv_aload_n hx hb dX0_turn_19 rfl (lv_at hl 1 rfl) ?_
      refine lv_iload_n hx hb dX0_turn_20 rfl (lv_at hl 2 rfl) ?_
      obtain ⟨r3, hcr3, h⟩ := og_bind h
      refine cp_s (va_runV (As := [.int u2.1]) (rest := []) ⟨hx, hb, hml, hown, hts⟩ (k_X0_x l D cI cF q qx qy u2.2.1 u2.2.2 n u2.1 _ hcr3) (cwV 1 hts gX0_turn_X0_x rfl rfl rfl (by decide +kernel) ⟨(Nat.le_of_ble_eq_true rfl), (Nat.le_of_ble_eq_true rfl)⟩) (pre_v (q0 := 0) (ci := 0) hK hP rfl rfl) rfl rfl hl.1 rfl (lv_room (Nat.le_of_ble_eq_true rfl)) dX0_turn_21 ⟨(Nat.zero_le _), (Nat.zero_le _)⟩) ?_
      refine lv_istore_n (lv' := [(3, .int r3), (2, .int v2), (0, .ref q), (1, .int u2.1)]) hx hb dX0_turn_24 rfl hl (by decide) rfl (fun ls hl => ?_)
      refine lv_aload_n hx hb dX0_turn_25 rfl (lv_at hl 2 rfl) ?_
      refine lv_iload_n hx hb dX0_turn_26 rfl (lv_at hl 3 rfl) ?_
      obtain ⟨r4, hcr4, h⟩ := og_bind h
      refine cp_s (va_runV (As := [.int u2.1]) (rest := []) ⟨hx, hb, hml, hown, hts⟩ (k_X0_y l D cI cF q qx qy u2.2.1 u2.2.2 n u2.1 _ hcr4) (cwV 1 hts gX0_turn_X0_y rfl rfl rfl (by decide +kernel) ⟨(Nat.le_of_ble_eq_true rfl), (Nat.le_of_ble_eq_true rfl)⟩) (pre_v (q0 := 0) (ci := 0) hK hP rfl rfl) rfl rfl hl.1 rfl (lv_room (Nat.le_of_ble_eq_true rfl)) dX0_turn_27 ⟨(Nat.zero_le _), (Nat.zero_le _)⟩) ?_
      refine lv_istore (lv' := [(4, .int r4), (3, .int r3), (2, .int v2), (0, .ref q), (1, .int u2.1)]) hx hb dX0_turn_30 hl (by decide) rfl (fun ls hl => ?_)
      refine lv_aload_n hx hb dX0_turn_32 rfl (lv_at hl 3 rfl) ?_
      refine lv_iload_n hx hb dX0_turn_33 rfl (lv_at hl 4 rfl) ?_
      refine lv_aload_n hx hb dX0_turn_34 rfl (lv_at hl 3 rfl) ?_
      refine lv_iload_n hx hb dX0_turn_35 rfl (lv_at hl 2 rfl) ?_
      obtain ⟨r5, hcr5, h⟩ := og_bind h
      refine cp_s (va_runV (As := [.int v2]) (rest := [.int u2.1, .ref q]) ⟨hx, hb, hml, hown, hts⟩ (k_X0_x l D cI cF q qx qy u2.2.1 u2.2.2 n v2 _ hcr5) (cwV 1 hts gX0_turn_X0_x rfl rfl rfl (by decide +kernel) ⟨(Nat.le_of_ble_eq_true rfl), (Nat.le_of_ble_eq_true rfl)⟩) (pre_v (q0 := 0) (ci := 0) hK hP rfl rfl) rfl rfl hl.1 rfl (lv_room (Nat.le_of_ble_eq_true rfl)) dX0_turn_36 ⟨(Nat.zero_le _), (Nat.zero_le _)⟩) ?_
      refine lv_aload_n hx hb dX0_turn_39 rfl (lv_at hl 3 rfl) ?_
      refine lv_iload_n hx hb dX0_turn_40 rfl (lv_at hl 2 rfl) ?_
      obtain ⟨r6, hcr6, h⟩ := og_bind h
      refine cp_s (va_runV (As := [.int v2]) (rest := [.int r5, .int u2.1, .ref q]) ⟨hx, hb, hml, hown, hts⟩ (k_X0_y l D cI cF q qx qy u2.2.1 u2.2.2 n v2 _ hcr6) (cwV 1 hts gX0_turn_X0_y rfl rfl rfl (by decide +kernel) ⟨(Nat.le_of_ble_eq_true rfl), (Nat.le_of_ble_eq_true rfl)⟩) (pre_v (q0 := 0) (ci := 0) hK hP rfl rfl) rfl rfl hl.1 rfl (lv_room (Nat.le_of_ble_eq_true rfl)) dX0_turn_41 ⟨(Nat.zero_le _), (Nat.zero_le _)⟩) ?_
      obtain ⟨r7, hcr7, h⟩ := og_bind h
      refine cp_v (va_runV (As := [.int u2.1, .int r5, .int r6]) (rest := []) ⟨hx, hb, hml, hown, hts⟩ (k_X0_put l D cI cF q qx qy u2.2.1 u2.2.2 n u2.1 r5 r6 _ hcr7) (cwV 3 hts gX0_turn_X0_put rfl rfl rfl (by decide +kernel) ⟨(Nat.le_of_ble_eq_true rfl), (Nat.le_of_ble_eq_true rfl)⟩) (pre_d (q0 := 0) (ci := 0) hK hP hD rfl rfl) rfl rfl hl.1 rfl (lv_room (Nat.le_of_ble_eq_true rfl)) dX0_turn_44 ⟨(Nat.zero_le _), (Nat.zero_le _)⟩) hS (fun a9 h9 => ?_) (fun H1 locs hP1 hz1 hk1 hS => ?_)
      · exact va_in hD h9 [0, 1, 2] rfl
      have hP1 : va_P D vwCl (figW cI q qx qy r7.1 r7.2 n) H1 := hP1
      have hD1 : va_D AA (figW cI q qx qy r7.1 r7.2 n) := va_D_same hD rfl
      generalize H1 = H at hP1 hS ⊢
      have hP := hP1
      have hD := hD1
      refine lv_aload_n hx hb dX0_turn_47 rfl (lv_at hl 3 rfl) ?_
      refine lv_iload_n hx hb dX0_turn_48 rfl (lv_at hl 2 rfl) ?_
      refine lv_iload_n hx hb dX0_turn_49 rfl (lv_at hl 1 rfl) ?_
      refine lv_iload hx hb dX0_turn_50 (lv_at hl 0 rfl) ?_
      obtain ⟨r8, hcr8, h⟩ := og_bind h
      refine cp_v (va_runV (As := [.int v2, .int r3, .int r4]) (rest := []) ⟨hx, hb, hml, hown, hts⟩ (k_X0_put l D cI cF q qx qy r7.1 r7.2 n v2 r3 r4 _ hcr8) (cwV 3 hts gX0_turn_X0_put rfl rfl rfl (by decide +kernel) ⟨(Nat.le_of_ble_eq_true rfl), (Nat.le_of_ble_eq_true rfl)⟩) (pre_d (q0 := 0) (ci := 0) hK hP hD rfl rfl) rfl rfl hl.1 rfl (lv_room (Nat.le_of_ble_eq_true rfl)) dX0_turn_52 ⟨(Nat.zero_le _), (Nat.zero_le _)⟩) hS (fun a9 h9 => ?_) (fun H1 locs hP1 hz1 hk1 hS => ?_)
      · exact va_in hD h9 [0, 1, 2] rfl
      have hP1 : va_P D vwCl (figW cI q qx qy r8.1 r8.2 n) H1 := hP1
      have hD1 : va_D AA (figW cI q qx qy r8.1 r8.2 n) := va_D_same hD rfl
      generalize H1 = H at hP1 hS ⊢
      have hP := hP1
      have hD := hD1
      obtain ⟨v9, ev9⟩ : ∃ y : Int32, y = u2.1 + (1 : Int32) := ⟨_, rfl⟩
      have h := og_ov h ev9
      refine lv_iinc (v := v9) (lv' := [(1, .int v9), (4, .int r4), (3, .int r3), (2, .int v2), (0, .ref q)]) hx hb dX0_turn_55 hl (k := 4) rfl (by rw [ev9]; rfl) (by decide) rfl (fun ls hl => ?_)
      refine lv_goto (tgt := 2) hx hb dX0_turn_58 (by decide) ?_
      exact ki2 _ ls _ _ (Option.some.inj h).symm ⟨lv_sub hl [4, 0] rfl, hP, hD, hS⟩
  · obtain ⟨hl, hP, hD, hS⟩ := hl
    obtain rfl := Option.some.inj h
    exact W.vret hx hb hr (fun t ht _ => ⟨rfl, by rw [ht]; exact hP, hS.F ht⟩) hS.2.2 dX0_turn_61
def s_X0_become_7 (us : Nat → Int32) (vs : Nat → Int32) (k : Int32) (u7 : (Int32 × (Nat → Int32) × (Nat → Int32) × Int32)) : Option ((Int32 × (Nat → Int32) × (Nat → Int32) × Int32) ⊕ ((Nat → Int32) × (Nat → Int32) × Int32)) :=
  if k ≤ u7.1 then
  (some (.inr (u7.2.1, u7.2.2.1, u7.2.2.2)))
  else
  ((f_X0_x us u7.1).bind fun r2 =>
  (f_X0_y vs u7.1).bind fun r3 =>
  (f_X0_add u7.2.1 u7.2.2.1 u7.2.2.2 r2 r3).bind fun r4 =>
  ov (u7.1 + (1 : Int32)) fun v5 =>
  some (.inl (v5, r4.1, r4.2.1, r4.2.2)))
def f_X0_become (xs : Nat → Int32) (ys : Nat → Int32) (us : Nat → Int32) (vs : Nat → Int32) (k : Int32) : Option (((Nat → Int32) × (Nat → Int32) × Int32)) :=
  (lpf (s_X0_become_7 us vs k) 1000 ((0 : Int32), xs, ys, (0 : Int32))).bind fun x6 =>
  some (x6.1, x6.2.1, x6.2.2)
set_option maxHeartbeats 4000000 in
set_option maxRecDepth 100000 in
theorem k_X0_become (l : Launch) (D : va_G) (cI cF : ClassId) (q : Nat) (qx : Nat) (qy : Nat) (xs : Nat → Int32) (ys : Nat → Int32) (n : Int32) (w : Nat) (wx : Nat) (wy : Nat) (us : Nat → Int32) (vs : Nat → Int32) (k : Int32) (r0 : ((Nat → Int32) × (Nat → Int32) × Int32)) (h : f_X0_become xs ys us vs k = some r0) : Met l yX0_become wsX0_become ({ frames := 2, cells := 0, slots := 0, locals := 45 }) (va_Pc [.ref q, .ref w] (fun U => wD D cI cF (fig2W cI q qx qy xs ys n w wx wy us vs k) U)) (qW none (va_A0 (fig2W cI q qx qy xs ys n w wx wy us vs k)) (fun H => va_P D vwCl (fig2W cI q qx qy r0.1 r0.2.1 r0.2.2 w wx wy us vs k) H)) 0 0 (va_A0 (fig2W cI q qx qy xs ys n w wx wy us vs k)) := by
  refine Met.ofW (cc := cX0_become) (maxL := 3) (ret := none) (by decide) rfl ?_
  intro p e s m args below meth c s₁ B hml hv
  obtain ⟨rfl, hK, hP, hD0⟩ := hv
  have hx := B.exec
  have hb := B.bytes
  have hr := B.returns
  have hts := atoms_spec (ws := wsX0_become) B.pre
  have hown : s.vm.findClass RX0 = some m.cls := findClass_of_methodNamed B.named
  have hlocks := B.notSynchronized
  have ht1 := hts (.fieldLink RX0 18 "DrawnAreas$Figure" "size" "I") (by decide +kernel)
  have hinX0 : ∀ w ∈ u_ws RX0 TX0 3, w ∈ wsX0_become := by decide +kernel
  have hD : va_D (va_A0 (fig2W cI q qx qy xs ys n w wx wy us vs k)) (fig2W cI q qx qy xs ys n w wx wy us vs k) := va_D_A0 hD0
  generalize hAe : va_A0 (fig2W cI q qx qy xs ys n w wx wy us vs k) = AA at hD ⊢
  have hS : va_S AA s.heap s.heap [] := va_S.rf
  have hl := lv_entry ([.ref q, .ref w]) (n := 3) (Nat.le_of_ble_eq_true rfl)
  rw [lg_entry_eq]
  generalize (lg_sl ([.ref q, .ref w]) ++ List.replicate (3 - (lg_sl ([.ref q, .ref w])).length) Slot.unset).toArray = ls at hl ⊢
  have hl : lv_has ls 3 [(0, .ref q), (1, .ref w)] := hl
  unfold f_X0_become at h
  refine lv_aload_n hx hb dX0_become_0 rfl (lv_at hl 0 rfl) ?_
  refine lv_iconst (v := 0) hx hb dX0_become_1 (by decide) ?_
  refine va_put (D := D) (ci := 0) (v := .int (0 : Int32)) (ty := .int) (C := RX0) (T := TX0) (N := 3) hx hb hts hinX0 tyX0 tyX0_ok nmX0 hown hK hP hD hS 0 rfl rfl 2 (by decide) ht1 (fun _ h9 => h9) rfl (by decide +kernel) rfl rfl (Nat.le_of_ble_eq_true rfl) dX0_become_2 (fun H locs hP hD hS => ?_)
  have hP : va_P D vwCl (fig2W cI q qx qy xs ys (0 : Int32) w wx wy us vs k) H := hP
  have hD : va_D AA (fig2W cI q qx qy xs ys (0 : Int32) w wx wy us vs k) := hD
  refine lv_iconst (v := 0) hx hb dX0_become_5 (by decide) ?_
  refine lv_istore_n (lv' := [(2, .int (0 : Int32)), (0, .ref q), (1, .ref w)]) hx hb dX0_become_6 rfl hl (by decide) rfl (fun ls hl => ?_)
  obtain ⟨x6, hN7, h⟩ := og_bind h
  refine wlH hN7 7 35 (fun u7 ls H locs => lv_has ls 3 [(0, .ref q), (1, .ref w), (2, .int u7.1)] ∧ va_P D vwCl (fig2W cI q qx qy u7.2.1 u7.2.2.1 u7.2.2.2 w wx wy us vs k) H ∧ va_D AA (fig2W cI q qx qy u7.2.1 u7.2.2.1 u7.2.2.2 w wx wy us vs k) ∧ va_S AA s.heap H locs) (fun x6 ls H locs => lv_has ls 3 [] ∧ va_P D vwCl (fig2W cI q qx qy x6.1 x6.2.1 x6.2.2 w wx wy us vs k) H ∧ va_D AA (fig2W cI q qx qy x6.1 x6.2.1 x6.2.2 w wx wy us vs k) ∧ va_S AA s.heap H locs) (fun u7 xx h ki7 kx7 ls H locs hl => ?_) (fun ls H locs hl => ?_) ⟨lv_sub hl [1, 2, 0] rfl, hP, hD, hS⟩
  · obtain ⟨hl, hP, hD, hS⟩ := hl
    unfold s_X0_become_7 at h
    refine lv_iload_n hx hb dX0_become_7 rfl (lv_at hl 2 rfl) ?_
    refine lv_aload_n hx hb dX0_become_8 rfl (lv_at hl 1 rfl) ?_
    refine va_get (D := D) (ci := 0) (v := .int k) (C := RX0) (T := TX0) (N := 3) hx hb hts hinX0 hown hK hP 3 rfl rfl 2 (by decide) ht1 (fun _ h9 => h9) rfl dX0_become_9 ?_
    refine lv_icmp_ge (tgt := 35) hx hb dX0_become_12 (by decide) (fun c0 => ?_) (fun c0 => ?_)
    · rw [if_pos c0] at h
      exact kx7 _ ls _ _ (Option.some.inj h).symm ⟨lv_sub hl [] rfl, hP, hD, hS⟩
    · rw [if_neg c0] at h
      refine lv_aload_n hx hb dX0_become_15 rfl (lv_at hl 0 rfl) ?_
      refine lv_aload_n hx hb dX0_become_16 rfl (lv_at hl 1 rfl) ?_
      refine lv_iload_n hx hb dX0_become_17 rfl (lv_at hl 2 rfl) ?_
      have hPc := hP.sub (ws' := figW cI w wx wy us vs k) [3, 4, 5] rfl
      obtain ⟨r2, hcr2, h⟩ := og_bind h
      refine cp_s (va_runV (As := [.int u7.1]) (rest := [.ref q]) ⟨hx, hb, hml, hown, hts⟩ (k_X0_x l D cI cF w wx wy us vs k u7.1 _ hcr2) (cwV 1 hts gX0_become_X0_x rfl rfl rfl (by decide +kernel) ⟨(Nat.le_of_ble_eq_true rfl), (Nat.le_of_ble_eq_true rfl)⟩) (pre_v (q0 := 0) (ci := 0) hK hPc rfl rfl) rfl rfl hl.1 rfl (lv_room (Nat.le_of_ble_eq_true rfl)) dX0_become_18 ⟨(Nat.zero_le _), (Nat.zero_le _)⟩) ?_
      refine lv_aload_n hx hb dX0_become_21 rfl (lv_at hl 1 rfl) ?_
      refine lv_iload_n hx hb dX0_become_22 rfl (lv_at hl 2 rfl) ?_
      have hPc := hP.sub (ws' := figW cI w wx wy us vs k) [3, 4, 5] rfl
      obtain ⟨r3, hcr3, h⟩ := og_bind h
      refine cp_s (va_runV (As := [.int u7.1]) (rest := [.int r2, .ref q]) ⟨hx, hb, hml, hown, hts⟩ (k_X0_y l D cI cF w wx wy us vs k u7.1 _ hcr3) (cwV 1 hts gX0_become_X0_y rfl rfl rfl (by decide +kernel) ⟨(Nat.le_of_ble_eq_true rfl), (Nat.le_of_ble_eq_true rfl)⟩) (pre_v (q0 := 0) (ci := 0) hK hPc rfl rfl) rfl rfl hl.1 rfl (lv_room (Nat.le_of_ble_eq_true rfl)) dX0_become_23 ⟨(Nat.zero_le _), (Nat.zero_le _)⟩) ?_
      have hPc := hP.sub (ws' := figW cI q qx qy u7.2.1 u7.2.2.1 u7.2.2.2) [0, 1, 2] rfl
      have hDc := hD.sub (ws' := figW cI q qx qy u7.2.1 u7.2.2.1 u7.2.2.2) [0, 1, 2] (by decide) rfl
      obtain ⟨r4, hcr4, h⟩ := og_bind h
      refine cp_v (va_runV (As := [.int r2, .int r3]) (rest := []) ⟨hx, hb, hml, hown, hts⟩ (k_X0_add l D cI cF q qx qy u7.2.1 u7.2.2.1 u7.2.2.2 r2 r3 _ hcr4) (cwV 2 hts gX0_become_X0_add rfl rfl rfl (by decide +kernel) ⟨(Nat.le_of_ble_eq_true rfl), (Nat.le_of_ble_eq_true rfl)⟩) (pre_d (q0 := 0) (ci := 0) hK hPc hDc rfl rfl) rfl rfl hl.1 rfl (lv_room (Nat.le_of_ble_eq_true rfl)) dX0_become_26 ⟨(Nat.zero_le _), (Nat.zero_le _)⟩) hS (fun a9 h9 => ?_) (fun H1 locs hP1 hz1 hk1 hS => ?_)
      · exact va_in hD h9 [0, 1, 2] rfl
      have hP1 : va_P D vwCl (figW cI q qx qy r4.1 r4.2.1 r4.2.2) H1 := hP1
      have hP := va_fit2 hP hD hk1 hP1 (ws' := fig2W cI q qx qy r4.1 r4.2.1 r4.2.2 w wx wy us vs k) [0, 1, 2] [3, 4, 5] 6 rfl rfl rfl rfl (by decide) (by decide)
      have hD : va_D AA (fig2W cI q qx qy r4.1 r4.2.1 r4.2.2 w wx wy us vs k) := va_D_same hD rfl
      generalize H1 = H at hP hS ⊢
      obtain ⟨v5, ev5⟩ : ∃ y : Int32, y = u7.1 + (1 : Int32) := ⟨_, rfl⟩
      have h := og_ov h ev5
      refine lv_iinc (v := v5) (lv' := [(2, .int v5), (0, .ref q), (1, .ref w)]) hx hb dX0_become_29 hl (k := 2) rfl (by rw [ev5]; rfl) (by decide) rfl (fun ls hl => ?_)
      refine lv_goto (tgt := 7) hx hb dX0_become_32 (by decide) ?_
      exact ki7 _ ls _ _ (Option.some.inj h).symm ⟨lv_sub hl [1, 2, 0] rfl, hP, hD, hS⟩
  · obtain ⟨hl, hP, hD, hS⟩ := hl
    obtain rfl := Option.some.inj h
    exact W.vret hx hb hr (fun t ht _ => ⟨rfl, by rw [ht]; exact hP, hS.F ht⟩) hS.2.2 dX0_become_35
def s_X0_takeIn_16 (a1 : Int32) (v1 : Int32) (u16 : (Int32 × (Nat → Int32) × (Nat → Int32))) : Option ((Int32 × (Nat → Int32) × (Nat → Int32)) ⊕ ((Nat → Int32) × (Nat → Int32))) :=
  if u16.1 ≤ a1 then
  (some (.inr (u16.2.1, u16.2.2)))
  else
  ((f_X0_x u16.2.1 u16.1).bind fun r4 =>
  (f_X0_y u16.2.2 u16.1).bind fun r5 =>
  (f_X0_put u16.2.1 u16.2.2 (u16.1 + v1) r4 r5).bind fun r6 =>
  ov (u16.1 + (-1 : Int32)) fun v7 =>
  some (.inl (v7, r6.1, r6.2)))
def s_X0_takeIn_63 (us : Nat → Int32) (vs : Nat → Int32) (k : Int32) (a1 : Int32) (v1 : Int32) (u63 : (Int32 × Int32 × (Nat → Int32) × (Nat → Int32))) : Option ((Int32 × Int32 × (Nat → Int32) × (Nat → Int32)) ⊕ ((Nat → Int32) × (Nat → Int32))) :=
  if v1 < u63.2.1 then
  (some (.inr (u63.2.2.1, u63.2.2.2)))
  else
  ((f_X0_x us u63.1).bind fun r12 =>
  (f_X0_y vs u63.1).bind fun r13 =>
  (f_X0_put u63.2.2.1 u63.2.2.2 (a1 + u63.2.1) r12 r13).bind fun r14 =>
  (f_X0_next k u63.1).bind fun r15 =>
  ov (u63.2.1 + (1 : Int32)) fun v16 =>
  some (.inl (r15, v16, r14.1, r14.2)))
def f_X0_takeIn (xs : Nat → Int32) (ys : Nat → Int32) (n : Int32) (us : Nat → Int32) (vs : Nat → Int32) (k : Int32) (a1 : Int32) (a3 : Int32) : Option (((Nat → Int32) × (Nat → Int32) × Int32)) :=
  ov (k - (2 : Int32)) fun v1 =>
  ov (n - (1 : Int32)) fun v2 =>
  (lpf (s_X0_takeIn_16 a1 v1) 1000 (v2, xs, ys)).bind fun x8 =>
  (f_X0_next k a3).bind fun r9 =>
  (f_X0_next k r9).bind fun r10 =>
  (lpf (s_X0_takeIn_63 us vs k a1 v1) 1000 (r10, (1 : Int32), x8.1, x8.2)).bind fun x17 =>
  ov (n + v1) fun v18 =>
  some (x17.1, x17.2, v18)
set_option maxHeartbeats 4000000 in
set_option maxRecDepth 100000 in
theorem k_X0_takeIn (l : Launch) (D : va_G) (cI cF : ClassId) (q : Nat) (qx : Nat) (qy : Nat) (xs : Nat → Int32) (ys : Nat → Int32) (n : Int32) (w : Nat) (wx : Nat) (wy : Nat) (us : Nat → Int32) (vs : Nat → Int32) (k : Int32) (a1 : Int32) (a3 : Int32) (r0 : ((Nat → Int32) × (Nat → Int32) × Int32)) (h : f_X0_takeIn xs ys n us vs k a1 a3 = some r0) : Met l yX0_takeIn wsX0_takeIn ({ frames := 1, cells := 0, slots := 0, locals := 23 }) (va_Pc [.ref q, .int a1, .ref w, .int a3] (fun U => wD D cI cF (fig2W cI q qx qy xs ys n w wx wy us vs k) U)) (qW none (va_A0 (fig2W cI q qx qy xs ys n w wx wy us vs k)) (fun H => va_P D vwCl (fig2W cI q qx qy r0.1 r0.2.1 r0.2.2 w wx wy us vs k) H)) 0 0 (va_A0 (fig2W cI q qx qy xs ys n w wx wy us vs k)) := by
  refine Met.ofW (cc := cX0_takeIn) (maxL := 7) (ret := none) (by decide) rfl ?_
  intro p e s m args below meth c s₁ B hml hv
  obtain ⟨rfl, hK, hP, hD0⟩ := hv
  have hx := B.exec
  have hb := B.bytes
  have hr := B.returns
  have hts := atoms_spec (ws := wsX0_takeIn) B.pre
  have hown : s.vm.findClass RX0 = some m.cls := findClass_of_methodNamed B.named
  have hlocks := B.notSynchronized
  have ht1 := hts (.fieldLink RX0 18 "DrawnAreas$Figure" "size" "I") (by decide +kernel)
  have hinX0 : ∀ w ∈ u_ws RX0 TX0 3, w ∈ wsX0_takeIn := by decide +kernel
  have hD : va_D (va_A0 (fig2W cI q qx qy xs ys n w wx wy us vs k)) (fig2W cI q qx qy xs ys n w wx wy us vs k) := va_D_A0 hD0
  generalize hAe : va_A0 (fig2W cI q qx qy xs ys n w wx wy us vs k) = AA at hD ⊢
  have hS : va_S AA s.heap s.heap [] := va_S.rf
  have hl := lv_entry ([.ref q, .int a1, .ref w, .int a3]) (n := 7) (Nat.le_of_ble_eq_true rfl)
  rw [lg_entry_eq]
  generalize (lg_sl ([.ref q, .int a1, .ref w, .int a3]) ++ List.replicate (7 - (lg_sl ([.ref q, .int a1, .ref w, .int a3])).length) Slot.unset).toArray = ls at hl ⊢
  have hl : lv_has ls 7 [(0, .ref q), (1, .int a1), (2, .ref w), (3, .int a3)] := hl
  unfold f_X0_takeIn at h
  refine lv_aload_n hx hb dX0_takeIn_0 rfl (lv_at hl 2 rfl) ?_
  refine va_get (D := D) (ci := 0) (v := .int k) (C := RX0) (T := TX0) (N := 3) hx hb hts hinX0 hown hK hP 3 rfl rfl 2 (by decide) ht1 (fun _ h9 => h9) rfl dX0_takeIn_1 ?_
  refine lv_iconst (v := 2) hx hb dX0_takeIn_4 (by decide) ?_
  refine lv_isub hx hb dX0_takeIn_5 ?_
  refine lv_topi (fun v1 ev1 => ?_)
  have h := og_ov h ev1
  refine lv_istore (lv' := [(4, .int v1), (0, .ref q), (1, .int a1), (2, .ref w), (3, .int a3)]) hx hb dX0_takeIn_6 hl (by decide) rfl (fun ls hl => ?_)
  refine lv_aload_n hx hb dX0_takeIn_8 rfl (lv_at hl 1 rfl) ?_
  refine va_get (D := D) (ci := 0) (v := .int n) (C := RX0) (T := TX0) (N := 3) hx hb hts hinX0 hown hK hP 0 rfl rfl 2 (by decide) ht1 (fun _ h9 => h9) rfl dX0_takeIn_9 ?_
  refine lv_iconst (v := 1) hx hb dX0_takeIn_12 (by decide) ?_
  refine lv_isub hx hb dX0_takeIn_13 ?_
  refine lv_topi (fun v2 ev2 => ?_)
  have h := og_ov h ev2
  refine lv_istore (lv' := [(5, .int v2), (4, .int v1), (0, .ref q), (1, .int a1), (2, .ref w), (3, .int a3)]) hx hb dX0_takeIn_14 hl (by decide) rfl (fun ls hl => ?_)
  obtain ⟨x8, hN16, h⟩ := og_bind h
  refine wlH hN16 16 49 (fun u16 ls H locs => lv_has ls 7 [(0, .ref q), (1, .int a1), (2, .ref w), (3, .int a3), (4, .int v1), (5, .int u16.1)] ∧ va_P D vwCl (fig2W cI q qx qy u16.2.1 u16.2.2 n w wx wy us vs k) H ∧ va_D AA (fig2W cI q qx qy u16.2.1 u16.2.2 n w wx wy us vs k) ∧ va_S AA s.heap H locs) (fun x8 ls H locs => lv_has ls 7 [(0, .ref q), (1, .int a1), (2, .ref w), (3, .int a3), (4, .int v1)] ∧ va_P D vwCl (fig2W cI q qx qy x8.1 x8.2 n w wx wy us vs k) H ∧ va_D AA (fig2W cI q qx qy x8.1 x8.2 n w wx wy us vs k) ∧ va_S AA s.heap H locs) (fun u16 xx h ki16 kx16 ls H locs hl => ?_) (fun ls H locs hl => ?_) ⟨lv_sub hl [2, 3, 4, 5, 1, 0] rfl, hP, hD, hS⟩
  · obtain ⟨hl, hP, hD, hS⟩ := hl
    unfold s_X0_takeIn_16 at h
    refine lv_iload hx hb dX0_takeIn_16 (lv_at hl 5 rfl) ?_
    refine lv_iload_n hx hb dX0_takeIn_18 rfl (lv_at hl 1 rfl) ?_
    refine lv_icmp_le (tgt := 49) hx hb dX0_takeIn_19 (by decide) (fun c2 => ?_) (fun c2 => ?_)
    · rw [if_pos c2] at h
      exact kx16 _ ls _ _ (Option.some.inj h).symm ⟨lv_sub hl [0, 1, 2, 3, 4] rfl, hP, hD, hS⟩
    · rw [if_neg c2] at h
      refine lv_aload_n hx hb dX0_takeIn_22 rfl (lv_at hl 0 rfl) ?_
      refine lv_iload hx hb dX0_takeIn_23 (lv_at hl 5 rfl) ?_
      refine lv_iload hx hb dX0_takeIn_25 (lv_at hl 4 rfl) ?_
      refine lv_iadd hx hb dX0_takeIn_27 ?_
      refine lv_aload_n hx hb dX0_takeIn_28 rfl (lv_at hl 0 rfl) ?_
      refine lv_iload hx hb dX0_takeIn_29 (lv_at hl 5 rfl) ?_
      have hPc := hP.sub (ws' := figW cI q qx qy u16.2.1 u16.2.2 n) [0, 1, 2] rfl
      obtain ⟨r4, hcr4, h⟩ := og_bind h
      refine cp_s (va_runV (As := [.int u16.1]) (rest := [.int (u16.1 + v1), .ref q]) ⟨hx, hb, hml, hown, hts⟩ (k_X0_x l D cI cF q qx qy u16.2.1 u16.2.2 n u16.1 _ hcr4) (cwV 1 hts gX0_takeIn_X0_x rfl rfl rfl (by decide +kernel) ⟨(Nat.le_of_ble_eq_true rfl), (Nat.le_of_ble_eq_true rfl)⟩) (pre_v (q0 := 0) (ci := 0) hK hPc rfl rfl) rfl rfl hl.1 rfl (lv_room (Nat.le_of_ble_eq_true rfl)) dX0_takeIn_31 ⟨(Nat.zero_le _), (Nat.zero_le _)⟩) ?_
      refine lv_aload_n hx hb dX0_takeIn_34 rfl (lv_at hl 0 rfl) ?_
      refine lv_iload hx hb dX0_takeIn_35 (lv_at hl 5 rfl) ?_
      have hPc := hP.sub (ws' := figW cI q qx qy u16.2.1 u16.2.2 n) [0, 1, 2] rfl
      obtain ⟨r5, hcr5, h⟩ := og_bind h
      refine cp_s (va_runV (As := [.int u16.1]) (rest := [.int r4, .int (u16.1 + v1), .ref q]) ⟨hx, hb, hml, hown, hts⟩ (k_X0_y l D cI cF q qx qy u16.2.1 u16.2.2 n u16.1 _ hcr5) (cwV 1 hts gX0_takeIn_X0_y rfl rfl rfl (by decide +kernel) ⟨(Nat.le_of_ble_eq_true rfl), (Nat.le_of_ble_eq_true rfl)⟩) (pre_v (q0 := 0) (ci := 0) hK hPc rfl rfl) rfl rfl hl.1 rfl (lv_room (Nat.le_of_ble_eq_true rfl)) dX0_takeIn_37 ⟨(Nat.zero_le _), (Nat.zero_le _)⟩) ?_
      have hPc := hP.sub (ws' := figW cI q qx qy u16.2.1 u16.2.2 n) [0, 1, 2] rfl
      have hDc := hD.sub (ws' := figW cI q qx qy u16.2.1 u16.2.2 n) [0, 1, 2] (by decide) rfl
      obtain ⟨r6, hcr6, h⟩ := og_bind h
      refine cp_v (va_runV (As := [.int (u16.1 + v1), .int r4, .int r5]) (rest := []) ⟨hx, hb, hml, hown, hts⟩ (k_X0_put l D cI cF q qx qy u16.2.1 u16.2.2 n (u16.1 + v1) r4 r5 _ hcr6) (cwV 3 hts gX0_takeIn_X0_put rfl rfl rfl (by decide +kernel) ⟨(Nat.le_of_ble_eq_true rfl), (Nat.le_of_ble_eq_true rfl)⟩) (pre_d (q0 := 0) (ci := 0) hK hPc hDc rfl rfl) rfl rfl hl.1 rfl (lv_room (Nat.le_of_ble_eq_true rfl)) dX0_takeIn_40 ⟨(Nat.zero_le _), (Nat.zero_le _)⟩) hS (fun a9 h9 => ?_) (fun H1 locs hP1 hz1 hk1 hS => ?_)
      · exact va_in hD h9 [0, 1, 2] rfl
      have hP1 : va_P D vwCl (figW cI q qx qy r6.1 r6.2 n) H1 := hP1
      have hP := va_fit2 hP hD hk1 hP1 (ws' := fig2W cI q qx qy r6.1 r6.2 n w wx wy us vs k) [0, 1, 2] [3, 4, 5] 6 rfl rfl rfl rfl (by decide) (by decide)
      have hD : va_D AA (fig2W cI q qx qy r6.1 r6.2 n w wx wy us vs k) := va_D_same hD rfl
      generalize H1 = H at hP hS ⊢
      obtain ⟨v7, ev7⟩ : ∃ y : Int32, y = u16.1 + (-1 : Int32) := ⟨_, rfl⟩
      have h := og_ov h ev7
      refine lv_iinc (v := v7) (lv' := [(5, .int v7), (0, .ref q), (1, .int a1), (2, .ref w), (3, .int a3), (4, .int v1)]) hx hb dX0_takeIn_43 hl (k := 5) rfl (by rw [ev7]; rfl) (by decide) rfl (fun ls hl => ?_)
      refine lv_goto (tgt := 16) hx hb dX0_takeIn_46 (by decide) ?_
      exact ki16 _ ls _ _ (Option.some.inj h).symm ⟨lv_sub hl [1, 2, 3, 4, 5, 0] rfl, hP, hD, hS⟩
  · obtain ⟨hl, hP, hD, hS⟩ := hl
    refine lv_aload_n hx hb dX0_takeIn_49 rfl (lv_at hl 2 rfl) ?_
    refine lv_aload_n hx hb dX0_takeIn_50 rfl (lv_at hl 2 rfl) ?_
    refine lv_iload_n hx hb dX0_takeIn_51 rfl (lv_at hl 3 rfl) ?_
    have hPc := hP.sub (ws' := figW cI w wx wy us vs k) [3, 4, 5] rfl
    obtain ⟨r9, hcr9, h⟩ := og_bind h
    refine cp_s (va_runV (As := [.int a3]) (rest := [.ref w]) ⟨hx, hb, hml, hown, hts⟩ (k_X0_next l D cI cF w wx wy us vs k a3 _ hcr9) (cwV 1 hts gX0_takeIn_X0_next rfl rfl rfl (by decide +kernel) ⟨(Nat.le_of_ble_eq_true rfl), (Nat.le_of_ble_eq_true rfl)⟩) (pre_v (q0 := 0) (ci := 0) hK hPc rfl rfl) rfl rfl hl.1 rfl (lv_room (Nat.le_of_ble_eq_true rfl)) dX0_takeIn_52 ⟨(Nat.zero_le _), (Nat.zero_le _)⟩) ?_
    have hPc := hP.sub (ws' := figW cI w wx wy us vs k) [3, 4, 5] rfl
    obtain ⟨r10, hcr10, h⟩ := og_bind h
    refine cp_s (va_runV (As := [.int r9]) (rest := []) ⟨hx, hb, hml, hown, hts⟩ (k_X0_next l D cI cF w wx wy us vs k r9 _ hcr10) (cwV 1 hts gX0_takeIn_X0_next rfl rfl rfl (by decide +kernel) ⟨(Nat.le_of_ble_eq_true rfl), (Nat.le_of_ble_eq_true rfl)⟩) (pre_v (q0 := 0) (ci := 0) hK hPc rfl rfl) rfl rfl hl.1 rfl (lv_room (Nat.le_of_ble_eq_true rfl)) dX0_takeIn_55 ⟨(Nat.zero_le _), (Nat.zero_le _)⟩) ?_
    refine lv_istore (lv' := [(5, .int r10), (0, .ref q), (1, .int a1), (2, .ref w), (3, .int a3), (4, .int v1)]) hx hb dX0_takeIn_58 hl (by decide) rfl (fun ls hl => ?_)
    refine lv_iconst (v := 1) hx hb dX0_takeIn_60 (by decide) ?_
    refine lv_istore (lv' := [(6, .int (1 : Int32)), (5, .int r10), (0, .ref q), (1, .int a1), (2, .ref w), (3, .int a3), (4, .int v1)]) hx hb dX0_takeIn_61 hl (by decide) rfl (fun ls hl => ?_)
    obtain ⟨x17, hN63, h⟩ := og_bind h
    refine wlH hN63 63 104 (fun u63 ls H locs => lv_has ls 7 [(0, .ref q), (1, .int a1), (2, .ref w), (4, .int v1), (5, .int u63.1), (6, .int u63.2.1)] ∧ va_P D vwCl (fig2W cI q qx qy u63.2.2.1 u63.2.2.2 n w wx wy us vs k) H ∧ va_D AA (fig2W cI q qx qy u63.2.2.1 u63.2.2.2 n w wx wy us vs k) ∧ va_S AA s.heap H locs) (fun x17 ls H locs => lv_has ls 7 [(0, .ref q), (4, .int v1)] ∧ va_P D vwCl (fig2W cI q qx qy x17.1 x17.2 n w wx wy us vs k) H ∧ va_D AA (fig2W cI q qx qy x17.1 x17.2 n w wx wy us vs k) ∧ va_S AA s.heap H locs) (fun u63 xx h ki63 kx63 ls H locs hl => ?_) (fun ls H locs hl => ?_) ⟨lv_sub hl [2, 3, 4, 6, 1, 0] rfl, hP, hD, hS⟩
    · obtain ⟨hl, hP, hD, hS⟩ := hl
      unfold s_X0_takeIn_63 at h
      refine lv_iload hx hb dX0_takeIn_63 (lv_at hl 5 rfl) ?_
      refine lv_iload hx hb dX0_takeIn_65 (lv_at hl 3 rfl) ?_
      refine lv_icmp_gt (tgt := 104) hx hb dX0_takeIn_67 (by decide) (fun c10 => ?_) (fun c10 => ?_)
      · rw [if_pos c10] at h
        exact kx63 _ ls _ _ (Option.some.inj h).symm ⟨lv_sub hl [0, 3] rfl, hP, hD, hS⟩
      · rw [if_neg c10] at h
        refine lv_aload_n hx hb dX0_takeIn_70 rfl (lv_at hl 0 rfl) ?_
        refine lv_iload_n hx hb dX0_takeIn_71 rfl (lv_at hl 1 rfl) ?_
        refine lv_iload hx hb dX0_takeIn_72 (lv_at hl 5 rfl) ?_
        refine lv_iadd hx hb dX0_takeIn_74 ?_
        refine lv_aload_n hx hb dX0_takeIn_75 rfl (lv_at hl 2 rfl) ?_
        refine lv_iload hx hb dX0_takeIn_76 (lv_at hl 4 rfl) ?_
        have hPc := hP.sub (ws' := figW cI w wx wy us vs k) [3, 4, 5] rfl
        obtain ⟨r12, hcr12, h⟩ := og_bind h
        refine cp_s (va_runV (As := [.int u63.1]) (rest := [.int (a1 + u63.2.1), .ref q]) ⟨hx, hb, hml, hown, hts⟩ (k_X0_x l D cI cF w wx wy us vs k u63.1 _ hcr12) (cwV 1 hts gX0_takeIn_X0_x rfl rfl rfl (by decide +kernel) ⟨(Nat.le_of_ble_eq_true rfl), (Nat.le_of_ble_eq_true rfl)⟩) (pre_v (q0 := 0) (ci := 0) hK hPc rfl rfl) rfl rfl hl.1 rfl (lv_room (Nat.le_of_ble_eq_true rfl)) dX0_takeIn_78 ⟨(Nat.zero_le _), (Nat.zero_le _)⟩) ?_
        refine lv_aload_n hx hb dX0_takeIn_81 rfl (lv_at hl 2 rfl) ?_
        refine lv_iload hx hb dX0_takeIn_82 (lv_at hl 4 rfl) ?_
        have hPc := hP.sub (ws' := figW cI w wx wy us vs k) [3, 4, 5] rfl
        obtain ⟨r13, hcr13, h⟩ := og_bind h
        refine cp_s (va_runV (As := [.int u63.1]) (rest := [.int r12, .int (a1 + u63.2.1), .ref q]) ⟨hx, hb, hml, hown, hts⟩ (k_X0_y l D cI cF w wx wy us vs k u63.1 _ hcr13) (cwV 1 hts gX0_takeIn_X0_y rfl rfl rfl (by decide +kernel) ⟨(Nat.le_of_ble_eq_true rfl), (Nat.le_of_ble_eq_true rfl)⟩) (pre_v (q0 := 0) (ci := 0) hK hPc rfl rfl) rfl rfl hl.1 rfl (lv_room (Nat.le_of_ble_eq_true rfl)) dX0_takeIn_84 ⟨(Nat.zero_le _), (Nat.zero_le _)⟩) ?_
        have hPc := hP.sub (ws' := figW cI q qx qy u63.2.2.1 u63.2.2.2 n) [0, 1, 2] rfl
        have hDc := hD.sub (ws' := figW cI q qx qy u63.2.2.1 u63.2.2.2 n) [0, 1, 2] (by decide) rfl
        obtain ⟨r14, hcr14, h⟩ := og_bind h
        refine cp_v (va_runV (As := [.int (a1 + u63.2.1), .int r12, .int r13]) (rest := []) ⟨hx, hb, hml, hown, hts⟩ (k_X0_put l D cI cF q qx qy u63.2.2.1 u63.2.2.2 n (a1 + u63.2.1) r12 r13 _ hcr14) (cwV 3 hts gX0_takeIn_X0_put rfl rfl rfl (by decide +kernel) ⟨(Nat.le_of_ble_eq_true rfl), (Nat.le_of_ble_eq_true rfl)⟩) (pre_d (q0 := 0) (ci := 0) hK hPc hDc rfl rfl) rfl rfl hl.1 rfl (lv_room (Nat.le_of_ble_eq_true rfl)) dX0_takeIn_87 ⟨(Nat.zero_le _), (Nat.zero_le _)⟩) hS (fun a9 h9 => ?_) (fun H1 locs hP1 hz1 hk1 hS => ?_)
        · exact va_in hD h9 [0, 1, 2] rfl
        have hP1 : va_P D vwCl (figW cI q qx qy r14.1 r14.2 n) H1 := hP1
        have hP := va_fit2 hP hD hk1 hP1 (ws' := fig2W cI q qx qy r14.1 r14.2 n w wx wy us vs k) [0, 1, 2] [3, 4, 5] 6 rfl rfl rfl rfl (by decide) (by decide)
        have hD : va_D AA (fig2W cI q qx qy r14.1 r14.2 n w wx wy us vs k) := va_D_same hD rfl
        generalize H1 = H at hP hS ⊢
        refine lv_aload_n hx hb dX0_takeIn_90 rfl (lv_at hl 2 rfl) ?_
        refine lv_iload hx hb dX0_takeIn_91 (lv_at hl 4 rfl) ?_
        have hPc := hP.sub (ws' := figW cI w wx wy us vs k) [3, 4, 5] rfl
        obtain ⟨r15, hcr15, h⟩ := og_bind h
        refine cp_s (va_runV (As := [.int u63.1]) (rest := []) ⟨hx, hb, hml, hown, hts⟩ (k_X0_next l D cI cF w wx wy us vs k u63.1 _ hcr15) (cwV 1 hts gX0_takeIn_X0_next rfl rfl rfl (by decide +kernel) ⟨(Nat.le_of_ble_eq_true rfl), (Nat.le_of_ble_eq_true rfl)⟩) (pre_v (q0 := 0) (ci := 0) hK hPc rfl rfl) rfl rfl hl.1 rfl (lv_room (Nat.le_of_ble_eq_true rfl)) dX0_takeIn_93 ⟨(Nat.zero_le _), (Nat.zero_le _)⟩) ?_
        refine lv_istore (lv' := [(5, .int r15), (0, .ref q), (1, .int a1), (2, .ref w), (4, .int v1), (6, .int u63.2.1)]) hx hb dX0_takeIn_96 hl (by decide) rfl (fun ls hl => ?_)
        obtain ⟨v16, ev16⟩ : ∃ y : Int32, y = u63.2.1 + (1 : Int32) := ⟨_, rfl⟩
        have h := og_ov h ev16
        refine lv_iinc (v := v16) (lv' := [(6, .int v16), (5, .int r15), (0, .ref q), (1, .int a1), (2, .ref w), (4, .int v1)]) hx hb dX0_takeIn_98 hl (k := 5) rfl (by rw [ev16]; rfl) (by decide) rfl (fun ls hl => ?_)
        refine lv_goto (tgt := 63) hx hb dX0_takeIn_101 (by decide) ?_
        exact ki63 _ ls _ _ (Option.some.inj h).symm ⟨lv_sub hl [2, 3, 4, 5, 1, 0] rfl, hP, hD, hS⟩
    · obtain ⟨hl, hP, hD, hS⟩ := hl
      refine lv_aload_n hx hb dX0_takeIn_104 rfl (lv_at hl 0 rfl) ?_
      refine lv_dup hx hb dX0_takeIn_105 rfl ?_
      refine va_get (D := D) (ci := 0) (v := .int n) (C := RX0) (T := TX0) (N := 3) hx hb hts hinX0 hown hK hP 0 rfl rfl 2 (by decide) ht1 (fun _ h9 => h9) rfl dX0_takeIn_106 ?_
      refine lv_iload hx hb dX0_takeIn_109 (lv_at hl 1 rfl) ?_
      refine lv_iadd hx hb dX0_takeIn_111 ?_
      refine lv_topi (fun v18 ev18 => ?_)
      have h := og_ov h ev18
      refine va_put (D := D) (ci := 0) (v := .int v18) (ty := .int) (C := RX0) (T := TX0) (N := 3) hx hb hts hinX0 tyX0 tyX0_ok nmX0 hown hK hP hD hS 0 rfl rfl 2 (by decide) ht1 (fun _ h9 => h9) rfl (by decide +kernel) rfl rfl (Nat.le_of_ble_eq_true rfl) dX0_takeIn_112 (fun H locs hP hD hS => ?_)
      have hP : va_P D vwCl (fig2W cI q qx qy x17.1 x17.2 v18 w wx wy us vs k) H := hP
      have hD : va_D AA (fig2W cI q qx qy x17.1 x17.2 v18 w wx wy us vs k) := hD
      obtain rfl := Option.some.inj h
      exact W.vret hx hb hr (fun t ht _ => ⟨rfl, by rw [ht]; exact hP, hS.F ht⟩) hS.2.2 dX0_takeIn_115
def s_X0_becomeUpper_7 (us : Nat → Int32) (vs : Nat → Int32) (k : Int32) (a2 : Int32) (u7 : (Int32 × (Nat → Int32) × (Nat → Int32) × Int32)) : Option ((Int32 × (Nat → Int32) × (Nat → Int32) × Int32) ⊕ ((Nat → Int32) × (Nat → Int32) × Int32)) :=
  if k ≤ u7.1 then
  (some (.inr (u7.2.1, u7.2.2.1, u7.2.2.2)))
  else
  ((f_X0_y vs u7.1).bind fun r2 =>
  (if r2 < a2 then
  (some (u7.2.1, u7.2.2.1, u7.2.2.2))
  else
  ((f_X0_x us u7.1).bind fun r16 =>
  (f_X0_y vs u7.1).bind fun r17 =>
  (f_X0_add u7.2.1 u7.2.2.1 u7.2.2.2 r16 r17).bind fun r18 =>
  some (r18.1, r18.2.1, r18.2.2))).bind fun mv3 =>
  (f_X0_crossingLower vs k u7.1).bind fun r4 =>
  if r4 = (0) then
  (ov (u7.1 + (1 : Int32)) fun v6 =>
  some (.inl (v6, mv3.1, mv3.2.1, mv3.2.2)))
  else
  ((f_X0_crosses vs k u7.1 a2).bind fun r7 =>
  if r7 = (0) then
  (ov (u7.1 + (1 : Int32)) fun v9 =>
  some (.inl (v9, mv3.1, mv3.2.1, mv3.2.2)))
  else
  ((f_X0_x us u7.1).bind fun r10 =>
  (f_X0_crossingUpper us vs k u7.1 a2).bind fun r11 =>
  if r4 = 0 then none else
  (f_X0_add mv3.1 mv3.2.1 mv3.2.2 (r10 + (r11 / r4)) a2).bind fun r13 =>
  ov (u7.1 + (1 : Int32)) fun v14 =>
  some (.inl (v14, r13.1, r13.2.1, r13.2.2)))))
def f_X0_becomeUpper (xs : Nat → Int32) (ys : Nat → Int32) (us : Nat → Int32) (vs : Nat → Int32) (k : Int32) (a2 : Int32) : Option (((Nat → Int32) × (Nat → Int32) × Int32)) :=
  (lpf (s_X0_becomeUpper_7 us vs k a2) 1000 ((0 : Int32), xs, ys, (0 : Int32))).bind fun x19 =>
  some (x19.1, x19.2.1, x19.2.2)
set_option maxHeartbeats 4000000 in
set_option maxRecDepth 100000 in
theorem k_X0_becomeUpper (l : Launch) (D : va_G) (cI cF : ClassId) (q : Nat) (qx : Nat) (qy : Nat) (xs : Nat → Int32) (ys : Nat → Int32) (n : Int32) (w : Nat) (wx : Nat) (wy : Nat) (us : Nat → Int32) (vs : Nat → Int32) (k : Int32) (a2 : Int32) (r0 : ((Nat → Int32) × (Nat → Int32) × Int32)) (h : f_X0_becomeUpper xs ys us vs k a2 = some r0) : Met l yX0_becomeUpper wsX0_becomeUpper ({ frames := 2, cells := 0, slots := 0, locals := 45 }) (va_Pc [.ref q, .ref w, .int a2] (fun U => wD D cI cF (fig2W cI q qx qy xs ys n w wx wy us vs k) U)) (qW none (va_A0 (fig2W cI q qx qy xs ys n w wx wy us vs k)) (fun H => va_P D vwCl (fig2W cI q qx qy r0.1 r0.2.1 r0.2.2 w wx wy us vs k) H)) 0 0 (va_A0 (fig2W cI q qx qy xs ys n w wx wy us vs k)) := by
  refine Met.ofW (cc := cX0_becomeUpper) (maxL := 5) (ret := none) (by decide) rfl ?_
  intro p e s m args below meth c s₁ B hml hv
  obtain ⟨rfl, hK, hP, hD0⟩ := hv
  have hx := B.exec
  have hb := B.bytes
  have hr := B.returns
  have hts := atoms_spec (ws := wsX0_becomeUpper) B.pre
  have hown : s.vm.findClass RX0 = some m.cls := findClass_of_methodNamed B.named
  have hlocks := B.notSynchronized
  have ht1 := hts (.fieldLink RX0 18 "DrawnAreas$Figure" "size" "I") (by decide +kernel)
  have hinX0 : ∀ w ∈ u_ws RX0 TX0 3, w ∈ wsX0_becomeUpper := by decide +kernel
  have hD : va_D (va_A0 (fig2W cI q qx qy xs ys n w wx wy us vs k)) (fig2W cI q qx qy xs ys n w wx wy us vs k) := va_D_A0 hD0
  generalize hAe : va_A0 (fig2W cI q qx qy xs ys n w wx wy us vs k) = AA at hD ⊢
  have hS : va_S AA s.heap s.heap [] := va_S.rf
  have hl := lv_entry ([.ref q, .ref w, .int a2]) (n := 5) (Nat.le_of_ble_eq_true rfl)
  rw [lg_entry_eq]
  generalize (lg_sl ([.ref q, .ref w, .int a2]) ++ List.replicate (5 - (lg_sl ([.ref q, .ref w, .int a2])).length) Slot.unset).toArray = ls at hl ⊢
  have hl : lv_has ls 5 [(0, .ref q), (1, .ref w), (2, .int a2)] := hl
  unfold f_X0_becomeUpper at h
  refine lv_aload_n hx hb dX0_becomeUpper_0 rfl (lv_at hl 0 rfl) ?_
  refine lv_iconst (v := 0) hx hb dX0_becomeUpper_1 (by decide) ?_
  refine va_put (D := D) (ci := 0) (v := .int (0 : Int32)) (ty := .int) (C := RX0) (T := TX0) (N := 3) hx hb hts hinX0 tyX0 tyX0_ok nmX0 hown hK hP hD hS 0 rfl rfl 2 (by decide) ht1 (fun _ h9 => h9) rfl (by decide +kernel) rfl rfl (Nat.le_of_ble_eq_true rfl) dX0_becomeUpper_2 (fun H locs hP hD hS => ?_)
  have hP : va_P D vwCl (fig2W cI q qx qy xs ys (0 : Int32) w wx wy us vs k) H := hP
  have hD : va_D AA (fig2W cI q qx qy xs ys (0 : Int32) w wx wy us vs k) := hD
  refine lv_iconst (v := 0) hx hb dX0_becomeUpper_5 (by decide) ?_
  refine lv_istore_n (lv' := [(3, .int (0 : Int32)), (0, .ref q), (1, .ref w), (2, .int a2)]) hx hb dX0_becomeUpper_6 rfl hl (by decide) rfl (fun ls hl => ?_)
  obtain ⟨x19, hN7, h⟩ := og_bind h
  refine wlH hN7 7 85 (fun u7 ls H locs => lv_has ls 5 [(0, .ref q), (1, .ref w), (2, .int a2), (3, .int u7.1)] ∧ va_P D vwCl (fig2W cI q qx qy u7.2.1 u7.2.2.1 u7.2.2.2 w wx wy us vs k) H ∧ va_D AA (fig2W cI q qx qy u7.2.1 u7.2.2.1 u7.2.2.2 w wx wy us vs k) ∧ va_S AA s.heap H locs) (fun x19 ls H locs => lv_has ls 5 [] ∧ va_P D vwCl (fig2W cI q qx qy x19.1 x19.2.1 x19.2.2 w wx wy us vs k) H ∧ va_D AA (fig2W cI q qx qy x19.1 x19.2.1 x19.2.2 w wx wy us vs k) ∧ va_S AA s.heap H locs) (fun u7 xx h ki7 kx7 ls H locs hl => ?_) (fun ls H locs hl => ?_) ⟨lv_sub hl [1, 2, 3, 0] rfl, hP, hD, hS⟩
  · obtain ⟨hl, hP, hD, hS⟩ := hl
    unfold s_X0_becomeUpper_7 at h
    refine lv_iload_n hx hb dX0_becomeUpper_7 rfl (lv_at hl 3 rfl) ?_
    refine lv_aload_n hx hb dX0_becomeUpper_8 rfl (lv_at hl 1 rfl) ?_
    refine va_get (D := D) (ci := 0) (v := .int k) (C := RX0) (T := TX0) (N := 3) hx hb hts hinX0 hown hK hP 3 rfl rfl 2 (by decide) ht1 (fun _ h9 => h9) rfl dX0_becomeUpper_9 ?_
    refine lv_icmp_ge (tgt := 85) hx hb dX0_becomeUpper_12 (by decide) (fun c0 => ?_) (fun c0 => ?_)
    · rw [if_pos c0] at h
      exact kx7 _ ls _ _ (Option.some.inj h).symm ⟨lv_sub hl [] rfl, hP, hD, hS⟩
    · rw [if_neg c0] at h
      refine lv_aload_n hx hb dX0_becomeUpper_15 rfl (lv_at hl 1 rfl) ?_
      refine lv_iload_n hx hb dX0_becomeUpper_16 rfl (lv_at hl 3 rfl) ?_
      have hPc := hP.sub (ws' := figW cI w wx wy us vs k) [3, 4, 5] rfl
      obtain ⟨r2, hcr2, h⟩ := og_bind h
      refine cp_s (va_runV (As := [.int u7.1]) (rest := []) ⟨hx, hb, hml, hown, hts⟩ (k_X0_y l D cI cF w wx wy us vs k u7.1 _ hcr2) (cwV 1 hts gX0_becomeUpper_X0_y rfl rfl rfl (by decide +kernel) ⟨(Nat.le_of_ble_eq_true rfl), (Nat.le_of_ble_eq_true rfl)⟩) (pre_v (q0 := 0) (ci := 0) hK hPc rfl rfl) rfl rfl hl.1 rfl (lv_room (Nat.le_of_ble_eq_true rfl)) dX0_becomeUpper_17 ⟨(Nat.zero_le _), (Nat.zero_le _)⟩) ?_
      refine lv_iload_n hx hb dX0_becomeUpper_20 rfl (lv_at hl 2 rfl) ?_
      obtain ⟨mv3, hm38, h⟩ := og_bind h
      refine wjH (PC := 38) (ST := []) (fun ls H locs => lv_has ls 5 [(0, .ref q), (1, .ref w), (2, .int a2), (3, .int u7.1)] ∧ va_P D vwCl (fig2W cI q qx qy mv3.1 mv3.2.1 mv3.2.2 w wx wy us vs k) H ∧ va_D AA (fig2W cI q qx qy mv3.1 mv3.2.1 mv3.2.2 w wx wy us vs k) ∧ va_S AA s.heap H locs) (fun ls H locs hq => ?_) (fun KJ38 => ?_)
      · obtain ⟨hl, hP, hD, hS⟩ := hq
        refine lv_aload_n hx hb dX0_becomeUpper_38 rfl (lv_at hl 1 rfl) ?_
        refine lv_iload_n hx hb dX0_becomeUpper_39 rfl (lv_at hl 3 rfl) ?_
        have hPc := hP.sub (ws' := figW cI w wx wy us vs k) [3, 4, 5] rfl
        obtain ⟨r4, hcr4, h⟩ := og_bind h
        refine cp_s (va_runV (As := [.int u7.1]) (rest := []) ⟨hx, hb, hml, hown, hts⟩ (k_X0_crossingLower l D cI cF w wx wy us vs k u7.1 _ hcr4) (cwV 1 hts gX0_becomeUpper_X0_crossingLower rfl rfl rfl (by decide +kernel) ⟨(Nat.le_of_ble_eq_true rfl), (Nat.le_of_ble_eq_true rfl)⟩) (pre_v (q0 := 0) (ci := 0) hK hPc rfl rfl) rfl rfl hl.1 rfl (lv_room (Nat.le_of_ble_eq_true rfl)) dX0_becomeUpper_40 ⟨(Nat.zero_le _), (Nat.zero_le _)⟩) ?_
        refine lv_istore (lv' := [(4, .int r4), (0, .ref q), (1, .ref w), (2, .int a2), (3, .int u7.1)]) hx hb dX0_becomeUpper_43 hl (by decide) rfl (fun ls hl => ?_)
        refine lv_iload hx hb dX0_becomeUpper_45 (lv_at hl 0 rfl) ?_
        refine lv_if_eq (tgt := 79) hx hb dX0_becomeUpper_47 (by decide) (fun c4 => ?_) (fun c4 => ?_)
        · rw [if_pos c4] at h
          obtain ⟨v6, ev6⟩ : ∃ y : Int32, y = u7.1 + (1 : Int32) := ⟨_, rfl⟩
          have h := og_ov h ev6
          refine lv_iinc (v := v6) (lv' := [(3, .int v6), (4, .int r4), (0, .ref q), (1, .ref w), (2, .int a2)]) hx hb dX0_becomeUpper_79 hl (k := 4) rfl (by rw [ev6]; rfl) (by decide) rfl (fun ls hl => ?_)
          refine lv_goto (tgt := 7) hx hb dX0_becomeUpper_82 (by decide) ?_
          exact ki7 _ ls _ _ (Option.some.inj h).symm ⟨lv_sub hl [2, 3, 4, 0] rfl, hP, hD, hS⟩
        · rw [if_neg c4] at h
          refine lv_aload_n hx hb dX0_becomeUpper_50 rfl (lv_at hl 2 rfl) ?_
          refine lv_iload_n hx hb dX0_becomeUpper_51 rfl (lv_at hl 4 rfl) ?_
          refine lv_iload_n hx hb dX0_becomeUpper_52 rfl (lv_at hl 3 rfl) ?_
          have hPc := hP.sub (ws' := figW cI w wx wy us vs k) [3, 4, 5] rfl
          obtain ⟨r7, hcr7, h⟩ := og_bind h
          refine cp_s (va_runV (As := [.int u7.1, .int a2]) (rest := []) ⟨hx, hb, hml, hown, hts⟩ (k_X0_crosses l D cI cF w wx wy us vs k u7.1 a2 _ hcr7) (cwV 2 hts gX0_becomeUpper_X0_crosses rfl rfl rfl (by decide +kernel) ⟨(Nat.le_of_ble_eq_true rfl), (Nat.le_of_ble_eq_true rfl)⟩) (pre_v (q0 := 0) (ci := 0) hK hPc rfl rfl) rfl rfl hl.1 rfl (lv_room (Nat.le_of_ble_eq_true rfl)) dX0_becomeUpper_53 ⟨(Nat.zero_le _), (Nat.zero_le _)⟩) ?_
          refine lv_if_eq (tgt := 79) hx hb dX0_becomeUpper_56 (by decide) (fun c7 => ?_) (fun c7 => ?_)
          · rw [if_pos c7] at h
            obtain ⟨v9, ev9⟩ : ∃ y : Int32, y = u7.1 + (1 : Int32) := ⟨_, rfl⟩
            have h := og_ov h ev9
            refine lv_iinc (v := v9) (lv' := [(3, .int v9), (4, .int r4), (0, .ref q), (1, .ref w), (2, .int a2)]) hx hb dX0_becomeUpper_79 hl (k := 4) rfl (by rw [ev9]; rfl) (by decide) rfl (fun ls hl => ?_)
            refine lv_goto (tgt := 7) hx hb dX0_becomeUpper_82 (by decide) ?_
            exact ki7 _ ls _ _ (Option.some.inj h).symm ⟨lv_sub hl [2, 3, 4, 0] rfl, hP, hD, hS⟩
          · rw [if_neg c7] at h
            refine lv_aload_n hx hb dX0_becomeUpper_59 rfl (lv_at hl 1 rfl) ?_
            refine lv_aload_n hx hb dX0_becomeUpper_60 rfl (lv_at hl 2 rfl) ?_
            refine lv_iload_n hx hb dX0_becomeUpper_61 rfl (lv_at hl 4 rfl) ?_
            have hPc := hP.sub (ws' := figW cI w wx wy us vs k) [3, 4, 5] rfl
            obtain ⟨r10, hcr10, h⟩ := og_bind h
            refine cp_s (va_runV (As := [.int u7.1]) (rest := [.ref q]) ⟨hx, hb, hml, hown, hts⟩ (k_X0_x l D cI cF w wx wy us vs k u7.1 _ hcr10) (cwV 1 hts gX0_becomeUpper_X0_x rfl rfl rfl (by decide +kernel) ⟨(Nat.le_of_ble_eq_true rfl), (Nat.le_of_ble_eq_true rfl)⟩) (pre_v (q0 := 0) (ci := 0) hK hPc rfl rfl) rfl rfl hl.1 rfl (lv_room (Nat.le_of_ble_eq_true rfl)) dX0_becomeUpper_62 ⟨(Nat.zero_le _), (Nat.zero_le _)⟩) ?_
            refine lv_aload_n hx hb dX0_becomeUpper_65 rfl (lv_at hl 2 rfl) ?_
            refine lv_iload_n hx hb dX0_becomeUpper_66 rfl (lv_at hl 4 rfl) ?_
            refine lv_iload_n hx hb dX0_becomeUpper_67 rfl (lv_at hl 3 rfl) ?_
            have hPc := hP.sub (ws' := figW cI w wx wy us vs k) [3, 4, 5] rfl
            obtain ⟨r11, hcr11, h⟩ := og_bind h
            refine cp_s (va_runV (As := [.int u7.1, .int a2]) (rest := [.int r10, .ref q]) ⟨hx, hb, hml, hown, hts⟩ (k_X0_crossingUpper l D cI cF w wx wy us vs k u7.1 a2 _ hcr11) (cwV 2 hts gX0_becomeUpper_X0_crossingUpper rfl rfl rfl (by decide +kernel) ⟨(Nat.le_of_ble_eq_true rfl), (Nat.le_of_ble_eq_true rfl)⟩) (pre_v (q0 := 0) (ci := 0) hK hPc rfl rfl) rfl rfl hl.1 rfl (lv_room (Nat.le_of_ble_eq_true rfl)) dX0_becomeUpper_68 ⟨(Nat.zero_le _), (Nat.zero_le _)⟩) ?_
            refine lv_iload hx hb dX0_becomeUpper_71 (lv_at hl 0 rfl) ?_
            obtain ⟨gz11, h⟩ := og_nz h
            refine lv_idiv hx hb dX0_becomeUpper_73 gz11 ?_
            refine lv_iadd hx hb dX0_becomeUpper_74 ?_
            refine lv_iload_n hx hb dX0_becomeUpper_75 rfl (lv_at hl 3 rfl) ?_
            have hPc := hP.sub (ws' := figW cI q qx qy mv3.1 mv3.2.1 mv3.2.2) [0, 1, 2] rfl
            have hDc := hD.sub (ws' := figW cI q qx qy mv3.1 mv3.2.1 mv3.2.2) [0, 1, 2] (by decide) rfl
            obtain ⟨r13, hcr13, h⟩ := og_bind h
            refine cp_v (va_runV (As := [.int (r10 + (r11 / r4)), .int a2]) (rest := []) ⟨hx, hb, hml, hown, hts⟩ (k_X0_add l D cI cF q qx qy mv3.1 mv3.2.1 mv3.2.2 (r10 + (r11 / r4)) a2 _ hcr13) (cwV 2 hts gX0_becomeUpper_X0_add rfl rfl rfl (by decide +kernel) ⟨(Nat.le_of_ble_eq_true rfl), (Nat.le_of_ble_eq_true rfl)⟩) (pre_d (q0 := 0) (ci := 0) hK hPc hDc rfl rfl) rfl rfl hl.1 rfl (lv_room (Nat.le_of_ble_eq_true rfl)) dX0_becomeUpper_76 ⟨(Nat.zero_le _), (Nat.zero_le _)⟩) hS (fun a9 h9 => ?_) (fun H1 locs hP1 hz1 hk1 hS => ?_)
            · exact va_in hD h9 [0, 1, 2] rfl
            have hP1 : va_P D vwCl (figW cI q qx qy r13.1 r13.2.1 r13.2.2) H1 := hP1
            have hP := va_fit2 hP hD hk1 hP1 (ws' := fig2W cI q qx qy r13.1 r13.2.1 r13.2.2 w wx wy us vs k) [0, 1, 2] [3, 4, 5] 6 rfl rfl rfl rfl (by decide) (by decide)
            have hD : va_D AA (fig2W cI q qx qy r13.1 r13.2.1 r13.2.2 w wx wy us vs k) := va_D_same hD rfl
            generalize H1 = H at hP hS ⊢
            obtain ⟨v14, ev14⟩ : ∃ y : Int32, y = u7.1 + (1 : Int32) := ⟨_, rfl⟩
            have h := og_ov h ev14
            refine lv_iinc (v := v14) (lv' := [(3, .int v14), (4, .int r4), (0, .ref q), (1, .ref w), (2, .int a2)]) hx hb dX0_becomeUpper_79 hl (k := 4) rfl (by rw [ev14]; rfl) (by decide) rfl (fun ls hl => ?_)
            refine lv_goto (tgt := 7) hx hb dX0_becomeUpper_82 (by decide) ?_
            exact ki7 _ ls _ _ (Option.some.inj h).symm ⟨lv_sub hl [2, 3, 4, 0] rfl, hP, hD, hS⟩
      · have h := hm38
        refine lv_icmp_lt (tgt := 38) hx hb dX0_becomeUpper_21 (by decide) (fun c14 => ?_) (fun c14 => ?_)
        · rw [if_pos c14] at h
          obtain rfl := Option.some.inj h
          exact KJ38 ls _ _ ⟨lv_sub hl [0, 1, 2, 3] rfl, hP, hD, hS⟩
        · rw [if_neg c14] at h
          refine lv_aload_n hx hb dX0_becomeUpper_24 rfl (lv_at hl 0 rfl) ?_
          refine lv_aload_n hx hb dX0_becomeUpper_25 rfl (lv_at hl 1 rfl) ?_
          refine lv_iload_n hx hb dX0_becomeUpper_26 rfl (lv_at hl 3 rfl) ?_
          have hPc := hP.sub (ws' := figW cI w wx wy us vs k) [3, 4, 5] rfl
          obtain ⟨r16, hcr16, h⟩ := og_bind h
          refine cp_s (va_runV (As := [.int u7.1]) (rest := [.ref q]) ⟨hx, hb, hml, hown, hts⟩ (k_X0_x l D cI cF w wx wy us vs k u7.1 _ hcr16) (cwV 1 hts gX0_becomeUpper_X0_x rfl rfl rfl (by decide +kernel) ⟨(Nat.le_of_ble_eq_true rfl), (Nat.le_of_ble_eq_true rfl)⟩) (pre_v (q0 := 0) (ci := 0) hK hPc rfl rfl) rfl rfl hl.1 rfl (lv_room (Nat.le_of_ble_eq_true rfl)) dX0_becomeUpper_27 ⟨(Nat.zero_le _), (Nat.zero_le _)⟩) ?_
          refine lv_aload_n hx hb dX0_becomeUpper_30 rfl (lv_at hl 1 rfl) ?_
          refine lv_iload_n hx hb dX0_becomeUpper_31 rfl (lv_at hl 3 rfl) ?_
          have hPc := hP.sub (ws' := figW cI w wx wy us vs k) [3, 4, 5] rfl
          obtain ⟨r17, hcr17, h⟩ := og_bind h
          refine cp_s (va_runV (As := [.int u7.1]) (rest := [.int r16, .ref q]) ⟨hx, hb, hml, hown, hts⟩ (k_X0_y l D cI cF w wx wy us vs k u7.1 _ hcr17) (cwV 1 hts gX0_becomeUpper_X0_y rfl rfl rfl (by decide +kernel) ⟨(Nat.le_of_ble_eq_true rfl), (Nat.le_of_ble_eq_true rfl)⟩) (pre_v (q0 := 0) (ci := 0) hK hPc rfl rfl) rfl rfl hl.1 rfl (lv_room (Nat.le_of_ble_eq_true rfl)) dX0_becomeUpper_32 ⟨(Nat.zero_le _), (Nat.zero_le _)⟩) ?_
          have hPc := hP.sub (ws' := figW cI q qx qy u7.2.1 u7.2.2.1 u7.2.2.2) [0, 1, 2] rfl
          have hDc := hD.sub (ws' := figW cI q qx qy u7.2.1 u7.2.2.1 u7.2.2.2) [0, 1, 2] (by decide) rfl
          obtain ⟨r18, hcr18, h⟩ := og_bind h
          refine cp_v (va_runV (As := [.int r16, .int r17]) (rest := []) ⟨hx, hb, hml, hown, hts⟩ (k_X0_add l D cI cF q qx qy u7.2.1 u7.2.2.1 u7.2.2.2 r16 r17 _ hcr18) (cwV 2 hts gX0_becomeUpper_X0_add rfl rfl rfl (by decide +kernel) ⟨(Nat.le_of_ble_eq_true rfl), (Nat.le_of_ble_eq_true rfl)⟩) (pre_d (q0 := 0) (ci := 0) hK hPc hDc rfl rfl) rfl rfl hl.1 rfl (lv_room (Nat.le_of_ble_eq_true rfl)) dX0_becomeUpper_35 ⟨(Nat.zero_le _), (Nat.zero_le _)⟩) hS (fun a9 h9 => ?_) (fun H1 locs hP1 hz1 hk1 hS => ?_)
          · exact va_in hD h9 [0, 1, 2] rfl
          have hP1 : va_P D vwCl (figW cI q qx qy r18.1 r18.2.1 r18.2.2) H1 := hP1
          have hP := va_fit2 hP hD hk1 hP1 (ws' := fig2W cI q qx qy r18.1 r18.2.1 r18.2.2 w wx wy us vs k) [0, 1, 2] [3, 4, 5] 6 rfl rfl rfl rfl (by decide) (by decide)
          have hD : va_D AA (fig2W cI q qx qy r18.1 r18.2.1 r18.2.2 w wx wy us vs k) := va_D_same hD rfl
          generalize H1 = H at hP hS ⊢
          obtain rfl := Option.some.inj h
          exact KJ38 ls _ _ ⟨lv_sub hl [0, 1, 2, 3] rfl, hP, hD, hS⟩
  · obtain ⟨hl, hP, hD, hS⟩ := hl
    obtain rfl := Option.some.inj h
    exact W.vret hx hb hr (fun t ht _ => ⟨rfl, by rw [ht]; exact hP, hS.F ht⟩) hS.2.2 dX0_becomeUpper_85
