def f_X1_at (X : Nat → Nat → Int32) (Y : Nat → Nat → Int32) (N : Nat → Int32) (a1 : Int32) (a2 : Int32) (a3 : Int32) : Option Int32 :=
  if bin a1 6 = true then
  (ov (X a1.toNatClampNeg) fun xs =>
  ov (Y a1.toNatClampNeg) fun ys =>
  ov (N a1.toNatClampNeg) fun n =>
  if a2 = (-1 : Int32) then
  (some n)
  else
  ((f_X0_has n a2).bind fun r2 =>
  if r2 = (0) then
  (some (-1001 : Int32))
  else
  ((f_X1_zeroOrOne a3).bind fun r4 =>
  if r4 = (0) then
  (some (-1002 : Int32))
  else
  (if a3 = (0) then
  ((f_X0_x xs a2).bind fun r8 =>
  some r8)
  else
  ((f_X0_y ys a2).bind fun r7 =>
  some r7)))))
  else
  (some (-1001 : Int32))
set_option maxHeartbeats 4000000 in
set_option maxRecDepth 100000 in
theorem k_X1_at (l : Launch) (D : va_G) (cI cF : ClassId) (o qf : Nat) (g gx gy : Nat → Nat) (ro rn tn fx fy ar wh : Int32) (X Y : Nat → Nat → Int32) (N : Nat → Int32) (a1 : Int32) (a2 : Int32) (a3 : Int32) (r0 : Int32) (h : f_X1_at X Y N a1 a2 a3 = some r0) : Met l yX1_at wsX1_at ({ frames := 1, cells := 0, slots := 0, locals := 21 }) (va_Pc [.ref o, .int a1, .int a2, .int a3] (fun U => wO D cI cF o qf g gx gy ro rn tn fx fy ar wh X Y N U)) (qS (.int r0)) 0 0 (fun _ => False) := by
  refine Met.ofW (cc := cX1_at) (maxL := 5) (ret := (some .int)) (by decide) rfl ?_
  intro p e s m args below meth c s₁ B hml hv
  obtain ⟨rfl, hK, hnw, hO⟩ := hv
  have hP := hO.1
  have hx := B.exec
  have hb := B.bytes
  have hr := B.returns
  have hts := atoms_spec (ws := wsX1_at) B.pre
  have hown : s.vm.findClass RX1 = some m.cls := findClass_of_methodNamed B.named
  have hlocks := B.notSynchronized
  have hinX0 : ∀ w ∈ u_ws RX0 TX0 3, w ∈ wsX1_at := by decide +kernel
  have hnst : nst.before _ s = true := hnw.use (A := [.ref o, .int a1, .int a2, .int a3].toArray) rfl
  have hl := lv_entry ([.ref o, .int a1, .int a2, .int a3]) (n := 5) (Nat.le_of_ble_eq_true rfl)
  rw [lg_entry_eq]
  generalize (lg_sl ([.ref o, .int a1, .int a2, .int a3]) ++ List.replicate (5 - (lg_sl ([.ref o, .int a1, .int a2, .int a3])).length) Slot.unset).toArray = ls at hl ⊢
  have hl : lv_has ls 5 [(0, .ref o), (1, .int a1), (2, .int a2), (3, .int a3)] := hl
  unfold f_X1_at at h
  refine lv_aload_n hx hb dX1_at_0 rfl (lv_at hl 0 rfl) ?_
  refine lv_iload_n hx hb dX1_at_1 rfl (lv_at hl 1 rfl) ?_
  by_cases cf1 : bin a1 6 = true
  · rw [if_pos cf1] at h
    have hkn1 := bin_lt cf1
    refine cp_s (va_runV (As := [.int a1]) (rest := []) ⟨hx, hb, hml, hown, hts⟩ (k_X1_find_some l D cI cF o qf g ro rn tn fx fy ar wh a1 cf1) (cwV 1 hts gX1_at_X1_find rfl rfl rfl (by decide +kernel) ⟨(Nat.le_of_ble_eq_true rfl), (Nat.le_of_ble_eq_true rfl)⟩) (pre_n (q0 := 0) (ci := 1) hK hnw hO.1 rfl rfl) rfl rfl hl.1 rfl (lv_room (Nat.le_of_ble_eq_true rfl)) dX1_at_2 ⟨(Nat.zero_le _), (Nat.zero_le _)⟩) ?_
    obtain ⟨q, eq⟩ : ∃ y, y = g a1.toNatClampNeg := ⟨_, rfl⟩
    obtain ⟨qx, eqx⟩ : ∃ y, y = gx a1.toNatClampNeg := ⟨_, rfl⟩
    obtain ⟨qy, eqy⟩ : ∃ y, y = gy a1.toNatClampNeg := ⟨_, rfl⟩
    rw [← eq]
    obtain ⟨xs, exs⟩ : ∃ y, y = X a1.toNatClampNeg := ⟨_, rfl⟩
    have h := og_ov h exs
    obtain ⟨ys, eys⟩ : ∃ y, y = Y a1.toNatClampNeg := ⟨_, rfl⟩
    have h := og_ov h eys
    obtain ⟨n, en⟩ : ∃ y, y = N a1.toNatClampNeg := ⟨_, rfl⟩
    have h := og_ov h en
    have hPf := hO.2 _ hkn1
    rw [← eq, ← eqx, ← eqy, ← exs, ← eys, ← en] at hPf
    have hP : va_P D vwCl (drfW cI cF o qf g ro rn tn fx fy ar wh q qx qy xs ys n) s.heap := va_P.app hP hPf
    refine lv_astore (lv' := [(4, .ref q), (0, .ref o), (1, .int a1), (2, .int a2), (3, .int a3)]) hx hb dX1_at_5 hl (by decide) rfl (fun ls hl => ?_)
    refine lv_aload hx hb dX1_at_7 (lv_at hl 0 rfl) ?_
    refine lv_ifnonnull (tgt := 16) hx hb dX1_at_9 (by decide) ?_
    refine lv_iload_n hx hb dX1_at_16 rfl (lv_at hl 3 rfl) ?_
    refine lv_iconst (v := -1) hx hb dX1_at_17 (by decide) ?_
    refine lv_icmp_ne (tgt := 27) hx hb dX1_at_18 (by decide) (fun c0 => ?_) (fun c0 => ?_)
    · rw [if_neg c0] at h
      refine lv_aload hx hb dX1_at_27 (lv_at hl 0 rfl) ?_
      refine lv_iload_n hx hb dX1_at_29 rfl (lv_at hl 3 rfl) ?_
      have hPc := hP.sub (ws' := figW cI q qx qy xs ys n) [2, 3, 4] rfl
      obtain ⟨r2, hcr2, h⟩ := og_bind h
      refine cp_s (va_runV (As := [.int a2]) (rest := []) ⟨hx, hb, hml, hown, hts⟩ (k_X0_has l D cI cF q qx qy xs ys n a2 _ hcr2) (cwV 1 hts gX1_at_X0_has rfl rfl rfl (by decide +kernel) ⟨(Nat.le_of_ble_eq_true rfl), (Nat.le_of_ble_eq_true rfl)⟩) (pre_v (q0 := 0) (ci := 0) hK hPc rfl rfl) rfl rfl hl.1 rfl (lv_room (Nat.le_of_ble_eq_true rfl)) dX1_at_30 ⟨(Nat.zero_le _), (Nat.zero_le _)⟩) ?_
      refine lv_if_ne (tgt := 40) hx hb dX1_at_33 (by decide) (fun c2 => ?_) (fun c2 => ?_)
      · rw [if_neg c2] at h
        refine lv_iload_n hx hb dX1_at_40 rfl (lv_at hl 4 rfl) ?_
        obtain ⟨r4, hcr4, h⟩ := og_bind h
        refine cp_s (va_runS (As := [.int a3]) (rest := []) ⟨hx, hb, hml, hown, hts⟩ (k_X1_zeroOrOne l a3 _ hcr4) (va_cwS 1 hts gX1_at_X1_zeroOrOne rfl rfl rfl (by decide +kernel) ⟨(Nat.le_of_ble_eq_true rfl), (Nat.le_of_ble_eq_true rfl)⟩) pre_s rfl rfl hl.1 rfl (lv_room (Nat.le_of_ble_eq_true rfl)) dX1_at_41 ⟨(Nat.zero_le _), (Nat.zero_le _)⟩) ?_
        refine lv_if_ne (tgt := 51) hx hb dX1_at_44 (by decide) (fun c4 => ?_) (fun c4 => ?_)
        · rw [if_neg c4] at h
          refine lv_iload_n hx hb dX1_at_51 rfl (lv_at hl 4 rfl) ?_
          refine lv_if_ne (tgt := 64) hx hb dX1_at_52 (by decide) (fun c5 => ?_) (fun c5 => ?_)
          · rw [if_neg c5] at h
            refine lv_aload hx hb dX1_at_64 (lv_at hl 0 rfl) ?_
            refine lv_iload_n hx hb dX1_at_66 rfl (lv_at hl 3 rfl) ?_
            have hPc := hP.sub (ws' := figW cI q qx qy xs ys n) [2, 3, 4] rfl
            obtain ⟨r7, hcr7, h⟩ := og_bind h
            refine cp_s (va_runV (As := [.int a2]) (rest := []) ⟨hx, hb, hml, hown, hts⟩ (k_X0_y l D cI cF q qx qy xs ys n a2 _ hcr7) (cwV 1 hts gX1_at_X0_y rfl rfl rfl (by decide +kernel) ⟨(Nat.le_of_ble_eq_true rfl), (Nat.le_of_ble_eq_true rfl)⟩) (pre_v (q0 := 0) (ci := 0) hK hPc rfl rfl) rfl rfl hl.1 rfl (lv_room (Nat.le_of_ble_eq_true rfl)) dX1_at_67 ⟨(Nat.zero_le _), (Nat.zero_le _)⟩) ?_
            obtain rfl := Option.some.inj h
            exact W.iret hx hb hr (fun t ht _ => ⟨rfl, ht⟩) (fun _ h9 => absurd h9 List.not_mem_nil) dX1_at_70
          · rw [if_pos c5] at h
            refine lv_aload hx hb dX1_at_55 (lv_at hl 0 rfl) ?_
            refine lv_iload_n hx hb dX1_at_57 rfl (lv_at hl 3 rfl) ?_
            have hPc := hP.sub (ws' := figW cI q qx qy xs ys n) [2, 3, 4] rfl
            obtain ⟨r8, hcr8, h⟩ := og_bind h
            refine cp_s (va_runV (As := [.int a2]) (rest := []) ⟨hx, hb, hml, hown, hts⟩ (k_X0_x l D cI cF q qx qy xs ys n a2 _ hcr8) (cwV 1 hts gX1_at_X0_x rfl rfl rfl (by decide +kernel) ⟨(Nat.le_of_ble_eq_true rfl), (Nat.le_of_ble_eq_true rfl)⟩) (pre_v (q0 := 0) (ci := 0) hK hPc rfl rfl) rfl rfl hl.1 rfl (lv_room (Nat.le_of_ble_eq_true rfl)) dX1_at_58 ⟨(Nat.zero_le _), (Nat.zero_le _)⟩) ?_
            refine lv_goto (tgt := 70) hx hb dX1_at_61 (by decide) ?_
            obtain rfl := Option.some.inj h
            exact W.iret hx hb hr (fun t ht _ => ⟨rfl, ht⟩) (fun _ h9 => absurd h9 List.not_mem_nil) dX1_at_70
        · rw [if_pos c4] at h
          refine lv_sipush (v := -1002) hx hb dX1_at_47 (by decide) ?_
          obtain rfl := Option.some.inj h
          exact W.iret hx hb hr (fun t ht _ => ⟨rfl, ht⟩) (fun _ h9 => absurd h9 List.not_mem_nil) dX1_at_50
      · rw [if_pos c2] at h
        refine lv_sipush (v := -1001) hx hb dX1_at_36 (by decide) ?_
        obtain rfl := Option.some.inj h
        exact W.iret hx hb hr (fun t ht _ => ⟨rfl, ht⟩) (fun _ h9 => absurd h9 List.not_mem_nil) dX1_at_39
    · rw [if_pos c0] at h
      refine lv_aload hx hb dX1_at_21 (lv_at hl 0 rfl) ?_
      refine va_getN (D := D) (ci := 0) (v := .int n) (C := RX0) (T := TX0) (N := 3) hx hb hts hinX0 hown hK hP 2 rfl rfl 2 (by decide) hnst (fun _ h9 => h9) rfl dX1_at_23 ?_
      obtain rfl := Option.some.inj h
      exact W.iret hx hb hr (fun t ht _ => ⟨rfl, ht⟩) (fun _ h9 => absurd h9 List.not_mem_nil) dX1_at_26
  · rw [if_neg cf1] at h
    refine cp_s (va_runV (As := [.int a1]) (rest := []) ⟨hx, hb, hml, hown, hts⟩ (k_X1_find_none l D cI cF o qf g ro rn tn fx fy ar wh a1 cf1) (cwV 1 hts gX1_at_X1_find rfl rfl rfl (by decide +kernel) ⟨(Nat.le_of_ble_eq_true rfl), (Nat.le_of_ble_eq_true rfl)⟩) (pre_n (q0 := 0) (ci := 1) hK hnw hO.1 rfl rfl) rfl rfl hl.1 rfl (lv_room (Nat.le_of_ble_eq_true rfl)) dX1_at_2 ⟨(Nat.zero_le _), (Nat.zero_le _)⟩) ?_
    refine lv_astoreN (lv' := [(4, .null), (0, .ref o), (1, .int a1), (2, .int a2), (3, .int a3)]) hx hb dX1_at_5 hl (by decide) rfl (fun ls hl => ?_)
    refine lv_aloadN hx hb dX1_at_7 (lv_at hl 0 rfl) ?_
    refine lv_ifnonnullN hx hb dX1_at_9 ?_
    refine lv_sipush (v := -1001) hx hb dX1_at_12 (by decide) ?_
    obtain rfl := Option.some.inj h
    exact W.iret hx hb hr (fun t ht _ => ⟨rfl, ht⟩) (fun _ h9 => absurd h9 List.not_mem_nil) dX1_at_15
def f_X1_twice (X : Nat → Nat → Int32) (Y : Nat → Nat → Int32) (N : Nat → Int32) (a1 : Int32) : Option Int64 :=
  if bin a1 6 = true then
  (ov (X a1.toNatClampNeg) fun xs =>
  ov (Y a1.toNatClampNeg) fun ys =>
  ov (N a1.toNatClampNeg) fun n =>
  (f_X0_closed n).bind fun r1 =>
  if r1 = (0) then
  (some (-1000000000000000003 : Int64))
  else
  ((f_X0_doubleArea xs ys n).bind fun r3 =>
  some r3))
  else
  (some (-1000000000000000001 : Int64))
set_option maxHeartbeats 4000000 in
set_option maxRecDepth 100000 in
theorem k_X1_twice (l : Launch) (D : va_G) (cI cF : ClassId) (o qf : Nat) (g gx gy : Nat → Nat) (ro rn tn fx fy ar wh : Int32) (X Y : Nat → Nat → Int32) (N : Nat → Int32) (a1 : Int32) (r0 : Int64) (h : f_X1_twice X Y N a1 = some r0) : Met l yX1_twice wsX1_twice ({ frames := 2, cells := 0, slots := 0, locals := 45 }) (va_Pc [.ref o, .int a1] (fun U => wO D cI cF o qf g gx gy ro rn tn fx fy ar wh X Y N U)) (qS (.long r0)) 0 0 (fun _ => False) := by
  refine Met.ofW (cc := cX1_twice) (maxL := 3) (ret := (some .long)) (by decide) rfl ?_
  intro p e s m args below meth c s₁ B hml hv
  obtain ⟨rfl, hK, hnw, hO⟩ := hv
  have hP := hO.1
  have hx := B.exec
  have hb := B.bytes
  have hr := B.returns
  have hts := atoms_spec (ws := wsX1_twice) B.pre
  have hown : s.vm.findClass RX1 = some m.cls := findClass_of_methodNamed B.named
  have hlocks := B.notSynchronized
  have ht1 := hts (.constantLong RX1 84 (-1000000000000000003)) (by decide +kernel)
  have ht2 := hts (.constantLong RX1 78 (-1000000000000000001)) (by decide +kernel)
  have hnst : nst.before _ s = true := hnw.use (A := [.ref o, .int a1].toArray) rfl
  have hl := lv_entry ([.ref o, .int a1]) (n := 3) (Nat.le_of_ble_eq_true rfl)
  rw [lg_entry_eq]
  generalize (lg_sl ([.ref o, .int a1]) ++ List.replicate (3 - (lg_sl ([.ref o, .int a1])).length) Slot.unset).toArray = ls at hl ⊢
  have hl : lv_has ls 3 [(0, .ref o), (1, .int a1)] := hl
  unfold f_X1_twice at h
  refine lv_aload_n hx hb dX1_twice_0 rfl (lv_at hl 0 rfl) ?_
  refine lv_iload_n hx hb dX1_twice_1 rfl (lv_at hl 1 rfl) ?_
  by_cases cf1 : bin a1 6 = true
  · rw [if_pos cf1] at h
    have hkn1 := bin_lt cf1
    refine cp_s (va_runV (As := [.int a1]) (rest := []) ⟨hx, hb, hml, hown, hts⟩ (k_X1_find_some l D cI cF o qf g ro rn tn fx fy ar wh a1 cf1) (cwV 1 hts gX1_twice_X1_find rfl rfl rfl (by decide +kernel) ⟨(Nat.le_of_ble_eq_true rfl), (Nat.le_of_ble_eq_true rfl)⟩) (pre_n (q0 := 0) (ci := 1) hK hnw hO.1 rfl rfl) rfl rfl hl.1 rfl (lv_room (Nat.le_of_ble_eq_true rfl)) dX1_twice_2 ⟨(Nat.zero_le _), (Nat.zero_le _)⟩) ?_
    obtain ⟨q, eq⟩ : ∃ y, y = g a1.toNatClampNeg := ⟨_, rfl⟩
    obtain ⟨qx, eqx⟩ : ∃ y, y = gx a1.toNatClampNeg := ⟨_, rfl⟩
    obtain ⟨qy, eqy⟩ : ∃ y, y = gy a1.toNatClampNeg := ⟨_, rfl⟩
    rw [← eq]
    obtain ⟨xs, exs⟩ : ∃ y, y = X a1.toNatClampNeg := ⟨_, rfl⟩
    have h := og_ov h exs
    obtain ⟨ys, eys⟩ : ∃ y, y = Y a1.toNatClampNeg := ⟨_, rfl⟩
    have h := og_ov h eys
    obtain ⟨n, en⟩ : ∃ y, y = N a1.toNatClampNeg := ⟨_, rfl⟩
    have h := og_ov h en
    have hPf := hO.2 _ hkn1
    rw [← eq, ← eqx, ← eqy, ← exs, ← eys, ← en] at hPf
    have hP : va_P D vwCl (drfW cI cF o qf g ro rn tn fx fy ar wh q qx qy xs ys n) s.heap := va_P.app hP hPf
    refine lv_astore_n (lv' := [(2, .ref q), (0, .ref o), (1, .int a1)]) hx hb dX1_twice_5 rfl hl (by decide) rfl (fun ls hl => ?_)
    refine lv_aload_n hx hb dX1_twice_6 rfl (lv_at hl 0 rfl) ?_
    refine lv_ifnonnull (tgt := 14) hx hb dX1_twice_7 (by decide) ?_
    refine lv_aload_n hx hb dX1_twice_14 rfl (lv_at hl 0 rfl) ?_
    have hPc := hP.sub (ws' := figW cI q qx qy xs ys n) [2, 3, 4] rfl
    obtain ⟨r1, hcr1, h⟩ := og_bind h
    refine cp_s (va_runV (As := []) (rest := []) ⟨hx, hb, hml, hown, hts⟩ (k_X0_closed l D cI cF q qx qy xs ys n _ hcr1) (cwV 0 hts gX1_twice_X0_closed rfl rfl rfl (by decide +kernel) ⟨(Nat.le_of_ble_eq_true rfl), (Nat.le_of_ble_eq_true rfl)⟩) (pre_v (q0 := 0) (ci := 0) hK hPc rfl rfl) rfl rfl hl.1 rfl (lv_room (Nat.le_of_ble_eq_true rfl)) dX1_twice_15 ⟨(Nat.zero_le _), (Nat.zero_le _)⟩) ?_
    refine lv_if_ne (tgt := 25) hx hb dX1_twice_18 (by decide) (fun c1 => ?_) (fun c1 => ?_)
    · rw [if_neg c1] at h
      refine lv_aload_n hx hb dX1_twice_25 rfl (lv_at hl 0 rfl) ?_
      have hPc := hP.sub (ws' := figW cI q qx qy xs ys n) [2, 3, 4] rfl
      obtain ⟨r3, hcr3, h⟩ := og_bind h
      refine cp_s (va_runV (As := []) (rest := []) ⟨hx, hb, hml, hown, hts⟩ (k_X0_doubleArea l D cI cF q qx qy xs ys n _ hcr3) (cwV 0 hts gX1_twice_X0_doubleArea rfl rfl rfl (by decide +kernel) ⟨(Nat.le_of_ble_eq_true rfl), (Nat.le_of_ble_eq_true rfl)⟩) (pre_v (q0 := 0) (ci := 0) hK hPc rfl rfl) rfl rfl hl.1 rfl (lv_room (Nat.le_of_ble_eq_true rfl)) dX1_twice_26 ⟨(Nat.zero_le _), (Nat.zero_le _)⟩) ?_
      obtain rfl := Option.some.inj h
      exact W.lret hx hb hr (fun t ht _ => ⟨rfl, ht⟩) (fun _ h9 => absurd h9 List.not_mem_nil) dX1_twice_29
    · rw [if_pos c1] at h
      refine lv_ldc2 hx hb hown ht1 dX1_twice_21 ?_
      obtain rfl := Option.some.inj h
      exact W.lret hx hb hr (fun t ht _ => ⟨rfl, ht⟩) (fun _ h9 => absurd h9 List.not_mem_nil) dX1_twice_24
  · rw [if_neg cf1] at h
    refine cp_s (va_runV (As := [.int a1]) (rest := []) ⟨hx, hb, hml, hown, hts⟩ (k_X1_find_none l D cI cF o qf g ro rn tn fx fy ar wh a1 cf1) (cwV 1 hts gX1_twice_X1_find rfl rfl rfl (by decide +kernel) ⟨(Nat.le_of_ble_eq_true rfl), (Nat.le_of_ble_eq_true rfl)⟩) (pre_n (q0 := 0) (ci := 1) hK hnw hO.1 rfl rfl) rfl rfl hl.1 rfl (lv_room (Nat.le_of_ble_eq_true rfl)) dX1_twice_2 ⟨(Nat.zero_le _), (Nat.zero_le _)⟩) ?_
    refine lv_astore_nN (lv' := [(2, .null), (0, .ref o), (1, .int a1)]) hx hb dX1_twice_5 rfl hl (by decide) rfl (fun ls hl => ?_)
    refine lv_aload_nN hx hb dX1_twice_6 rfl (lv_at hl 0 rfl) ?_
    refine lv_ifnonnullN hx hb dX1_twice_7 ?_
    refine lv_ldc2 hx hb hown ht2 dX1_twice_10 ?_
    obtain rfl := Option.some.inj h
    exact W.lret hx hb hr (fun t ht _ => ⟨rfl, ht⟩) (fun _ h9 => absurd h9 List.not_mem_nil) dX1_twice_13
def f_X1_simple (X : Nat → Nat → Int32) (Y : Nat → Nat → Int32) (N : Nat → Int32) (a1 : Int32) : Option Int32 :=
  if bin a1 6 = true then
  (ov (X a1.toNatClampNeg) fun xs =>
  ov (Y a1.toNatClampNeg) fun ys =>
  ov (N a1.toNatClampNeg) fun n =>
  (f_X0_closed n).bind fun r1 =>
  if r1 = (0) then
  ((f_X1_oneIf (0 : Int32)).bind fun r3 =>
  some r3)
  else
  ((f_X0_neverMeetsItself xs ys n).bind fun r4 =>
  if r4 = (0) then
  ((f_X1_oneIf (0 : Int32)).bind fun r6 =>
  some r6)
  else
  ((f_X1_oneIf (1 : Int32)).bind fun r7 =>
  some r7)))
  else
  (some (-1 : Int32))
set_option maxHeartbeats 4000000 in
set_option maxRecDepth 100000 in
theorem k_X1_simple (l : Launch) (D : va_G) (cI cF : ClassId) (o qf : Nat) (g gx gy : Nat → Nat) (ro rn tn fx fy ar wh : Int32) (X Y : Nat → Nat → Int32) (N : Nat → Int32) (a1 : Int32) (r0 : Int32) (h : f_X1_simple X Y N a1 = some r0) : Met l yX1_simple wsX1_simple ({ frames := 5, cells := 0, slots := 0, locals := 117 }) (va_Pc [.ref o, .int a1] (fun U => wO D cI cF o qf g gx gy ro rn tn fx fy ar wh X Y N U)) (qS (.int r0)) 0 0 (fun _ => False) := by
  refine Met.ofW (cc := cX1_simple) (maxL := 3) (ret := (some .int)) (by decide) rfl ?_
  intro p e s m args below meth c s₁ B hml hv
  obtain ⟨rfl, hK, hnw, hO⟩ := hv
  have hP := hO.1
  have hx := B.exec
  have hb := B.bytes
  have hr := B.returns
  have hts := atoms_spec (ws := wsX1_simple) B.pre
  have hown : s.vm.findClass RX1 = some m.cls := findClass_of_methodNamed B.named
  have hlocks := B.notSynchronized
  have hnst : nst.before _ s = true := hnw.use (A := [.ref o, .int a1].toArray) rfl
  have hl := lv_entry ([.ref o, .int a1]) (n := 3) (Nat.le_of_ble_eq_true rfl)
  rw [lg_entry_eq]
  generalize (lg_sl ([.ref o, .int a1]) ++ List.replicate (3 - (lg_sl ([.ref o, .int a1])).length) Slot.unset).toArray = ls at hl ⊢
  have hl : lv_has ls 3 [(0, .ref o), (1, .int a1)] := hl
  unfold f_X1_simple at h
  refine lv_aload_n hx hb dX1_simple_0 rfl (lv_at hl 0 rfl) ?_
  refine lv_iload_n hx hb dX1_simple_1 rfl (lv_at hl 1 rfl) ?_
  by_cases cf1 : bin a1 6 = true
  · rw [if_pos cf1] at h
    have hkn1 := bin_lt cf1
    refine cp_s (va_runV (As := [.int a1]) (rest := []) ⟨hx, hb, hml, hown, hts⟩ (k_X1_find_some l D cI cF o qf g ro rn tn fx fy ar wh a1 cf1) (cwV 1 hts gX1_simple_X1_find rfl rfl rfl (by decide +kernel) ⟨(Nat.le_of_ble_eq_true rfl), (Nat.le_of_ble_eq_true rfl)⟩) (pre_n (q0 := 0) (ci := 1) hK hnw hO.1 rfl rfl) rfl rfl hl.1 rfl (lv_room (Nat.le_of_ble_eq_true rfl)) dX1_simple_2 ⟨(Nat.zero_le _), (Nat.zero_le _)⟩) ?_
    obtain ⟨q, eq⟩ : ∃ y, y = g a1.toNatClampNeg := ⟨_, rfl⟩
    obtain ⟨qx, eqx⟩ : ∃ y, y = gx a1.toNatClampNeg := ⟨_, rfl⟩
    obtain ⟨qy, eqy⟩ : ∃ y, y = gy a1.toNatClampNeg := ⟨_, rfl⟩
    rw [← eq]
    obtain ⟨xs, exs⟩ : ∃ y, y = X a1.toNatClampNeg := ⟨_, rfl⟩
    have h := og_ov h exs
    obtain ⟨ys, eys⟩ : ∃ y, y = Y a1.toNatClampNeg := ⟨_, rfl⟩
    have h := og_ov h eys
    obtain ⟨n, en⟩ : ∃ y, y = N a1.toNatClampNeg := ⟨_, rfl⟩
    have h := og_ov h en
    have hPf := hO.2 _ hkn1
    rw [← eq, ← eqx, ← eqy, ← exs, ← eys, ← en] at hPf
    have hP : va_P D vwCl (drfW cI cF o qf g ro rn tn fx fy ar wh q qx qy xs ys n) s.heap := va_P.app hP hPf
    refine lv_astore_n (lv' := [(2, .ref q), (0, .ref o), (1, .int a1)]) hx hb dX1_simple_5 rfl hl (by decide) rfl (fun ls hl => ?_)
    refine lv_aload_n hx hb dX1_simple_6 rfl (lv_at hl 0 rfl) ?_
    refine lv_ifnonnull (tgt := 12) hx hb dX1_simple_7 (by decide) ?_
    refine lv_aload_n hx hb dX1_simple_12 rfl (lv_at hl 0 rfl) ?_
    have hPc := hP.sub (ws' := figW cI q qx qy xs ys n) [2, 3, 4] rfl
    obtain ⟨r1, hcr1, h⟩ := og_bind h
    refine cp_s (va_runV (As := []) (rest := []) ⟨hx, hb, hml, hown, hts⟩ (k_X0_closed l D cI cF q qx qy xs ys n _ hcr1) (cwV 0 hts gX1_simple_X0_closed rfl rfl rfl (by decide +kernel) ⟨(Nat.le_of_ble_eq_true rfl), (Nat.le_of_ble_eq_true rfl)⟩) (pre_v (q0 := 0) (ci := 0) hK hPc rfl rfl) rfl rfl hl.1 rfl (lv_room (Nat.le_of_ble_eq_true rfl)) dX1_simple_13 ⟨(Nat.zero_le _), (Nat.zero_le _)⟩) ?_
    refine lv_if_eq (tgt := 30) hx hb dX1_simple_16 (by decide) (fun c1 => ?_) (fun c1 => ?_)
    · rw [if_pos c1] at h
      refine lv_iconst (v := 0) hx hb dX1_simple_30 (by decide) ?_
      obtain ⟨r3, hcr3, h⟩ := og_bind h
      refine cp_s (va_runS (As := [.int (0 : Int32)]) (rest := []) ⟨hx, hb, hml, hown, hts⟩ (k_X1_oneIf l (0 : Int32) _ hcr3) (va_cwS 1 hts gX1_simple_X1_oneIf rfl rfl rfl (by decide +kernel) ⟨(Nat.le_of_ble_eq_true rfl), (Nat.le_of_ble_eq_true rfl)⟩) pre_s rfl rfl hl.1 rfl (lv_room (Nat.le_of_ble_eq_true rfl)) dX1_simple_31 ⟨(Nat.zero_le _), (Nat.zero_le _)⟩) ?_
      obtain rfl := Option.some.inj h
      exact W.iret hx hb hr (fun t ht _ => ⟨rfl, ht⟩) (fun _ h9 => absurd h9 List.not_mem_nil) dX1_simple_34
    · rw [if_neg c1] at h
      refine lv_aload_n hx hb dX1_simple_19 rfl (lv_at hl 0 rfl) ?_
      have hPc := hP.sub (ws' := figW cI q qx qy xs ys n) [2, 3, 4] rfl
      obtain ⟨r4, hcr4, h⟩ := og_bind h
      refine cp_s (va_runV (As := []) (rest := []) ⟨hx, hb, hml, hown, hts⟩ (k_X0_neverMeetsItself l D cI cF q qx qy xs ys n _ hcr4) (cwV 0 hts gX1_simple_X0_neverMeetsItself rfl rfl rfl (by decide +kernel) ⟨(Nat.le_of_ble_eq_true rfl), (Nat.le_of_ble_eq_true rfl)⟩) (pre_v (q0 := 0) (ci := 0) hK hPc rfl rfl) rfl rfl hl.1 rfl (lv_room (Nat.le_of_ble_eq_true rfl)) dX1_simple_20 ⟨(Nat.zero_le _), (Nat.zero_le _)⟩) ?_
      refine lv_if_eq (tgt := 30) hx hb dX1_simple_23 (by decide) (fun c4 => ?_) (fun c4 => ?_)
      · rw [if_pos c4] at h
        refine lv_iconst (v := 0) hx hb dX1_simple_30 (by decide) ?_
        obtain ⟨r6, hcr6, h⟩ := og_bind h
        refine cp_s (va_runS (As := [.int (0 : Int32)]) (rest := []) ⟨hx, hb, hml, hown, hts⟩ (k_X1_oneIf l (0 : Int32) _ hcr6) (va_cwS 1 hts gX1_simple_X1_oneIf rfl rfl rfl (by decide +kernel) ⟨(Nat.le_of_ble_eq_true rfl), (Nat.le_of_ble_eq_true rfl)⟩) pre_s rfl rfl hl.1 rfl (lv_room (Nat.le_of_ble_eq_true rfl)) dX1_simple_31 ⟨(Nat.zero_le _), (Nat.zero_le _)⟩) ?_
        obtain rfl := Option.some.inj h
        exact W.iret hx hb hr (fun t ht _ => ⟨rfl, ht⟩) (fun _ h9 => absurd h9 List.not_mem_nil) dX1_simple_34
      · rw [if_neg c4] at h
        refine lv_iconst (v := 1) hx hb dX1_simple_26 (by decide) ?_
        refine lv_goto (tgt := 31) hx hb dX1_simple_27 (by decide) ?_
        obtain ⟨r7, hcr7, h⟩ := og_bind h
        refine cp_s (va_runS (As := [.int (1 : Int32)]) (rest := []) ⟨hx, hb, hml, hown, hts⟩ (k_X1_oneIf l (1 : Int32) _ hcr7) (va_cwS 1 hts gX1_simple_X1_oneIf rfl rfl rfl (by decide +kernel) ⟨(Nat.le_of_ble_eq_true rfl), (Nat.le_of_ble_eq_true rfl)⟩) pre_s rfl rfl hl.1 rfl (lv_room (Nat.le_of_ble_eq_true rfl)) dX1_simple_31 ⟨(Nat.zero_le _), (Nat.zero_le _)⟩) ?_
        obtain rfl := Option.some.inj h
        exact W.iret hx hb hr (fun t ht _ => ⟨rfl, ht⟩) (fun _ h9 => absurd h9 List.not_mem_nil) dX1_simple_34
  · rw [if_neg cf1] at h
    refine cp_s (va_runV (As := [.int a1]) (rest := []) ⟨hx, hb, hml, hown, hts⟩ (k_X1_find_none l D cI cF o qf g ro rn tn fx fy ar wh a1 cf1) (cwV 1 hts gX1_simple_X1_find rfl rfl rfl (by decide +kernel) ⟨(Nat.le_of_ble_eq_true rfl), (Nat.le_of_ble_eq_true rfl)⟩) (pre_n (q0 := 0) (ci := 1) hK hnw hO.1 rfl rfl) rfl rfl hl.1 rfl (lv_room (Nat.le_of_ble_eq_true rfl)) dX1_simple_2 ⟨(Nat.zero_le _), (Nat.zero_le _)⟩) ?_
    refine lv_astore_nN (lv' := [(2, .null), (0, .ref o), (1, .int a1)]) hx hb dX1_simple_5 rfl hl (by decide) rfl (fun ls hl => ?_)
    refine lv_aload_nN hx hb dX1_simple_6 rfl (lv_at hl 0 rfl) ?_
    refine lv_ifnonnullN hx hb dX1_simple_7 ?_
    refine lv_iconst (v := -1) hx hb dX1_simple_10 (by decide) ?_
    obtain rfl := Option.some.inj h
    exact W.iret hx hb hr (fun t ht _ => ⟨rfl, ht⟩) (fun _ h9 => absurd h9 List.not_mem_nil) dX1_simple_11
def f_X1_winds (X : Nat → Nat → Int32) (Y : Nat → Nat → Int32) (N : Nat → Int32) (a1 : Int32) (a2 : Int32) (a3 : Int32) : Option Int32 :=
  if bin a1 6 = true then
  (ov (X a1.toNatClampNeg) fun xs =>
  ov (Y a1.toNatClampNeg) fun ys =>
  ov (N a1.toNatClampNeg) fun n =>
  (f_X1_within a2 (300 : Int32)).bind fun r1 =>
  if r1 = (0) then
  (some (-1002 : Int32))
  else
  ((f_X1_within a3 (300 : Int32)).bind fun r3 =>
  if r3 = (0) then
  (some (-1002 : Int32))
  else
  ((f_X0_closed n).bind fun r5 =>
  if r5 = (0) then
  (some (-1003 : Int32))
  else
  ((f_X0_carries xs ys n a2 a3).bind fun r7 =>
  if r7 = (0) then
  ((f_X0_turnsRound xs ys n a2 a3).bind fun r9 =>
  some r9)
  else
  (some (-1006 : Int32))))))
  else
  (some (-1001 : Int32))
set_option maxHeartbeats 4000000 in
set_option maxRecDepth 100000 in
theorem k_X1_winds (l : Launch) (D : va_G) (cI cF : ClassId) (o qf : Nat) (g gx gy : Nat → Nat) (ro rn tn fx fy ar wh : Int32) (X Y : Nat → Nat → Int32) (N : Nat → Int32) (a1 : Int32) (a2 : Int32) (a3 : Int32) (r0 : Int32) (h : f_X1_winds X Y N a1 a2 a3 = some r0) : Met l yX1_winds wsX1_winds ({ frames := 4, cells := 0, slots := 0, locals := 94 }) (va_Pc [.ref o, .int a1, .int a2, .int a3] (fun U => wO D cI cF o qf g gx gy ro rn tn fx fy ar wh X Y N U)) (qS (.int r0)) 0 0 (fun _ => False) := by
  refine Met.ofW (cc := cX1_winds) (maxL := 5) (ret := (some .int)) (by decide) rfl ?_
  intro p e s m args below meth c s₁ B hml hv
  obtain ⟨rfl, hK, hnw, hO⟩ := hv
  have hP := hO.1
  have hx := B.exec
  have hb := B.bytes
  have hr := B.returns
  have hts := atoms_spec (ws := wsX1_winds) B.pre
  have hown : s.vm.findClass RX1 = some m.cls := findClass_of_methodNamed B.named
  have hlocks := B.notSynchronized
  have hnst : nst.before _ s = true := hnw.use (A := [.ref o, .int a1, .int a2, .int a3].toArray) rfl
  have hl := lv_entry ([.ref o, .int a1, .int a2, .int a3]) (n := 5) (Nat.le_of_ble_eq_true rfl)
  rw [lg_entry_eq]
  generalize (lg_sl ([.ref o, .int a1, .int a2, .int a3]) ++ List.replicate (5 - (lg_sl ([.ref o, .int a1, .int a2, .int a3])).length) Slot.unset).toArray = ls at hl ⊢
  have hl : lv_has ls 5 [(0, .ref o), (1, .int a1), (2, .int a2), (3, .int a3)] := hl
  unfold f_X1_winds at h
  refine lv_aload_n hx hb dX1_winds_0 rfl (lv_at hl 0 rfl) ?_
  refine lv_iload_n hx hb dX1_winds_1 rfl (lv_at hl 1 rfl) ?_
  by_cases cf1 : bin a1 6 = true
  · rw [if_pos cf1] at h
    have hkn1 := bin_lt cf1
    refine cp_s (va_runV (As := [.int a1]) (rest := []) ⟨hx, hb, hml, hown, hts⟩ (k_X1_find_some l D cI cF o qf g ro rn tn fx fy ar wh a1 cf1) (cwV 1 hts gX1_winds_X1_find rfl rfl rfl (by decide +kernel) ⟨(Nat.le_of_ble_eq_true rfl), (Nat.le_of_ble_eq_true rfl)⟩) (pre_n (q0 := 0) (ci := 1) hK hnw hO.1 rfl rfl) rfl rfl hl.1 rfl (lv_room (Nat.le_of_ble_eq_true rfl)) dX1_winds_2 ⟨(Nat.zero_le _), (Nat.zero_le _)⟩) ?_
    obtain ⟨q, eq⟩ : ∃ y, y = g a1.toNatClampNeg := ⟨_, rfl⟩
    obtain ⟨qx, eqx⟩ : ∃ y, y = gx a1.toNatClampNeg := ⟨_, rfl⟩
    obtain ⟨qy, eqy⟩ : ∃ y, y = gy a1.toNatClampNeg := ⟨_, rfl⟩
    rw [← eq]
    obtain ⟨xs, exs⟩ : ∃ y, y = X a1.toNatClampNeg := ⟨_, rfl⟩
    have h := og_ov h exs
    obtain ⟨ys, eys⟩ : ∃ y, y = Y a1.toNatClampNeg := ⟨_, rfl⟩
    have h := og_ov h eys
    obtain ⟨n, en⟩ : ∃ y, y = N a1.toNatClampNeg := ⟨_, rfl⟩
    have h := og_ov h en
    have hPf := hO.2 _ hkn1
    rw [← eq, ← eqx, ← eqy, ← exs, ← eys, ← en] at hPf
    have hP : va_P D vwCl (drfW cI cF o qf g ro rn tn fx fy ar wh q qx qy xs ys n) s.heap := va_P.app hP hPf
    refine lv_astore (lv' := [(4, .ref q), (0, .ref o), (1, .int a1), (2, .int a2), (3, .int a3)]) hx hb dX1_winds_5 hl (by decide) rfl (fun ls hl => ?_)
    refine lv_aload hx hb dX1_winds_7 (lv_at hl 0 rfl) ?_
    refine lv_ifnonnull (tgt := 16) hx hb dX1_winds_9 (by decide) ?_
    refine lv_iload_n hx hb dX1_winds_16 rfl (lv_at hl 3 rfl) ?_
    refine lv_sipush (v := 300) hx hb dX1_winds_17 (by decide) ?_
    obtain ⟨r1, hcr1, h⟩ := og_bind h
    refine cp_s (va_runS (As := [.int a2, .int (300 : Int32)]) (rest := []) ⟨hx, hb, hml, hown, hts⟩ (k_X1_within l a2 (300 : Int32) _ hcr1) (va_cwS 2 hts gX1_winds_X1_within rfl rfl rfl (by decide +kernel) ⟨(Nat.le_of_ble_eq_true rfl), (Nat.le_of_ble_eq_true rfl)⟩) pre_s rfl rfl hl.1 rfl (lv_room (Nat.le_of_ble_eq_true rfl)) dX1_winds_20 ⟨(Nat.zero_le _), (Nat.zero_le _)⟩) ?_
    refine lv_if_eq (tgt := 36) hx hb dX1_winds_23 (by decide) (fun c1 => ?_) (fun c1 => ?_)
    · rw [if_pos c1] at h
      refine lv_sipush (v := -1002) hx hb dX1_winds_36 (by decide) ?_
      obtain rfl := Option.some.inj h
      exact W.iret hx hb hr (fun t ht _ => ⟨rfl, ht⟩) (fun _ h9 => absurd h9 List.not_mem_nil) dX1_winds_39
    · rw [if_neg c1] at h
      refine lv_iload_n hx hb dX1_winds_26 rfl (lv_at hl 4 rfl) ?_
      refine lv_sipush (v := 300) hx hb dX1_winds_27 (by decide) ?_
      obtain ⟨r3, hcr3, h⟩ := og_bind h
      refine cp_s (va_runS (As := [.int a3, .int (300 : Int32)]) (rest := []) ⟨hx, hb, hml, hown, hts⟩ (k_X1_within l a3 (300 : Int32) _ hcr3) (va_cwS 2 hts gX1_winds_X1_within rfl rfl rfl (by decide +kernel) ⟨(Nat.le_of_ble_eq_true rfl), (Nat.le_of_ble_eq_true rfl)⟩) pre_s rfl rfl hl.1 rfl (lv_room (Nat.le_of_ble_eq_true rfl)) dX1_winds_30 ⟨(Nat.zero_le _), (Nat.zero_le _)⟩) ?_
      refine lv_if_ne (tgt := 40) hx hb dX1_winds_33 (by decide) (fun c3 => ?_) (fun c3 => ?_)
      · rw [if_neg c3] at h
        refine lv_aload hx hb dX1_winds_40 (lv_at hl 0 rfl) ?_
        have hPc := hP.sub (ws' := figW cI q qx qy xs ys n) [2, 3, 4] rfl
        obtain ⟨r5, hcr5, h⟩ := og_bind h
        refine cp_s (va_runV (As := []) (rest := []) ⟨hx, hb, hml, hown, hts⟩ (k_X0_closed l D cI cF q qx qy xs ys n _ hcr5) (cwV 0 hts gX1_winds_X0_closed rfl rfl rfl (by decide +kernel) ⟨(Nat.le_of_ble_eq_true rfl), (Nat.le_of_ble_eq_true rfl)⟩) (pre_v (q0 := 0) (ci := 0) hK hPc rfl rfl) rfl rfl hl.1 rfl (lv_room (Nat.le_of_ble_eq_true rfl)) dX1_winds_42 ⟨(Nat.zero_le _), (Nat.zero_le _)⟩) ?_
        refine lv_if_ne (tgt := 52) hx hb dX1_winds_45 (by decide) (fun c5 => ?_) (fun c5 => ?_)
        · rw [if_neg c5] at h
          refine lv_aload hx hb dX1_winds_52 (lv_at hl 0 rfl) ?_
          refine lv_iload_n hx hb dX1_winds_54 rfl (lv_at hl 3 rfl) ?_
          refine lv_iload_n hx hb dX1_winds_55 rfl (lv_at hl 4 rfl) ?_
          have hPc := hP.sub (ws' := figW cI q qx qy xs ys n) [2, 3, 4] rfl
          obtain ⟨r7, hcr7, h⟩ := og_bind h
          refine cp_s (va_runV (As := [.int a2, .int a3]) (rest := []) ⟨hx, hb, hml, hown, hts⟩ (k_X0_carries l D cI cF q qx qy xs ys n a2 a3 _ hcr7) (cwV 2 hts gX1_winds_X0_carries rfl rfl rfl (by decide +kernel) ⟨(Nat.le_of_ble_eq_true rfl), (Nat.le_of_ble_eq_true rfl)⟩) (pre_v (q0 := 0) (ci := 0) hK hPc rfl rfl) rfl rfl hl.1 rfl (lv_room (Nat.le_of_ble_eq_true rfl)) dX1_winds_56 ⟨(Nat.zero_le _), (Nat.zero_le _)⟩) ?_
          refine lv_if_eq (tgt := 68) hx hb dX1_winds_59 (by decide) (fun c7 => ?_) (fun c7 => ?_)
          · rw [if_pos c7] at h
            refine lv_aload hx hb dX1_winds_68 (lv_at hl 0 rfl) ?_
            refine lv_iload_n hx hb dX1_winds_70 rfl (lv_at hl 3 rfl) ?_
            refine lv_iload_n hx hb dX1_winds_71 rfl (lv_at hl 4 rfl) ?_
            have hPc := hP.sub (ws' := figW cI q qx qy xs ys n) [2, 3, 4] rfl
            obtain ⟨r9, hcr9, h⟩ := og_bind h
            refine cp_s (va_runV (As := [.int a2, .int a3]) (rest := []) ⟨hx, hb, hml, hown, hts⟩ (k_X0_turnsRound l D cI cF q qx qy xs ys n a2 a3 _ hcr9) (cwV 2 hts gX1_winds_X0_turnsRound rfl rfl rfl (by decide +kernel) ⟨(Nat.le_of_ble_eq_true rfl), (Nat.le_of_ble_eq_true rfl)⟩) (pre_v (q0 := 0) (ci := 0) hK hPc rfl rfl) rfl rfl hl.1 rfl (lv_room (Nat.le_of_ble_eq_true rfl)) dX1_winds_72 ⟨(Nat.zero_le _), (Nat.zero_le _)⟩) ?_
            obtain rfl := Option.some.inj h
            exact W.iret hx hb hr (fun t ht _ => ⟨rfl, ht⟩) (fun _ h9 => absurd h9 List.not_mem_nil) dX1_winds_75
          · rw [if_neg c7] at h
            refine lv_sipush (v := -1006) hx hb dX1_winds_62 (by decide) ?_
            refine lv_goto (tgt := 75) hx hb dX1_winds_65 (by decide) ?_
            obtain rfl := Option.some.inj h
            exact W.iret hx hb hr (fun t ht _ => ⟨rfl, ht⟩) (fun _ h9 => absurd h9 List.not_mem_nil) dX1_winds_75
        · rw [if_pos c5] at h
          refine lv_sipush (v := -1003) hx hb dX1_winds_48 (by decide) ?_
          obtain rfl := Option.some.inj h
          exact W.iret hx hb hr (fun t ht _ => ⟨rfl, ht⟩) (fun _ h9 => absurd h9 List.not_mem_nil) dX1_winds_51
      · rw [if_pos c3] at h
        refine lv_sipush (v := -1002) hx hb dX1_winds_36 (by decide) ?_
        obtain rfl := Option.some.inj h
        exact W.iret hx hb hr (fun t ht _ => ⟨rfl, ht⟩) (fun _ h9 => absurd h9 List.not_mem_nil) dX1_winds_39
  · rw [if_neg cf1] at h
    refine cp_s (va_runV (As := [.int a1]) (rest := []) ⟨hx, hb, hml, hown, hts⟩ (k_X1_find_none l D cI cF o qf g ro rn tn fx fy ar wh a1 cf1) (cwV 1 hts gX1_winds_X1_find rfl rfl rfl (by decide +kernel) ⟨(Nat.le_of_ble_eq_true rfl), (Nat.le_of_ble_eq_true rfl)⟩) (pre_n (q0 := 0) (ci := 1) hK hnw hO.1 rfl rfl) rfl rfl hl.1 rfl (lv_room (Nat.le_of_ble_eq_true rfl)) dX1_winds_2 ⟨(Nat.zero_le _), (Nat.zero_le _)⟩) ?_
    refine lv_astoreN (lv' := [(4, .null), (0, .ref o), (1, .int a1), (2, .int a2), (3, .int a3)]) hx hb dX1_winds_5 hl (by decide) rfl (fun ls hl => ?_)
    refine lv_aloadN hx hb dX1_winds_7 (lv_at hl 0 rfl) ?_
    refine lv_ifnonnullN hx hb dX1_winds_9 ?_
    refine lv_sipush (v := -1001) hx hb dX1_winds_12 (by decide) ?_
    obtain rfl := Option.some.inj h
    exact W.iret hx hb hr (fun t ht _ => ⟨rfl, ht⟩) (fun _ h9 => absurd h9 List.not_mem_nil) dX1_winds_15
def f_X1_told (ro : Int32) (X : Nat → Nat → Int32) (Y : Nat → Nat → Int32) (N : Nat → Int32) (a1 : Int32) (a2 : Int32) (a3 : Int32) : Option Int64 :=
  if bin a1 6 = true then
  (ov (X a1.toNatClampNeg) fun xs =>
  ov (Y a1.toNatClampNeg) fun ys =>
  ov (N a1.toNatClampNeg) fun n =>
  (f_X1_from0To a2 n).bind fun r1 =>
  if r1 = (0) then
  (some (-1000000000000000002 : Int64))
  else
  ((f_X1_zeroOrOne a3).bind fun r3 =>
  if r3 = (0) then
  (some (-1000000000000000002 : Int64))
  else
  ((f_X1_goesRound ro ys n).bind fun r5 =>
  if r5 = (0) then
  (some (-1000000000000000003 : Int64))
  else
  ((f_X0_alongX xs ys n (1 : Int32) a2).bind fun r7 =>
  (f_X1_fraction r7 ((2 : Int64) * (ro.toInt64)) a3).bind fun r8 =>
  some r8))))
  else
  (some (-1000000000000000001 : Int64))
set_option maxHeartbeats 4000000 in
set_option maxRecDepth 100000 in
theorem k_X1_told (l : Launch) (D : va_G) (cI cF : ClassId) (o qf : Nat) (g gx gy : Nat → Nat) (ro rn tn fx fy ar wh : Int32) (X Y : Nat → Nat → Int32) (N : Nat → Int32) (a1 : Int32) (a2 : Int32) (a3 : Int32) (r0 : Int64) (h : f_X1_told ro X Y N a1 a2 a3 = some r0) : Met l yX1_told wsX1_told ({ frames := 3, cells := 0, slots := 0, locals := 64 }) (va_Pc [.ref o, .int a1, .int a2, .int a3] (fun U => wO D cI cF o qf g gx gy ro rn tn fx fy ar wh X Y N U)) (qS (.long r0)) 0 0 (fun _ => False) := by
  refine Met.ofW (cc := cX1_told) (maxL := 5) (ret := (some .long)) (by decide) rfl ?_
  intro p e s m args below meth c s₁ B hml hv
  obtain ⟨rfl, hK, hnw, hO⟩ := hv
  have hP := hO.1
  have hx := B.exec
  have hb := B.bytes
  have hr := B.returns
  have hts := atoms_spec (ws := wsX1_told) B.pre
  have hown : s.vm.findClass RX1 = some m.cls := findClass_of_methodNamed B.named
  have hlocks := B.notSynchronized
  have hinX0 : ∀ w ∈ u_ws RX0 TX0 3, w ∈ wsX1_told := by decide +kernel
  have ht2 := hts (.constantLong RX1 110 (-1000000000000000002)) (by decide +kernel)
  have ht3 := hts (.constantLong RX1 120 (2)) (by decide +kernel)
  have ht4 := hts (.fieldLink RX1 16 "DrawnAreas" "rodLength" "I") (by decide +kernel)
  have hinX1 : ∀ w ∈ u_ws RX1 TX1 8, w ∈ wsX1_told := by decide +kernel
  have ht6 := hts (.constantLong RX1 84 (-1000000000000000003)) (by decide +kernel)
  have ht7 := hts (.constantLong RX1 78 (-1000000000000000001)) (by decide +kernel)
  have hnst : nst.before _ s = true := hnw.use (A := [.ref o, .int a1, .int a2, .int a3].toArray) rfl
  have hl := lv_entry ([.ref o, .int a1, .int a2, .int a3]) (n := 5) (Nat.le_of_ble_eq_true rfl)
  rw [lg_entry_eq]
  generalize (lg_sl ([.ref o, .int a1, .int a2, .int a3]) ++ List.replicate (5 - (lg_sl ([.ref o, .int a1, .int a2, .int a3])).length) Slot.unset).toArray = ls at hl ⊢
  have hl : lv_has ls 5 [(0, .ref o), (1, .int a1), (2, .int a2), (3, .int a3)] := hl
  unfold f_X1_told at h
  refine lv_aload_n hx hb dX1_told_0 rfl (lv_at hl 0 rfl) ?_
  refine lv_iload_n hx hb dX1_told_1 rfl (lv_at hl 1 rfl) ?_
  by_cases cf1 : bin a1 6 = true
  · rw [if_pos cf1] at h
    have hkn1 := bin_lt cf1
    refine cp_s (va_runV (As := [.int a1]) (rest := []) ⟨hx, hb, hml, hown, hts⟩ (k_X1_find_some l D cI cF o qf g ro rn tn fx fy ar wh a1 cf1) (cwV 1 hts gX1_told_X1_find rfl rfl rfl (by decide +kernel) ⟨(Nat.le_of_ble_eq_true rfl), (Nat.le_of_ble_eq_true rfl)⟩) (pre_n (q0 := 0) (ci := 1) hK hnw hO.1 rfl rfl) rfl rfl hl.1 rfl (lv_room (Nat.le_of_ble_eq_true rfl)) dX1_told_2 ⟨(Nat.zero_le _), (Nat.zero_le _)⟩) ?_
    obtain ⟨q, eq⟩ : ∃ y, y = g a1.toNatClampNeg := ⟨_, rfl⟩
    obtain ⟨qx, eqx⟩ : ∃ y, y = gx a1.toNatClampNeg := ⟨_, rfl⟩
    obtain ⟨qy, eqy⟩ : ∃ y, y = gy a1.toNatClampNeg := ⟨_, rfl⟩
    rw [← eq]
    obtain ⟨xs, exs⟩ : ∃ y, y = X a1.toNatClampNeg := ⟨_, rfl⟩
    have h := og_ov h exs
    obtain ⟨ys, eys⟩ : ∃ y, y = Y a1.toNatClampNeg := ⟨_, rfl⟩
    have h := og_ov h eys
    obtain ⟨n, en⟩ : ∃ y, y = N a1.toNatClampNeg := ⟨_, rfl⟩
    have h := og_ov h en
    have hPf := hO.2 _ hkn1
    rw [← eq, ← eqx, ← eqy, ← exs, ← eys, ← en] at hPf
    have hP : va_P D vwCl (drfW cI cF o qf g ro rn tn fx fy ar wh q qx qy xs ys n) s.heap := va_P.app hP hPf
    refine lv_astore (lv' := [(4, .ref q), (0, .ref o), (1, .int a1), (2, .int a2), (3, .int a3)]) hx hb dX1_told_5 hl (by decide) rfl (fun ls hl => ?_)
    refine lv_aload hx hb dX1_told_7 (lv_at hl 0 rfl) ?_
    refine lv_ifnonnull (tgt := 16) hx hb dX1_told_9 (by decide) ?_
    refine lv_iload_n hx hb dX1_told_16 rfl (lv_at hl 3 rfl) ?_
    refine lv_aload hx hb dX1_told_17 (lv_at hl 0 rfl) ?_
    refine va_getN (D := D) (ci := 0) (v := .int n) (C := RX0) (T := TX0) (N := 3) hx hb hts hinX0 hown hK hP 2 rfl rfl 2 (by decide) hnst (fun _ h9 => h9) rfl dX1_told_19 ?_
    obtain ⟨r1, hcr1, h⟩ := og_bind h
    refine cp_s (va_runS (As := [.int a2, .int n]) (rest := []) ⟨hx, hb, hml, hown, hts⟩ (k_X1_from0To l a2 n _ hcr1) (va_cwS 2 hts gX1_told_X1_from0To rfl rfl rfl (by decide +kernel) ⟨(Nat.le_of_ble_eq_true rfl), (Nat.le_of_ble_eq_true rfl)⟩) pre_s rfl rfl hl.1 rfl (lv_room (Nat.le_of_ble_eq_true rfl)) dX1_told_22 ⟨(Nat.zero_le _), (Nat.zero_le _)⟩) ?_
    refine lv_if_eq (tgt := 35) hx hb dX1_told_25 (by decide) (fun c1 => ?_) (fun c1 => ?_)
    · rw [if_pos c1] at h
      refine lv_ldc2 hx hb hown ht2 dX1_told_35 ?_
      obtain rfl := Option.some.inj h
      exact W.lret hx hb hr (fun t ht _ => ⟨rfl, ht⟩) (fun _ h9 => absurd h9 List.not_mem_nil) dX1_told_38
    · rw [if_neg c1] at h
      refine lv_iload_n hx hb dX1_told_28 rfl (lv_at hl 4 rfl) ?_
      obtain ⟨r3, hcr3, h⟩ := og_bind h
      refine cp_s (va_runS (As := [.int a3]) (rest := []) ⟨hx, hb, hml, hown, hts⟩ (k_X1_zeroOrOne l a3 _ hcr3) (va_cwS 1 hts gX1_told_X1_zeroOrOne rfl rfl rfl (by decide +kernel) ⟨(Nat.le_of_ble_eq_true rfl), (Nat.le_of_ble_eq_true rfl)⟩) pre_s rfl rfl hl.1 rfl (lv_room (Nat.le_of_ble_eq_true rfl)) dX1_told_29 ⟨(Nat.zero_le _), (Nat.zero_le _)⟩) ?_
      refine lv_if_ne (tgt := 39) hx hb dX1_told_32 (by decide) (fun c3 => ?_) (fun c3 => ?_)
      · rw [if_neg c3] at h
        refine lv_aload_n hx hb dX1_told_39 rfl (lv_at hl 1 rfl) ?_
        refine lv_aload hx hb dX1_told_40 (lv_at hl 0 rfl) ?_
        obtain ⟨r5, hcr5, h⟩ := og_bind h
        refine cp_s (va_runV (As := [.ref q]) (rest := []) ⟨hx, hb, hml, hown, hts⟩ (k_X1_goesRound l D cI cF o qf g ro rn tn fx fy ar wh q qx qy xs ys n _ hcr5) (cwV 1 hts gX1_told_X1_goesRound rfl rfl rfl (by decide +kernel) ⟨(Nat.le_of_ble_eq_true rfl), (Nat.le_of_ble_eq_true rfl)⟩) (pre_n (q0 := 0) (ci := 1) hK hnw hP rfl rfl) rfl rfl hl.1 rfl (lv_room (Nat.le_of_ble_eq_true rfl)) dX1_told_42 ⟨(Nat.zero_le _), (Nat.zero_le _)⟩) ?_
        refine lv_if_ne (tgt := 52) hx hb dX1_told_45 (by decide) (fun c5 => ?_) (fun c5 => ?_)
        · rw [if_neg c5] at h
          refine lv_aload hx hb dX1_told_52 (lv_at hl 0 rfl) ?_
          refine lv_iconst (v := 1) hx hb dX1_told_54 (by decide) ?_
          refine lv_iload_n hx hb dX1_told_55 rfl (lv_at hl 3 rfl) ?_
          have hPc := hP.sub (ws' := figW cI q qx qy xs ys n) [2, 3, 4] rfl
          obtain ⟨r7, hcr7, h⟩ := og_bind h
          refine cp_s (va_runV (As := [.int (1 : Int32), .int a2]) (rest := []) ⟨hx, hb, hml, hown, hts⟩ (k_X0_alongX l D cI cF q qx qy xs ys n (1 : Int32) a2 _ hcr7) (cwV 2 hts gX1_told_X0_alongX rfl rfl rfl (by decide +kernel) ⟨(Nat.le_of_ble_eq_true rfl), (Nat.le_of_ble_eq_true rfl)⟩) (pre_v (q0 := 0) (ci := 0) hK hPc rfl rfl) rfl rfl hl.1 rfl (lv_room (Nat.le_of_ble_eq_true rfl)) dX1_told_56 ⟨(Nat.zero_le _), (Nat.zero_le _)⟩) ?_
          refine lv_ldc2 hx hb hown ht3 dX1_told_59 ?_
          refine lv_aload_n hx hb dX1_told_62 rfl (lv_at hl 1 rfl) ?_
          refine va_get (D := D) (ci := 1) (v := .int ro) (C := RX1) (T := TX1) (N := 8) hx hb hts hinX1 hown hK hP 0 rfl rfl 1 (by decide) ht4 (fun _ h9 => h9) rfl dX1_told_63 ?_
          refine lv_i2l hx hb dX1_told_66 rfl ?_
          refine lv_lmul hx hb dX1_told_67 ?_
          refine lv_iload_n hx hb dX1_told_68 rfl (lv_at hl 4 rfl) ?_
          obtain ⟨r8, hcr8, h⟩ := og_bind h
          refine cp_s (va_runS (As := [.long r7, .long ((2 : Int64) * (ro.toInt64)), .int a3]) (rest := []) ⟨hx, hb, hml, hown, hts⟩ (k_X1_fraction l r7 ((2 : Int64) * (ro.toInt64)) a3 _ hcr8) (va_cwS 3 hts gX1_told_X1_fraction rfl rfl rfl (by decide +kernel) ⟨(Nat.le_of_ble_eq_true rfl), (Nat.le_of_ble_eq_true rfl)⟩) pre_s rfl rfl hl.1 rfl (lv_room (Nat.le_of_ble_eq_true rfl)) dX1_told_69 ⟨(Nat.zero_le _), (Nat.zero_le _)⟩) ?_
          obtain rfl := Option.some.inj h
          exact W.lret hx hb hr (fun t ht _ => ⟨rfl, ht⟩) (fun _ h9 => absurd h9 List.not_mem_nil) dX1_told_72
        · rw [if_pos c5] at h
          refine lv_ldc2 hx hb hown ht6 dX1_told_48 ?_
          obtain rfl := Option.some.inj h
          exact W.lret hx hb hr (fun t ht _ => ⟨rfl, ht⟩) (fun _ h9 => absurd h9 List.not_mem_nil) dX1_told_51
      · rw [if_pos c3] at h
        refine lv_ldc2 hx hb hown ht2 dX1_told_35 ?_
        obtain rfl := Option.some.inj h
        exact W.lret hx hb hr (fun t ht _ => ⟨rfl, ht⟩) (fun _ h9 => absurd h9 List.not_mem_nil) dX1_told_38
  · rw [if_neg cf1] at h
    refine cp_s (va_runV (As := [.int a1]) (rest := []) ⟨hx, hb, hml, hown, hts⟩ (k_X1_find_none l D cI cF o qf g ro rn tn fx fy ar wh a1 cf1) (cwV 1 hts gX1_told_X1_find rfl rfl rfl (by decide +kernel) ⟨(Nat.le_of_ble_eq_true rfl), (Nat.le_of_ble_eq_true rfl)⟩) (pre_n (q0 := 0) (ci := 1) hK hnw hO.1 rfl rfl) rfl rfl hl.1 rfl (lv_room (Nat.le_of_ble_eq_true rfl)) dX1_told_2 ⟨(Nat.zero_le _), (Nat.zero_le _)⟩) ?_
    refine lv_astoreN (lv' := [(4, .null), (0, .ref o), (1, .int a1), (2, .int a2), (3, .int a3)]) hx hb dX1_told_5 hl (by decide) rfl (fun ls hl => ?_)
    refine lv_aloadN hx hb dX1_told_7 (lv_at hl 0 rfl) ?_
    refine lv_ifnonnullN hx hb dX1_told_9 ?_
    refine lv_ldc2 hx hb hown ht7 dX1_told_12 ?_
    obtain rfl := Option.some.inj h
    exact W.lret hx hb hr (fun t ht _ => ⟨rfl, ht⟩) (fun _ h9 => absurd h9 List.not_mem_nil) dX1_told_15
def f_X1_can (ro : Int32) (X : Nat → Nat → Int32) (Y : Nat → Nat → Int32) (N : Nat → Int32) (a1 : Int32) : Option Int32 :=
  if bin a1 6 = true then
  (ov (X a1.toNatClampNeg) fun xs =>
  ov (Y a1.toNatClampNeg) fun ys =>
  ov (N a1.toNatClampNeg) fun n =>
  (f_X0_closed n).bind fun r1 =>
  if r1 = (0) then
  (some (-3 : Int32))
  else
  ((f_X1_goesRound ro ys n).bind fun r3 =>
  (f_X1_oneIf r3).bind fun r4 =>
  some r4))
  else
  (some (-1 : Int32))
set_option maxHeartbeats 4000000 in
set_option maxRecDepth 100000 in
theorem k_X1_can (l : Launch) (D : va_G) (cI cF : ClassId) (o qf : Nat) (g gx gy : Nat → Nat) (ro rn tn fx fy ar wh : Int32) (X Y : Nat → Nat → Int32) (N : Nat → Int32) (a1 : Int32) (r0 : Int32) (h : f_X1_can ro X Y N a1 = some r0) : Met l yX1_can wsX1_can ({ frames := 3, cells := 0, slots := 0, locals := 64 }) (va_Pc [.ref o, .int a1] (fun U => wO D cI cF o qf g gx gy ro rn tn fx fy ar wh X Y N U)) (qS (.int r0)) 0 0 (fun _ => False) := by
  refine Met.ofW (cc := cX1_can) (maxL := 3) (ret := (some .int)) (by decide) rfl ?_
  intro p e s m args below meth c s₁ B hml hv
  obtain ⟨rfl, hK, hnw, hO⟩ := hv
  have hP := hO.1
  have hx := B.exec
  have hb := B.bytes
  have hr := B.returns
  have hts := atoms_spec (ws := wsX1_can) B.pre
  have hown : s.vm.findClass RX1 = some m.cls := findClass_of_methodNamed B.named
  have hlocks := B.notSynchronized
  have hnst : nst.before _ s = true := hnw.use (A := [.ref o, .int a1].toArray) rfl
  have hl := lv_entry ([.ref o, .int a1]) (n := 3) (Nat.le_of_ble_eq_true rfl)
  rw [lg_entry_eq]
  generalize (lg_sl ([.ref o, .int a1]) ++ List.replicate (3 - (lg_sl ([.ref o, .int a1])).length) Slot.unset).toArray = ls at hl ⊢
  have hl : lv_has ls 3 [(0, .ref o), (1, .int a1)] := hl
  unfold f_X1_can at h
  refine lv_aload_n hx hb dX1_can_0 rfl (lv_at hl 0 rfl) ?_
  refine lv_iload_n hx hb dX1_can_1 rfl (lv_at hl 1 rfl) ?_
  by_cases cf1 : bin a1 6 = true
  · rw [if_pos cf1] at h
    have hkn1 := bin_lt cf1
    refine cp_s (va_runV (As := [.int a1]) (rest := []) ⟨hx, hb, hml, hown, hts⟩ (k_X1_find_some l D cI cF o qf g ro rn tn fx fy ar wh a1 cf1) (cwV 1 hts gX1_can_X1_find rfl rfl rfl (by decide +kernel) ⟨(Nat.le_of_ble_eq_true rfl), (Nat.le_of_ble_eq_true rfl)⟩) (pre_n (q0 := 0) (ci := 1) hK hnw hO.1 rfl rfl) rfl rfl hl.1 rfl (lv_room (Nat.le_of_ble_eq_true rfl)) dX1_can_2 ⟨(Nat.zero_le _), (Nat.zero_le _)⟩) ?_
    obtain ⟨q, eq⟩ : ∃ y, y = g a1.toNatClampNeg := ⟨_, rfl⟩
    obtain ⟨qx, eqx⟩ : ∃ y, y = gx a1.toNatClampNeg := ⟨_, rfl⟩
    obtain ⟨qy, eqy⟩ : ∃ y, y = gy a1.toNatClampNeg := ⟨_, rfl⟩
    rw [← eq]
    obtain ⟨xs, exs⟩ : ∃ y, y = X a1.toNatClampNeg := ⟨_, rfl⟩
    have h := og_ov h exs
    obtain ⟨ys, eys⟩ : ∃ y, y = Y a1.toNatClampNeg := ⟨_, rfl⟩
    have h := og_ov h eys
    obtain ⟨n, en⟩ : ∃ y, y = N a1.toNatClampNeg := ⟨_, rfl⟩
    have h := og_ov h en
    have hPf := hO.2 _ hkn1
    rw [← eq, ← eqx, ← eqy, ← exs, ← eys, ← en] at hPf
    have hP : va_P D vwCl (drfW cI cF o qf g ro rn tn fx fy ar wh q qx qy xs ys n) s.heap := va_P.app hP hPf
    refine lv_astore_n (lv' := [(2, .ref q), (0, .ref o), (1, .int a1)]) hx hb dX1_can_5 rfl hl (by decide) rfl (fun ls hl => ?_)
    refine lv_aload_n hx hb dX1_can_6 rfl (lv_at hl 0 rfl) ?_
    refine lv_ifnonnull (tgt := 12) hx hb dX1_can_7 (by decide) ?_
    refine lv_aload_n hx hb dX1_can_12 rfl (lv_at hl 0 rfl) ?_
    have hPc := hP.sub (ws' := figW cI q qx qy xs ys n) [2, 3, 4] rfl
    obtain ⟨r1, hcr1, h⟩ := og_bind h
    refine cp_s (va_runV (As := []) (rest := []) ⟨hx, hb, hml, hown, hts⟩ (k_X0_closed l D cI cF q qx qy xs ys n _ hcr1) (cwV 0 hts gX1_can_X0_closed rfl rfl rfl (by decide +kernel) ⟨(Nat.le_of_ble_eq_true rfl), (Nat.le_of_ble_eq_true rfl)⟩) (pre_v (q0 := 0) (ci := 0) hK hPc rfl rfl) rfl rfl hl.1 rfl (lv_room (Nat.le_of_ble_eq_true rfl)) dX1_can_13 ⟨(Nat.zero_le _), (Nat.zero_le _)⟩) ?_
    refine lv_if_ne (tgt := 22) hx hb dX1_can_16 (by decide) (fun c1 => ?_) (fun c1 => ?_)
    · rw [if_neg c1] at h
      refine lv_aload_n hx hb dX1_can_22 rfl (lv_at hl 1 rfl) ?_
      refine lv_aload_n hx hb dX1_can_23 rfl (lv_at hl 0 rfl) ?_
      obtain ⟨r3, hcr3, h⟩ := og_bind h
      refine cp_s (va_runV (As := [.ref q]) (rest := []) ⟨hx, hb, hml, hown, hts⟩ (k_X1_goesRound l D cI cF o qf g ro rn tn fx fy ar wh q qx qy xs ys n _ hcr3) (cwV 1 hts gX1_can_X1_goesRound rfl rfl rfl (by decide +kernel) ⟨(Nat.le_of_ble_eq_true rfl), (Nat.le_of_ble_eq_true rfl)⟩) (pre_n (q0 := 0) (ci := 1) hK hnw hP rfl rfl) rfl rfl hl.1 rfl (lv_room (Nat.le_of_ble_eq_true rfl)) dX1_can_24 ⟨(Nat.zero_le _), (Nat.zero_le _)⟩) ?_
      obtain ⟨r4, hcr4, h⟩ := og_bind h
      refine cp_s (va_runS (As := [.int r3]) (rest := []) ⟨hx, hb, hml, hown, hts⟩ (k_X1_oneIf l r3 _ hcr4) (va_cwS 1 hts gX1_can_X1_oneIf rfl rfl rfl (by decide +kernel) ⟨(Nat.le_of_ble_eq_true rfl), (Nat.le_of_ble_eq_true rfl)⟩) pre_s rfl rfl hl.1 rfl (lv_room (Nat.le_of_ble_eq_true rfl)) dX1_can_27 ⟨(Nat.zero_le _), (Nat.zero_le _)⟩) ?_
      obtain rfl := Option.some.inj h
      exact W.iret hx hb hr (fun t ht _ => ⟨rfl, ht⟩) (fun _ h9 => absurd h9 List.not_mem_nil) dX1_can_30
    · rw [if_pos c1] at h
      refine lv_bipush (v := -3) hx hb dX1_can_19 (by decide) ?_
      obtain rfl := Option.some.inj h
      exact W.iret hx hb hr (fun t ht _ => ⟨rfl, ht⟩) (fun _ h9 => absurd h9 List.not_mem_nil) dX1_can_21
  · rw [if_neg cf1] at h
    refine cp_s (va_runV (As := [.int a1]) (rest := []) ⟨hx, hb, hml, hown, hts⟩ (k_X1_find_none l D cI cF o qf g ro rn tn fx fy ar wh a1 cf1) (cwV 1 hts gX1_can_X1_find rfl rfl rfl (by decide +kernel) ⟨(Nat.le_of_ble_eq_true rfl), (Nat.le_of_ble_eq_true rfl)⟩) (pre_n (q0 := 0) (ci := 1) hK hnw hO.1 rfl rfl) rfl rfl hl.1 rfl (lv_room (Nat.le_of_ble_eq_true rfl)) dX1_can_2 ⟨(Nat.zero_le _), (Nat.zero_le _)⟩) ?_
    refine lv_astore_nN (lv' := [(2, .null), (0, .ref o), (1, .int a1)]) hx hb dX1_can_5 rfl hl (by decide) rfl (fun ls hl => ?_)
    refine lv_aload_nN hx hb dX1_can_6 rfl (lv_at hl 0 rfl) ?_
    refine lv_ifnonnullN hx hb dX1_can_7 ?_
    refine lv_iconst (v := -1) hx hb dX1_can_10 (by decide) ?_
    obtain rfl := Option.some.inj h
    exact W.iret hx hb hr (fun t ht _ => ⟨rfl, ht⟩) (fun _ h9 => absurd h9 List.not_mem_nil) dX1_can_11
def f_X1_rail (ro : Int32) (X : Nat → Nat → Int32) (Y : Nat → Nat → Int32) (N : Nat → Int32) (a1 : Int32) (a2 : Int32) (a3 : Int32) : Option Int32 :=
  if bin a1 6 = true then
  (ov (X a1.toNatClampNeg) fun xs =>
  ov (Y a1.toNatClampNeg) fun ys =>
  ov (N a1.toNatClampNeg) fun n =>
  (f_X1_within a2 (1000 : Int32)).bind fun r1 =>
  if r1 = (0) then
  (some (-2 : Int32))
  else
  ((f_X1_within a3 (1000 : Int32)).bind fun r3 =>
  if r3 = (0) then
  (some (-2 : Int32))
  else
  (if a2 ≤ a3 then
  ((f_X0_closed n).bind fun r6 =>
  if r6 = (0) then
  (some (-3 : Int32))
  else
  ((f_X1_goesRound ro ys n).bind fun r8 =>
  if r8 = (0) then
  ((f_X1_oneIf (0 : Int32)).bind fun r10 =>
  some r10)
  else
  ((f_X1_neverLeftOf ro xs ys n a2).bind fun r11 =>
  if r11 = (0) then
  ((f_X1_oneIf (0 : Int32)).bind fun r13 =>
  some r13)
  else
  ((f_X1_neverRightOf ro xs ys n a3).bind fun r14 =>
  if r14 = (0) then
  ((f_X1_oneIf (0 : Int32)).bind fun r16 =>
  some r16)
  else
  ((f_X1_oneIf (1 : Int32)).bind fun r17 =>
  some r17)))))
  else
  (some (-2 : Int32)))))
  else
  (some (-1 : Int32))
set_option maxHeartbeats 4000000 in
set_option maxRecDepth 100000 in
theorem k_X1_rail (l : Launch) (D : va_G) (cI cF : ClassId) (o qf : Nat) (g gx gy : Nat → Nat) (ro rn tn fx fy ar wh : Int32) (X Y : Nat → Nat → Int32) (N : Nat → Int32) (a1 : Int32) (a2 : Int32) (a3 : Int32) (r0 : Int32) (h : f_X1_rail ro X Y N a1 a2 a3 = some r0) : Met l yX1_rail wsX1_rail ({ frames := 4, cells := 0, slots := 0, locals := 111 }) (va_Pc [.ref o, .int a1, .int a2, .int a3] (fun U => wO D cI cF o qf g gx gy ro rn tn fx fy ar wh X Y N U)) (qS (.int r0)) 0 0 (fun _ => False) := by
  refine Met.ofW (cc := cX1_rail) (maxL := 5) (ret := (some .int)) (by decide) rfl ?_
  intro p e s m args below meth c s₁ B hml hv
  obtain ⟨rfl, hK, hnw, hO⟩ := hv
  have hP := hO.1
  have hx := B.exec
  have hb := B.bytes
  have hr := B.returns
  have hts := atoms_spec (ws := wsX1_rail) B.pre
  have hown : s.vm.findClass RX1 = some m.cls := findClass_of_methodNamed B.named
  have hlocks := B.notSynchronized
  have hnst : nst.before _ s = true := hnw.use (A := [.ref o, .int a1, .int a2, .int a3].toArray) rfl
  have hl := lv_entry ([.ref o, .int a1, .int a2, .int a3]) (n := 5) (Nat.le_of_ble_eq_true rfl)
  rw [lg_entry_eq]
  generalize (lg_sl ([.ref o, .int a1, .int a2, .int a3]) ++ List.replicate (5 - (lg_sl ([.ref o, .int a1, .int a2, .int a3])).length) Slot.unset).toArray = ls at hl ⊢
  have hl : lv_has ls 5 [(0, .ref o), (1, .int a1), (2, .int a2), (3, .int a3)] := hl
  unfold f_X1_rail at h
  refine lv_aload_n hx hb dX1_rail_0 rfl (lv_at hl 0 rfl) ?_
  refine lv_iload_n hx hb dX1_rail_1 rfl (lv_at hl 1 rfl) ?_
  by_cases cf1 : bin a1 6 = true
  · rw [if_pos cf1] at h
    have hkn1 := bin_lt cf1
    refine cp_s (va_runV (As := [.int a1]) (rest := []) ⟨hx, hb, hml, hown, hts⟩ (k_X1_find_some l D cI cF o qf g ro rn tn fx fy ar wh a1 cf1) (cwV 1 hts gX1_rail_X1_find rfl rfl rfl (by decide +kernel) ⟨(Nat.le_of_ble_eq_true rfl), (Nat.le_of_ble_eq_true rfl)⟩) (pre_n (q0 := 0) (ci := 1) hK hnw hO.1 rfl rfl) rfl rfl hl.1 rfl (lv_room (Nat.le_of_ble_eq_true rfl)) dX1_rail_2 ⟨(Nat.zero_le _), (Nat.zero_le _)⟩) ?_
    obtain ⟨q, eq⟩ : ∃ y, y = g a1.toNatClampNeg := ⟨_, rfl⟩
    obtain ⟨qx, eqx⟩ : ∃ y, y = gx a1.toNatClampNeg := ⟨_, rfl⟩
    obtain ⟨qy, eqy⟩ : ∃ y, y = gy a1.toNatClampNeg := ⟨_, rfl⟩
    rw [← eq]
    obtain ⟨xs, exs⟩ : ∃ y, y = X a1.toNatClampNeg := ⟨_, rfl⟩
    have h := og_ov h exs
    obtain ⟨ys, eys⟩ : ∃ y, y = Y a1.toNatClampNeg := ⟨_, rfl⟩
    have h := og_ov h eys
    obtain ⟨n, en⟩ : ∃ y, y = N a1.toNatClampNeg := ⟨_, rfl⟩
    have h := og_ov h en
    have hPf := hO.2 _ hkn1
    rw [← eq, ← eqx, ← eqy, ← exs, ← eys, ← en] at hPf
    have hP : va_P D vwCl (drfW cI cF o qf g ro rn tn fx fy ar wh q qx qy xs ys n) s.heap := va_P.app hP hPf
    refine lv_astore (lv' := [(4, .ref q), (0, .ref o), (1, .int a1), (2, .int a2), (3, .int a3)]) hx hb dX1_rail_5 hl (by decide) rfl (fun ls hl => ?_)
    refine lv_aload hx hb dX1_rail_7 (lv_at hl 0 rfl) ?_
    refine lv_ifnonnull (tgt := 14) hx hb dX1_rail_9 (by decide) ?_
    refine lv_iload_n hx hb dX1_rail_14 rfl (lv_at hl 3 rfl) ?_
    refine lv_sipush (v := 1000) hx hb dX1_rail_15 (by decide) ?_
    obtain ⟨r1, hcr1, h⟩ := og_bind h
    refine cp_s (va_runS (As := [.int a2, .int (1000 : Int32)]) (rest := []) ⟨hx, hb, hml, hown, hts⟩ (k_X1_within l a2 (1000 : Int32) _ hcr1) (va_cwS 2 hts gX1_rail_X1_within rfl rfl rfl (by decide +kernel) ⟨(Nat.le_of_ble_eq_true rfl), (Nat.le_of_ble_eq_true rfl)⟩) pre_s rfl rfl hl.1 rfl (lv_room (Nat.le_of_ble_eq_true rfl)) dX1_rail_18 ⟨(Nat.zero_le _), (Nat.zero_le _)⟩) ?_
    refine lv_if_eq (tgt := 39) hx hb dX1_rail_21 (by decide) (fun c1 => ?_) (fun c1 => ?_)
    · rw [if_pos c1] at h
      refine lv_bipush (v := -2) hx hb dX1_rail_39 (by decide) ?_
      obtain rfl := Option.some.inj h
      exact W.iret hx hb hr (fun t ht _ => ⟨rfl, ht⟩) (fun _ h9 => absurd h9 List.not_mem_nil) dX1_rail_41
    · rw [if_neg c1] at h
      refine lv_iload_n hx hb dX1_rail_24 rfl (lv_at hl 4 rfl) ?_
      refine lv_sipush (v := 1000) hx hb dX1_rail_25 (by decide) ?_
      obtain ⟨r3, hcr3, h⟩ := og_bind h
      refine cp_s (va_runS (As := [.int a3, .int (1000 : Int32)]) (rest := []) ⟨hx, hb, hml, hown, hts⟩ (k_X1_within l a3 (1000 : Int32) _ hcr3) (va_cwS 2 hts gX1_rail_X1_within rfl rfl rfl (by decide +kernel) ⟨(Nat.le_of_ble_eq_true rfl), (Nat.le_of_ble_eq_true rfl)⟩) pre_s rfl rfl hl.1 rfl (lv_room (Nat.le_of_ble_eq_true rfl)) dX1_rail_28 ⟨(Nat.zero_le _), (Nat.zero_le _)⟩) ?_
      refine lv_if_eq (tgt := 39) hx hb dX1_rail_31 (by decide) (fun c3 => ?_) (fun c3 => ?_)
      · rw [if_pos c3] at h
        refine lv_bipush (v := -2) hx hb dX1_rail_39 (by decide) ?_
        obtain rfl := Option.some.inj h
        exact W.iret hx hb hr (fun t ht _ => ⟨rfl, ht⟩) (fun _ h9 => absurd h9 List.not_mem_nil) dX1_rail_41
      · rw [if_neg c3] at h
        refine lv_iload_n hx hb dX1_rail_34 rfl (lv_at hl 3 rfl) ?_
        refine lv_iload_n hx hb dX1_rail_35 rfl (lv_at hl 4 rfl) ?_
        refine lv_icmp_le (tgt := 42) hx hb dX1_rail_36 (by decide) (fun c4 => ?_) (fun c4 => ?_)
        · rw [if_pos c4] at h
          refine lv_aload hx hb dX1_rail_42 (lv_at hl 0 rfl) ?_
          have hPc := hP.sub (ws' := figW cI q qx qy xs ys n) [2, 3, 4] rfl
          obtain ⟨r6, hcr6, h⟩ := og_bind h
          refine cp_s (va_runV (As := []) (rest := []) ⟨hx, hb, hml, hown, hts⟩ (k_X0_closed l D cI cF q qx qy xs ys n _ hcr6) (cwV 0 hts gX1_rail_X0_closed rfl rfl rfl (by decide +kernel) ⟨(Nat.le_of_ble_eq_true rfl), (Nat.le_of_ble_eq_true rfl)⟩) (pre_v (q0 := 0) (ci := 0) hK hPc rfl rfl) rfl rfl hl.1 rfl (lv_room (Nat.le_of_ble_eq_true rfl)) dX1_rail_44 ⟨(Nat.zero_le _), (Nat.zero_le _)⟩) ?_
          refine lv_if_ne (tgt := 53) hx hb dX1_rail_47 (by decide) (fun c6 => ?_) (fun c6 => ?_)
          · rw [if_neg c6] at h
            refine lv_aload_n hx hb dX1_rail_53 rfl (lv_at hl 1 rfl) ?_
            refine lv_aload hx hb dX1_rail_54 (lv_at hl 0 rfl) ?_
            obtain ⟨r8, hcr8, h⟩ := og_bind h
            refine cp_s (va_runV (As := [.ref q]) (rest := []) ⟨hx, hb, hml, hown, hts⟩ (k_X1_goesRound l D cI cF o qf g ro rn tn fx fy ar wh q qx qy xs ys n _ hcr8) (cwV 1 hts gX1_rail_X1_goesRound rfl rfl rfl (by decide +kernel) ⟨(Nat.le_of_ble_eq_true rfl), (Nat.le_of_ble_eq_true rfl)⟩) (pre_n (q0 := 0) (ci := 1) hK hnw hP rfl rfl) rfl rfl hl.1 rfl (lv_room (Nat.le_of_ble_eq_true rfl)) dX1_rail_56 ⟨(Nat.zero_le _), (Nat.zero_le _)⟩) ?_
            refine lv_if_eq (tgt := 86) hx hb dX1_rail_59 (by decide) (fun c8 => ?_) (fun c8 => ?_)
            · rw [if_pos c8] at h
              refine lv_iconst (v := 0) hx hb dX1_rail_86 (by decide) ?_
              obtain ⟨r10, hcr10, h⟩ := og_bind h
              refine cp_s (va_runS (As := [.int (0 : Int32)]) (rest := []) ⟨hx, hb, hml, hown, hts⟩ (k_X1_oneIf l (0 : Int32) _ hcr10) (va_cwS 1 hts gX1_rail_X1_oneIf rfl rfl rfl (by decide +kernel) ⟨(Nat.le_of_ble_eq_true rfl), (Nat.le_of_ble_eq_true rfl)⟩) pre_s rfl rfl hl.1 rfl (lv_room (Nat.le_of_ble_eq_true rfl)) dX1_rail_87 ⟨(Nat.zero_le _), (Nat.zero_le _)⟩) ?_
              obtain rfl := Option.some.inj h
              exact W.iret hx hb hr (fun t ht _ => ⟨rfl, ht⟩) (fun _ h9 => absurd h9 List.not_mem_nil) dX1_rail_90
            · rw [if_neg c8] at h
              refine lv_aload_n hx hb dX1_rail_62 rfl (lv_at hl 1 rfl) ?_
              refine lv_aload hx hb dX1_rail_63 (lv_at hl 0 rfl) ?_
              refine lv_iload_n hx hb dX1_rail_65 rfl (lv_at hl 3 rfl) ?_
              obtain ⟨r11, hcr11, h⟩ := og_bind h
              refine cp_s (va_runV (As := [.ref q, .int a2]) (rest := []) ⟨hx, hb, hml, hown, hts⟩ (k_X1_neverLeftOf l D cI cF o qf g ro rn tn fx fy ar wh q qx qy xs ys n a2 _ hcr11) (cwV 2 hts gX1_rail_X1_neverLeftOf rfl rfl rfl (by decide +kernel) ⟨(Nat.le_of_ble_eq_true rfl), (Nat.le_of_ble_eq_true rfl)⟩) (pre_n (q0 := 0) (ci := 1) hK hnw hP rfl rfl) rfl rfl hl.1 rfl (lv_room (Nat.le_of_ble_eq_true rfl)) dX1_rail_66 ⟨(Nat.zero_le _), (Nat.zero_le _)⟩) ?_
              refine lv_if_eq (tgt := 86) hx hb dX1_rail_69 (by decide) (fun c11 => ?_) (fun c11 => ?_)
              · rw [if_pos c11] at h
                refine lv_iconst (v := 0) hx hb dX1_rail_86 (by decide) ?_
                obtain ⟨r13, hcr13, h⟩ := og_bind h
                refine cp_s (va_runS (As := [.int (0 : Int32)]) (rest := []) ⟨hx, hb, hml, hown, hts⟩ (k_X1_oneIf l (0 : Int32) _ hcr13) (va_cwS 1 hts gX1_rail_X1_oneIf rfl rfl rfl (by decide +kernel) ⟨(Nat.le_of_ble_eq_true rfl), (Nat.le_of_ble_eq_true rfl)⟩) pre_s rfl rfl hl.1 rfl (lv_room (Nat.le_of_ble_eq_true rfl)) dX1_rail_87 ⟨(Nat.zero_le _), (Nat.zero_le _)⟩) ?_
                obtain rfl := Option.some.inj h
                exact W.iret hx hb hr (fun t ht _ => ⟨rfl, ht⟩) (fun _ h9 => absurd h9 List.not_mem_nil) dX1_rail_90
              · rw [if_neg c11] at h
                refine lv_aload_n hx hb dX1_rail_72 rfl (lv_at hl 1 rfl) ?_
                refine lv_aload hx hb dX1_rail_73 (lv_at hl 0 rfl) ?_
                refine lv_iload_n hx hb dX1_rail_75 rfl (lv_at hl 4 rfl) ?_
                obtain ⟨r14, hcr14, h⟩ := og_bind h
                refine cp_s (va_runV (As := [.ref q, .int a3]) (rest := []) ⟨hx, hb, hml, hown, hts⟩ (k_X1_neverRightOf l D cI cF o qf g ro rn tn fx fy ar wh q qx qy xs ys n a3 _ hcr14) (cwV 2 hts gX1_rail_X1_neverRightOf rfl rfl rfl (by decide +kernel) ⟨(Nat.le_of_ble_eq_true rfl), (Nat.le_of_ble_eq_true rfl)⟩) (pre_n (q0 := 0) (ci := 1) hK hnw hP rfl rfl) rfl rfl hl.1 rfl (lv_room (Nat.le_of_ble_eq_true rfl)) dX1_rail_76 ⟨(Nat.zero_le _), (Nat.zero_le _)⟩) ?_
                refine lv_if_eq (tgt := 86) hx hb dX1_rail_79 (by decide) (fun c14 => ?_) (fun c14 => ?_)
                · rw [if_pos c14] at h
                  refine lv_iconst (v := 0) hx hb dX1_rail_86 (by decide) ?_
                  obtain ⟨r16, hcr16, h⟩ := og_bind h
                  refine cp_s (va_runS (As := [.int (0 : Int32)]) (rest := []) ⟨hx, hb, hml, hown, hts⟩ (k_X1_oneIf l (0 : Int32) _ hcr16) (va_cwS 1 hts gX1_rail_X1_oneIf rfl rfl rfl (by decide +kernel) ⟨(Nat.le_of_ble_eq_true rfl), (Nat.le_of_ble_eq_true rfl)⟩) pre_s rfl rfl hl.1 rfl (lv_room (Nat.le_of_ble_eq_true rfl)) dX1_rail_87 ⟨(Nat.zero_le _), (Nat.zero_le _)⟩) ?_
                  obtain rfl := Option.some.inj h
                  exact W.iret hx hb hr (fun t ht _ => ⟨rfl, ht⟩) (fun _ h9 => absurd h9 List.not_mem_nil) dX1_rail_90
                · rw [if_neg c14] at h
                  refine lv_iconst (v := 1) hx hb dX1_rail_82 (by decide) ?_
                  refine lv_goto (tgt := 87) hx hb dX1_rail_83 (by decide) ?_
                  obtain ⟨r17, hcr17, h⟩ := og_bind h
                  refine cp_s (va_runS (As := [.int (1 : Int32)]) (rest := []) ⟨hx, hb, hml, hown, hts⟩ (k_X1_oneIf l (1 : Int32) _ hcr17) (va_cwS 1 hts gX1_rail_X1_oneIf rfl rfl rfl (by decide +kernel) ⟨(Nat.le_of_ble_eq_true rfl), (Nat.le_of_ble_eq_true rfl)⟩) pre_s rfl rfl hl.1 rfl (lv_room (Nat.le_of_ble_eq_true rfl)) dX1_rail_87 ⟨(Nat.zero_le _), (Nat.zero_le _)⟩) ?_
                  obtain rfl := Option.some.inj h
                  exact W.iret hx hb hr (fun t ht _ => ⟨rfl, ht⟩) (fun _ h9 => absurd h9 List.not_mem_nil) dX1_rail_90
          · rw [if_pos c6] at h
            refine lv_bipush (v := -3) hx hb dX1_rail_50 (by decide) ?_
            obtain rfl := Option.some.inj h
            exact W.iret hx hb hr (fun t ht _ => ⟨rfl, ht⟩) (fun _ h9 => absurd h9 List.not_mem_nil) dX1_rail_52
        · rw [if_neg c4] at h
          refine lv_bipush (v := -2) hx hb dX1_rail_39 (by decide) ?_
          obtain rfl := Option.some.inj h
          exact W.iret hx hb hr (fun t ht _ => ⟨rfl, ht⟩) (fun _ h9 => absurd h9 List.not_mem_nil) dX1_rail_41
  · rw [if_neg cf1] at h
    refine cp_s (va_runV (As := [.int a1]) (rest := []) ⟨hx, hb, hml, hown, hts⟩ (k_X1_find_none l D cI cF o qf g ro rn tn fx fy ar wh a1 cf1) (cwV 1 hts gX1_rail_X1_find rfl rfl rfl (by decide +kernel) ⟨(Nat.le_of_ble_eq_true rfl), (Nat.le_of_ble_eq_true rfl)⟩) (pre_n (q0 := 0) (ci := 1) hK hnw hO.1 rfl rfl) rfl rfl hl.1 rfl (lv_room (Nat.le_of_ble_eq_true rfl)) dX1_rail_2 ⟨(Nat.zero_le _), (Nat.zero_le _)⟩) ?_
    refine lv_astoreN (lv' := [(4, .null), (0, .ref o), (1, .int a1), (2, .int a2), (3, .int a3)]) hx hb dX1_rail_5 hl (by decide) rfl (fun ls hl => ?_)
    refine lv_aloadN hx hb dX1_rail_7 (lv_at hl 0 rfl) ?_
    refine lv_ifnonnullN hx hb dX1_rail_9 ?_
    refine lv_iconst (v := -1) hx hb dX1_rail_12 (by decide) ?_
    obtain rfl := Option.some.inj h
    exact W.iret hx hb hr (fun t ht _ => ⟨rfl, ht⟩) (fun _ h9 => absurd h9 List.not_mem_nil) dX1_rail_13
def f_X1_shut (ro : Int32) (a1 : Int32) (a2 : Int32) : Option Int64 :=
  (f_X1_from0To a1 (ro - (1 : Int32))).bind fun r1 =>
  if r1 = (0) then
  (some (-1000000000000000002 : Int64))
  else
  ((f_X1_zeroOrOne a2).bind fun r3 =>
  if r3 = (0) then
  (some (-1000000000000000002 : Int64))
  else
  (if a2 = (0) then
  ((f_X1_shutLow ro a1).bind fun r7 =>
  some r7)
  else
  ((f_X1_shutHigh ro a1).bind fun r6 =>
  some r6)))
set_option maxHeartbeats 4000000 in
set_option maxRecDepth 100000 in
theorem k_X1_shut (l : Launch) (D : va_G) (cI cF : ClassId) (o qf : Nat) (g gx gy : Nat → Nat) (ro rn tn fx fy ar wh : Int32) (X Y : Nat → Nat → Int32) (N : Nat → Int32) (a1 : Int32) (a2 : Int32) (r0 : Int64) (h : f_X1_shut ro a1 a2 = some r0) : Met l yX1_shut wsX1_shut ({ frames := 3, cells := 0, slots := 0, locals := 71 }) (va_Pc [.ref o, .int a1, .int a2] (fun U => wO D cI cF o qf g gx gy ro rn tn fx fy ar wh X Y N U)) (qS (.long r0)) 0 0 (fun _ => False) := by
  refine Met.ofW (cc := cX1_shut) (maxL := 3) (ret := (some .long)) (by decide) rfl ?_
  intro p e s m args below meth c s₁ B hml hv
  obtain ⟨rfl, hK, hnw, hO⟩ := hv
  have hP := hO.1
  have hx := B.exec
  have hb := B.bytes
  have hr := B.returns
  have hts := atoms_spec (ws := wsX1_shut) B.pre
  have hown : s.vm.findClass RX1 = some m.cls := findClass_of_methodNamed B.named
  have hlocks := B.notSynchronized
  have ht1 := hts (.fieldLink RX1 16 "DrawnAreas" "rodLength" "I") (by decide +kernel)
  have hinX1 : ∀ w ∈ u_ws RX1 TX1 8, w ∈ wsX1_shut := by decide +kernel
  have ht3 := hts (.constantLong RX1 110 (-1000000000000000002)) (by decide +kernel)
  have hnst : nst.before _ s = true := hnw.use (A := [.ref o, .int a1, .int a2].toArray) rfl
  have hl := lv_entry ([.ref o, .int a1, .int a2]) (n := 3) (Nat.le_of_ble_eq_true rfl)
  rw [lg_entry_eq]
  generalize (lg_sl ([.ref o, .int a1, .int a2]) ++ List.replicate (3 - (lg_sl ([.ref o, .int a1, .int a2])).length) Slot.unset).toArray = ls at hl ⊢
  have hl : lv_has ls 3 [(0, .ref o), (1, .int a1), (2, .int a2)] := hl
  unfold f_X1_shut at h
  refine lv_iload_n hx hb dX1_shut_0 rfl (lv_at hl 1 rfl) ?_
  refine lv_aload_n hx hb dX1_shut_1 rfl (lv_at hl 0 rfl) ?_
  refine va_get (D := D) (ci := 1) (v := .int ro) (C := RX1) (T := TX1) (N := 8) hx hb hts hinX1 hown hK hP 0 rfl rfl 1 (by decide) ht1 (fun _ h9 => h9) rfl dX1_shut_2 ?_
  refine lv_iconst (v := 1) hx hb dX1_shut_5 (by decide) ?_
  refine lv_isub hx hb dX1_shut_6 ?_
  obtain ⟨r1, hcr1, h⟩ := og_bind h
  refine cp_s (va_runS (As := [.int a1, .int (ro - (1 : Int32))]) (rest := []) ⟨hx, hb, hml, hown, hts⟩ (k_X1_from0To l a1 (ro - (1 : Int32)) _ hcr1) (va_cwS 2 hts gX1_shut_X1_from0To rfl rfl rfl (by decide +kernel) ⟨(Nat.le_of_ble_eq_true rfl), (Nat.le_of_ble_eq_true rfl)⟩) pre_s rfl rfl hl.1 rfl (lv_room (Nat.le_of_ble_eq_true rfl)) dX1_shut_7 ⟨(Nat.zero_le _), (Nat.zero_le _)⟩) ?_
  refine lv_if_eq (tgt := 20) hx hb dX1_shut_10 (by decide) (fun c1 => ?_) (fun c1 => ?_)
  · rw [if_pos c1] at h
    refine lv_ldc2 hx hb hown ht3 dX1_shut_20 ?_
    obtain rfl := Option.some.inj h
    exact W.lret hx hb hr (fun t ht _ => ⟨rfl, ht⟩) (fun _ h9 => absurd h9 List.not_mem_nil) dX1_shut_23
  · rw [if_neg c1] at h
    refine lv_iload_n hx hb dX1_shut_13 rfl (lv_at hl 2 rfl) ?_
    obtain ⟨r3, hcr3, h⟩ := og_bind h
    refine cp_s (va_runS (As := [.int a2]) (rest := []) ⟨hx, hb, hml, hown, hts⟩ (k_X1_zeroOrOne l a2 _ hcr3) (va_cwS 1 hts gX1_shut_X1_zeroOrOne rfl rfl rfl (by decide +kernel) ⟨(Nat.le_of_ble_eq_true rfl), (Nat.le_of_ble_eq_true rfl)⟩) pre_s rfl rfl hl.1 rfl (lv_room (Nat.le_of_ble_eq_true rfl)) dX1_shut_14 ⟨(Nat.zero_le _), (Nat.zero_le _)⟩) ?_
    refine lv_if_ne (tgt := 24) hx hb dX1_shut_17 (by decide) (fun c3 => ?_) (fun c3 => ?_)
    · rw [if_neg c3] at h
      refine lv_iload_n hx hb dX1_shut_24 rfl (lv_at hl 2 rfl) ?_
      refine lv_if_ne (tgt := 36) hx hb dX1_shut_25 (by decide) (fun c4 => ?_) (fun c4 => ?_)
      · rw [if_neg c4] at h
        refine lv_aload_n hx hb dX1_shut_36 rfl (lv_at hl 0 rfl) ?_
        refine lv_iload_n hx hb dX1_shut_37 rfl (lv_at hl 1 rfl) ?_
        obtain ⟨r6, hcr6, h⟩ := og_bind h
        refine cp_s (va_runV (As := [.int a1]) (rest := []) ⟨hx, hb, hml, hown, hts⟩ (k_X1_shutHigh l D cI cF o qf g ro rn tn fx fy ar wh a1 _ hcr6) (cwV 1 hts gX1_shut_X1_shutHigh rfl rfl rfl (by decide +kernel) ⟨(Nat.le_of_ble_eq_true rfl), (Nat.le_of_ble_eq_true rfl)⟩) (pre_n (q0 := 0) (ci := 1) hK hnw hP rfl rfl) rfl rfl hl.1 rfl (lv_room (Nat.le_of_ble_eq_true rfl)) dX1_shut_38 ⟨(Nat.zero_le _), (Nat.zero_le _)⟩) ?_
        obtain rfl := Option.some.inj h
        exact W.lret hx hb hr (fun t ht _ => ⟨rfl, ht⟩) (fun _ h9 => absurd h9 List.not_mem_nil) dX1_shut_41
      · rw [if_pos c4] at h
        refine lv_aload_n hx hb dX1_shut_28 rfl (lv_at hl 0 rfl) ?_
        refine lv_iload_n hx hb dX1_shut_29 rfl (lv_at hl 1 rfl) ?_
        obtain ⟨r7, hcr7, h⟩ := og_bind h
        refine cp_s (va_runV (As := [.int a1]) (rest := []) ⟨hx, hb, hml, hown, hts⟩ (k_X1_shutLow l D cI cF o qf g ro rn tn fx fy ar wh a1 _ hcr7) (cwV 1 hts gX1_shut_X1_shutLow rfl rfl rfl (by decide +kernel) ⟨(Nat.le_of_ble_eq_true rfl), (Nat.le_of_ble_eq_true rfl)⟩) (pre_n (q0 := 0) (ci := 1) hK hnw hP rfl rfl) rfl rfl hl.1 rfl (lv_room (Nat.le_of_ble_eq_true rfl)) dX1_shut_30 ⟨(Nat.zero_le _), (Nat.zero_le _)⟩) ?_
        refine lv_goto (tgt := 41) hx hb dX1_shut_33 (by decide) ?_
        obtain rfl := Option.some.inj h
        exact W.lret hx hb hr (fun t ht _ => ⟨rfl, ht⟩) (fun _ h9 => absurd h9 List.not_mem_nil) dX1_shut_41
    · rw [if_pos c3] at h
      refine lv_ldc2 hx hb hown ht3 dX1_shut_20 ?_
      obtain rfl := Option.some.inj h
      exact W.lret hx hb hr (fun t ht _ => ⟨rfl, ht⟩) (fun _ h9 => absurd h9 List.not_mem_nil) dX1_shut_23
def f_X1_geared (ro : Int32) (X : Nat → Nat → Int32) (Y : Nat → Nat → Int32) (N : Nat → Int32) (a1 : Int32) (a2 : Int32) (a3 : Int32) : Option Int64 :=
  if bin a1 6 = true then
  (ov (X a1.toNatClampNeg) fun xs =>
  ov (Y a1.toNatClampNeg) fun ys =>
  ov (N a1.toNatClampNeg) fun n =>
  (f_X1_from1To a2 (3 : Int32)).bind fun r1 =>
  if r1 = (0) then
  (some (-1000000000000000002 : Int64))
  else
  ((f_X1_zeroOrOne a3).bind fun r3 =>
  if r3 = (0) then
  (some (-1000000000000000002 : Int64))
  else
  ((f_X1_goesRound ro ys n).bind fun r5 =>
  if r5 = (0) then
  (some (-1000000000000000003 : Int64))
  else
  ((f_X1_gearedRound ro xs ys n a2 a3).bind fun r7 =>
  some r7))))
  else
  (some (-1000000000000000001 : Int64))
set_option maxHeartbeats 4000000 in
set_option maxRecDepth 100000 in
theorem k_X1_geared (l : Launch) (D : va_G) (cI cF : ClassId) (o qf : Nat) (g gx gy : Nat → Nat) (ro rn tn fx fy ar wh : Int32) (X Y : Nat → Nat → Int32) (N : Nat → Int32) (a1 : Int32) (a2 : Int32) (a3 : Int32) (r0 : Int64) (h : f_X1_geared ro X Y N a1 a2 a3 = some r0) : Met l yX1_geared wsX1_geared ({ frames := 3, cells := 0, slots := 0, locals := 85 }) (va_Pc [.ref o, .int a1, .int a2, .int a3] (fun U => wO D cI cF o qf g gx gy ro rn tn fx fy ar wh X Y N U)) (qS (.long r0)) 0 0 (fun _ => False) := by
  refine Met.ofW (cc := cX1_geared) (maxL := 5) (ret := (some .long)) (by decide) rfl ?_
  intro p e s m args below meth c s₁ B hml hv
  obtain ⟨rfl, hK, hnw, hO⟩ := hv
  have hP := hO.1
  have hx := B.exec
  have hb := B.bytes
  have hr := B.returns
  have hts := atoms_spec (ws := wsX1_geared) B.pre
  have hown : s.vm.findClass RX1 = some m.cls := findClass_of_methodNamed B.named
  have hlocks := B.notSynchronized
  have ht1 := hts (.constantLong RX1 110 (-1000000000000000002)) (by decide +kernel)
  have ht2 := hts (.constantLong RX1 84 (-1000000000000000003)) (by decide +kernel)
  have ht3 := hts (.constantLong RX1 78 (-1000000000000000001)) (by decide +kernel)
  have hnst : nst.before _ s = true := hnw.use (A := [.ref o, .int a1, .int a2, .int a3].toArray) rfl
  have hl := lv_entry ([.ref o, .int a1, .int a2, .int a3]) (n := 5) (Nat.le_of_ble_eq_true rfl)
  rw [lg_entry_eq]
  generalize (lg_sl ([.ref o, .int a1, .int a2, .int a3]) ++ List.replicate (5 - (lg_sl ([.ref o, .int a1, .int a2, .int a3])).length) Slot.unset).toArray = ls at hl ⊢
  have hl : lv_has ls 5 [(0, .ref o), (1, .int a1), (2, .int a2), (3, .int a3)] := hl
  unfold f_X1_geared at h
  refine lv_aload_n hx hb dX1_geared_0 rfl (lv_at hl 0 rfl) ?_
  refine lv_iload_n hx hb dX1_geared_1 rfl (lv_at hl 1 rfl) ?_
  by_cases cf1 : bin a1 6 = true
  · rw [if_pos cf1] at h
    have hkn1 := bin_lt cf1
    refine cp_s (va_runV (As := [.int a1]) (rest := []) ⟨hx, hb, hml, hown, hts⟩ (k_X1_find_some l D cI cF o qf g ro rn tn fx fy ar wh a1 cf1) (cwV 1 hts gX1_geared_X1_find rfl rfl rfl (by decide +kernel) ⟨(Nat.le_of_ble_eq_true rfl), (Nat.le_of_ble_eq_true rfl)⟩) (pre_n (q0 := 0) (ci := 1) hK hnw hO.1 rfl rfl) rfl rfl hl.1 rfl (lv_room (Nat.le_of_ble_eq_true rfl)) dX1_geared_2 ⟨(Nat.zero_le _), (Nat.zero_le _)⟩) ?_
    obtain ⟨q, eq⟩ : ∃ y, y = g a1.toNatClampNeg := ⟨_, rfl⟩
    obtain ⟨qx, eqx⟩ : ∃ y, y = gx a1.toNatClampNeg := ⟨_, rfl⟩
    obtain ⟨qy, eqy⟩ : ∃ y, y = gy a1.toNatClampNeg := ⟨_, rfl⟩
    rw [← eq]
    obtain ⟨xs, exs⟩ : ∃ y, y = X a1.toNatClampNeg := ⟨_, rfl⟩
    have h := og_ov h exs
    obtain ⟨ys, eys⟩ : ∃ y, y = Y a1.toNatClampNeg := ⟨_, rfl⟩
    have h := og_ov h eys
    obtain ⟨n, en⟩ : ∃ y, y = N a1.toNatClampNeg := ⟨_, rfl⟩
    have h := og_ov h en
    have hPf := hO.2 _ hkn1
    rw [← eq, ← eqx, ← eqy, ← exs, ← eys, ← en] at hPf
    have hP : va_P D vwCl (drfW cI cF o qf g ro rn tn fx fy ar wh q qx qy xs ys n) s.heap := va_P.app hP hPf
    refine lv_astore (lv' := [(4, .ref q), (0, .ref o), (1, .int a1), (2, .int a2), (3, .int a3)]) hx hb dX1_geared_5 hl (by decide) rfl (fun ls hl => ?_)
    refine lv_aload hx hb dX1_geared_7 (lv_at hl 0 rfl) ?_
    refine lv_ifnonnull (tgt := 16) hx hb dX1_geared_9 (by decide) ?_
    refine lv_iload_n hx hb dX1_geared_16 rfl (lv_at hl 3 rfl) ?_
    refine lv_iconst (v := 3) hx hb dX1_geared_17 (by decide) ?_
    obtain ⟨r1, hcr1, h⟩ := og_bind h
    refine cp_s (va_runS (As := [.int a2, .int (3 : Int32)]) (rest := []) ⟨hx, hb, hml, hown, hts⟩ (k_X1_from1To l a2 (3 : Int32) _ hcr1) (va_cwS 2 hts gX1_geared_X1_from1To rfl rfl rfl (by decide +kernel) ⟨(Nat.le_of_ble_eq_true rfl), (Nat.le_of_ble_eq_true rfl)⟩) pre_s rfl rfl hl.1 rfl (lv_room (Nat.le_of_ble_eq_true rfl)) dX1_geared_18 ⟨(Nat.zero_le _), (Nat.zero_le _)⟩) ?_
    refine lv_if_eq (tgt := 31) hx hb dX1_geared_21 (by decide) (fun c1 => ?_) (fun c1 => ?_)
    · rw [if_pos c1] at h
      refine lv_ldc2 hx hb hown ht1 dX1_geared_31 ?_
      obtain rfl := Option.some.inj h
      exact W.lret hx hb hr (fun t ht _ => ⟨rfl, ht⟩) (fun _ h9 => absurd h9 List.not_mem_nil) dX1_geared_34
    · rw [if_neg c1] at h
      refine lv_iload_n hx hb dX1_geared_24 rfl (lv_at hl 4 rfl) ?_
      obtain ⟨r3, hcr3, h⟩ := og_bind h
      refine cp_s (va_runS (As := [.int a3]) (rest := []) ⟨hx, hb, hml, hown, hts⟩ (k_X1_zeroOrOne l a3 _ hcr3) (va_cwS 1 hts gX1_geared_X1_zeroOrOne rfl rfl rfl (by decide +kernel) ⟨(Nat.le_of_ble_eq_true rfl), (Nat.le_of_ble_eq_true rfl)⟩) pre_s rfl rfl hl.1 rfl (lv_room (Nat.le_of_ble_eq_true rfl)) dX1_geared_25 ⟨(Nat.zero_le _), (Nat.zero_le _)⟩) ?_
      refine lv_if_ne (tgt := 35) hx hb dX1_geared_28 (by decide) (fun c3 => ?_) (fun c3 => ?_)
      · rw [if_neg c3] at h
        refine lv_aload_n hx hb dX1_geared_35 rfl (lv_at hl 1 rfl) ?_
        refine lv_aload hx hb dX1_geared_36 (lv_at hl 0 rfl) ?_
        obtain ⟨r5, hcr5, h⟩ := og_bind h
        refine cp_s (va_runV (As := [.ref q]) (rest := []) ⟨hx, hb, hml, hown, hts⟩ (k_X1_goesRound l D cI cF o qf g ro rn tn fx fy ar wh q qx qy xs ys n _ hcr5) (cwV 1 hts gX1_geared_X1_goesRound rfl rfl rfl (by decide +kernel) ⟨(Nat.le_of_ble_eq_true rfl), (Nat.le_of_ble_eq_true rfl)⟩) (pre_n (q0 := 0) (ci := 1) hK hnw hP rfl rfl) rfl rfl hl.1 rfl (lv_room (Nat.le_of_ble_eq_true rfl)) dX1_geared_38 ⟨(Nat.zero_le _), (Nat.zero_le _)⟩) ?_
        refine lv_if_ne (tgt := 48) hx hb dX1_geared_41 (by decide) (fun c5 => ?_) (fun c5 => ?_)
        · rw [if_neg c5] at h
          refine lv_aload_n hx hb dX1_geared_48 rfl (lv_at hl 1 rfl) ?_
          refine lv_aload hx hb dX1_geared_49 (lv_at hl 0 rfl) ?_
          refine lv_iload_n hx hb dX1_geared_51 rfl (lv_at hl 3 rfl) ?_
          refine lv_iload_n hx hb dX1_geared_52 rfl (lv_at hl 4 rfl) ?_
          obtain ⟨r7, hcr7, h⟩ := og_bind h
          refine cp_s (va_runV (As := [.ref q, .int a2, .int a3]) (rest := []) ⟨hx, hb, hml, hown, hts⟩ (k_X1_gearedRound l D cI cF o qf g ro rn tn fx fy ar wh q qx qy xs ys n a2 a3 _ hcr7) (cwV 3 hts gX1_geared_X1_gearedRound rfl rfl rfl (by decide +kernel) ⟨(Nat.le_of_ble_eq_true rfl), (Nat.le_of_ble_eq_true rfl)⟩) (pre_n (q0 := 0) (ci := 1) hK hnw hP rfl rfl) rfl rfl hl.1 rfl (lv_room (Nat.le_of_ble_eq_true rfl)) dX1_geared_53 ⟨(Nat.zero_le _), (Nat.zero_le _)⟩) ?_
          obtain rfl := Option.some.inj h
          exact W.lret hx hb hr (fun t ht _ => ⟨rfl, ht⟩) (fun _ h9 => absurd h9 List.not_mem_nil) dX1_geared_56
        · rw [if_pos c5] at h
          refine lv_ldc2 hx hb hown ht2 dX1_geared_44 ?_
          obtain rfl := Option.some.inj h
          exact W.lret hx hb hr (fun t ht _ => ⟨rfl, ht⟩) (fun _ h9 => absurd h9 List.not_mem_nil) dX1_geared_47
      · rw [if_pos c3] at h
        refine lv_ldc2 hx hb hown ht1 dX1_geared_31 ?_
        obtain rfl := Option.some.inj h
        exact W.lret hx hb hr (fun t ht _ => ⟨rfl, ht⟩) (fun _ h9 => absurd h9 List.not_mem_nil) dX1_geared_34
  · rw [if_neg cf1] at h
    refine cp_s (va_runV (As := [.int a1]) (rest := []) ⟨hx, hb, hml, hown, hts⟩ (k_X1_find_none l D cI cF o qf g ro rn tn fx fy ar wh a1 cf1) (cwV 1 hts gX1_geared_X1_find rfl rfl rfl (by decide +kernel) ⟨(Nat.le_of_ble_eq_true rfl), (Nat.le_of_ble_eq_true rfl)⟩) (pre_n (q0 := 0) (ci := 1) hK hnw hO.1 rfl rfl) rfl rfl hl.1 rfl (lv_room (Nat.le_of_ble_eq_true rfl)) dX1_geared_2 ⟨(Nat.zero_le _), (Nat.zero_le _)⟩) ?_
    refine lv_astoreN (lv' := [(4, .null), (0, .ref o), (1, .int a1), (2, .int a2), (3, .int a3)]) hx hb dX1_geared_5 hl (by decide) rfl (fun ls hl => ?_)
    refine lv_aloadN hx hb dX1_geared_7 (lv_at hl 0 rfl) ?_
    refine lv_ifnonnullN hx hb dX1_geared_9 ?_
    refine lv_ldc2 hx hb hown ht3 dX1_geared_12 ?_
    obtain rfl := Option.some.inj h
    exact W.lret hx hb hr (fun t ht _ => ⟨rfl, ht⟩) (fun _ h9 => absurd h9 List.not_mem_nil) dX1_geared_15
def f_X1_moment (X : Nat → Nat → Int32) (Y : Nat → Nat → Int32) (N : Nat → Int32) (a1 : Int32) (a2 : Int32) (a3 : Int32) : Option Int64 :=
  if bin a1 6 = true then
  (ov (X a1.toNatClampNeg) fun xs =>
  ov (Y a1.toNatClampNeg) fun ys =>
  ov (N a1.toNatClampNeg) fun n =>
  (f_X1_from0To a2 (2 : Int32)).bind fun r1 =>
  if r1 = (0) then
  (some (-1000000000000000002 : Int64))
  else
  ((f_X1_zeroOrOne a3).bind fun r3 =>
  if r3 = (0) then
  (some (-1000000000000000002 : Int64))
  else
  ((f_X0_closed n).bind fun r5 =>
  if r5 = (0) then
  (some (-1000000000000000003 : Int64))
  else
  ((f_X0_alongX xs ys n (a2 + (1 : Int32)) n).bind fun r7 =>
  (f_X1_fraction (-r7) (((a2.toInt64) + (2 : Int64)) * ((a2.toInt64) + (1 : Int64))) a3).bind fun r8 =>
  some r8))))
  else
  (some (-1000000000000000001 : Int64))
set_option maxHeartbeats 4000000 in
set_option maxRecDepth 100000 in
theorem k_X1_moment (l : Launch) (D : va_G) (cI cF : ClassId) (o qf : Nat) (g gx gy : Nat → Nat) (ro rn tn fx fy ar wh : Int32) (X Y : Nat → Nat → Int32) (N : Nat → Int32) (a1 : Int32) (a2 : Int32) (a3 : Int32) (r0 : Int64) (h : f_X1_moment X Y N a1 a2 a3 = some r0) : Met l yX1_moment wsX1_moment ({ frames := 2, cells := 0, slots := 0, locals := 56 }) (va_Pc [.ref o, .int a1, .int a2, .int a3] (fun U => wO D cI cF o qf g gx gy ro rn tn fx fy ar wh X Y N U)) (qS (.long r0)) 0 0 (fun _ => False) := by
  refine Met.ofW (cc := cX1_moment) (maxL := 5) (ret := (some .long)) (by decide) rfl ?_
  intro p e s m args below meth c s₁ B hml hv
  obtain ⟨rfl, hK, hnw, hO⟩ := hv
  have hP := hO.1
  have hx := B.exec
  have hb := B.bytes
  have hr := B.returns
  have hts := atoms_spec (ws := wsX1_moment) B.pre
  have hown : s.vm.findClass RX1 = some m.cls := findClass_of_methodNamed B.named
  have hlocks := B.notSynchronized
  have ht1 := hts (.constantLong RX1 110 (-1000000000000000002)) (by decide +kernel)
  have hinX0 : ∀ w ∈ u_ws RX0 TX0 3, w ∈ wsX1_moment := by decide +kernel
  have ht3 := hts (.constantLong RX1 120 (2)) (by decide +kernel)
  have ht4 := hts (.constantLong RX1 84 (-1000000000000000003)) (by decide +kernel)
  have ht5 := hts (.constantLong RX1 78 (-1000000000000000001)) (by decide +kernel)
  have hnst : nst.before _ s = true := hnw.use (A := [.ref o, .int a1, .int a2, .int a3].toArray) rfl
  have hl := lv_entry ([.ref o, .int a1, .int a2, .int a3]) (n := 5) (Nat.le_of_ble_eq_true rfl)
  rw [lg_entry_eq]
  generalize (lg_sl ([.ref o, .int a1, .int a2, .int a3]) ++ List.replicate (5 - (lg_sl ([.ref o, .int a1, .int a2, .int a3])).length) Slot.unset).toArray = ls at hl ⊢
  have hl : lv_has ls 5 [(0, .ref o), (1, .int a1), (2, .int a2), (3, .int a3)] := hl
  unfold f_X1_moment at h
  refine lv_aload_n hx hb dX1_moment_0 rfl (lv_at hl 0 rfl) ?_
  refine lv_iload_n hx hb dX1_moment_1 rfl (lv_at hl 1 rfl) ?_
  by_cases cf1 : bin a1 6 = true
  · rw [if_pos cf1] at h
    have hkn1 := bin_lt cf1
    refine cp_s (va_runV (As := [.int a1]) (rest := []) ⟨hx, hb, hml, hown, hts⟩ (k_X1_find_some l D cI cF o qf g ro rn tn fx fy ar wh a1 cf1) (cwV 1 hts gX1_moment_X1_find rfl rfl rfl (by decide +kernel) ⟨(Nat.le_of_ble_eq_true rfl), (Nat.le_of_ble_eq_true rfl)⟩) (pre_n (q0 := 0) (ci := 1) hK hnw hO.1 rfl rfl) rfl rfl hl.1 rfl (lv_room (Nat.le_of_ble_eq_true rfl)) dX1_moment_2 ⟨(Nat.zero_le _), (Nat.zero_le _)⟩) ?_
    obtain ⟨q, eq⟩ : ∃ y, y = g a1.toNatClampNeg := ⟨_, rfl⟩
    obtain ⟨qx, eqx⟩ : ∃ y, y = gx a1.toNatClampNeg := ⟨_, rfl⟩
    obtain ⟨qy, eqy⟩ : ∃ y, y = gy a1.toNatClampNeg := ⟨_, rfl⟩
    rw [← eq]
    obtain ⟨xs, exs⟩ : ∃ y, y = X a1.toNatClampNeg := ⟨_, rfl⟩
    have h := og_ov h exs
    obtain ⟨ys, eys⟩ : ∃ y, y = Y a1.toNatClampNeg := ⟨_, rfl⟩
    have h := og_ov h eys
    obtain ⟨n, en⟩ : ∃ y, y = N a1.toNatClampNeg := ⟨_, rfl⟩
    have h := og_ov h en
    have hPf := hO.2 _ hkn1
    rw [← eq, ← eqx, ← eqy, ← exs, ← eys, ← en] at hPf
    have hP : va_P D vwCl (drfW cI cF o qf g ro rn tn fx fy ar wh q qx qy xs ys n) s.heap := va_P.app hP hPf
    refine lv_astore (lv' := [(4, .ref q), (0, .ref o), (1, .int a1), (2, .int a2), (3, .int a3)]) hx hb dX1_moment_5 hl (by decide) rfl (fun ls hl => ?_)
    refine lv_aload hx hb dX1_moment_7 (lv_at hl 0 rfl) ?_
    refine lv_ifnonnull (tgt := 16) hx hb dX1_moment_9 (by decide) ?_
    refine lv_iload_n hx hb dX1_moment_16 rfl (lv_at hl 3 rfl) ?_
    refine lv_iconst (v := 2) hx hb dX1_moment_17 (by decide) ?_
    obtain ⟨r1, hcr1, h⟩ := og_bind h
    refine cp_s (va_runS (As := [.int a2, .int (2 : Int32)]) (rest := []) ⟨hx, hb, hml, hown, hts⟩ (k_X1_from0To l a2 (2 : Int32) _ hcr1) (va_cwS 2 hts gX1_moment_X1_from0To rfl rfl rfl (by decide +kernel) ⟨(Nat.le_of_ble_eq_true rfl), (Nat.le_of_ble_eq_true rfl)⟩) pre_s rfl rfl hl.1 rfl (lv_room (Nat.le_of_ble_eq_true rfl)) dX1_moment_18 ⟨(Nat.zero_le _), (Nat.zero_le _)⟩) ?_
    refine lv_if_eq (tgt := 31) hx hb dX1_moment_21 (by decide) (fun c1 => ?_) (fun c1 => ?_)
    · rw [if_pos c1] at h
      refine lv_ldc2 hx hb hown ht1 dX1_moment_31 ?_
      obtain rfl := Option.some.inj h
      exact W.lret hx hb hr (fun t ht _ => ⟨rfl, ht⟩) (fun _ h9 => absurd h9 List.not_mem_nil) dX1_moment_34
    · rw [if_neg c1] at h
      refine lv_iload_n hx hb dX1_moment_24 rfl (lv_at hl 4 rfl) ?_
      obtain ⟨r3, hcr3, h⟩ := og_bind h
      refine cp_s (va_runS (As := [.int a3]) (rest := []) ⟨hx, hb, hml, hown, hts⟩ (k_X1_zeroOrOne l a3 _ hcr3) (va_cwS 1 hts gX1_moment_X1_zeroOrOne rfl rfl rfl (by decide +kernel) ⟨(Nat.le_of_ble_eq_true rfl), (Nat.le_of_ble_eq_true rfl)⟩) pre_s rfl rfl hl.1 rfl (lv_room (Nat.le_of_ble_eq_true rfl)) dX1_moment_25 ⟨(Nat.zero_le _), (Nat.zero_le _)⟩) ?_
      refine lv_if_ne (tgt := 35) hx hb dX1_moment_28 (by decide) (fun c3 => ?_) (fun c3 => ?_)
      · rw [if_neg c3] at h
        refine lv_aload hx hb dX1_moment_35 (lv_at hl 0 rfl) ?_
        have hPc := hP.sub (ws' := figW cI q qx qy xs ys n) [2, 3, 4] rfl
        obtain ⟨r5, hcr5, h⟩ := og_bind h
        refine cp_s (va_runV (As := []) (rest := []) ⟨hx, hb, hml, hown, hts⟩ (k_X0_closed l D cI cF q qx qy xs ys n _ hcr5) (cwV 0 hts gX1_moment_X0_closed rfl rfl rfl (by decide +kernel) ⟨(Nat.le_of_ble_eq_true rfl), (Nat.le_of_ble_eq_true rfl)⟩) (pre_v (q0 := 0) (ci := 0) hK hPc rfl rfl) rfl rfl hl.1 rfl (lv_room (Nat.le_of_ble_eq_true rfl)) dX1_moment_37 ⟨(Nat.zero_le _), (Nat.zero_le _)⟩) ?_
        refine lv_if_ne (tgt := 47) hx hb dX1_moment_40 (by decide) (fun c5 => ?_) (fun c5 => ?_)
        · rw [if_neg c5] at h
          refine lv_aload hx hb dX1_moment_47 (lv_at hl 0 rfl) ?_
          refine lv_iload_n hx hb dX1_moment_49 rfl (lv_at hl 3 rfl) ?_
          refine lv_iconst (v := 1) hx hb dX1_moment_50 (by decide) ?_
          refine lv_iadd hx hb dX1_moment_51 ?_
          refine lv_aload hx hb dX1_moment_52 (lv_at hl 0 rfl) ?_
          refine va_getN (D := D) (ci := 0) (v := .int n) (C := RX0) (T := TX0) (N := 3) hx hb hts hinX0 hown hK hP 2 rfl rfl 2 (by decide) hnst (fun _ h9 => h9) rfl dX1_moment_54 ?_
          have hPc := hP.sub (ws' := figW cI q qx qy xs ys n) [2, 3, 4] rfl
          obtain ⟨r7, hcr7, h⟩ := og_bind h
          refine cp_s (va_runV (As := [.int (a2 + (1 : Int32)), .int n]) (rest := []) ⟨hx, hb, hml, hown, hts⟩ (k_X0_alongX l D cI cF q qx qy xs ys n (a2 + (1 : Int32)) n _ hcr7) (cwV 2 hts gX1_moment_X0_alongX rfl rfl rfl (by decide +kernel) ⟨(Nat.le_of_ble_eq_true rfl), (Nat.le_of_ble_eq_true rfl)⟩) (pre_v (q0 := 0) (ci := 0) hK hPc rfl rfl) rfl rfl hl.1 rfl (lv_room (Nat.le_of_ble_eq_true rfl)) dX1_moment_57 ⟨(Nat.zero_le _), (Nat.zero_le _)⟩) ?_
          refine lv_lneg hx hb dX1_moment_60 ?_
          refine lv_iload_n hx hb dX1_moment_61 rfl (lv_at hl 3 rfl) ?_
          refine lv_i2l hx hb dX1_moment_62 rfl ?_
          refine lv_ldc2 hx hb hown ht3 dX1_moment_63 ?_
          refine lv_ladd hx hb dX1_moment_66 ?_
          refine lv_iload_n hx hb dX1_moment_67 rfl (lv_at hl 3 rfl) ?_
          refine lv_i2l hx hb dX1_moment_68 rfl ?_
          refine lv_lconst (v := 1) hx hb dX1_moment_69 (by decide) ?_
          refine lv_ladd hx hb dX1_moment_70 ?_
          refine lv_lmul hx hb dX1_moment_71 ?_
          refine lv_iload_n hx hb dX1_moment_72 rfl (lv_at hl 4 rfl) ?_
          obtain ⟨r8, hcr8, h⟩ := og_bind h
          refine cp_s (va_runS (As := [.long (-r7), .long (((a2.toInt64) + (2 : Int64)) * ((a2.toInt64) + (1 : Int64))), .int a3]) (rest := []) ⟨hx, hb, hml, hown, hts⟩ (k_X1_fraction l (-r7) (((a2.toInt64) + (2 : Int64)) * ((a2.toInt64) + (1 : Int64))) a3 _ hcr8) (va_cwS 3 hts gX1_moment_X1_fraction rfl rfl rfl (by decide +kernel) ⟨(Nat.le_of_ble_eq_true rfl), (Nat.le_of_ble_eq_true rfl)⟩) pre_s rfl rfl hl.1 rfl (lv_room (Nat.le_of_ble_eq_true rfl)) dX1_moment_73 ⟨(Nat.zero_le _), (Nat.zero_le _)⟩) ?_
          obtain rfl := Option.some.inj h
          exact W.lret hx hb hr (fun t ht _ => ⟨rfl, ht⟩) (fun _ h9 => absurd h9 List.not_mem_nil) dX1_moment_76
        · rw [if_pos c5] at h
          refine lv_ldc2 hx hb hown ht4 dX1_moment_43 ?_
          obtain rfl := Option.some.inj h
          exact W.lret hx hb hr (fun t ht _ => ⟨rfl, ht⟩) (fun _ h9 => absurd h9 List.not_mem_nil) dX1_moment_46
      · rw [if_pos c3] at h
        refine lv_ldc2 hx hb hown ht1 dX1_moment_31 ?_
        obtain rfl := Option.some.inj h
        exact W.lret hx hb hr (fun t ht _ => ⟨rfl, ht⟩) (fun _ h9 => absurd h9 List.not_mem_nil) dX1_moment_34
  · rw [if_neg cf1] at h
    refine cp_s (va_runV (As := [.int a1]) (rest := []) ⟨hx, hb, hml, hown, hts⟩ (k_X1_find_none l D cI cF o qf g ro rn tn fx fy ar wh a1 cf1) (cwV 1 hts gX1_moment_X1_find rfl rfl rfl (by decide +kernel) ⟨(Nat.le_of_ble_eq_true rfl), (Nat.le_of_ble_eq_true rfl)⟩) (pre_n (q0 := 0) (ci := 1) hK hnw hO.1 rfl rfl) rfl rfl hl.1 rfl (lv_room (Nat.le_of_ble_eq_true rfl)) dX1_moment_2 ⟨(Nat.zero_le _), (Nat.zero_le _)⟩) ?_
    refine lv_astoreN (lv' := [(4, .null), (0, .ref o), (1, .int a1), (2, .int a2), (3, .int a3)]) hx hb dX1_moment_5 hl (by decide) rfl (fun ls hl => ?_)
    refine lv_aloadN hx hb dX1_moment_7 (lv_at hl 0 rfl) ?_
    refine lv_ifnonnullN hx hb dX1_moment_9 ?_
    refine lv_ldc2 hx hb hown ht5 dX1_moment_12 ?_
    obtain rfl := Option.some.inj h
    exact W.lret hx hb hr (fun t ht _ => ⟨rfl, ht⟩) (fun _ h9 => absurd h9 List.not_mem_nil) dX1_moment_15
def f_X1_ring (ro : Int32) (fx : Int32) (fy : Int32) (ar : Int32) (wh : Int32) (X : Nat → Nat → Int32) (Y : Nat → Nat → Int32) (N : Nat → Int32) (a1 : Int32) (a2 : Int32) : Option Int64 :=
  if bin a1 6 = true then
  (ov (X a1.toNatClampNeg) fun xs =>
  ov (Y a1.toNatClampNeg) fun ys =>
  ov (N a1.toNatClampNeg) fun n =>
  (f_X1_zeroOrOne a2).bind fun r1 =>
  if r1 = (0) then
  (some (-1000000000000000002 : Int64))
  else
  ((f_X0_closed n).bind fun r3 =>
  if r3 = (0) then
  (some (-1000000000000000003 : Int64))
  else
  ((f_X0_carries xs ys n fx fy).bind fun r5 =>
  if r5 = (0) then
  (if a2 = (0) then
  ((f_X1_withPi ro ar wh).bind fun r9 =>
  some r9)
  else
  ((f_X0_turnsRound xs ys n fx fy).bind fun r8 =>
  some (r8.toInt64)))
  else
  (some (-1000000000000000005 : Int64)))))
  else
  (some (-1000000000000000001 : Int64))
set_option maxHeartbeats 4000000 in
set_option maxRecDepth 100000 in
theorem k_X1_ring (l : Launch) (D : va_G) (cI cF : ClassId) (o qf : Nat) (g gx gy : Nat → Nat) (ro rn tn fx fy ar wh : Int32) (X Y : Nat → Nat → Int32) (N : Nat → Int32) (a1 : Int32) (a2 : Int32) (r0 : Int64) (h : f_X1_ring ro fx fy ar wh X Y N a1 a2 = some r0) : Met l yX1_ring wsX1_ring ({ frames := 4, cells := 0, slots := 0, locals := 94 }) (va_Pc [.ref o, .int a1, .int a2] (fun U => wO D cI cF o qf g gx gy ro rn tn fx fy ar wh X Y N U)) (qS (.long r0)) 0 0 (fun _ => False) := by
  refine Met.ofW (cc := cX1_ring) (maxL := 4) (ret := (some .long)) (by decide) rfl ?_
  intro p e s m args below meth c s₁ B hml hv
  obtain ⟨rfl, hK, hnw, hO⟩ := hv
  have hP := hO.1
  have hx := B.exec
  have hb := B.bytes
  have hr := B.returns
  have hts := atoms_spec (ws := wsX1_ring) B.pre
  have hown : s.vm.findClass RX1 = some m.cls := findClass_of_methodNamed B.named
  have hlocks := B.notSynchronized
  have ht1 := hts (.fieldLink RX1 26 "DrawnAreas" "footX" "I") (by decide +kernel)
  have hinX1 : ∀ w ∈ u_ws RX1 TX1 8, w ∈ wsX1_ring := by decide +kernel
  have ht3 := hts (.fieldLink RX1 29 "DrawnAreas" "footY" "I") (by decide +kernel)
  have ht4 := hts (.constantLong RX1 144 (-1000000000000000005)) (by decide +kernel)
  have ht5 := hts (.constantLong RX1 84 (-1000000000000000003)) (by decide +kernel)
  have ht6 := hts (.constantLong RX1 110 (-1000000000000000002)) (by decide +kernel)
  have ht7 := hts (.constantLong RX1 78 (-1000000000000000001)) (by decide +kernel)
  have hnst : nst.before _ s = true := hnw.use (A := [.ref o, .int a1, .int a2].toArray) rfl
  have hl := lv_entry ([.ref o, .int a1, .int a2]) (n := 4) (Nat.le_of_ble_eq_true rfl)
  rw [lg_entry_eq]
  generalize (lg_sl ([.ref o, .int a1, .int a2]) ++ List.replicate (4 - (lg_sl ([.ref o, .int a1, .int a2])).length) Slot.unset).toArray = ls at hl ⊢
  have hl : lv_has ls 4 [(0, .ref o), (1, .int a1), (2, .int a2)] := hl
  unfold f_X1_ring at h
  refine lv_aload_n hx hb dX1_ring_0 rfl (lv_at hl 0 rfl) ?_
  refine lv_iload_n hx hb dX1_ring_1 rfl (lv_at hl 1 rfl) ?_
  by_cases cf1 : bin a1 6 = true
  · rw [if_pos cf1] at h
    have hkn1 := bin_lt cf1
    refine cp_s (va_runV (As := [.int a1]) (rest := []) ⟨hx, hb, hml, hown, hts⟩ (k_X1_find_some l D cI cF o qf g ro rn tn fx fy ar wh a1 cf1) (cwV 1 hts gX1_ring_X1_find rfl rfl rfl (by decide +kernel) ⟨(Nat.le_of_ble_eq_true rfl), (Nat.le_of_ble_eq_true rfl)⟩) (pre_n (q0 := 0) (ci := 1) hK hnw hO.1 rfl rfl) rfl rfl hl.1 rfl (lv_room (Nat.le_of_ble_eq_true rfl)) dX1_ring_2 ⟨(Nat.zero_le _), (Nat.zero_le _)⟩) ?_
    obtain ⟨q, eq⟩ : ∃ y, y = g a1.toNatClampNeg := ⟨_, rfl⟩
    obtain ⟨qx, eqx⟩ : ∃ y, y = gx a1.toNatClampNeg := ⟨_, rfl⟩
    obtain ⟨qy, eqy⟩ : ∃ y, y = gy a1.toNatClampNeg := ⟨_, rfl⟩
    rw [← eq]
    obtain ⟨xs, exs⟩ : ∃ y, y = X a1.toNatClampNeg := ⟨_, rfl⟩
    have h := og_ov h exs
    obtain ⟨ys, eys⟩ : ∃ y, y = Y a1.toNatClampNeg := ⟨_, rfl⟩
    have h := og_ov h eys
    obtain ⟨n, en⟩ : ∃ y, y = N a1.toNatClampNeg := ⟨_, rfl⟩
    have h := og_ov h en
    have hPf := hO.2 _ hkn1
    rw [← eq, ← eqx, ← eqy, ← exs, ← eys, ← en] at hPf
    have hP : va_P D vwCl (drfW cI cF o qf g ro rn tn fx fy ar wh q qx qy xs ys n) s.heap := va_P.app hP hPf
    refine lv_astore_n (lv' := [(3, .ref q), (0, .ref o), (1, .int a1), (2, .int a2)]) hx hb dX1_ring_5 rfl hl (by decide) rfl (fun ls hl => ?_)
    refine lv_aload_n hx hb dX1_ring_6 rfl (lv_at hl 0 rfl) ?_
    refine lv_ifnonnull (tgt := 14) hx hb dX1_ring_7 (by decide) ?_
    refine lv_iload_n hx hb dX1_ring_14 rfl (lv_at hl 3 rfl) ?_
    obtain ⟨r1, hcr1, h⟩ := og_bind h
    refine cp_s (va_runS (As := [.int a2]) (rest := []) ⟨hx, hb, hml, hown, hts⟩ (k_X1_zeroOrOne l a2 _ hcr1) (va_cwS 1 hts gX1_ring_X1_zeroOrOne rfl rfl rfl (by decide +kernel) ⟨(Nat.le_of_ble_eq_true rfl), (Nat.le_of_ble_eq_true rfl)⟩) pre_s rfl rfl hl.1 rfl (lv_room (Nat.le_of_ble_eq_true rfl)) dX1_ring_15 ⟨(Nat.zero_le _), (Nat.zero_le _)⟩) ?_
    refine lv_if_ne (tgt := 25) hx hb dX1_ring_18 (by decide) (fun c1 => ?_) (fun c1 => ?_)
    · rw [if_neg c1] at h
      refine lv_aload_n hx hb dX1_ring_25 rfl (lv_at hl 0 rfl) ?_
      have hPc := hP.sub (ws' := figW cI q qx qy xs ys n) [2, 3, 4] rfl
      obtain ⟨r3, hcr3, h⟩ := og_bind h
      refine cp_s (va_runV (As := []) (rest := []) ⟨hx, hb, hml, hown, hts⟩ (k_X0_closed l D cI cF q qx qy xs ys n _ hcr3) (cwV 0 hts gX1_ring_X0_closed rfl rfl rfl (by decide +kernel) ⟨(Nat.le_of_ble_eq_true rfl), (Nat.le_of_ble_eq_true rfl)⟩) (pre_v (q0 := 0) (ci := 0) hK hPc rfl rfl) rfl rfl hl.1 rfl (lv_room (Nat.le_of_ble_eq_true rfl)) dX1_ring_26 ⟨(Nat.zero_le _), (Nat.zero_le _)⟩) ?_
      refine lv_if_ne (tgt := 36) hx hb dX1_ring_29 (by decide) (fun c3 => ?_) (fun c3 => ?_)
      · rw [if_neg c3] at h
        refine lv_aload_n hx hb dX1_ring_36 rfl (lv_at hl 0 rfl) ?_
        refine lv_aload_n hx hb dX1_ring_37 rfl (lv_at hl 1 rfl) ?_
        refine va_get (D := D) (ci := 1) (v := .int fx) (C := RX1) (T := TX1) (N := 8) hx hb hts hinX1 hown hK hP 0 rfl rfl 4 (by decide) ht1 (fun _ h9 => h9) rfl dX1_ring_38 ?_
        refine lv_aload_n hx hb dX1_ring_41 rfl (lv_at hl 1 rfl) ?_
        refine va_get (D := D) (ci := 1) (v := .int fy) (C := RX1) (T := TX1) (N := 8) hx hb hts hinX1 hown hK hP 0 rfl rfl 5 (by decide) ht3 (fun _ h9 => h9) rfl dX1_ring_42 ?_
        have hPc := hP.sub (ws' := figW cI q qx qy xs ys n) [2, 3, 4] rfl
        obtain ⟨r5, hcr5, h⟩ := og_bind h
        refine cp_s (va_runV (As := [.int fx, .int fy]) (rest := []) ⟨hx, hb, hml, hown, hts⟩ (k_X0_carries l D cI cF q qx qy xs ys n fx fy _ hcr5) (cwV 2 hts gX1_ring_X0_carries rfl rfl rfl (by decide +kernel) ⟨(Nat.le_of_ble_eq_true rfl), (Nat.le_of_ble_eq_true rfl)⟩) (pre_v (q0 := 0) (ci := 0) hK hPc rfl rfl) rfl rfl hl.1 rfl (lv_room (Nat.le_of_ble_eq_true rfl)) dX1_ring_45 ⟨(Nat.zero_le _), (Nat.zero_le _)⟩) ?_
        refine lv_if_eq (tgt := 55) hx hb dX1_ring_48 (by decide) (fun c5 => ?_) (fun c5 => ?_)
        · rw [if_pos c5] at h
          refine lv_iload_n hx hb dX1_ring_55 rfl (lv_at hl 3 rfl) ?_
          refine lv_if_ne (tgt := 66) hx hb dX1_ring_56 (by decide) (fun c6 => ?_) (fun c6 => ?_)
          · rw [if_neg c6] at h
            refine lv_aload_n hx hb dX1_ring_66 rfl (lv_at hl 0 rfl) ?_
            refine lv_aload_n hx hb dX1_ring_67 rfl (lv_at hl 1 rfl) ?_
            refine va_get (D := D) (ci := 1) (v := .int fx) (C := RX1) (T := TX1) (N := 8) hx hb hts hinX1 hown hK hP 0 rfl rfl 4 (by decide) ht1 (fun _ h9 => h9) rfl dX1_ring_68 ?_
            refine lv_aload_n hx hb dX1_ring_71 rfl (lv_at hl 1 rfl) ?_
            refine va_get (D := D) (ci := 1) (v := .int fy) (C := RX1) (T := TX1) (N := 8) hx hb hts hinX1 hown hK hP 0 rfl rfl 5 (by decide) ht3 (fun _ h9 => h9) rfl dX1_ring_72 ?_
            have hPc := hP.sub (ws' := figW cI q qx qy xs ys n) [2, 3, 4] rfl
            obtain ⟨r8, hcr8, h⟩ := og_bind h
            refine cp_s (va_runV (As := [.int fx, .int fy]) (rest := []) ⟨hx, hb, hml, hown, hts⟩ (k_X0_turnsRound l D cI cF q qx qy xs ys n fx fy _ hcr8) (cwV 2 hts gX1_ring_X0_turnsRound rfl rfl rfl (by decide +kernel) ⟨(Nat.le_of_ble_eq_true rfl), (Nat.le_of_ble_eq_true rfl)⟩) (pre_v (q0 := 0) (ci := 0) hK hPc rfl rfl) rfl rfl hl.1 rfl (lv_room (Nat.le_of_ble_eq_true rfl)) dX1_ring_75 ⟨(Nat.zero_le _), (Nat.zero_le _)⟩) ?_
            refine lv_i2l hx hb dX1_ring_78 rfl ?_
            obtain rfl := Option.some.inj h
            exact W.lret hx hb hr (fun t ht _ => ⟨rfl, ht⟩) (fun _ h9 => absurd h9 List.not_mem_nil) dX1_ring_79
          · rw [if_pos c6] at h
            refine lv_aload_n hx hb dX1_ring_59 rfl (lv_at hl 1 rfl) ?_
            have hPc := hP.sub (ws' := drW cF o qf g ro rn tn fx fy ar wh) [0, 1] rfl
            obtain ⟨r9, hcr9, h⟩ := og_bind h
            refine cp_s (va_runV (As := []) (rest := []) ⟨hx, hb, hml, hown, hts⟩ (k_X1_withPi l D cI cF o qf g ro rn tn fx fy ar wh _ hcr9) (cwV 0 hts gX1_ring_X1_withPi rfl rfl rfl (by decide +kernel) ⟨(Nat.le_of_ble_eq_true rfl), (Nat.le_of_ble_eq_true rfl)⟩) (pre_n (q0 := 0) (ci := 1) hK hnw hPc rfl rfl) rfl rfl hl.1 rfl (lv_room (Nat.le_of_ble_eq_true rfl)) dX1_ring_60 ⟨(Nat.zero_le _), (Nat.zero_le _)⟩) ?_
            refine lv_goto (tgt := 79) hx hb dX1_ring_63 (by decide) ?_
            obtain rfl := Option.some.inj h
            exact W.lret hx hb hr (fun t ht _ => ⟨rfl, ht⟩) (fun _ h9 => absurd h9 List.not_mem_nil) dX1_ring_79
        · rw [if_neg c5] at h
          refine lv_ldc2 hx hb hown ht4 dX1_ring_51 ?_
          obtain rfl := Option.some.inj h
          exact W.lret hx hb hr (fun t ht _ => ⟨rfl, ht⟩) (fun _ h9 => absurd h9 List.not_mem_nil) dX1_ring_54
      · rw [if_pos c3] at h
        refine lv_ldc2 hx hb hown ht5 dX1_ring_32 ?_
        obtain rfl := Option.some.inj h
        exact W.lret hx hb hr (fun t ht _ => ⟨rfl, ht⟩) (fun _ h9 => absurd h9 List.not_mem_nil) dX1_ring_35
    · rw [if_pos c1] at h
      refine lv_ldc2 hx hb hown ht6 dX1_ring_21 ?_
      obtain rfl := Option.some.inj h
      exact W.lret hx hb hr (fun t ht _ => ⟨rfl, ht⟩) (fun _ h9 => absurd h9 List.not_mem_nil) dX1_ring_24
  · rw [if_neg cf1] at h
    refine cp_s (va_runV (As := [.int a1]) (rest := []) ⟨hx, hb, hml, hown, hts⟩ (k_X1_find_none l D cI cF o qf g ro rn tn fx fy ar wh a1 cf1) (cwV 1 hts gX1_ring_X1_find rfl rfl rfl (by decide +kernel) ⟨(Nat.le_of_ble_eq_true rfl), (Nat.le_of_ble_eq_true rfl)⟩) (pre_n (q0 := 0) (ci := 1) hK hnw hO.1 rfl rfl) rfl rfl hl.1 rfl (lv_room (Nat.le_of_ble_eq_true rfl)) dX1_ring_2 ⟨(Nat.zero_le _), (Nat.zero_le _)⟩) ?_
    refine lv_astore_nN (lv' := [(3, .null), (0, .ref o), (1, .int a1), (2, .int a2)]) hx hb dX1_ring_5 rfl hl (by decide) rfl (fun ls hl => ?_)
    refine lv_aload_nN hx hb dX1_ring_6 rfl (lv_at hl 0 rfl) ?_
    refine lv_ifnonnullN hx hb dX1_ring_7 ?_
    refine lv_ldc2 hx hb hown ht7 dX1_ring_10 ?_
    obtain rfl := Option.some.inj h
    exact W.lret hx hb hr (fun t ht _ => ⟨rfl, ht⟩) (fun _ h9 => absurd h9 List.not_mem_nil) dX1_ring_13
def f_X1_reaches (ro : Int32) (fx : Int32) (fy : Int32) (ar : Int32) (X : Nat → Nat → Int32) (Y : Nat → Nat → Int32) (N : Nat → Int32) (a1 : Int32) : Option Int32 :=
  if bin a1 6 = true then
  (ov (X a1.toNatClampNeg) fun xs =>
  ov (Y a1.toNatClampNeg) fun ys =>
  ov (N a1.toNatClampNeg) fun n =>
  (f_X0_closed n).bind fun r1 =>
  if r1 = (0) then
  (some (-3 : Int32))
  else
  ((f_X1_beyondFolded ro fx fy ar xs ys n).bind fun r3 =>
  if r3 = (0) then
  ((f_X1_oneIf (0 : Int32)).bind fun r5 =>
  some r5)
  else
  ((f_X1_withinStretched ro fx fy ar xs ys n).bind fun r6 =>
  if r6 = (0) then
  ((f_X1_oneIf (0 : Int32)).bind fun r8 =>
  some r8)
  else
  ((f_X1_oneIf (1 : Int32)).bind fun r9 =>
  some r9))))
  else
  (some (-1 : Int32))
set_option maxHeartbeats 4000000 in
set_option maxRecDepth 100000 in
theorem k_X1_reaches (l : Launch) (D : va_G) (cI cF : ClassId) (o qf : Nat) (g gx gy : Nat → Nat) (ro rn tn fx fy ar wh : Int32) (X Y : Nat → Nat → Int32) (N : Nat → Int32) (a1 : Int32) (r0 : Int32) (h : f_X1_reaches ro fx fy ar X Y N a1 = some r0) : Met l yX1_reaches wsX1_reaches ({ frames := 4, cells := 0, slots := 0, locals := 110 }) (va_Pc [.ref o, .int a1] (fun U => wO D cI cF o qf g gx gy ro rn tn fx fy ar wh X Y N U)) (qS (.int r0)) 0 0 (fun _ => False) := by
  refine Met.ofW (cc := cX1_reaches) (maxL := 3) (ret := (some .int)) (by decide) rfl ?_
  intro p e s m args below meth c s₁ B hml hv
  obtain ⟨rfl, hK, hnw, hO⟩ := hv
  have hP := hO.1
  have hx := B.exec
  have hb := B.bytes
  have hr := B.returns
  have hts := atoms_spec (ws := wsX1_reaches) B.pre
  have hown : s.vm.findClass RX1 = some m.cls := findClass_of_methodNamed B.named
  have hlocks := B.notSynchronized
  have hnst : nst.before _ s = true := hnw.use (A := [.ref o, .int a1].toArray) rfl
  have hl := lv_entry ([.ref o, .int a1]) (n := 3) (Nat.le_of_ble_eq_true rfl)
  rw [lg_entry_eq]
  generalize (lg_sl ([.ref o, .int a1]) ++ List.replicate (3 - (lg_sl ([.ref o, .int a1])).length) Slot.unset).toArray = ls at hl ⊢
  have hl : lv_has ls 3 [(0, .ref o), (1, .int a1)] := hl
  unfold f_X1_reaches at h
  refine lv_aload_n hx hb dX1_reaches_0 rfl (lv_at hl 0 rfl) ?_
  refine lv_iload_n hx hb dX1_reaches_1 rfl (lv_at hl 1 rfl) ?_
  by_cases cf1 : bin a1 6 = true
  · rw [if_pos cf1] at h
    have hkn1 := bin_lt cf1
    refine cp_s (va_runV (As := [.int a1]) (rest := []) ⟨hx, hb, hml, hown, hts⟩ (k_X1_find_some l D cI cF o qf g ro rn tn fx fy ar wh a1 cf1) (cwV 1 hts gX1_reaches_X1_find rfl rfl rfl (by decide +kernel) ⟨(Nat.le_of_ble_eq_true rfl), (Nat.le_of_ble_eq_true rfl)⟩) (pre_n (q0 := 0) (ci := 1) hK hnw hO.1 rfl rfl) rfl rfl hl.1 rfl (lv_room (Nat.le_of_ble_eq_true rfl)) dX1_reaches_2 ⟨(Nat.zero_le _), (Nat.zero_le _)⟩) ?_
    obtain ⟨q, eq⟩ : ∃ y, y = g a1.toNatClampNeg := ⟨_, rfl⟩
    obtain ⟨qx, eqx⟩ : ∃ y, y = gx a1.toNatClampNeg := ⟨_, rfl⟩
    obtain ⟨qy, eqy⟩ : ∃ y, y = gy a1.toNatClampNeg := ⟨_, rfl⟩
    rw [← eq]
    obtain ⟨xs, exs⟩ : ∃ y, y = X a1.toNatClampNeg := ⟨_, rfl⟩
    have h := og_ov h exs
    obtain ⟨ys, eys⟩ : ∃ y, y = Y a1.toNatClampNeg := ⟨_, rfl⟩
    have h := og_ov h eys
    obtain ⟨n, en⟩ : ∃ y, y = N a1.toNatClampNeg := ⟨_, rfl⟩
    have h := og_ov h en
    have hPf := hO.2 _ hkn1
    rw [← eq, ← eqx, ← eqy, ← exs, ← eys, ← en] at hPf
    have hP : va_P D vwCl (drfW cI cF o qf g ro rn tn fx fy ar wh q qx qy xs ys n) s.heap := va_P.app hP hPf
    refine lv_astore_n (lv' := [(2, .ref q), (0, .ref o), (1, .int a1)]) hx hb dX1_reaches_5 rfl hl (by decide) rfl (fun ls hl => ?_)
    refine lv_aload_n hx hb dX1_reaches_6 rfl (lv_at hl 0 rfl) ?_
    refine lv_ifnonnull (tgt := 12) hx hb dX1_reaches_7 (by decide) ?_
    refine lv_aload_n hx hb dX1_reaches_12 rfl (lv_at hl 0 rfl) ?_
    have hPc := hP.sub (ws' := figW cI q qx qy xs ys n) [2, 3, 4] rfl
    obtain ⟨r1, hcr1, h⟩ := og_bind h
    refine cp_s (va_runV (As := []) (rest := []) ⟨hx, hb, hml, hown, hts⟩ (k_X0_closed l D cI cF q qx qy xs ys n _ hcr1) (cwV 0 hts gX1_reaches_X0_closed rfl rfl rfl (by decide +kernel) ⟨(Nat.le_of_ble_eq_true rfl), (Nat.le_of_ble_eq_true rfl)⟩) (pre_v (q0 := 0) (ci := 0) hK hPc rfl rfl) rfl rfl hl.1 rfl (lv_room (Nat.le_of_ble_eq_true rfl)) dX1_reaches_13 ⟨(Nat.zero_le _), (Nat.zero_le _)⟩) ?_
    refine lv_if_ne (tgt := 22) hx hb dX1_reaches_16 (by decide) (fun c1 => ?_) (fun c1 => ?_)
    · rw [if_neg c1] at h
      refine lv_aload_n hx hb dX1_reaches_22 rfl (lv_at hl 1 rfl) ?_
      refine lv_aload_n hx hb dX1_reaches_23 rfl (lv_at hl 0 rfl) ?_
      obtain ⟨r3, hcr3, h⟩ := og_bind h
      refine cp_s (va_runV (As := [.ref q]) (rest := []) ⟨hx, hb, hml, hown, hts⟩ (k_X1_beyondFolded l D cI cF o qf g ro rn tn fx fy ar wh q qx qy xs ys n _ hcr3) (cwV 1 hts gX1_reaches_X1_beyondFolded rfl rfl rfl (by decide +kernel) ⟨(Nat.le_of_ble_eq_true rfl), (Nat.le_of_ble_eq_true rfl)⟩) (pre_n (q0 := 0) (ci := 1) hK hnw hP rfl rfl) rfl rfl hl.1 rfl (lv_room (Nat.le_of_ble_eq_true rfl)) dX1_reaches_24 ⟨(Nat.zero_le _), (Nat.zero_le _)⟩) ?_
      refine lv_if_eq (tgt := 42) hx hb dX1_reaches_27 (by decide) (fun c3 => ?_) (fun c3 => ?_)
      · rw [if_pos c3] at h
        refine lv_iconst (v := 0) hx hb dX1_reaches_42 (by decide) ?_
        obtain ⟨r5, hcr5, h⟩ := og_bind h
        refine cp_s (va_runS (As := [.int (0 : Int32)]) (rest := []) ⟨hx, hb, hml, hown, hts⟩ (k_X1_oneIf l (0 : Int32) _ hcr5) (va_cwS 1 hts gX1_reaches_X1_oneIf rfl rfl rfl (by decide +kernel) ⟨(Nat.le_of_ble_eq_true rfl), (Nat.le_of_ble_eq_true rfl)⟩) pre_s rfl rfl hl.1 rfl (lv_room (Nat.le_of_ble_eq_true rfl)) dX1_reaches_43 ⟨(Nat.zero_le _), (Nat.zero_le _)⟩) ?_
        obtain rfl := Option.some.inj h
        exact W.iret hx hb hr (fun t ht _ => ⟨rfl, ht⟩) (fun _ h9 => absurd h9 List.not_mem_nil) dX1_reaches_46
      · rw [if_neg c3] at h
        refine lv_aload_n hx hb dX1_reaches_30 rfl (lv_at hl 1 rfl) ?_
        refine lv_aload_n hx hb dX1_reaches_31 rfl (lv_at hl 0 rfl) ?_
        obtain ⟨r6, hcr6, h⟩ := og_bind h
        refine cp_s (va_runV (As := [.ref q]) (rest := []) ⟨hx, hb, hml, hown, hts⟩ (k_X1_withinStretched l D cI cF o qf g ro rn tn fx fy ar wh q qx qy xs ys n _ hcr6) (cwV 1 hts gX1_reaches_X1_withinStretched rfl rfl rfl (by decide +kernel) ⟨(Nat.le_of_ble_eq_true rfl), (Nat.le_of_ble_eq_true rfl)⟩) (pre_n (q0 := 0) (ci := 1) hK hnw hP rfl rfl) rfl rfl hl.1 rfl (lv_room (Nat.le_of_ble_eq_true rfl)) dX1_reaches_32 ⟨(Nat.zero_le _), (Nat.zero_le _)⟩) ?_
        refine lv_if_eq (tgt := 42) hx hb dX1_reaches_35 (by decide) (fun c6 => ?_) (fun c6 => ?_)
        · rw [if_pos c6] at h
          refine lv_iconst (v := 0) hx hb dX1_reaches_42 (by decide) ?_
          obtain ⟨r8, hcr8, h⟩ := og_bind h
          refine cp_s (va_runS (As := [.int (0 : Int32)]) (rest := []) ⟨hx, hb, hml, hown, hts⟩ (k_X1_oneIf l (0 : Int32) _ hcr8) (va_cwS 1 hts gX1_reaches_X1_oneIf rfl rfl rfl (by decide +kernel) ⟨(Nat.le_of_ble_eq_true rfl), (Nat.le_of_ble_eq_true rfl)⟩) pre_s rfl rfl hl.1 rfl (lv_room (Nat.le_of_ble_eq_true rfl)) dX1_reaches_43 ⟨(Nat.zero_le _), (Nat.zero_le _)⟩) ?_
          obtain rfl := Option.some.inj h
          exact W.iret hx hb hr (fun t ht _ => ⟨rfl, ht⟩) (fun _ h9 => absurd h9 List.not_mem_nil) dX1_reaches_46
        · rw [if_neg c6] at h
          refine lv_iconst (v := 1) hx hb dX1_reaches_38 (by decide) ?_
          refine lv_goto (tgt := 43) hx hb dX1_reaches_39 (by decide) ?_
          obtain ⟨r9, hcr9, h⟩ := og_bind h
          refine cp_s (va_runS (As := [.int (1 : Int32)]) (rest := []) ⟨hx, hb, hml, hown, hts⟩ (k_X1_oneIf l (1 : Int32) _ hcr9) (va_cwS 1 hts gX1_reaches_X1_oneIf rfl rfl rfl (by decide +kernel) ⟨(Nat.le_of_ble_eq_true rfl), (Nat.le_of_ble_eq_true rfl)⟩) pre_s rfl rfl hl.1 rfl (lv_room (Nat.le_of_ble_eq_true rfl)) dX1_reaches_43 ⟨(Nat.zero_le _), (Nat.zero_le _)⟩) ?_
          obtain rfl := Option.some.inj h
          exact W.iret hx hb hr (fun t ht _ => ⟨rfl, ht⟩) (fun _ h9 => absurd h9 List.not_mem_nil) dX1_reaches_46
    · rw [if_pos c1] at h
      refine lv_bipush (v := -3) hx hb dX1_reaches_19 (by decide) ?_
      obtain rfl := Option.some.inj h
      exact W.iret hx hb hr (fun t ht _ => ⟨rfl, ht⟩) (fun _ h9 => absurd h9 List.not_mem_nil) dX1_reaches_21
  · rw [if_neg cf1] at h
    refine cp_s (va_runV (As := [.int a1]) (rest := []) ⟨hx, hb, hml, hown, hts⟩ (k_X1_find_none l D cI cF o qf g ro rn tn fx fy ar wh a1 cf1) (cwV 1 hts gX1_reaches_X1_find rfl rfl rfl (by decide +kernel) ⟨(Nat.le_of_ble_eq_true rfl), (Nat.le_of_ble_eq_true rfl)⟩) (pre_n (q0 := 0) (ci := 1) hK hnw hO.1 rfl rfl) rfl rfl hl.1 rfl (lv_room (Nat.le_of_ble_eq_true rfl)) dX1_reaches_2 ⟨(Nat.zero_le _), (Nat.zero_le _)⟩) ?_
    refine lv_astore_nN (lv' := [(2, .null), (0, .ref o), (1, .int a1)]) hx hb dX1_reaches_5 rfl hl (by decide) rfl (fun ls hl => ?_)
    refine lv_aload_nN hx hb dX1_reaches_6 rfl (lv_at hl 0 rfl) ?_
    refine lv_ifnonnullN hx hb dX1_reaches_7 ?_
    refine lv_iconst (v := -1) hx hb dX1_reaches_10 (by decide) ?_
    obtain rfl := Option.some.inj h
    exact W.iret hx hb hr (fun t ht _ => ⟨rfl, ht⟩) (fun _ h9 => absurd h9 List.not_mem_nil) dX1_reaches_11
def f_X1_count (ro : Int32) (rn : Int32) (tn : Int32) (X : Nat → Nat → Int32) (Y : Nat → Nat → Int32) (N : Nat → Int32) (a1 : Int32) : Option Int64 :=
  if bin a1 6 = true then
  (ov (X a1.toNatClampNeg) fun xs =>
  ov (Y a1.toNatClampNeg) fun ys =>
  ov (N a1.toNatClampNeg) fun n =>
  (f_X1_goesRound ro ys n).bind fun r1 =>
  if r1 = (0) then
  (some (-1000000000000000003 : Int64))
  else
  ((f_X0_alongX xs ys n (1 : Int32) n).bind fun r3 =>
  ov (mabsL r3) fun v4 =>
  (f_X1_cut (v4 * (tn.toInt64)) (((2 : Int64) * (ro.toInt64)) * (rn.toInt64))).bind fun r5 =>
  some r5))
  else
  (some (-1000000000000000001 : Int64))
set_option maxHeartbeats 4000000 in
set_option maxRecDepth 100000 in
theorem k_X1_count (l : Launch) (D : va_G) (cI cF : ClassId) (o qf : Nat) (g gx gy : Nat → Nat) (ro rn tn fx fy ar wh : Int32) (X Y : Nat → Nat → Int32) (N : Nat → Int32) (a1 : Int32) (r0 : Int64) (h : f_X1_count ro rn tn X Y N a1 = some r0) : Met l yX1_count wsX1_count ({ frames := 3, cells := 0, slots := 0, locals := 64 }) (va_Pc [.ref o, .int a1] (fun U => wO D cI cF o qf g gx gy ro rn tn fx fy ar wh X Y N U)) (qS (.long r0)) 0 0 (fun _ => False) := by
  refine Met.ofW (cc := cX1_count) (maxL := 3) (ret := (some .long)) (by decide) rfl ?_
  intro p e s m args below meth c s₁ B hml hv
  obtain ⟨rfl, hK, hnw, hO⟩ := hv
  have hP := hO.1
  have hx := B.exec
  have hb := B.bytes
  have hr := B.returns
  have hts := atoms_spec (ws := wsX1_count) B.pre
  have hown : s.vm.findClass RX1 = some m.cls := findClass_of_methodNamed B.named
  have hlocks := B.notSynchronized
  have hinX0 : ∀ w ∈ u_ws RX0 TX0 3, w ∈ wsX1_count := by decide +kernel
  have ht2 := hts (.methodLink RX1 155 Lib.MathLoose.abs_long.x) (by decide +kernel)
  have ht3 := hts (.static Lib.MathLoose.abs_long.x) (by decide +kernel)
  have ht4 := hts (.initialized "java/lang/Math") (by decide +kernel)
  have ht5 := hts (.code Lib.MathLoose.abs_long.x Lib.MathLoose.abs_long.code 2 (some .long)) (by decide +kernel)
  have ht6 := hts (.fieldLink RX1 23 "DrawnAreas" "toothNumber" "I") (by decide +kernel)
  have hinX1 : ∀ w ∈ u_ws RX1 TX1 8, w ∈ wsX1_count := by decide +kernel
  have ht8 := hts (.constantLong RX1 120 (2)) (by decide +kernel)
  have ht9 := hts (.fieldLink RX1 16 "DrawnAreas" "rodLength" "I") (by decide +kernel)
  have ht10 := hts (.fieldLink RX1 20 "DrawnAreas" "roundLength" "I") (by decide +kernel)
  have ht11 := hts (.constantLong RX1 84 (-1000000000000000003)) (by decide +kernel)
  have ht12 := hts (.constantLong RX1 78 (-1000000000000000001)) (by decide +kernel)
  have hnst : nst.before _ s = true := hnw.use (A := [.ref o, .int a1].toArray) rfl
  have hl := lv_entry ([.ref o, .int a1]) (n := 3) (Nat.le_of_ble_eq_true rfl)
  rw [lg_entry_eq]
  generalize (lg_sl ([.ref o, .int a1]) ++ List.replicate (3 - (lg_sl ([.ref o, .int a1])).length) Slot.unset).toArray = ls at hl ⊢
  have hl : lv_has ls 3 [(0, .ref o), (1, .int a1)] := hl
  unfold f_X1_count at h
  refine lv_aload_n hx hb dX1_count_0 rfl (lv_at hl 0 rfl) ?_
  refine lv_iload_n hx hb dX1_count_1 rfl (lv_at hl 1 rfl) ?_
  by_cases cf1 : bin a1 6 = true
  · rw [if_pos cf1] at h
    have hkn1 := bin_lt cf1
    refine cp_s (va_runV (As := [.int a1]) (rest := []) ⟨hx, hb, hml, hown, hts⟩ (k_X1_find_some l D cI cF o qf g ro rn tn fx fy ar wh a1 cf1) (cwV 1 hts gX1_count_X1_find rfl rfl rfl (by decide +kernel) ⟨(Nat.le_of_ble_eq_true rfl), (Nat.le_of_ble_eq_true rfl)⟩) (pre_n (q0 := 0) (ci := 1) hK hnw hO.1 rfl rfl) rfl rfl hl.1 rfl (lv_room (Nat.le_of_ble_eq_true rfl)) dX1_count_2 ⟨(Nat.zero_le _), (Nat.zero_le _)⟩) ?_
    obtain ⟨q, eq⟩ : ∃ y, y = g a1.toNatClampNeg := ⟨_, rfl⟩
    obtain ⟨qx, eqx⟩ : ∃ y, y = gx a1.toNatClampNeg := ⟨_, rfl⟩
    obtain ⟨qy, eqy⟩ : ∃ y, y = gy a1.toNatClampNeg := ⟨_, rfl⟩
    rw [← eq]
    obtain ⟨xs, exs⟩ : ∃ y, y = X a1.toNatClampNeg := ⟨_, rfl⟩
    have h := og_ov h exs
    obtain ⟨ys, eys⟩ : ∃ y, y = Y a1.toNatClampNeg := ⟨_, rfl⟩
    have h := og_ov h eys
    obtain ⟨n, en⟩ : ∃ y, y = N a1.toNatClampNeg := ⟨_, rfl⟩
    have h := og_ov h en
    have hPf := hO.2 _ hkn1
    rw [← eq, ← eqx, ← eqy, ← exs, ← eys, ← en] at hPf
    have hP : va_P D vwCl (drfW cI cF o qf g ro rn tn fx fy ar wh q qx qy xs ys n) s.heap := va_P.app hP hPf
    refine lv_astore_n (lv' := [(2, .ref q), (0, .ref o), (1, .int a1)]) hx hb dX1_count_5 rfl hl (by decide) rfl (fun ls hl => ?_)
    refine lv_aload_n hx hb dX1_count_6 rfl (lv_at hl 0 rfl) ?_
    refine lv_ifnonnull (tgt := 14) hx hb dX1_count_7 (by decide) ?_
    refine lv_aload_n hx hb dX1_count_14 rfl (lv_at hl 1 rfl) ?_
    refine lv_aload_n hx hb dX1_count_15 rfl (lv_at hl 0 rfl) ?_
    obtain ⟨r1, hcr1, h⟩ := og_bind h
    refine cp_s (va_runV (As := [.ref q]) (rest := []) ⟨hx, hb, hml, hown, hts⟩ (k_X1_goesRound l D cI cF o qf g ro rn tn fx fy ar wh q qx qy xs ys n _ hcr1) (cwV 1 hts gX1_count_X1_goesRound rfl rfl rfl (by decide +kernel) ⟨(Nat.le_of_ble_eq_true rfl), (Nat.le_of_ble_eq_true rfl)⟩) (pre_n (q0 := 0) (ci := 1) hK hnw hP rfl rfl) rfl rfl hl.1 rfl (lv_room (Nat.le_of_ble_eq_true rfl)) dX1_count_16 ⟨(Nat.zero_le _), (Nat.zero_le _)⟩) ?_
    refine lv_if_ne (tgt := 26) hx hb dX1_count_19 (by decide) (fun c1 => ?_) (fun c1 => ?_)
    · rw [if_neg c1] at h
      refine lv_aload_n hx hb dX1_count_26 rfl (lv_at hl 0 rfl) ?_
      refine lv_iconst (v := 1) hx hb dX1_count_27 (by decide) ?_
      refine lv_aload_n hx hb dX1_count_28 rfl (lv_at hl 0 rfl) ?_
      refine va_getN (D := D) (ci := 0) (v := .int n) (C := RX0) (T := TX0) (N := 3) hx hb hts hinX0 hown hK hP 2 rfl rfl 2 (by decide) hnst (fun _ h9 => h9) rfl dX1_count_29 ?_
      have hPc := hP.sub (ws' := figW cI q qx qy xs ys n) [2, 3, 4] rfl
      obtain ⟨r3, hcr3, h⟩ := og_bind h
      refine cp_s (va_runV (As := [.int (1 : Int32), .int n]) (rest := []) ⟨hx, hb, hml, hown, hts⟩ (k_X0_alongX l D cI cF q qx qy xs ys n (1 : Int32) n _ hcr3) (cwV 2 hts gX1_count_X0_alongX rfl rfl rfl (by decide +kernel) ⟨(Nat.le_of_ble_eq_true rfl), (Nat.le_of_ble_eq_true rfl)⟩) (pre_v (q0 := 0) (ci := 0) hK hPc rfl rfl) rfl rfl hl.1 rfl (lv_room (Nat.le_of_ble_eq_true rfl)) dX1_count_32 ⟨(Nat.zero_le _), (Nat.zero_le _)⟩) ?_
      refine va_mabs_long hx hb (hml.trans hl.1.symm) hown ht2 ht3 ht4 ht5 (Nat.le_of_ble_eq_true rfl) (Nat.le_of_ble_eq_true rfl) (Nat.le_of_ble_eq_true rfl) (Nat.le_of_ble_eq_true rfl) dX1_count_35 ?_
      refine lv_topl (fun v4 ev4 => ?_)
      have h := og_ov h ev4
      refine lv_aload_n hx hb dX1_count_38 rfl (lv_at hl 1 rfl) ?_
      refine va_get (D := D) (ci := 1) (v := .int tn) (C := RX1) (T := TX1) (N := 8) hx hb hts hinX1 hown hK hP 0 rfl rfl 3 (by decide) ht6 (fun _ h9 => h9) rfl dX1_count_39 ?_
      refine lv_i2l hx hb dX1_count_42 rfl ?_
      refine lv_lmul hx hb dX1_count_43 ?_
      refine lv_ldc2 hx hb hown ht8 dX1_count_44 ?_
      refine lv_aload_n hx hb dX1_count_47 rfl (lv_at hl 1 rfl) ?_
      refine va_get (D := D) (ci := 1) (v := .int ro) (C := RX1) (T := TX1) (N := 8) hx hb hts hinX1 hown hK hP 0 rfl rfl 1 (by decide) ht9 (fun _ h9 => h9) rfl dX1_count_48 ?_
      refine lv_i2l hx hb dX1_count_51 rfl ?_
      refine lv_lmul hx hb dX1_count_52 ?_
      refine lv_aload_n hx hb dX1_count_53 rfl (lv_at hl 1 rfl) ?_
      refine va_get (D := D) (ci := 1) (v := .int rn) (C := RX1) (T := TX1) (N := 8) hx hb hts hinX1 hown hK hP 0 rfl rfl 2 (by decide) ht10 (fun _ h9 => h9) rfl dX1_count_54 ?_
      refine lv_i2l hx hb dX1_count_57 rfl ?_
      refine lv_lmul hx hb dX1_count_58 ?_
      obtain ⟨r5, hcr5, h⟩ := og_bind h
      refine cp_s (va_runS (As := [.long (v4 * (tn.toInt64)), .long (((2 : Int64) * (ro.toInt64)) * (rn.toInt64))]) (rest := []) ⟨hx, hb, hml, hown, hts⟩ (k_X1_cut l (v4 * (tn.toInt64)) (((2 : Int64) * (ro.toInt64)) * (rn.toInt64)) _ hcr5) (va_cwS 2 hts gX1_count_X1_cut rfl rfl rfl (by decide +kernel) ⟨(Nat.le_of_ble_eq_true rfl), (Nat.le_of_ble_eq_true rfl)⟩) pre_s rfl rfl hl.1 rfl (lv_room (Nat.le_of_ble_eq_true rfl)) dX1_count_59 ⟨(Nat.zero_le _), (Nat.zero_le _)⟩) ?_
      obtain rfl := Option.some.inj h
      exact W.lret hx hb hr (fun t ht _ => ⟨rfl, ht⟩) (fun _ h9 => absurd h9 List.not_mem_nil) dX1_count_62
    · rw [if_pos c1] at h
      refine lv_ldc2 hx hb hown ht11 dX1_count_22 ?_
      obtain rfl := Option.some.inj h
      exact W.lret hx hb hr (fun t ht _ => ⟨rfl, ht⟩) (fun _ h9 => absurd h9 List.not_mem_nil) dX1_count_25
  · rw [if_neg cf1] at h
    refine cp_s (va_runV (As := [.int a1]) (rest := []) ⟨hx, hb, hml, hown, hts⟩ (k_X1_find_none l D cI cF o qf g ro rn tn fx fy ar wh a1 cf1) (cwV 1 hts gX1_count_X1_find rfl rfl rfl (by decide +kernel) ⟨(Nat.le_of_ble_eq_true rfl), (Nat.le_of_ble_eq_true rfl)⟩) (pre_n (q0 := 0) (ci := 1) hK hnw hO.1 rfl rfl) rfl rfl hl.1 rfl (lv_room (Nat.le_of_ble_eq_true rfl)) dX1_count_2 ⟨(Nat.zero_le _), (Nat.zero_le _)⟩) ?_
    refine lv_astore_nN (lv' := [(2, .null), (0, .ref o), (1, .int a1)]) hx hb dX1_count_5 rfl hl (by decide) rfl (fun ls hl => ?_)
    refine lv_aload_nN hx hb dX1_count_6 rfl (lv_at hl 0 rfl) ?_
    refine lv_ifnonnullN hx hb dX1_count_7 ?_
    refine lv_ldc2 hx hb hown ht12 dX1_count_10 ?_
    obtain rfl := Option.some.inj h
    exact W.lret hx hb hr (fun t ht _ => ⟨rfl, ht⟩) (fun _ h9 => absurd h9 List.not_mem_nil) dX1_count_13
def f_X1_may (ro : Int32) (rn : Int32) (tn : Int32) (a1 : Int32) (a2 : Int32) (a3 : Int32) (a4 : Int32) (a5 : Int32) : Option Int64 :=
  (f_X1_readable a1 a2 a3).bind fun r1 =>
  if r1 = (0) then
  (some (-1000000000000000002 : Int64))
  else
  ((f_X1_zeroOrOne a4).bind fun r3 =>
  if r3 = (0) then
  (some (-1000000000000000002 : Int64))
  else
  ((f_X1_zeroOrOne a5).bind fun r5 =>
  if r5 = (0) then
  (some (-1000000000000000002 : Int64))
  else
  ((if a4 = (0) then
  ((f_X1_leastTeeth a1 a2 a3).bind fun r11 =>
  some (r11))
  else
  ((f_X1_belowTeeth a1 a2 a3).bind fun r10 =>
  some (r10))).bind fun mv7 =>
  (f_X1_fraction ((mv7 * (rn.toInt64)) * (ro.toInt64)) (tn.toInt64) a5).bind fun r8 =>
  some r8)))
set_option maxHeartbeats 4000000 in
set_option maxRecDepth 100000 in
theorem k_X1_may (l : Launch) (D : va_G) (cI cF : ClassId) (o qf : Nat) (g gx gy : Nat → Nat) (ro rn tn fx fy ar wh : Int32) (X Y : Nat → Nat → Int32) (N : Nat → Int32) (a1 : Int32) (a2 : Int32) (a3 : Int32) (a4 : Int32) (a5 : Int32) (r0 : Int64) (h : f_X1_may ro rn tn a1 a2 a3 a4 a5 = some r0) : Met l yX1_may wsX1_may ({ frames := 2, cells := 0, slots := 0, locals := 56 }) (va_Pc [.ref o, .int a1, .int a2, .int a3, .int a4, .int a5] (fun U => wO D cI cF o qf g gx gy ro rn tn fx fy ar wh X Y N U)) (qS (.long r0)) 0 0 (fun _ => False) := by
  refine Met.ofW (cc := cX1_may) (maxL := 8) (ret := (some .long)) (by decide) rfl ?_
  intro p e s m args below meth c s₁ B hml hv
  obtain ⟨rfl, hK, hnw, hO⟩ := hv
  have hP := hO.1
  have hx := B.exec
  have hb := B.bytes
  have hr := B.returns
  have hts := atoms_spec (ws := wsX1_may) B.pre
  have hown : s.vm.findClass RX1 = some m.cls := findClass_of_methodNamed B.named
  have hlocks := B.notSynchronized
  have ht1 := hts (.constantLong RX1 110 (-1000000000000000002)) (by decide +kernel)
  have ht2 := hts (.fieldLink RX1 20 "DrawnAreas" "roundLength" "I") (by decide +kernel)
  have hinX1 : ∀ w ∈ u_ws RX1 TX1 8, w ∈ wsX1_may := by decide +kernel
  have ht4 := hts (.fieldLink RX1 16 "DrawnAreas" "rodLength" "I") (by decide +kernel)
  have ht5 := hts (.fieldLink RX1 23 "DrawnAreas" "toothNumber" "I") (by decide +kernel)
  have hnst : nst.before _ s = true := hnw.use (A := [.ref o, .int a1, .int a2, .int a3, .int a4, .int a5].toArray) rfl
  have hl := lv_entry ([.ref o, .int a1, .int a2, .int a3, .int a4, .int a5]) (n := 8) (Nat.le_of_ble_eq_true rfl)
  rw [lg_entry_eq]
  generalize (lg_sl ([.ref o, .int a1, .int a2, .int a3, .int a4, .int a5]) ++ List.replicate (8 - (lg_sl ([.ref o, .int a1, .int a2, .int a3, .int a4, .int a5])).length) Slot.unset).toArray = ls at hl ⊢
  have hl : lv_has ls 8 [(0, .ref o), (1, .int a1), (2, .int a2), (3, .int a3), (4, .int a4), (5, .int a5)] := hl
  unfold f_X1_may at h
  refine lv_iload_n hx hb dX1_may_0 rfl (lv_at hl 1 rfl) ?_
  refine lv_iload_n hx hb dX1_may_1 rfl (lv_at hl 2 rfl) ?_
  refine lv_iload_n hx hb dX1_may_2 rfl (lv_at hl 3 rfl) ?_
  obtain ⟨r1, hcr1, h⟩ := og_bind h
  refine cp_s (va_runS (As := [.int a1, .int a2, .int a3]) (rest := []) ⟨hx, hb, hml, hown, hts⟩ (k_X1_readable l a1 a2 a3 _ hcr1) (va_cwS 3 hts gX1_may_X1_readable rfl rfl rfl (by decide +kernel) ⟨(Nat.le_of_ble_eq_true rfl), (Nat.le_of_ble_eq_true rfl)⟩) pre_s rfl rfl hl.1 rfl (lv_room (Nat.le_of_ble_eq_true rfl)) dX1_may_3 ⟨(Nat.zero_le _), (Nat.zero_le _)⟩) ?_
  refine lv_if_eq (tgt := 25) hx hb dX1_may_6 (by decide) (fun c1 => ?_) (fun c1 => ?_)
  · rw [if_pos c1] at h
    refine lv_ldc2 hx hb hown ht1 dX1_may_25 ?_
    obtain rfl := Option.some.inj h
    exact W.lret hx hb hr (fun t ht _ => ⟨rfl, ht⟩) (fun _ h9 => absurd h9 List.not_mem_nil) dX1_may_28
  · rw [if_neg c1] at h
    refine lv_iload hx hb dX1_may_9 (lv_at hl 4 rfl) ?_
    obtain ⟨r3, hcr3, h⟩ := og_bind h
    refine cp_s (va_runS (As := [.int a4]) (rest := []) ⟨hx, hb, hml, hown, hts⟩ (k_X1_zeroOrOne l a4 _ hcr3) (va_cwS 1 hts gX1_may_X1_zeroOrOne rfl rfl rfl (by decide +kernel) ⟨(Nat.le_of_ble_eq_true rfl), (Nat.le_of_ble_eq_true rfl)⟩) pre_s rfl rfl hl.1 rfl (lv_room (Nat.le_of_ble_eq_true rfl)) dX1_may_11 ⟨(Nat.zero_le _), (Nat.zero_le _)⟩) ?_
    refine lv_if_eq (tgt := 25) hx hb dX1_may_14 (by decide) (fun c3 => ?_) (fun c3 => ?_)
    · rw [if_pos c3] at h
      refine lv_ldc2 hx hb hown ht1 dX1_may_25 ?_
      obtain rfl := Option.some.inj h
      exact W.lret hx hb hr (fun t ht _ => ⟨rfl, ht⟩) (fun _ h9 => absurd h9 List.not_mem_nil) dX1_may_28
    · rw [if_neg c3] at h
      refine lv_iload hx hb dX1_may_17 (lv_at hl 5 rfl) ?_
      obtain ⟨r5, hcr5, h⟩ := og_bind h
      refine cp_s (va_runS (As := [.int a5]) (rest := []) ⟨hx, hb, hml, hown, hts⟩ (k_X1_zeroOrOne l a5 _ hcr5) (va_cwS 1 hts gX1_may_X1_zeroOrOne rfl rfl rfl (by decide +kernel) ⟨(Nat.le_of_ble_eq_true rfl), (Nat.le_of_ble_eq_true rfl)⟩) pre_s rfl rfl hl.1 rfl (lv_room (Nat.le_of_ble_eq_true rfl)) dX1_may_19 ⟨(Nat.zero_le _), (Nat.zero_le _)⟩) ?_
      refine lv_if_ne (tgt := 29) hx hb dX1_may_22 (by decide) (fun c5 => ?_) (fun c5 => ?_)
      · rw [if_neg c5] at h
        refine lv_iload hx hb dX1_may_29 (lv_at hl 4 rfl) ?_
        obtain ⟨mv7, hm49, h⟩ := og_bind h
        refine wj (PC := 49) (ST := [.long mv7]) (fun ls => lv_has ls 8 [(0, .ref o), (5, .int a5)]) (fun ls hl => ?_) (fun KJ49 => ?_)
        · refine lv_lstore (lv' := [(6, .long mv7), (0, .ref o), (5, .int a5)]) hx hb dX1_may_49 hl (by decide) rfl (fun ls hl => ?_)
          refine lv_lload hx hb dX1_may_51 (lv_at hl 0 rfl) ?_
          refine lv_aload_n hx hb dX1_may_53 rfl (lv_at hl 1 rfl) ?_
          refine va_get (D := D) (ci := 1) (v := .int rn) (C := RX1) (T := TX1) (N := 8) hx hb hts hinX1 hown hK hP 0 rfl rfl 2 (by decide) ht2 (fun _ h9 => h9) rfl dX1_may_54 ?_
          refine lv_i2l hx hb dX1_may_57 rfl ?_
          refine lv_lmul hx hb dX1_may_58 ?_
          refine lv_aload_n hx hb dX1_may_59 rfl (lv_at hl 1 rfl) ?_
          refine va_get (D := D) (ci := 1) (v := .int ro) (C := RX1) (T := TX1) (N := 8) hx hb hts hinX1 hown hK hP 0 rfl rfl 1 (by decide) ht4 (fun _ h9 => h9) rfl dX1_may_60 ?_
          refine lv_i2l hx hb dX1_may_63 rfl ?_
          refine lv_lmul hx hb dX1_may_64 ?_
          refine lv_aload_n hx hb dX1_may_65 rfl (lv_at hl 1 rfl) ?_
          refine va_get (D := D) (ci := 1) (v := .int tn) (C := RX1) (T := TX1) (N := 8) hx hb hts hinX1 hown hK hP 0 rfl rfl 3 (by decide) ht5 (fun _ h9 => h9) rfl dX1_may_66 ?_
          refine lv_i2l hx hb dX1_may_69 rfl ?_
          refine lv_iload hx hb dX1_may_70 (lv_at hl 2 rfl) ?_
          obtain ⟨r8, hcr8, h⟩ := og_bind h
          refine cp_s (va_runS (As := [.long ((mv7 * (rn.toInt64)) * (ro.toInt64)), .long (tn.toInt64), .int a5]) (rest := []) ⟨hx, hb, hml, hown, hts⟩ (k_X1_fraction l ((mv7 * (rn.toInt64)) * (ro.toInt64)) (tn.toInt64) a5 _ hcr8) (va_cwS 3 hts gX1_may_X1_fraction rfl rfl rfl (by decide +kernel) ⟨(Nat.le_of_ble_eq_true rfl), (Nat.le_of_ble_eq_true rfl)⟩) pre_s rfl rfl hl.1 rfl (lv_room (Nat.le_of_ble_eq_true rfl)) dX1_may_72 ⟨(Nat.zero_le _), (Nat.zero_le _)⟩) ?_
          obtain rfl := Option.some.inj h
          exact W.lret hx hb hr (fun t ht _ => ⟨rfl, ht⟩) (fun _ h9 => absurd h9 List.not_mem_nil) dX1_may_75
        · have h := hm49
          refine lv_if_ne (tgt := 43) hx hb dX1_may_31 (by decide) (fun c8 => ?_) (fun c8 => ?_)
          · rw [if_neg c8] at h
            refine lv_iload_n hx hb dX1_may_43 rfl (lv_at hl 1 rfl) ?_
            refine lv_iload_n hx hb dX1_may_44 rfl (lv_at hl 2 rfl) ?_
            refine lv_iload_n hx hb dX1_may_45 rfl (lv_at hl 3 rfl) ?_
            obtain ⟨r10, hcr10, h⟩ := og_bind h
            refine cp_s (va_runS (As := [.int a1, .int a2, .int a3]) (rest := []) ⟨hx, hb, hml, hown, hts⟩ (k_X1_belowTeeth l a1 a2 a3 _ hcr10) (va_cwS 3 hts gX1_may_X1_belowTeeth rfl rfl rfl (by decide +kernel) ⟨(Nat.le_of_ble_eq_true rfl), (Nat.le_of_ble_eq_true rfl)⟩) pre_s rfl rfl hl.1 rfl (lv_room (Nat.le_of_ble_eq_true rfl)) dX1_may_46 ⟨(Nat.zero_le _), (Nat.zero_le _)⟩) ?_
            obtain rfl := Option.some.inj h
            exact KJ49 ls (lv_sub hl [0, 5] rfl)
          · rw [if_pos c8] at h
            refine lv_iload_n hx hb dX1_may_34 rfl (lv_at hl 1 rfl) ?_
            refine lv_iload_n hx hb dX1_may_35 rfl (lv_at hl 2 rfl) ?_
            refine lv_iload_n hx hb dX1_may_36 rfl (lv_at hl 3 rfl) ?_
            obtain ⟨r11, hcr11, h⟩ := og_bind h
            refine cp_s (va_runS (As := [.int a1, .int a2, .int a3]) (rest := []) ⟨hx, hb, hml, hown, hts⟩ (k_X1_leastTeeth l a1 a2 a3 _ hcr11) (va_cwS 3 hts gX1_may_X1_leastTeeth rfl rfl rfl (by decide +kernel) ⟨(Nat.le_of_ble_eq_true rfl), (Nat.le_of_ble_eq_true rfl)⟩) pre_s rfl rfl hl.1 rfl (lv_room (Nat.le_of_ble_eq_true rfl)) dX1_may_37 ⟨(Nat.zero_le _), (Nat.zero_le _)⟩) ?_
            refine lv_goto (tgt := 49) hx hb dX1_may_40 (by decide) ?_
            obtain rfl := Option.some.inj h
            exact KJ49 ls (lv_sub hl [0, 5] rfl)
      · rw [if_pos c5] at h
        refine lv_ldc2 hx hb hown ht1 dX1_may_25 ?_
        obtain rfl := Option.some.inj h
        exact W.lret hx hb hr (fun t ht _ => ⟨rfl, ht⟩) (fun _ h9 => absurd h9 List.not_mem_nil) dX1_may_28
def f_X1_fits (ro : Int32) (rn : Int32) (tn : Int32) (X : Nat → Nat → Int32) (Y : Nat → Nat → Int32) (N : Nat → Int32) (a1 : Int32) (a2 : Int32) (a3 : Int32) (a4 : Int32) : Option Int32 :=
  if bin a1 6 = true then
  (ov (X a1.toNatClampNeg) fun xs =>
  ov (Y a1.toNatClampNeg) fun ys =>
  ov (N a1.toNatClampNeg) fun n =>
  (f_X1_readable a2 a3 a4).bind fun r1 =>
  if r1 = (0) then
  (some (-2 : Int32))
  else
  ((f_X0_closed n).bind fun r3 =>
  if r3 = (0) then
  (some (-3 : Int32))
  else
  ((f_X0_doubleArea xs ys n).bind fun r5 =>
  ov (mabsL r5) fun v6 =>
  ov (v6 * (tn.toInt64)) fun v7 =>
  ov (((2 : Int64) * (rn.toInt64)) * (ro.toInt64)) fun v8 =>
  (f_X1_leastTeeth a2 a3 a4).bind fun r9 =>
  if (lg_cmp v7 (r9 * v8)) < (0) then
  ((f_X1_oneIf (0 : Int32)).bind fun r11 =>
  some r11)
  else
  ((f_X1_belowTeeth a2 a3 a4).bind fun r12 =>
  if (0) ≤ (lg_cmp v7 (r12 * v8)) then
  ((f_X1_oneIf (0 : Int32)).bind fun r14 =>
  some r14)
  else
  ((f_X1_oneIf (1 : Int32)).bind fun r15 =>
  some r15)))))
  else
  (some (-1 : Int32))
set_option maxHeartbeats 4000000 in
set_option maxRecDepth 100000 in
theorem k_X1_fits (l : Launch) (D : va_G) (cI cF : ClassId) (o qf : Nat) (g gx gy : Nat → Nat) (ro rn tn fx fy ar wh : Int32) (X Y : Nat → Nat → Int32) (N : Nat → Int32) (a1 : Int32) (a2 : Int32) (a3 : Int32) (a4 : Int32) (r0 : Int32) (h : f_X1_fits ro rn tn X Y N a1 a2 a3 a4 = some r0) : Met l yX1_fits wsX1_fits ({ frames := 2, cells := 0, slots := 0, locals := 45 }) (va_Pc [.ref o, .int a1, .int a2, .int a3, .int a4] (fun U => wO D cI cF o qf g gx gy ro rn tn fx fy ar wh X Y N U)) (qS (.int r0)) 0 0 (fun _ => False) := by
  refine Met.ofW (cc := cX1_fits) (maxL := 10) (ret := (some .int)) (by decide) rfl ?_
  intro p e s m args below meth c s₁ B hml hv
  obtain ⟨rfl, hK, hnw, hO⟩ := hv
  have hP := hO.1
  have hx := B.exec
  have hb := B.bytes
  have hr := B.returns
  have hts := atoms_spec (ws := wsX1_fits) B.pre
  have hown : s.vm.findClass RX1 = some m.cls := findClass_of_methodNamed B.named
  have hlocks := B.notSynchronized
  have ht1 := hts (.methodLink RX1 155 Lib.MathLoose.abs_long.x) (by decide +kernel)
  have ht2 := hts (.static Lib.MathLoose.abs_long.x) (by decide +kernel)
  have ht3 := hts (.initialized "java/lang/Math") (by decide +kernel)
  have ht4 := hts (.code Lib.MathLoose.abs_long.x Lib.MathLoose.abs_long.code 2 (some .long)) (by decide +kernel)
  have ht5 := hts (.fieldLink RX1 23 "DrawnAreas" "toothNumber" "I") (by decide +kernel)
  have hinX1 : ∀ w ∈ u_ws RX1 TX1 8, w ∈ wsX1_fits := by decide +kernel
  have ht7 := hts (.constantLong RX1 120 (2)) (by decide +kernel)
  have ht8 := hts (.fieldLink RX1 20 "DrawnAreas" "roundLength" "I") (by decide +kernel)
  have ht9 := hts (.fieldLink RX1 16 "DrawnAreas" "rodLength" "I") (by decide +kernel)
  have hnst : nst.before _ s = true := hnw.use (A := [.ref o, .int a1, .int a2, .int a3, .int a4].toArray) rfl
  have hl := lv_entry ([.ref o, .int a1, .int a2, .int a3, .int a4]) (n := 10) (Nat.le_of_ble_eq_true rfl)
  rw [lg_entry_eq]
  generalize (lg_sl ([.ref o, .int a1, .int a2, .int a3, .int a4]) ++ List.replicate (10 - (lg_sl ([.ref o, .int a1, .int a2, .int a3, .int a4])).length) Slot.unset).toArray = ls at hl ⊢
  have hl : lv_has ls 10 [(0, .ref o), (1, .int a1), (2, .int a2), (3, .int a3), (4, .int a4)] := hl
  unfold f_X1_fits at h
  refine lv_aload_n hx hb dX1_fits_0 rfl (lv_at hl 0 rfl) ?_
  refine lv_iload_n hx hb dX1_fits_1 rfl (lv_at hl 1 rfl) ?_
  by_cases cf1 : bin a1 6 = true
  · rw [if_pos cf1] at h
    have hkn1 := bin_lt cf1
    refine cp_s (va_runV (As := [.int a1]) (rest := []) ⟨hx, hb, hml, hown, hts⟩ (k_X1_find_some l D cI cF o qf g ro rn tn fx fy ar wh a1 cf1) (cwV 1 hts gX1_fits_X1_find rfl rfl rfl (by decide +kernel) ⟨(Nat.le_of_ble_eq_true rfl), (Nat.le_of_ble_eq_true rfl)⟩) (pre_n (q0 := 0) (ci := 1) hK hnw hO.1 rfl rfl) rfl rfl hl.1 rfl (lv_room (Nat.le_of_ble_eq_true rfl)) dX1_fits_2 ⟨(Nat.zero_le _), (Nat.zero_le _)⟩) ?_
    obtain ⟨q, eq⟩ : ∃ y, y = g a1.toNatClampNeg := ⟨_, rfl⟩
    obtain ⟨qx, eqx⟩ : ∃ y, y = gx a1.toNatClampNeg := ⟨_, rfl⟩
    obtain ⟨qy, eqy⟩ : ∃ y, y = gy a1.toNatClampNeg := ⟨_, rfl⟩
    rw [← eq]
    obtain ⟨xs, exs⟩ : ∃ y, y = X a1.toNatClampNeg := ⟨_, rfl⟩
    have h := og_ov h exs
    obtain ⟨ys, eys⟩ : ∃ y, y = Y a1.toNatClampNeg := ⟨_, rfl⟩
    have h := og_ov h eys
    obtain ⟨n, en⟩ : ∃ y, y = N a1.toNatClampNeg := ⟨_, rfl⟩
    have h := og_ov h en
    have hPf := hO.2 _ hkn1
    rw [← eq, ← eqx, ← eqy, ← exs, ← eys, ← en] at hPf
    have hP : va_P D vwCl (drfW cI cF o qf g ro rn tn fx fy ar wh q qx qy xs ys n) s.heap := va_P.app hP hPf
    refine lv_astore (lv' := [(5, .ref q), (0, .ref o), (1, .int a1), (2, .int a2), (3, .int a3), (4, .int a4)]) hx hb dX1_fits_5 hl (by decide) rfl (fun ls hl => ?_)
    refine lv_aload hx hb dX1_fits_7 (lv_at hl 0 rfl) ?_
    refine lv_ifnonnull (tgt := 14) hx hb dX1_fits_9 (by decide) ?_
    refine lv_iload_n hx hb dX1_fits_14 rfl (lv_at hl 3 rfl) ?_
    refine lv_iload_n hx hb dX1_fits_15 rfl (lv_at hl 4 rfl) ?_
    refine lv_iload hx hb dX1_fits_16 (lv_at hl 5 rfl) ?_
    obtain ⟨r1, hcr1, h⟩ := og_bind h
    refine cp_s (va_runS (As := [.int a2, .int a3, .int a4]) (rest := []) ⟨hx, hb, hml, hown, hts⟩ (k_X1_readable l a2 a3 a4 _ hcr1) (va_cwS 3 hts gX1_fits_X1_readable rfl rfl rfl (by decide +kernel) ⟨(Nat.le_of_ble_eq_true rfl), (Nat.le_of_ble_eq_true rfl)⟩) pre_s rfl rfl hl.1 rfl (lv_room (Nat.le_of_ble_eq_true rfl)) dX1_fits_18 ⟨(Nat.zero_le _), (Nat.zero_le _)⟩) ?_
    refine lv_if_ne (tgt := 27) hx hb dX1_fits_21 (by decide) (fun c1 => ?_) (fun c1 => ?_)
    · rw [if_neg c1] at h
      refine lv_aload hx hb dX1_fits_27 (lv_at hl 0 rfl) ?_
      have hPc := hP.sub (ws' := figW cI q qx qy xs ys n) [2, 3, 4] rfl
      obtain ⟨r3, hcr3, h⟩ := og_bind h
      refine cp_s (va_runV (As := []) (rest := []) ⟨hx, hb, hml, hown, hts⟩ (k_X0_closed l D cI cF q qx qy xs ys n _ hcr3) (cwV 0 hts gX1_fits_X0_closed rfl rfl rfl (by decide +kernel) ⟨(Nat.le_of_ble_eq_true rfl), (Nat.le_of_ble_eq_true rfl)⟩) (pre_v (q0 := 0) (ci := 0) hK hPc rfl rfl) rfl rfl hl.1 rfl (lv_room (Nat.le_of_ble_eq_true rfl)) dX1_fits_29 ⟨(Nat.zero_le _), (Nat.zero_le _)⟩) ?_
      refine lv_if_ne (tgt := 38) hx hb dX1_fits_32 (by decide) (fun c3 => ?_) (fun c3 => ?_)
      · rw [if_neg c3] at h
        refine lv_aload hx hb dX1_fits_38 (lv_at hl 0 rfl) ?_
        have hPc := hP.sub (ws' := figW cI q qx qy xs ys n) [2, 3, 4] rfl
        obtain ⟨r5, hcr5, h⟩ := og_bind h
        refine cp_s (va_runV (As := []) (rest := []) ⟨hx, hb, hml, hown, hts⟩ (k_X0_doubleArea l D cI cF q qx qy xs ys n _ hcr5) (cwV 0 hts gX1_fits_X0_doubleArea rfl rfl rfl (by decide +kernel) ⟨(Nat.le_of_ble_eq_true rfl), (Nat.le_of_ble_eq_true rfl)⟩) (pre_v (q0 := 0) (ci := 0) hK hPc rfl rfl) rfl rfl hl.1 rfl (lv_room (Nat.le_of_ble_eq_true rfl)) dX1_fits_40 ⟨(Nat.zero_le _), (Nat.zero_le _)⟩) ?_
        refine va_mabs_long hx hb (hml.trans hl.1.symm) hown ht1 ht2 ht3 ht4 (Nat.le_of_ble_eq_true rfl) (Nat.le_of_ble_eq_true rfl) (Nat.le_of_ble_eq_true rfl) (Nat.le_of_ble_eq_true rfl) dX1_fits_43 ?_
        refine lv_topl (fun v6 ev6 => ?_)
        have h := og_ov h ev6
        refine lv_aload_n hx hb dX1_fits_46 rfl (lv_at hl 1 rfl) ?_
        refine va_get (D := D) (ci := 1) (v := .int tn) (C := RX1) (T := TX1) (N := 8) hx hb hts hinX1 hown hK hP 0 rfl rfl 3 (by decide) ht5 (fun _ h9 => h9) rfl dX1_fits_47 ?_
        refine lv_i2l hx hb dX1_fits_50 rfl ?_
        refine lv_lmul hx hb dX1_fits_51 ?_
        refine lv_topl (fun v7 ev7 => ?_)
        have h := og_ov h ev7
        refine lv_lstore (lv' := [(6, .long v7), (5, .ref q), (0, .ref o), (1, .int a1), (2, .int a2), (3, .int a3), (4, .int a4)]) hx hb dX1_fits_52 hl (by decide) rfl (fun ls hl => ?_)
        refine lv_ldc2 hx hb hown ht7 dX1_fits_54 ?_
        refine lv_aload_n hx hb dX1_fits_57 rfl (lv_at hl 2 rfl) ?_
        refine va_get (D := D) (ci := 1) (v := .int rn) (C := RX1) (T := TX1) (N := 8) hx hb hts hinX1 hown hK hP 0 rfl rfl 2 (by decide) ht8 (fun _ h9 => h9) rfl dX1_fits_58 ?_
        refine lv_i2l hx hb dX1_fits_61 rfl ?_
        refine lv_lmul hx hb dX1_fits_62 ?_
        refine lv_aload_n hx hb dX1_fits_63 rfl (lv_at hl 2 rfl) ?_
        refine va_get (D := D) (ci := 1) (v := .int ro) (C := RX1) (T := TX1) (N := 8) hx hb hts hinX1 hown hK hP 0 rfl rfl 1 (by decide) ht9 (fun _ h9 => h9) rfl dX1_fits_64 ?_
        refine lv_i2l hx hb dX1_fits_67 rfl ?_
        refine lv_lmul hx hb dX1_fits_68 ?_
        refine lv_topl (fun v8 ev8 => ?_)
        have h := og_ov h ev8
        refine lv_lstore (lv' := [(8, .long v8), (6, .long v7), (5, .ref q), (0, .ref o), (1, .int a1), (2, .int a2), (3, .int a3), (4, .int a4)]) hx hb dX1_fits_69 hl (by decide) rfl (fun ls hl => ?_)
        refine lv_lload hx hb dX1_fits_71 (lv_at hl 1 rfl) ?_
        refine lv_iload_n hx hb dX1_fits_73 rfl (lv_at hl 5 rfl) ?_
        refine lv_iload_n hx hb dX1_fits_74 rfl (lv_at hl 6 rfl) ?_
        refine lv_iload hx hb dX1_fits_75 (lv_at hl 7 rfl) ?_
        obtain ⟨r9, hcr9, h⟩ := og_bind h
        refine cp_s (va_runS (As := [.int a2, .int a3, .int a4]) (rest := [.long v7]) ⟨hx, hb, hml, hown, hts⟩ (k_X1_leastTeeth l a2 a3 a4 _ hcr9) (va_cwS 3 hts gX1_fits_X1_leastTeeth rfl rfl rfl (by decide +kernel) ⟨(Nat.le_of_ble_eq_true rfl), (Nat.le_of_ble_eq_true rfl)⟩) pre_s rfl rfl hl.1 rfl (lv_room (Nat.le_of_ble_eq_true rfl)) dX1_fits_77 ⟨(Nat.zero_le _), (Nat.zero_le _)⟩) ?_
        refine lv_lload hx hb dX1_fits_80 (lv_at hl 0 rfl) ?_
        refine lv_lmul hx hb dX1_fits_82 ?_
        refine W.lcmp hx hb dX1_fits_83 ?_
        refine lv_if_lt (tgt := 107) hx hb dX1_fits_84 (by decide) (fun c9 => ?_) (fun c9 => ?_)
        · rw [if_pos c9] at h
          refine lv_iconst (v := 0) hx hb dX1_fits_107 (by decide) ?_
          obtain ⟨r11, hcr11, h⟩ := og_bind h
          refine cp_s (va_runS (As := [.int (0 : Int32)]) (rest := []) ⟨hx, hb, hml, hown, hts⟩ (k_X1_oneIf l (0 : Int32) _ hcr11) (va_cwS 1 hts gX1_fits_X1_oneIf rfl rfl rfl (by decide +kernel) ⟨(Nat.le_of_ble_eq_true rfl), (Nat.le_of_ble_eq_true rfl)⟩) pre_s rfl rfl hl.1 rfl (lv_room (Nat.le_of_ble_eq_true rfl)) dX1_fits_108 ⟨(Nat.zero_le _), (Nat.zero_le _)⟩) ?_
          obtain rfl := Option.some.inj h
          exact W.iret hx hb hr (fun t ht _ => ⟨rfl, ht⟩) (fun _ h9 => absurd h9 List.not_mem_nil) dX1_fits_111
        · rw [if_neg c9] at h
          refine lv_lload hx hb dX1_fits_87 (lv_at hl 1 rfl) ?_
          refine lv_iload_n hx hb dX1_fits_89 rfl (lv_at hl 5 rfl) ?_
          refine lv_iload_n hx hb dX1_fits_90 rfl (lv_at hl 6 rfl) ?_
          refine lv_iload hx hb dX1_fits_91 (lv_at hl 7 rfl) ?_
          obtain ⟨r12, hcr12, h⟩ := og_bind h
          refine cp_s (va_runS (As := [.int a2, .int a3, .int a4]) (rest := [.long v7]) ⟨hx, hb, hml, hown, hts⟩ (k_X1_belowTeeth l a2 a3 a4 _ hcr12) (va_cwS 3 hts gX1_fits_X1_belowTeeth rfl rfl rfl (by decide +kernel) ⟨(Nat.le_of_ble_eq_true rfl), (Nat.le_of_ble_eq_true rfl)⟩) pre_s rfl rfl hl.1 rfl (lv_room (Nat.le_of_ble_eq_true rfl)) dX1_fits_93 ⟨(Nat.zero_le _), (Nat.zero_le _)⟩) ?_
          refine lv_lload hx hb dX1_fits_96 (lv_at hl 0 rfl) ?_
          refine lv_lmul hx hb dX1_fits_98 ?_
          refine W.lcmp hx hb dX1_fits_99 ?_
          refine lv_if_ge (tgt := 107) hx hb dX1_fits_100 (by decide) (fun c12 => ?_) (fun c12 => ?_)
          · rw [if_pos c12] at h
            refine lv_iconst (v := 0) hx hb dX1_fits_107 (by decide) ?_
            obtain ⟨r14, hcr14, h⟩ := og_bind h
            refine cp_s (va_runS (As := [.int (0 : Int32)]) (rest := []) ⟨hx, hb, hml, hown, hts⟩ (k_X1_oneIf l (0 : Int32) _ hcr14) (va_cwS 1 hts gX1_fits_X1_oneIf rfl rfl rfl (by decide +kernel) ⟨(Nat.le_of_ble_eq_true rfl), (Nat.le_of_ble_eq_true rfl)⟩) pre_s rfl rfl hl.1 rfl (lv_room (Nat.le_of_ble_eq_true rfl)) dX1_fits_108 ⟨(Nat.zero_le _), (Nat.zero_le _)⟩) ?_
            obtain rfl := Option.some.inj h
            exact W.iret hx hb hr (fun t ht _ => ⟨rfl, ht⟩) (fun _ h9 => absurd h9 List.not_mem_nil) dX1_fits_111
          · rw [if_neg c12] at h
            refine lv_iconst (v := 1) hx hb dX1_fits_103 (by decide) ?_
            refine lv_goto (tgt := 108) hx hb dX1_fits_104 (by decide) ?_
            obtain ⟨r15, hcr15, h⟩ := og_bind h
            refine cp_s (va_runS (As := [.int (1 : Int32)]) (rest := []) ⟨hx, hb, hml, hown, hts⟩ (k_X1_oneIf l (1 : Int32) _ hcr15) (va_cwS 1 hts gX1_fits_X1_oneIf rfl rfl rfl (by decide +kernel) ⟨(Nat.le_of_ble_eq_true rfl), (Nat.le_of_ble_eq_true rfl)⟩) pre_s rfl rfl hl.1 rfl (lv_room (Nat.le_of_ble_eq_true rfl)) dX1_fits_108 ⟨(Nat.zero_le _), (Nat.zero_le _)⟩) ?_
            obtain rfl := Option.some.inj h
            exact W.iret hx hb hr (fun t ht _ => ⟨rfl, ht⟩) (fun _ h9 => absurd h9 List.not_mem_nil) dX1_fits_111
      · rw [if_pos c3] at h
        refine lv_bipush (v := -3) hx hb dX1_fits_35 (by decide) ?_
        obtain rfl := Option.some.inj h
        exact W.iret hx hb hr (fun t ht _ => ⟨rfl, ht⟩) (fun _ h9 => absurd h9 List.not_mem_nil) dX1_fits_37
    · rw [if_pos c1] at h
      refine lv_bipush (v := -2) hx hb dX1_fits_24 (by decide) ?_
      obtain rfl := Option.some.inj h
      exact W.iret hx hb hr (fun t ht _ => ⟨rfl, ht⟩) (fun _ h9 => absurd h9 List.not_mem_nil) dX1_fits_26
  · rw [if_neg cf1] at h
    refine cp_s (va_runV (As := [.int a1]) (rest := []) ⟨hx, hb, hml, hown, hts⟩ (k_X1_find_none l D cI cF o qf g ro rn tn fx fy ar wh a1 cf1) (cwV 1 hts gX1_fits_X1_find rfl rfl rfl (by decide +kernel) ⟨(Nat.le_of_ble_eq_true rfl), (Nat.le_of_ble_eq_true rfl)⟩) (pre_n (q0 := 0) (ci := 1) hK hnw hO.1 rfl rfl) rfl rfl hl.1 rfl (lv_room (Nat.le_of_ble_eq_true rfl)) dX1_fits_2 ⟨(Nat.zero_le _), (Nat.zero_le _)⟩) ?_
    refine lv_astoreN (lv' := [(5, .null), (0, .ref o), (1, .int a1), (2, .int a2), (3, .int a3), (4, .int a4)]) hx hb dX1_fits_5 hl (by decide) rfl (fun ls hl => ?_)
    refine lv_aloadN hx hb dX1_fits_7 (lv_at hl 0 rfl) ?_
    refine lv_ifnonnullN hx hb dX1_fits_9 ?_
    refine lv_iconst (v := -1) hx hb dX1_fits_12 (by decide) ?_
    obtain rfl := Option.some.inj h
    exact W.iret hx hb hr (fun t ht _ => ⟨rfl, ht⟩) (fun _ h9 => absurd h9 List.not_mem_nil) dX1_fits_13
