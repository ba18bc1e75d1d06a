def f_X2_rod (ro : Int32) (a1 : Int32) : Option ((Int32 × Int32)) :=
  (f_X2_in a1 (1 : Int32) (400 : Int32)).bind fun r1 =>
  if r1 = (0) then
  (some ((-2 : Int32), ro))
  else
  (some (ro, a1))
set_option maxHeartbeats 4000000 in
set_option maxRecDepth 100000 in
theorem k_X2_rod (l : Launch) (D : va_G) (cI cF : ClassId) (m0 : Nat) (m1 : Nat) (m2 : Nat) (m3 : Nat) (m4 : Nat) (m5 : Nat) (pt : Nat → Int32) (px : Nat → Int32) (py : Nat → Int32) (ro : Int32) (an : Int32) (te : Int32) (fx : Int32) (fy : Int32) (ar : Int32) (be : Int32) (ma : Int32) (nx : Nat → Int32) (ny : Nat → Int32) (a1 : Int32) (r0 : (Int32 × Int32)) (h : f_X2_rod ro a1 = some r0) : Met l yX2_rod wsX2_rod ({ frames := 1, cells := 0, slots := 0, locals := 22 }) (va_Pc [.ref m0, .int a1] (fun U => wD D cI cF (moW cI m0 m1 m2 m3 m4 m5 pt px py ro an te fx fy ar be ma nx ny) U)) (qW (some (.int r0.1)) (va_A0 (moW cI m0 m1 m2 m3 m4 m5 pt px py ro an te fx fy ar be ma nx ny)) (fun H => va_P D vwCl (moW cI m0 m1 m2 m3 m4 m5 pt px py r0.2 an te fx fy ar be ma nx ny) H)) 0 0 (va_A0 (moW cI m0 m1 m2 m3 m4 m5 pt px py ro an te fx fy ar be ma nx ny)) := by
  refine Met.ofW (cc := cX2_rod) (maxL := 3) (ret := (some .int)) (by decide) rfl ?_
  intro p e s m args below meth c s₁ B hml hv
  obtain ⟨rfl, hK, hP, hD0⟩ := hv
  have hx := B.exec
  have hb := B.bytes
  have hr := B.returns
  have hts := atoms_spec (ws := wsX2_rod) B.pre
  have hown : s.vm.findClass RX2 = some m.cls := findClass_of_methodNamed B.named
  have hlocks := B.notSynchronized
  have ht1 := hts (.fieldLink RX2 19 "DrawnAreasModel" "rod" "I") (by decide +kernel)
  have hinX2 : ∀ w ∈ u_ws RX2 TX2 13, w ∈ wsX2_rod := by decide +kernel
  have hD : va_D (va_A0 (moW cI m0 m1 m2 m3 m4 m5 pt px py ro an te fx fy ar be ma nx ny)) (moW cI m0 m1 m2 m3 m4 m5 pt px py ro an te fx fy ar be ma nx ny) := va_D_A0 hD0
  generalize hAe : va_A0 (moW cI m0 m1 m2 m3 m4 m5 pt px py ro an te fx fy ar be ma nx ny) = AA at hD ⊢
  have hS : va_S AA s.heap s.heap [] := va_S.rf
  have hl := lv_entry ([.ref m0, .int a1]) (n := 3) (Nat.le_of_ble_eq_true rfl)
  rw [lg_entry_eq]
  generalize (lg_sl ([.ref m0, .int a1]) ++ List.replicate (3 - (lg_sl ([.ref m0, .int a1])).length) Slot.unset).toArray = ls at hl ⊢
  have hl : lv_has ls 3 [(0, .ref m0), (1, .int a1)] := hl
  unfold f_X2_rod at h
  refine lv_iload_n hx hb dX2_rod_0 rfl (lv_at hl 1 rfl) ?_
  refine lv_iconst (v := 1) hx hb dX2_rod_1 (by decide) ?_
  refine lv_sipush (v := 400) hx hb dX2_rod_2 (by decide) ?_
  obtain ⟨r1, hcr1, h⟩ := og_bind h
  refine cp_s (va_runS (As := [.int a1, .int (1 : Int32), .int (400 : Int32)]) (rest := []) ⟨hx, hb, hml, hown, hts⟩ (k_X2_in l a1 (1 : Int32) (400 : Int32) _ hcr1) (va_cwS 3 hts gX2_rod_X2_in rfl rfl rfl (by decide +kernel) ⟨(Nat.le_of_ble_eq_true rfl), (Nat.le_of_ble_eq_true rfl)⟩) pre_s rfl rfl hl.1 rfl (lv_room (Nat.le_of_ble_eq_true rfl)) dX2_rod_5 ⟨(Nat.zero_le _), (Nat.zero_le _)⟩) ?_
  refine lv_if_ne (tgt := 14) hx hb dX2_rod_8 (by decide) (fun c1 => ?_) (fun c1 => ?_)
  · rw [if_neg c1] at h
    refine lv_aload_n hx hb dX2_rod_14 rfl (lv_at hl 0 rfl) ?_
    refine va_get (D := D) (ci := 2) (v := .int ro) (C := RX2) (T := TX2) (N := 13) hx hb hts hinX2 hown hK hP 0 rfl rfl 3 (by decide) ht1 (fun _ h9 => h9) rfl dX2_rod_15 ?_
    refine lv_istore_n (lv' := [(2, .int ro), (0, .ref m0), (1, .int a1)]) hx hb dX2_rod_18 rfl hl (by decide) rfl (fun ls hl => ?_)
    refine lv_aload_n hx hb dX2_rod_19 rfl (lv_at hl 1 rfl) ?_
    refine lv_iload_n hx hb dX2_rod_20 rfl (lv_at hl 2 rfl) ?_
    refine va_put (D := D) (ci := 2) (v := .int a1) (ty := .int) (C := RX2) (T := TX2) (N := 13) hx hb hts hinX2 tyX2 tyX2_ok nmX2 hown hK hP hD hS 0 rfl rfl 3 (by decide) ht1 (fun _ h9 => h9) rfl (by decide +kernel) rfl rfl (Nat.le_of_ble_eq_true rfl) dX2_rod_21 (fun H locs hP hD hS => ?_)
    have hP : va_P D vwCl (moW cI m0 m1 m2 m3 m4 m5 pt px py a1 an te fx fy ar be ma nx ny) H := hP
    have hD : va_D AA (moW cI m0 m1 m2 m3 m4 m5 pt px py a1 an te fx fy ar be ma nx ny) := hD
    refine lv_iload_n hx hb dX2_rod_24 rfl (lv_at hl 0 rfl) ?_
    obtain rfl := Option.some.inj h
    exact W.iret hx hb hr (fun t ht _ => ⟨rfl, by rw [ht]; exact hP, hS.F ht⟩) hS.2.2 dX2_rod_25
  · rw [if_pos c1] at h
    refine lv_bipush (v := -2) hx hb dX2_rod_11 (by decide) ?_
    obtain rfl := Option.some.inj h
    exact W.iret hx hb hr (fun t ht _ => ⟨rfl, by rw [ht]; exact hP, hS.F ht⟩) hS.2.2 dX2_rod_13
def f_X2_arm (fx : Int32) (fy : Int32) (ar : Int32) (be : Int32) (a1 : Int32) (a2 : Int32) (a3 : Int32) (a4 : Int32) : Option ((Int32 × Int32 × Int32 × Int32 × Int32)) :=
  (f_X2_in a1 (-200 : Int32) (200 : Int32)).bind fun r1 =>
  if r1 = (0) then
  (some ((-2 : Int32), fx, fy, ar, be))
  else
  ((f_X2_in a2 (-200 : Int32) (200 : Int32)).bind fun r3 =>
  if r3 = (0) then
  (some ((-2 : Int32), fx, fy, ar, be))
  else
  ((f_X2_in a3 (1 : Int32) (400 : Int32)).bind fun r5 =>
  if r5 = (0) then
  (some ((-2 : Int32), fx, fy, ar, be))
  else
  ((f_X2_isPlace a4).bind fun r7 =>
  if r7 = (0) then
  (some ((-2 : Int32), fx, fy, ar, be))
  else
  (some ((1 : Int32), a1, a2, a3, a4)))))
set_option maxHeartbeats 4000000 in
set_option maxRecDepth 100000 in
theorem k_X2_arm (l : Launch) (D : va_G) (cI cF : ClassId) (m0 : Nat) (m1 : Nat) (m2 : Nat) (m3 : Nat) (m4 : Nat) (m5 : Nat) (pt : Nat → Int32) (px : Nat → Int32) (py : Nat → Int32) (ro : Int32) (an : Int32) (te : Int32) (fx : Int32) (fy : Int32) (ar : Int32) (be : Int32) (ma : Int32) (nx : Nat → Int32) (ny : Nat → Int32) (a1 : Int32) (a2 : Int32) (a3 : Int32) (a4 : Int32) (r0 : (Int32 × Int32 × Int32 × Int32 × Int32)) (h : f_X2_arm fx fy ar be a1 a2 a3 a4 = some r0) : Met l yX2_arm wsX2_arm ({ frames := 2, cells := 0, slots := 0, locals := 42 }) (va_Pc [.ref m0, .int a1, .int a2, .int a3, .int a4] (fun U => wD D cI cF (moW cI m0 m1 m2 m3 m4 m5 pt px py ro an te fx fy ar be ma nx ny) U)) (qW (some (.int r0.1)) (va_A0 (moW cI m0 m1 m2 m3 m4 m5 pt px py ro an te fx fy ar be ma nx ny)) (fun H => va_P D vwCl (moW cI m0 m1 m2 m3 m4 m5 pt px py ro an te r0.2.1 r0.2.2.1 r0.2.2.2.1 r0.2.2.2.2 ma nx ny) H)) 0 0 (va_A0 (moW cI m0 m1 m2 m3 m4 m5 pt px py ro an te fx fy ar be ma nx ny)) := by
  refine Met.ofW (cc := cX2_arm) (maxL := 5) (ret := (some .int)) (by decide) rfl ?_
  intro p e s m args below meth c s₁ B hml hv
  obtain ⟨rfl, hK, hP, hD0⟩ := hv
  have hx := B.exec
  have hb := B.bytes
  have hr := B.returns
  have hts := atoms_spec (ws := wsX2_arm) B.pre
  have hown : s.vm.findClass RX2 = some m.cls := findClass_of_methodNamed B.named
  have hlocks := B.notSynchronized
  have ht1 := hts (.fieldLink RX2 148 "DrawnAreasModel" "footX" "I") (by decide +kernel)
  have hinX2 : ∀ w ∈ u_ws RX2 TX2 13, w ∈ wsX2_arm := by decide +kernel
  have ht3 := hts (.fieldLink RX2 151 "DrawnAreasModel" "footY" "I") (by decide +kernel)
  have ht4 := hts (.fieldLink RX2 29 "DrawnAreasModel" "arm" "I") (by decide +kernel)
  have ht5 := hts (.fieldLink RX2 154 "DrawnAreasModel" "beyond" "I") (by decide +kernel)
  have hD : va_D (va_A0 (moW cI m0 m1 m2 m3 m4 m5 pt px py ro an te fx fy ar be ma nx ny)) (moW cI m0 m1 m2 m3 m4 m5 pt px py ro an te fx fy ar be ma nx ny) := va_D_A0 hD0
  generalize hAe : va_A0 (moW cI m0 m1 m2 m3 m4 m5 pt px py ro an te fx fy ar be ma nx ny) = AA at hD ⊢
  have hS : va_S AA s.heap s.heap [] := va_S.rf
  have hl := lv_entry ([.ref m0, .int a1, .int a2, .int a3, .int a4]) (n := 5) (Nat.le_of_ble_eq_true rfl)
  rw [lg_entry_eq]
  generalize (lg_sl ([.ref m0, .int a1, .int a2, .int a3, .int a4]) ++ List.replicate (5 - (lg_sl ([.ref m0, .int a1, .int a2, .int a3, .int a4])).length) Slot.unset).toArray = ls at hl ⊢
  have hl : lv_has ls 5 [(0, .ref m0), (1, .int a1), (2, .int a2), (3, .int a3), (4, .int a4)] := hl
  unfold f_X2_arm at h
  refine lv_iload_n hx hb dX2_arm_0 rfl (lv_at hl 1 rfl) ?_
  refine lv_sipush (v := -200) hx hb dX2_arm_1 (by decide) ?_
  refine lv_sipush (v := 200) hx hb dX2_arm_4 (by decide) ?_
  obtain ⟨r1, hcr1, h⟩ := og_bind h
  refine cp_s (va_runS (As := [.int a1, .int (-200 : Int32), .int (200 : Int32)]) (rest := []) ⟨hx, hb, hml, hown, hts⟩ (k_X2_in l a1 (-200 : Int32) (200 : Int32) _ hcr1) (va_cwS 3 hts gX2_arm_X2_in rfl rfl rfl (by decide +kernel) ⟨(Nat.le_of_ble_eq_true rfl), (Nat.le_of_ble_eq_true rfl)⟩) pre_s rfl rfl hl.1 rfl (lv_room (Nat.le_of_ble_eq_true rfl)) dX2_arm_7 ⟨(Nat.zero_le _), (Nat.zero_le _)⟩) ?_
  refine lv_if_eq (tgt := 45) hx hb dX2_arm_10 (by decide) (fun c1 => ?_) (fun c1 => ?_)
  · rw [if_pos c1] at h
    refine lv_bipush (v := -2) hx hb dX2_arm_45 (by decide) ?_
    obtain rfl := Option.some.inj h
    exact W.iret hx hb hr (fun t ht _ => ⟨rfl, by rw [ht]; exact hP, hS.F ht⟩) hS.2.2 dX2_arm_47
  · rw [if_neg c1] at h
    refine lv_iload_n hx hb dX2_arm_13 rfl (lv_at hl 2 rfl) ?_
    refine lv_sipush (v := -200) hx hb dX2_arm_14 (by decide) ?_
    refine lv_sipush (v := 200) hx hb dX2_arm_17 (by decide) ?_
    obtain ⟨r3, hcr3, h⟩ := og_bind h
    refine cp_s (va_runS (As := [.int a2, .int (-200 : Int32), .int (200 : Int32)]) (rest := []) ⟨hx, hb, hml, hown, hts⟩ (k_X2_in l a2 (-200 : Int32) (200 : Int32) _ hcr3) (va_cwS 3 hts gX2_arm_X2_in rfl rfl rfl (by decide +kernel) ⟨(Nat.le_of_ble_eq_true rfl), (Nat.le_of_ble_eq_true rfl)⟩) pre_s rfl rfl hl.1 rfl (lv_room (Nat.le_of_ble_eq_true rfl)) dX2_arm_20 ⟨(Nat.zero_le _), (Nat.zero_le _)⟩) ?_
    refine lv_if_eq (tgt := 45) hx hb dX2_arm_23 (by decide) (fun c3 => ?_) (fun c3 => ?_)
    · rw [if_pos c3] at h
      refine lv_bipush (v := -2) hx hb dX2_arm_45 (by decide) ?_
      obtain rfl := Option.some.inj h
      exact W.iret hx hb hr (fun t ht _ => ⟨rfl, by rw [ht]; exact hP, hS.F ht⟩) hS.2.2 dX2_arm_47
    · rw [if_neg c3] at h
      refine lv_iload_n hx hb dX2_arm_26 rfl (lv_at hl 3 rfl) ?_
      refine lv_iconst (v := 1) hx hb dX2_arm_27 (by decide) ?_
      refine lv_sipush (v := 400) hx hb dX2_arm_28 (by decide) ?_
      obtain ⟨r5, hcr5, h⟩ := og_bind h
      refine cp_s (va_runS (As := [.int a3, .int (1 : Int32), .int (400 : Int32)]) (rest := []) ⟨hx, hb, hml, hown, hts⟩ (k_X2_in l a3 (1 : Int32) (400 : Int32) _ hcr5) (va_cwS 3 hts gX2_arm_X2_in rfl rfl rfl (by decide +kernel) ⟨(Nat.le_of_ble_eq_true rfl), (Nat.le_of_ble_eq_true rfl)⟩) pre_s rfl rfl hl.1 rfl (lv_room (Nat.le_of_ble_eq_true rfl)) dX2_arm_31 ⟨(Nat.zero_le _), (Nat.zero_le _)⟩) ?_
      refine lv_if_eq (tgt := 45) hx hb dX2_arm_34 (by decide) (fun c5 => ?_) (fun c5 => ?_)
      · rw [if_pos c5] at h
        refine lv_bipush (v := -2) hx hb dX2_arm_45 (by decide) ?_
        obtain rfl := Option.some.inj h
        exact W.iret hx hb hr (fun t ht _ => ⟨rfl, by rw [ht]; exact hP, hS.F ht⟩) hS.2.2 dX2_arm_47
      · rw [if_neg c5] at h
        refine lv_iload hx hb dX2_arm_37 (lv_at hl 4 rfl) ?_
        obtain ⟨r7, hcr7, h⟩ := og_bind h
        refine cp_s (va_runS (As := [.int a4]) (rest := []) ⟨hx, hb, hml, hown, hts⟩ (k_X2_isPlace l a4 _ hcr7) (va_cwS 1 hts gX2_arm_X2_isPlace rfl rfl rfl (by decide +kernel) ⟨(Nat.le_of_ble_eq_true rfl), (Nat.le_of_ble_eq_true rfl)⟩) pre_s rfl rfl hl.1 rfl (lv_room (Nat.le_of_ble_eq_true rfl)) dX2_arm_39 ⟨(Nat.zero_le _), (Nat.zero_le _)⟩) ?_
        refine lv_if_ne (tgt := 48) hx hb dX2_arm_42 (by decide) (fun c7 => ?_) (fun c7 => ?_)
        · rw [if_neg c7] at h
          refine lv_aload_n hx hb dX2_arm_48 rfl (lv_at hl 0 rfl) ?_
          refine lv_iload_n hx hb dX2_arm_49 rfl (lv_at hl 1 rfl) ?_
          refine va_put (D := D) (ci := 2) (v := .int a1) (ty := .int) (C := RX2) (T := TX2) (N := 13) hx hb hts hinX2 tyX2 tyX2_ok nmX2 hown hK hP hD hS 0 rfl rfl 6 (by decide) ht1 (fun _ h9 => h9) rfl (by decide +kernel) rfl rfl (Nat.le_of_ble_eq_true rfl) dX2_arm_50 (fun H locs hP hD hS => ?_)
          have hP : va_P D vwCl (moW cI m0 m1 m2 m3 m4 m5 pt px py ro an te a1 fy ar be ma nx ny) H := hP
          have hD : va_D AA (moW cI m0 m1 m2 m3 m4 m5 pt px py ro an te a1 fy ar be ma nx ny) := hD
          refine lv_aload_n hx hb dX2_arm_53 rfl (lv_at hl 0 rfl) ?_
          refine lv_iload_n hx hb dX2_arm_54 rfl (lv_at hl 2 rfl) ?_
          refine va_put (D := D) (ci := 2) (v := .int a2) (ty := .int) (C := RX2) (T := TX2) (N := 13) hx hb hts hinX2 tyX2 tyX2_ok nmX2 hown hK hP hD hS 0 rfl rfl 7 (by decide) ht3 (fun _ h9 => h9) rfl (by decide +kernel) rfl rfl (Nat.le_of_ble_eq_true rfl) dX2_arm_55 (fun H locs hP hD hS => ?_)
          have hP : va_P D vwCl (moW cI m0 m1 m2 m3 m4 m5 pt px py ro an te a1 a2 ar be ma nx ny) H := hP
          have hD : va_D AA (moW cI m0 m1 m2 m3 m4 m5 pt px py ro an te a1 a2 ar be ma nx ny) := hD
          refine lv_aload_n hx hb dX2_arm_58 rfl (lv_at hl 0 rfl) ?_
          refine lv_iload_n hx hb dX2_arm_59 rfl (lv_at hl 3 rfl) ?_
          refine va_put (D := D) (ci := 2) (v := .int a3) (ty := .int) (C := RX2) (T := TX2) (N := 13) hx hb hts hinX2 tyX2 tyX2_ok nmX2 hown hK hP hD hS 0 rfl rfl 8 (by decide) ht4 (fun _ h9 => h9) rfl (by decide +kernel) rfl rfl (Nat.le_of_ble_eq_true rfl) dX2_arm_60 (fun H locs hP hD hS => ?_)
          have hP : va_P D vwCl (moW cI m0 m1 m2 m3 m4 m5 pt px py ro an te a1 a2 a3 be ma nx ny) H := hP
          have hD : va_D AA (moW cI m0 m1 m2 m3 m4 m5 pt px py ro an te a1 a2 a3 be ma nx ny) := hD
          refine lv_aload_n hx hb dX2_arm_63 rfl (lv_at hl 0 rfl) ?_
          refine lv_iload hx hb dX2_arm_64 (lv_at hl 4 rfl) ?_
          refine va_put (D := D) (ci := 2) (v := .int a4) (ty := .int) (C := RX2) (T := TX2) (N := 13) hx hb hts hinX2 tyX2 tyX2_ok nmX2 hown hK hP hD hS 0 rfl rfl 9 (by decide) ht5 (fun _ h9 => h9) rfl (by decide +kernel) rfl rfl (Nat.le_of_ble_eq_true rfl) dX2_arm_66 (fun H locs hP hD hS => ?_)
          have hP : va_P D vwCl (moW cI m0 m1 m2 m3 m4 m5 pt px py ro an te a1 a2 a3 a4 ma nx ny) H := hP
          have hD : va_D AA (moW cI m0 m1 m2 m3 m4 m5 pt px py ro an te a1 a2 a3 a4 ma nx ny) := hD
          refine lv_iconst (v := 1) hx hb dX2_arm_69 (by decide) ?_
          obtain rfl := Option.some.inj h
          exact W.iret hx hb hr (fun t ht _ => ⟨rfl, by rw [ht]; exact hP, hS.F ht⟩) hS.2.2 dX2_arm_70
        · rw [if_pos c7] at h
          refine lv_bipush (v := -2) hx hb dX2_arm_45 (by decide) ?_
          obtain rfl := Option.some.inj h
          exact W.iret hx hb hr (fun t ht _ => ⟨rfl, by rw [ht]; exact hP, hS.F ht⟩) hS.2.2 dX2_arm_47
def f_X2_teeth (an : Int32) (te : Int32) (a1 : Int32) (a2 : Int32) : Option ((Int32 × Int32 × Int32)) :=
  (f_X2_in a1 (1 : Int32) (1000 : Int32)).bind fun r1 =>
  if r1 = (0) then
  (some ((-2 : Int32), an, te))
  else
  ((f_X2_in a2 (1 : Int32) (10000 : Int32)).bind fun r3 =>
  if r3 = (0) then
  (some ((-2 : Int32), an, te))
  else
  (some ((1 : Int32), a1, a2)))
set_option maxHeartbeats 4000000 in
set_option maxRecDepth 100000 in
theorem k_X2_teeth (l : Launch) (D : va_G) (cI cF : ClassId) (m0 : Nat) (m1 : Nat) (m2 : Nat) (m3 : Nat) (m4 : Nat) (m5 : Nat) (pt : Nat → Int32) (px : Nat → Int32) (py : Nat → Int32) (ro : Int32) (an : Int32) (te : Int32) (fx : Int32) (fy : Int32) (ar : Int32) (be : Int32) (ma : Int32) (nx : Nat → Int32) (ny : Nat → Int32) (a1 : Int32) (a2 : Int32) (r0 : (Int32 × Int32 × Int32)) (h : f_X2_teeth an te a1 a2 = some r0) : Met l yX2_teeth wsX2_teeth ({ frames := 1, cells := 0, slots := 0, locals := 22 }) (va_Pc [.ref m0, .int a1, .int a2] (fun U => wD D cI cF (moW cI m0 m1 m2 m3 m4 m5 pt px py ro an te fx fy ar be ma nx ny) U)) (qW (some (.int r0.1)) (va_A0 (moW cI m0 m1 m2 m3 m4 m5 pt px py ro an te fx fy ar be ma nx ny)) (fun H => va_P D vwCl (moW cI m0 m1 m2 m3 m4 m5 pt px py ro r0.2.1 r0.2.2 fx fy ar be ma nx ny) H)) 0 0 (va_A0 (moW cI m0 m1 m2 m3 m4 m5 pt px py ro an te fx fy ar be ma nx ny)) := by
  refine Met.ofW (cc := cX2_teeth) (maxL := 3) (ret := (some .int)) (by decide) rfl ?_
  intro p e s m args below meth c s₁ B hml hv
  obtain ⟨rfl, hK, hP, hD0⟩ := hv
  have hx := B.exec
  have hb := B.bytes
  have hr := B.returns
  have hts := atoms_spec (ws := wsX2_teeth) B.pre
  have hown : s.vm.findClass RX2 = some m.cls := findClass_of_methodNamed B.named
  have hlocks := B.notSynchronized
  have ht1 := hts (.fieldLink RX2 23 "DrawnAreasModel" "around" "I") (by decide +kernel)
  have hinX2 : ∀ w ∈ u_ws RX2 TX2 13, w ∈ wsX2_teeth := by decide +kernel
  have ht3 := hts (.fieldLink RX2 26 "DrawnAreasModel" "teeth" "I") (by decide +kernel)
  have hD : va_D (va_A0 (moW cI m0 m1 m2 m3 m4 m5 pt px py ro an te fx fy ar be ma nx ny)) (moW cI m0 m1 m2 m3 m4 m5 pt px py ro an te fx fy ar be ma nx ny) := va_D_A0 hD0
  generalize hAe : va_A0 (moW cI m0 m1 m2 m3 m4 m5 pt px py ro an te fx fy ar be ma nx ny) = AA at hD ⊢
  have hS : va_S AA s.heap s.heap [] := va_S.rf
  have hl := lv_entry ([.ref m0, .int a1, .int a2]) (n := 3) (Nat.le_of_ble_eq_true rfl)
  rw [lg_entry_eq]
  generalize (lg_sl ([.ref m0, .int a1, .int a2]) ++ List.replicate (3 - (lg_sl ([.ref m0, .int a1, .int a2])).length) Slot.unset).toArray = ls at hl ⊢
  have hl : lv_has ls 3 [(0, .ref m0), (1, .int a1), (2, .int a2)] := hl
  unfold f_X2_teeth at h
  refine lv_iload_n hx hb dX2_teeth_0 rfl (lv_at hl 1 rfl) ?_
  refine lv_iconst (v := 1) hx hb dX2_teeth_1 (by decide) ?_
  refine lv_sipush (v := 1000) hx hb dX2_teeth_2 (by decide) ?_
  obtain ⟨r1, hcr1, h⟩ := og_bind h
  refine cp_s (va_runS (As := [.int a1, .int (1 : Int32), .int (1000 : Int32)]) (rest := []) ⟨hx, hb, hml, hown, hts⟩ (k_X2_in l a1 (1 : Int32) (1000 : Int32) _ hcr1) (va_cwS 3 hts gX2_teeth_X2_in rfl rfl rfl (by decide +kernel) ⟨(Nat.le_of_ble_eq_true rfl), (Nat.le_of_ble_eq_true rfl)⟩) pre_s rfl rfl hl.1 rfl (lv_room (Nat.le_of_ble_eq_true rfl)) dX2_teeth_5 ⟨(Nat.zero_le _), (Nat.zero_le _)⟩) ?_
  refine lv_if_eq (tgt := 22) hx hb dX2_teeth_8 (by decide) (fun c1 => ?_) (fun c1 => ?_)
  · rw [if_pos c1] at h
    refine lv_bipush (v := -2) hx hb dX2_teeth_22 (by decide) ?_
    obtain rfl := Option.some.inj h
    exact W.iret hx hb hr (fun t ht _ => ⟨rfl, by rw [ht]; exact hP, hS.F ht⟩) hS.2.2 dX2_teeth_24
  · rw [if_neg c1] at h
    refine lv_iload_n hx hb dX2_teeth_11 rfl (lv_at hl 2 rfl) ?_
    refine lv_iconst (v := 1) hx hb dX2_teeth_12 (by decide) ?_
    refine lv_sipush (v := 10000) hx hb dX2_teeth_13 (by decide) ?_
    obtain ⟨r3, hcr3, h⟩ := og_bind h
    refine cp_s (va_runS (As := [.int a2, .int (1 : Int32), .int (10000 : Int32)]) (rest := []) ⟨hx, hb, hml, hown, hts⟩ (k_X2_in l a2 (1 : Int32) (10000 : Int32) _ hcr3) (va_cwS 3 hts gX2_teeth_X2_in rfl rfl rfl (by decide +kernel) ⟨(Nat.le_of_ble_eq_true rfl), (Nat.le_of_ble_eq_true rfl)⟩) pre_s rfl rfl hl.1 rfl (lv_room (Nat.le_of_ble_eq_true rfl)) dX2_teeth_16 ⟨(Nat.zero_le _), (Nat.zero_le _)⟩) ?_
    refine lv_if_ne (tgt := 25) hx hb dX2_teeth_19 (by decide) (fun c3 => ?_) (fun c3 => ?_)
    · rw [if_neg c3] at h
      refine lv_aload_n hx hb dX2_teeth_25 rfl (lv_at hl 0 rfl) ?_
      refine lv_iload_n hx hb dX2_teeth_26 rfl (lv_at hl 1 rfl) ?_
      refine va_put (D := D) (ci := 2) (v := .int a1) (ty := .int) (C := RX2) (T := TX2) (N := 13) hx hb hts hinX2 tyX2 tyX2_ok nmX2 hown hK hP hD hS 0 rfl rfl 4 (by decide) ht1 (fun _ h9 => h9) rfl (by decide +kernel) rfl rfl (Nat.le_of_ble_eq_true rfl) dX2_teeth_27 (fun H locs hP hD hS => ?_)
      have hP : va_P D vwCl (moW cI m0 m1 m2 m3 m4 m5 pt px py ro a1 te fx fy ar be ma nx ny) H := hP
      have hD : va_D AA (moW cI m0 m1 m2 m3 m4 m5 pt px py ro a1 te fx fy ar be ma nx ny) := hD
      refine lv_aload_n hx hb dX2_teeth_30 rfl (lv_at hl 0 rfl) ?_
      refine lv_iload_n hx hb dX2_teeth_31 rfl (lv_at hl 2 rfl) ?_
      refine va_put (D := D) (ci := 2) (v := .int a2) (ty := .int) (C := RX2) (T := TX2) (N := 13) hx hb hts hinX2 tyX2 tyX2_ok nmX2 hown hK hP hD hS 0 rfl rfl 5 (by decide) ht3 (fun _ h9 => h9) rfl (by decide +kernel) rfl rfl (Nat.le_of_ble_eq_true rfl) dX2_teeth_32 (fun H locs hP hD hS => ?_)
      have hP : va_P D vwCl (moW cI m0 m1 m2 m3 m4 m5 pt px py ro a1 a2 fx fy ar be ma nx ny) H := hP
      have hD : va_D AA (moW cI m0 m1 m2 m3 m4 m5 pt px py ro a1 a2 fx fy ar be ma nx ny) := hD
      refine lv_iconst (v := 1) hx hb dX2_teeth_35 (by decide) ?_
      obtain rfl := Option.some.inj h
      exact W.iret hx hb hr (fun t ht _ => ⟨rfl, by rw [ht]; exact hP, hS.F ht⟩) hS.2.2 dX2_teeth_36
    · rw [if_pos c3] at h
      refine lv_bipush (v := -2) hx hb dX2_teeth_22 (by decide) ?_
      obtain rfl := Option.some.inj h
      exact W.iret hx hb hr (fun t ht _ => ⟨rfl, by rw [ht]; exact hP, hS.F ht⟩) hS.2.2 dX2_teeth_24
def f_X2_point (pt : Nat → Int32) (px : Nat → Int32) (py : Nat → Int32) (a1 : Int32) (a2 : Int32) (a3 : Int32) : Option ((Int32 × (Nat → Int32) × (Nat → Int32) × (Nat → Int32))) :=
  (f_X2_isFigure a1).bind fun r1 =>
  if r1 = (0) then
  (some ((-1 : Int32), pt, px, py))
  else
  ((f_X2_isPlace a2).bind fun r3 =>
  if r3 = (0) then
  (some ((-2 : Int32), pt, px, py))
  else
  ((f_X2_isPlace a3).bind fun r5 =>
  if r5 = (0) then
  (some ((-2 : Int32), pt, px, py))
  else
  (if bin a1 6 = true then
  if (pt a1.toNatClampNeg) = (24 : Int32) then
  (some ((-4 : Int32), pt, px, py))
  else
  (if bin a1 6 = true then
  if bin (((24 : Int32) * a1) + (pt a1.toNatClampNeg)) 144 = true then
  ov (upd px (((24 : Int32) * a1) + (pt a1.toNatClampNeg)).toNatClampNeg a2) fun px11 =>
  if bin a1 6 = true then
  if bin (((24 : Int32) * a1) + (pt a1.toNatClampNeg)) 144 = true then
  ov (upd py (((24 : Int32) * a1) + (pt a1.toNatClampNeg)).toNatClampNeg a3) fun py14 =>
  if bin a1 6 = true then
  if bin a1 6 = true then
  ov (upd pt a1.toNatClampNeg ((pt a1.toNatClampNeg) + (1 : Int32))) fun pt17 =>
  if bin a1 6 = true then
  some ((pt17 a1.toNatClampNeg) - (1 : Int32), pt17, px11, py14)
  else none
  else none
  else none
  else none
  else none
  else none
  else none)
  else none)))
set_option maxHeartbeats 4000000 in
set_option maxRecDepth 100000 in
theorem k_X2_point (l : Launch) (D : va_G) (cI cF : ClassId) (m0 : Nat) (m1 : Nat) (m2 : Nat) (m3 : Nat) (m4 : Nat) (m5 : Nat) (pt : Nat → Int32) (px : Nat → Int32) (py : Nat → Int32) (ro : Int32) (an : Int32) (te : Int32) (fx : Int32) (fy : Int32) (ar : Int32) (be : Int32) (ma : Int32) (nx : Nat → Int32) (ny : Nat → Int32) (a1 : Int32) (a2 : Int32) (a3 : Int32) (r0 : (Int32 × (Nat → Int32) × (Nat → Int32) × (Nat → Int32))) (h : f_X2_point pt px py a1 a2 a3 = some r0) : Met l yX2_point wsX2_point ({ frames := 2, cells := 0, slots := 0, locals := 42 }) (va_Pc [.ref m0, .int a1, .int a2, .int a3] (fun U => wD D cI cF (moW cI m0 m1 m2 m3 m4 m5 pt px py ro an te fx fy ar be ma nx ny) U)) (qW (some (.int r0.1)) (va_A0 (moW cI m0 m1 m2 m3 m4 m5 pt px py ro an te fx fy ar be ma nx ny)) (fun H => va_P D vwCl (moW cI m0 m1 m2 m3 m4 m5 r0.2.1 r0.2.2.1 r0.2.2.2 ro an te fx fy ar be ma nx ny) H)) 0 0 (va_A0 (moW cI m0 m1 m2 m3 m4 m5 pt px py ro an te fx fy ar be ma nx ny)) := by
  refine Met.ofW (cc := cX2_point) (maxL := 4) (ret := (some .int)) (by decide) rfl ?_
  intro p e s m args below meth c s₁ B hml hv
  obtain ⟨rfl, hK, hP, hD0⟩ := hv
  have hx := B.exec
  have hb := B.bytes
  have hr := B.returns
  have hts := atoms_spec (ws := wsX2_point) B.pre
  have hown : s.vm.findClass RX2 = some m.cls := findClass_of_methodNamed B.named
  have hlocks := B.notSynchronized
  have ht1 := hts (.fieldLink RX2 7 "DrawnAreasModel" "points" "[I") (by decide +kernel)
  have hinX2 : ∀ w ∈ u_ws RX2 TX2 13, w ∈ wsX2_point := by decide +kernel
  have ht3 := hts (.fieldLink RX2 13 "DrawnAreasModel" "px" "[I") (by decide +kernel)
  have ht4 := hts (.fieldLink RX2 16 "DrawnAreasModel" "py" "[I") (by decide +kernel)
  have hD : va_D (va_A0 (moW cI m0 m1 m2 m3 m4 m5 pt px py ro an te fx fy ar be ma nx ny)) (moW cI m0 m1 m2 m3 m4 m5 pt px py ro an te fx fy ar be ma nx ny) := va_D_A0 hD0
  generalize hAe : va_A0 (moW cI m0 m1 m2 m3 m4 m5 pt px py ro an te fx fy ar be ma nx ny) = AA at hD ⊢
  have hS : va_S AA s.heap s.heap [] := va_S.rf
  have hl := lv_entry ([.ref m0, .int a1, .int a2, .int a3]) (n := 4) (Nat.le_of_ble_eq_true rfl)
  rw [lg_entry_eq]
  generalize (lg_sl ([.ref m0, .int a1, .int a2, .int a3]) ++ List.replicate (4 - (lg_sl ([.ref m0, .int a1, .int a2, .int a3])).length) Slot.unset).toArray = ls at hl ⊢
  have hl : lv_has ls 4 [(0, .ref m0), (1, .int a1), (2, .int a2), (3, .int a3)] := hl
  unfold f_X2_point at h
  refine lv_iload_n hx hb dX2_point_0 rfl (lv_at hl 1 rfl) ?_
  obtain ⟨r1, hcr1, h⟩ := og_bind h
  refine cp_s (va_runS (As := [.int a1]) (rest := []) ⟨hx, hb, hml, hown, hts⟩ (k_X2_isFigure l a1 _ hcr1) (va_cwS 1 hts gX2_point_X2_isFigure rfl rfl rfl (by decide +kernel) ⟨(Nat.le_of_ble_eq_true rfl), (Nat.le_of_ble_eq_true rfl)⟩) pre_s rfl rfl hl.1 rfl (lv_room (Nat.le_of_ble_eq_true rfl)) dX2_point_1 ⟨(Nat.zero_le _), (Nat.zero_le _)⟩) ?_
  refine lv_if_ne (tgt := 9) hx hb dX2_point_4 (by decide) (fun c1 => ?_) (fun c1 => ?_)
  · rw [if_neg c1] at h
    refine lv_iload_n hx hb dX2_point_9 rfl (lv_at hl 2 rfl) ?_
    obtain ⟨r3, hcr3, h⟩ := og_bind h
    refine cp_s (va_runS (As := [.int a2]) (rest := []) ⟨hx, hb, hml, hown, hts⟩ (k_X2_isPlace l a2 _ hcr3) (va_cwS 1 hts gX2_point_X2_isPlace rfl rfl rfl (by decide +kernel) ⟨(Nat.le_of_ble_eq_true rfl), (Nat.le_of_ble_eq_true rfl)⟩) pre_s rfl rfl hl.1 rfl (lv_room (Nat.le_of_ble_eq_true rfl)) dX2_point_10 ⟨(Nat.zero_le _), (Nat.zero_le _)⟩) ?_
    refine lv_if_eq (tgt := 23) hx hb dX2_point_13 (by decide) (fun c3 => ?_) (fun c3 => ?_)
    · rw [if_pos c3] at h
      refine lv_bipush (v := -2) hx hb dX2_point_23 (by decide) ?_
      obtain rfl := Option.some.inj h
      exact W.iret hx hb hr (fun t ht _ => ⟨rfl, by rw [ht]; exact hP, hS.F ht⟩) hS.2.2 dX2_point_25
    · rw [if_neg c3] at h
      refine lv_iload_n hx hb dX2_point_16 rfl (lv_at hl 3 rfl) ?_
      obtain ⟨r5, hcr5, h⟩ := og_bind h
      refine cp_s (va_runS (As := [.int a3]) (rest := []) ⟨hx, hb, hml, hown, hts⟩ (k_X2_isPlace l a3 _ hcr5) (va_cwS 1 hts gX2_point_X2_isPlace rfl rfl rfl (by decide +kernel) ⟨(Nat.le_of_ble_eq_true rfl), (Nat.le_of_ble_eq_true rfl)⟩) pre_s rfl rfl hl.1 rfl (lv_room (Nat.le_of_ble_eq_true rfl)) dX2_point_17 ⟨(Nat.zero_le _), (Nat.zero_le _)⟩) ?_
      refine lv_if_ne (tgt := 26) hx hb dX2_point_20 (by decide) (fun c5 => ?_) (fun c5 => ?_)
      · rw [if_neg c5] at h
        refine lv_aload_n hx hb dX2_point_26 rfl (lv_at hl 0 rfl) ?_
        refine va_get (D := D) (ci := 2) (v := .ref m1) (C := RX2) (T := TX2) (N := 13) hx hb hts hinX2 hown hK hP 0 rfl rfl 0 (by decide) ht1 (fun _ h9 => h9) rfl dX2_point_27 ?_
        refine lv_iload_n hx hb dX2_point_30 rfl (lv_at hl 1 rfl) ?_
        obtain ⟨gi6, h⟩ := og_in h
        refine va_iald hx hb hK hP 1 0 rfl rfl gi6 dX2_point_31 ?_
        refine lv_bipush (v := 24) hx hb dX2_point_32 (by decide) ?_
        refine lv_icmp_ne (tgt := 40) hx hb dX2_point_34 (by decide) (fun c7 => ?_) (fun c7 => ?_)
        · rw [if_neg c7] at h
          refine lv_aload_n hx hb dX2_point_40 rfl (lv_at hl 0 rfl) ?_
          refine va_get (D := D) (ci := 2) (v := .ref m2) (C := RX2) (T := TX2) (N := 13) hx hb hts hinX2 hown hK hP 0 rfl rfl 1 (by decide) ht3 (fun _ h9 => h9) rfl dX2_point_41 ?_
          refine lv_bipush (v := 24) hx hb dX2_point_44 (by decide) ?_
          refine lv_iload_n hx hb dX2_point_46 rfl (lv_at hl 1 rfl) ?_
          refine lv_imul hx hb dX2_point_47 ?_
          refine lv_aload_n hx hb dX2_point_48 rfl (lv_at hl 0 rfl) ?_
          refine va_get (D := D) (ci := 2) (v := .ref m1) (C := RX2) (T := TX2) (N := 13) hx hb hts hinX2 hown hK hP 0 rfl rfl 0 (by decide) ht1 (fun _ h9 => h9) rfl dX2_point_49 ?_
          refine lv_iload_n hx hb dX2_point_52 rfl (lv_at hl 1 rfl) ?_
          obtain ⟨gi8, h⟩ := og_in h
          refine va_iald hx hb hK hP 1 0 rfl rfl gi8 dX2_point_53 ?_
          refine lv_iadd hx hb dX2_point_54 ?_
          refine lv_iload_n hx hb dX2_point_55 rfl (lv_at hl 2 rfl) ?_
          obtain ⟨gi9, h⟩ := og_in h
          refine va_iast hx hb hK hP hD hS 2 0 rfl rfl gi9 dX2_point_56 (fun H locs hP hD hS => ?_)
          obtain ⟨px11, epx11⟩ : ∃ y : Nat → Int32, y = upd px (((24 : Int32) * a1) + (pt a1.toNatClampNeg)).toNatClampNeg a2 := ⟨_, rfl⟩
          have h := og_ov h epx11
          rw [← epx11] at hP hD
          have hP : va_P D vwCl (moW cI m0 m1 m2 m3 m4 m5 pt px11 py ro an te fx fy ar be ma nx ny) H := hP
          have hD : va_D AA (moW cI m0 m1 m2 m3 m4 m5 pt px11 py ro an te fx fy ar be ma nx ny) := hD
          refine lv_aload_n hx hb dX2_point_57 rfl (lv_at hl 0 rfl) ?_
          refine va_get (D := D) (ci := 2) (v := .ref m3) (C := RX2) (T := TX2) (N := 13) hx hb hts hinX2 hown hK hP 0 rfl rfl 2 (by decide) ht4 (fun _ h9 => h9) rfl dX2_point_58 ?_
          refine lv_bipush (v := 24) hx hb dX2_point_61 (by decide) ?_
          refine lv_iload_n hx hb dX2_point_63 rfl (lv_at hl 1 rfl) ?_
          refine lv_imul hx hb dX2_point_64 ?_
          refine lv_aload_n hx hb dX2_point_65 rfl (lv_at hl 0 rfl) ?_
          refine va_get (D := D) (ci := 2) (v := .ref m1) (C := RX2) (T := TX2) (N := 13) hx hb hts hinX2 hown hK hP 0 rfl rfl 0 (by decide) ht1 (fun _ h9 => h9) rfl dX2_point_66 ?_
          refine lv_iload_n hx hb dX2_point_69 rfl (lv_at hl 1 rfl) ?_
          obtain ⟨gi11, h⟩ := og_in h
          refine va_iald hx hb hK hP 1 0 rfl rfl gi11 dX2_point_70 ?_
          refine lv_iadd hx hb dX2_point_71 ?_
          refine lv_iload_n hx hb dX2_point_72 rfl (lv_at hl 3 rfl) ?_
          obtain ⟨gi12, h⟩ := og_in h
          refine va_iast hx hb hK hP hD hS 3 0 rfl rfl gi12 dX2_point_73 (fun H locs hP hD hS => ?_)
          obtain ⟨py14, epy14⟩ : ∃ y : Nat → Int32, y = upd py (((24 : Int32) * a1) + (pt a1.toNatClampNeg)).toNatClampNeg a3 := ⟨_, rfl⟩
          have h := og_ov h epy14
          rw [← epy14] at hP hD
          have hP : va_P D vwCl (moW cI m0 m1 m2 m3 m4 m5 pt px11 py14 ro an te fx fy ar be ma nx ny) H := hP
          have hD : va_D AA (moW cI m0 m1 m2 m3 m4 m5 pt px11 py14 ro an te fx fy ar be ma nx ny) := hD
          refine lv_aload_n hx hb dX2_point_74 rfl (lv_at hl 0 rfl) ?_
          refine va_get (D := D) (ci := 2) (v := .ref m1) (C := RX2) (T := TX2) (N := 13) hx hb hts hinX2 hown hK hP 0 rfl rfl 0 (by decide) ht1 (fun _ h9 => h9) rfl dX2_point_75 ?_
          refine lv_iload_n hx hb dX2_point_78 rfl (lv_at hl 1 rfl) ?_
          refine lv_dup2_11 hx hb dX2_point_79 rfl rfl ?_
          obtain ⟨gi14, h⟩ := og_in h
          refine va_iald hx hb hK hP 1 0 rfl rfl gi14 dX2_point_80 ?_
          refine lv_iconst (v := 1) hx hb dX2_point_81 (by decide) ?_
          refine lv_iadd hx hb dX2_point_82 ?_
          obtain ⟨gi15, h⟩ := og_in h
          refine va_iast hx hb hK hP hD hS 1 0 rfl rfl gi15 dX2_point_83 (fun H locs hP hD hS => ?_)
          obtain ⟨pt17, ept17⟩ : ∃ y : Nat → Int32, y = upd pt a1.toNatClampNeg ((pt a1.toNatClampNeg) + (1 : Int32)) := ⟨_, rfl⟩
          have h := og_ov h ept17
          rw [← ept17] at hP hD
          have hP : va_P D vwCl (moW cI m0 m1 m2 m3 m4 m5 pt17 px11 py14 ro an te fx fy ar be ma nx ny) H := hP
          have hD : va_D AA (moW cI m0 m1 m2 m3 m4 m5 pt17 px11 py14 ro an te fx fy ar be ma nx ny) := hD
          refine lv_aload_n hx hb dX2_point_84 rfl (lv_at hl 0 rfl) ?_
          refine va_get (D := D) (ci := 2) (v := .ref m1) (C := RX2) (T := TX2) (N := 13) hx hb hts hinX2 hown hK hP 0 rfl rfl 0 (by decide) ht1 (fun _ h9 => h9) rfl dX2_point_85 ?_
          refine lv_iload_n hx hb dX2_point_88 rfl (lv_at hl 1 rfl) ?_
          obtain ⟨gi17, h⟩ := og_in h
          refine va_iald hx hb hK hP 1 0 rfl rfl gi17 dX2_point_89 ?_
          refine lv_iconst (v := 1) hx hb dX2_point_90 (by decide) ?_
          refine lv_isub hx hb dX2_point_91 ?_
          obtain rfl := Option.some.inj h
          exact W.iret hx hb hr (fun t ht _ => ⟨rfl, by rw [ht]; exact hP, hS.F ht⟩) hS.2.2 dX2_point_92
        · rw [if_pos c7] at h
          refine lv_bipush (v := -4) hx hb dX2_point_37 (by decide) ?_
          obtain rfl := Option.some.inj h
          exact W.iret hx hb hr (fun t ht _ => ⟨rfl, by rw [ht]; exact hP, hS.F ht⟩) hS.2.2 dX2_point_39
      · rw [if_pos c5] at h
        refine lv_bipush (v := -2) hx hb dX2_point_23 (by decide) ?_
        obtain rfl := Option.some.inj h
        exact W.iret hx hb hr (fun t ht _ => ⟨rfl, by rw [ht]; exact hP, hS.F ht⟩) hS.2.2 dX2_point_25
  · rw [if_pos c1] at h
    refine lv_iconst (v := -1) hx hb dX2_point_7 (by decide) ?_
    obtain rfl := Option.some.inj h
    exact W.iret hx hb hr (fun t ht _ => ⟨rfl, by rw [ht]; exact hP, hS.F ht⟩) hS.2.2 dX2_point_8
def f_X2_move (pt : Nat → Int32) (px : Nat → Int32) (py : Nat → Int32) (a1 : Int32) (a2 : Int32) (a3 : Int32) (a4 : Int32) : Option ((Int32 × (Nat → Int32) × (Nat → Int32))) :=
  (f_X2_isPoint pt a1 a2).bind fun r1 =>
  if r1 = (0) then
  (some ((-1 : Int32), px, py))
  else
  ((f_X2_isPlace a3).bind fun r3 =>
  if r3 = (0) then
  (some ((-2 : Int32), px, py))
  else
  ((f_X2_isPlace a4).bind fun r5 =>
  if r5 = (0) then
  (some ((-2 : Int32), px, py))
  else
  (if bin (((24 : Int32) * a1) + a2) 144 = true then
  ov (upd px (((24 : Int32) * a1) + a2).toNatClampNeg a3) fun px8 =>
  if bin (((24 : Int32) * a1) + a2) 144 = true then
  ov (upd py (((24 : Int32) * a1) + a2).toNatClampNeg a4) fun py10 =>
  some ((1 : Int32), px8, py10)
  else none
  else none)))
set_option maxHeartbeats 4000000 in
set_option maxRecDepth 100000 in
theorem k_X2_move (l : Launch) (D : va_G) (cI cF : ClassId) (m0 : Nat) (m1 : Nat) (m2 : Nat) (m3 : Nat) (m4 : Nat) (m5 : Nat) (pt : Nat → Int32) (px : Nat → Int32) (py : Nat → Int32) (ro : Int32) (an : Int32) (te : Int32) (fx : Int32) (fy : Int32) (ar : Int32) (be : Int32) (ma : Int32) (nx : Nat → Int32) (ny : Nat → Int32) (a1 : Int32) (a2 : Int32) (a3 : Int32) (a4 : Int32) (r0 : (Int32 × (Nat → Int32) × (Nat → Int32))) (h : f_X2_move pt px py a1 a2 a3 a4 = some r0) : Met l yX2_move wsX2_move ({ frames := 3, cells := 0, slots := 0, locals := 64 }) (va_Pc [.ref m0, .int a1, .int a2, .int a3, .int a4] (fun U => wD D cI cF (moW cI m0 m1 m2 m3 m4 m5 pt px py ro an te fx fy ar be ma nx ny) U)) (qW (some (.int r0.1)) (va_A0 (moW cI m0 m1 m2 m3 m4 m5 pt px py ro an te fx fy ar be ma nx ny)) (fun H => va_P D vwCl (moW cI m0 m1 m2 m3 m4 m5 pt r0.2.1 r0.2.2 ro an te fx fy ar be ma nx ny) H)) 0 0 (va_A0 (moW cI m0 m1 m2 m3 m4 m5 pt px py ro an te fx fy ar be ma nx ny)) := by
  refine Met.ofW (cc := cX2_move) (maxL := 5) (ret := (some .int)) (by decide) rfl ?_
  intro p e s m args below meth c s₁ B hml hv
  obtain ⟨rfl, hK, hP, hD0⟩ := hv
  have hx := B.exec
  have hb := B.bytes
  have hr := B.returns
  have hts := atoms_spec (ws := wsX2_move) B.pre
  have hown : s.vm.findClass RX2 = some m.cls := findClass_of_methodNamed B.named
  have hlocks := B.notSynchronized
  have ht1 := hts (.fieldLink RX2 13 "DrawnAreasModel" "px" "[I") (by decide +kernel)
  have hinX2 : ∀ w ∈ u_ws RX2 TX2 13, w ∈ wsX2_move := by decide +kernel
  have ht3 := hts (.fieldLink RX2 16 "DrawnAreasModel" "py" "[I") (by decide +kernel)
  have hD : va_D (va_A0 (moW cI m0 m1 m2 m3 m4 m5 pt px py ro an te fx fy ar be ma nx ny)) (moW cI m0 m1 m2 m3 m4 m5 pt px py ro an te fx fy ar be ma nx ny) := va_D_A0 hD0
  generalize hAe : va_A0 (moW cI m0 m1 m2 m3 m4 m5 pt px py ro an te fx fy ar be ma nx ny) = AA at hD ⊢
  have hS : va_S AA s.heap s.heap [] := va_S.rf
  have hl := lv_entry ([.ref m0, .int a1, .int a2, .int a3, .int a4]) (n := 5) (Nat.le_of_ble_eq_true rfl)
  rw [lg_entry_eq]
  generalize (lg_sl ([.ref m0, .int a1, .int a2, .int a3, .int a4]) ++ List.replicate (5 - (lg_sl ([.ref m0, .int a1, .int a2, .int a3, .int a4])).length) Slot.unset).toArray = ls at hl ⊢
  have hl : lv_has ls 5 [(0, .ref m0), (1, .int a1), (2, .int a2), (3, .int a3), (4, .int a4)] := hl
  unfold f_X2_move at h
  refine lv_aload_n hx hb dX2_move_0 rfl (lv_at hl 0 rfl) ?_
  refine lv_iload_n hx hb dX2_move_1 rfl (lv_at hl 1 rfl) ?_
  refine lv_iload_n hx hb dX2_move_2 rfl (lv_at hl 2 rfl) ?_
  obtain ⟨r1, hcr1, h⟩ := og_bind h
  refine cp_s (va_runV (As := [.int a1, .int a2]) (rest := []) ⟨hx, hb, hml, hown, hts⟩ (k_X2_isPoint l D cI cF m0 m1 m2 m3 m4 m5 pt px py ro an te fx fy ar be ma nx ny a1 a2 _ hcr1) (cwV 2 hts gX2_move_X2_isPoint rfl rfl rfl (by decide +kernel) ⟨(Nat.le_of_ble_eq_true rfl), (Nat.le_of_ble_eq_true rfl)⟩) (pre_v (q0 := 0) (ci := 2) hK hP rfl rfl) rfl rfl hl.1 rfl (lv_room (Nat.le_of_ble_eq_true rfl)) dX2_move_3 ⟨(Nat.zero_le _), (Nat.zero_le _)⟩) ?_
  refine lv_if_ne (tgt := 11) hx hb dX2_move_6 (by decide) (fun c1 => ?_) (fun c1 => ?_)
  · rw [if_neg c1] at h
    refine lv_iload_n hx hb dX2_move_11 rfl (lv_at hl 3 rfl) ?_
    obtain ⟨r3, hcr3, h⟩ := og_bind h
    refine cp_s (va_runS (As := [.int a3]) (rest := []) ⟨hx, hb, hml, hown, hts⟩ (k_X2_isPlace l a3 _ hcr3) (va_cwS 1 hts gX2_move_X2_isPlace rfl rfl rfl (by decide +kernel) ⟨(Nat.le_of_ble_eq_true rfl), (Nat.le_of_ble_eq_true rfl)⟩) pre_s rfl rfl hl.1 rfl (lv_room (Nat.le_of_ble_eq_true rfl)) dX2_move_12 ⟨(Nat.zero_le _), (Nat.zero_le _)⟩) ?_
    refine lv_if_eq (tgt := 26) hx hb dX2_move_15 (by decide) (fun c3 => ?_) (fun c3 => ?_)
    · rw [if_pos c3] at h
      refine lv_bipush (v := -2) hx hb dX2_move_26 (by decide) ?_
      obtain rfl := Option.some.inj h
      exact W.iret hx hb hr (fun t ht _ => ⟨rfl, by rw [ht]; exact hP, hS.F ht⟩) hS.2.2 dX2_move_28
    · rw [if_neg c3] at h
      refine lv_iload hx hb dX2_move_18 (lv_at hl 4 rfl) ?_
      obtain ⟨r5, hcr5, h⟩ := og_bind h
      refine cp_s (va_runS (As := [.int a4]) (rest := []) ⟨hx, hb, hml, hown, hts⟩ (k_X2_isPlace l a4 _ hcr5) (va_cwS 1 hts gX2_move_X2_isPlace rfl rfl rfl (by decide +kernel) ⟨(Nat.le_of_ble_eq_true rfl), (Nat.le_of_ble_eq_true rfl)⟩) pre_s rfl rfl hl.1 rfl (lv_room (Nat.le_of_ble_eq_true rfl)) dX2_move_20 ⟨(Nat.zero_le _), (Nat.zero_le _)⟩) ?_
      refine lv_if_ne (tgt := 29) hx hb dX2_move_23 (by decide) (fun c5 => ?_) (fun c5 => ?_)
      · rw [if_neg c5] at h
        refine lv_aload_n hx hb dX2_move_29 rfl (lv_at hl 0 rfl) ?_
        refine va_get (D := D) (ci := 2) (v := .ref m2) (C := RX2) (T := TX2) (N := 13) hx hb hts hinX2 hown hK hP 0 rfl rfl 1 (by decide) ht1 (fun _ h9 => h9) rfl dX2_move_30 ?_
        refine lv_bipush (v := 24) hx hb dX2_move_33 (by decide) ?_
        refine lv_iload_n hx hb dX2_move_35 rfl (lv_at hl 1 rfl) ?_
        refine lv_imul hx hb dX2_move_36 ?_
        refine lv_iload_n hx hb dX2_move_37 rfl (lv_at hl 2 rfl) ?_
        refine lv_iadd hx hb dX2_move_38 ?_
        refine lv_iload_n hx hb dX2_move_39 rfl (lv_at hl 3 rfl) ?_
        obtain ⟨gi6, h⟩ := og_in h
        refine va_iast hx hb hK hP hD hS 2 0 rfl rfl gi6 dX2_move_40 (fun H locs hP hD hS => ?_)
        obtain ⟨px8, epx8⟩ : ∃ y : Nat → Int32, y = upd px (((24 : Int32) * a1) + a2).toNatClampNeg a3 := ⟨_, rfl⟩
        have h := og_ov h epx8
        rw [← epx8] at hP hD
        have hP : va_P D vwCl (moW cI m0 m1 m2 m3 m4 m5 pt px8 py ro an te fx fy ar be ma nx ny) H := hP
        have hD : va_D AA (moW cI m0 m1 m2 m3 m4 m5 pt px8 py ro an te fx fy ar be ma nx ny) := hD
        refine lv_aload_n hx hb dX2_move_41 rfl (lv_at hl 0 rfl) ?_
        refine va_get (D := D) (ci := 2) (v := .ref m3) (C := RX2) (T := TX2) (N := 13) hx hb hts hinX2 hown hK hP 0 rfl rfl 2 (by decide) ht3 (fun _ h9 => h9) rfl dX2_move_42 ?_
        refine lv_bipush (v := 24) hx hb dX2_move_45 (by decide) ?_
        refine lv_iload_n hx hb dX2_move_47 rfl (lv_at hl 1 rfl) ?_
        refine lv_imul hx hb dX2_move_48 ?_
        refine lv_iload_n hx hb dX2_move_49 rfl (lv_at hl 2 rfl) ?_
        refine lv_iadd hx hb dX2_move_50 ?_
        refine lv_iload hx hb dX2_move_51 (lv_at hl 4 rfl) ?_
        obtain ⟨gi8, h⟩ := og_in h
        refine va_iast hx hb hK hP hD hS 3 0 rfl rfl gi8 dX2_move_53 (fun H locs hP hD hS => ?_)
        obtain ⟨py10, epy10⟩ : ∃ y : Nat → Int32, y = upd py (((24 : Int32) * a1) + a2).toNatClampNeg a4 := ⟨_, rfl⟩
        have h := og_ov h epy10
        rw [← epy10] at hP hD
        have hP : va_P D vwCl (moW cI m0 m1 m2 m3 m4 m5 pt px8 py10 ro an te fx fy ar be ma nx ny) H := hP
        have hD : va_D AA (moW cI m0 m1 m2 m3 m4 m5 pt px8 py10 ro an te fx fy ar be ma nx ny) := hD
        refine lv_iconst (v := 1) hx hb dX2_move_54 (by decide) ?_
        obtain rfl := Option.some.inj h
        exact W.iret hx hb hr (fun t ht _ => ⟨rfl, by rw [ht]; exact hP, hS.F ht⟩) hS.2.2 dX2_move_55
      · rw [if_pos c5] at h
        refine lv_bipush (v := -2) hx hb dX2_move_26 (by decide) ?_
        obtain rfl := Option.some.inj h
        exact W.iret hx hb hr (fun t ht _ => ⟨rfl, by rw [ht]; exact hP, hS.F ht⟩) hS.2.2 dX2_move_28
  · rw [if_pos c1] at h
    refine lv_iconst (v := -1) hx hb dX2_move_9 (by decide) ?_
    obtain rfl := Option.some.inj h
    exact W.iret hx hb hr (fun t ht _ => ⟨rfl, by rw [ht]; exact hP, hS.F ht⟩) hS.2.2 dX2_move_10
def f_X2_clear (pt : Nat → Int32) (a1 : Int32) : Option ((Int32 × (Nat → Int32))) :=
  (f_X2_isFigure a1).bind fun r1 =>
  if r1 = (0) then
  (some ((-1 : Int32), pt))
  else
  (if bin a1 6 = true then
  ov (pt a1.toNatClampNeg) fun v4 =>
  if bin a1 6 = true then
  ov (upd pt a1.toNatClampNeg (0 : Int32)) fun pt6 =>
  some (v4, pt6)
  else none
  else none)
set_option maxHeartbeats 4000000 in
set_option maxRecDepth 100000 in
theorem k_X2_clear (l : Launch) (D : va_G) (cI cF : ClassId) (m0 : Nat) (m1 : Nat) (m2 : Nat) (m3 : Nat) (m4 : Nat) (m5 : Nat) (pt : Nat → Int32) (px : Nat → Int32) (py : Nat → Int32) (ro : Int32) (an : Int32) (te : Int32) (fx : Int32) (fy : Int32) (ar : Int32) (be : Int32) (ma : Int32) (nx : Nat → Int32) (ny : Nat → Int32) (a1 : Int32) (r0 : (Int32 × (Nat → Int32))) (h : f_X2_clear pt a1 = some r0) : Met l yX2_clear wsX2_clear ({ frames := 2, cells := 0, slots := 0, locals := 42 }) (va_Pc [.ref m0, .int a1] (fun U => wD D cI cF (moW cI m0 m1 m2 m3 m4 m5 pt px py ro an te fx fy ar be ma nx ny) U)) (qW (some (.int r0.1)) (va_A0 (moW cI m0 m1 m2 m3 m4 m5 pt px py ro an te fx fy ar be ma nx ny)) (fun H => va_P D vwCl (moW cI m0 m1 m2 m3 m4 m5 r0.2 px py ro an te fx fy ar be ma nx ny) H)) 0 0 (va_A0 (moW cI m0 m1 m2 m3 m4 m5 pt px py ro an te fx fy ar be ma nx ny)) := by
  refine Met.ofW (cc := cX2_clear) (maxL := 3) (ret := (some .int)) (by decide) rfl ?_
  intro p e s m args below meth c s₁ B hml hv
  obtain ⟨rfl, hK, hP, hD0⟩ := hv
  have hx := B.exec
  have hb := B.bytes
  have hr := B.returns
  have hts := atoms_spec (ws := wsX2_clear) B.pre
  have hown : s.vm.findClass RX2 = some m.cls := findClass_of_methodNamed B.named
  have hlocks := B.notSynchronized
  have ht1 := hts (.fieldLink RX2 7 "DrawnAreasModel" "points" "[I") (by decide +kernel)
  have hinX2 : ∀ w ∈ u_ws RX2 TX2 13, w ∈ wsX2_clear := by decide +kernel
  have hD : va_D (va_A0 (moW cI m0 m1 m2 m3 m4 m5 pt px py ro an te fx fy ar be ma nx ny)) (moW cI m0 m1 m2 m3 m4 m5 pt px py ro an te fx fy ar be ma nx ny) := va_D_A0 hD0
  generalize hAe : va_A0 (moW cI m0 m1 m2 m3 m4 m5 pt px py ro an te fx fy ar be ma nx ny) = AA at hD ⊢
  have hS : va_S AA s.heap s.heap [] := va_S.rf
  have hl := lv_entry ([.ref m0, .int a1]) (n := 3) (Nat.le_of_ble_eq_true rfl)
  rw [lg_entry_eq]
  generalize (lg_sl ([.ref m0, .int a1]) ++ List.replicate (3 - (lg_sl ([.ref m0, .int a1])).length) Slot.unset).toArray = ls at hl ⊢
  have hl : lv_has ls 3 [(0, .ref m0), (1, .int a1)] := hl
  unfold f_X2_clear at h
  refine lv_iload_n hx hb dX2_clear_0 rfl (lv_at hl 1 rfl) ?_
  obtain ⟨r1, hcr1, h⟩ := og_bind h
  refine cp_s (va_runS (As := [.int a1]) (rest := []) ⟨hx, hb, hml, hown, hts⟩ (k_X2_isFigure l a1 _ hcr1) (va_cwS 1 hts gX2_clear_X2_isFigure rfl rfl rfl (by decide +kernel) ⟨(Nat.le_of_ble_eq_true rfl), (Nat.le_of_ble_eq_true rfl)⟩) pre_s rfl rfl hl.1 rfl (lv_room (Nat.le_of_ble_eq_true rfl)) dX2_clear_1 ⟨(Nat.zero_le _), (Nat.zero_le _)⟩) ?_
  refine lv_if_ne (tgt := 9) hx hb dX2_clear_4 (by decide) (fun c1 => ?_) (fun c1 => ?_)
  · rw [if_neg c1] at h
    refine lv_aload_n hx hb dX2_clear_9 rfl (lv_at hl 0 rfl) ?_
    refine va_get (D := D) (ci := 2) (v := .ref m1) (C := RX2) (T := TX2) (N := 13) hx hb hts hinX2 hown hK hP 0 rfl rfl 0 (by decide) ht1 (fun _ h9 => h9) rfl dX2_clear_10 ?_
    refine lv_iload_n hx hb dX2_clear_13 rfl (lv_at hl 1 rfl) ?_
    obtain ⟨gi2, h⟩ := og_in h
    refine va_iald hx hb hK hP 1 0 rfl rfl gi2 dX2_clear_14 ?_
    refine lv_topi (fun v4 ev4 => ?_)
    have h := og_ov h ev4
    refine lv_istore_n (lv' := [(2, .int v4), (0, .ref m0), (1, .int a1)]) hx hb dX2_clear_15 rfl hl (by decide) rfl (fun ls hl => ?_)
    refine lv_aload_n hx hb dX2_clear_16 rfl (lv_at hl 1 rfl) ?_
    refine va_get (D := D) (ci := 2) (v := .ref m1) (C := RX2) (T := TX2) (N := 13) hx hb hts hinX2 hown hK hP 0 rfl rfl 0 (by decide) ht1 (fun _ h9 => h9) rfl dX2_clear_17 ?_
    refine lv_iload_n hx hb dX2_clear_20 rfl (lv_at hl 2 rfl) ?_
    refine lv_iconst (v := 0) hx hb dX2_clear_21 (by decide) ?_
    obtain ⟨gi4, h⟩ := og_in h
    refine va_iast hx hb hK hP hD hS 1 0 rfl rfl gi4 dX2_clear_22 (fun H locs hP hD hS => ?_)
    obtain ⟨pt6, ept6⟩ : ∃ y : Nat → Int32, y = upd pt a1.toNatClampNeg (0 : Int32) := ⟨_, rfl⟩
    have h := og_ov h ept6
    rw [← ept6] at hP hD
    have hP : va_P D vwCl (moW cI m0 m1 m2 m3 m4 m5 pt6 px py ro an te fx fy ar be ma nx ny) H := hP
    have hD : va_D AA (moW cI m0 m1 m2 m3 m4 m5 pt6 px py ro an te fx fy ar be ma nx ny) := hD
    refine lv_iload_n hx hb dX2_clear_23 rfl (lv_at hl 0 rfl) ?_
    obtain rfl := Option.some.inj h
    exact W.iret hx hb hr (fun t ht _ => ⟨rfl, by rw [ht]; exact hP, hS.F ht⟩) hS.2.2 dX2_clear_24
  · rw [if_pos c1] at h
    refine lv_iconst (v := -1) hx hb dX2_clear_7 (by decide) ?_
    obtain rfl := Option.some.inj h
    exact W.iret hx hb hr (fun t ht _ => ⟨rfl, by rw [ht]; exact hP, hS.F ht⟩) hS.2.2 dX2_clear_8
def f_X2_lay (ma : Int32) (nx : Nat → Int32) (ny : Nat → Int32) (a1 : Int32) (a2 : Int32) : Option ((Int32 × (Nat → Int32) × (Nat → Int32))) :=
  if bin ma 48 = true then
  ov (upd nx ma.toNatClampNeg a1) fun nx2 =>
  if bin ma 48 = true then
  ov (upd ny ma.toNatClampNeg a2) fun ny4 =>
  ov (ma + (1 : Int32)) fun v5 =>
  some (v5, nx2, ny4)
  else none
  else none
set_option maxHeartbeats 4000000 in
set_option maxRecDepth 100000 in
theorem k_X2_lay (l : Launch) (D : va_G) (cI cF : ClassId) (m0 : Nat) (m1 : Nat) (m2 : Nat) (m3 : Nat) (m4 : Nat) (m5 : Nat) (pt : Nat → Int32) (px : Nat → Int32) (py : Nat → Int32) (ro : Int32) (an : Int32) (te : Int32) (fx : Int32) (fy : Int32) (ar : Int32) (be : Int32) (ma : Int32) (nx : Nat → Int32) (ny : Nat → Int32) (a1 : Int32) (a2 : Int32) (r0 : (Int32 × (Nat → Int32) × (Nat → Int32))) (h : f_X2_lay ma nx ny a1 a2 = some r0) : Met l yX2_lay wsX2_lay ({ frames := 0, cells := 0, slots := 0, locals := 0 }) (va_Pc [.ref m0, .int a1, .int a2] (fun U => wD D cI cF (moW cI m0 m1 m2 m3 m4 m5 pt px py ro an te fx fy ar be ma nx ny) U)) (qW none (va_A0 (moW cI m0 m1 m2 m3 m4 m5 pt px py ro an te fx fy ar be ma nx ny)) (fun H => va_P D vwCl (moW cI m0 m1 m2 m3 m4 m5 pt px py ro an te fx fy ar be r0.1 r0.2.1 r0.2.2) H)) 0 0 (va_A0 (moW cI m0 m1 m2 m3 m4 m5 pt px py ro an te fx fy ar be ma nx ny)) := by
  refine Met.ofW (cc := cX2_lay) (maxL := 3) (ret := none) (by decide) rfl ?_
  intro p e s m args below meth c s₁ B hml hv
  obtain ⟨rfl, hK, hP, hD0⟩ := hv
  have hx := B.exec
  have hb := B.bytes
  have hr := B.returns
  have hts := atoms_spec (ws := wsX2_lay) B.pre
  have hown : s.vm.findClass RX2 = some m.cls := findClass_of_methodNamed B.named
  have hlocks := B.notSynchronized
  have ht1 := hts (.fieldLink RX2 32 "DrawnAreasModel" "newX" "[I") (by decide +kernel)
  have hinX2 : ∀ w ∈ u_ws RX2 TX2 13, w ∈ wsX2_lay := by decide +kernel
  have ht3 := hts (.fieldLink RX2 60 "DrawnAreasModel" "many" "I") (by decide +kernel)
  have ht4 := hts (.fieldLink RX2 35 "DrawnAreasModel" "newY" "[I") (by decide +kernel)
  have hD : va_D (va_A0 (moW cI m0 m1 m2 m3 m4 m5 pt px py ro an te fx fy ar be ma nx ny)) (moW cI m0 m1 m2 m3 m4 m5 pt px py ro an te fx fy ar be ma nx ny) := va_D_A0 hD0
  generalize hAe : va_A0 (moW cI m0 m1 m2 m3 m4 m5 pt px py ro an te fx fy ar be ma nx ny) = AA at hD ⊢
  have hS : va_S AA s.heap s.heap [] := va_S.rf
  have hl := lv_entry ([.ref m0, .int a1, .int a2]) (n := 3) (Nat.le_of_ble_eq_true rfl)
  rw [lg_entry_eq]
  generalize (lg_sl ([.ref m0, .int a1, .int a2]) ++ List.replicate (3 - (lg_sl ([.ref m0, .int a1, .int a2])).length) Slot.unset).toArray = ls at hl ⊢
  have hl : lv_has ls 3 [(0, .ref m0), (1, .int a1), (2, .int a2)] := hl
  unfold f_X2_lay at h
  refine lv_aload_n hx hb dX2_lay_0 rfl (lv_at hl 0 rfl) ?_
  refine va_get (D := D) (ci := 2) (v := .ref m4) (C := RX2) (T := TX2) (N := 13) hx hb hts hinX2 hown hK hP 0 rfl rfl 11 (by decide) ht1 (fun _ h9 => h9) rfl dX2_lay_1 ?_
  refine lv_aload_n hx hb dX2_lay_4 rfl (lv_at hl 0 rfl) ?_
  refine va_get (D := D) (ci := 2) (v := .int ma) (C := RX2) (T := TX2) (N := 13) hx hb hts hinX2 hown hK hP 0 rfl rfl 10 (by decide) ht3 (fun _ h9 => h9) rfl dX2_lay_5 ?_
  refine lv_iload_n hx hb dX2_lay_8 rfl (lv_at hl 1 rfl) ?_
  obtain ⟨gi0, h⟩ := og_in h
  refine va_iast hx hb hK hP hD hS 4 0 rfl rfl gi0 dX2_lay_9 (fun H locs hP hD hS => ?_)
  obtain ⟨nx2, enx2⟩ : ∃ y : Nat → Int32, y = upd nx ma.toNatClampNeg a1 := ⟨_, rfl⟩
  have h := og_ov h enx2
  rw [← enx2] at hP hD
  have hP : va_P D vwCl (moW cI m0 m1 m2 m3 m4 m5 pt px py ro an te fx fy ar be ma nx2 ny) H := hP
  have hD : va_D AA (moW cI m0 m1 m2 m3 m4 m5 pt px py ro an te fx fy ar be ma nx2 ny) := hD
  refine lv_aload_n hx hb dX2_lay_10 rfl (lv_at hl 0 rfl) ?_
  refine va_get (D := D) (ci := 2) (v := .ref m5) (C := RX2) (T := TX2) (N := 13) hx hb hts hinX2 hown hK hP 0 rfl rfl 12 (by decide) ht4 (fun _ h9 => h9) rfl dX2_lay_11 ?_
  refine lv_aload_n hx hb dX2_lay_14 rfl (lv_at hl 0 rfl) ?_
  refine va_get (D := D) (ci := 2) (v := .int ma) (C := RX2) (T := TX2) (N := 13) hx hb hts hinX2 hown hK hP 0 rfl rfl 10 (by decide) ht3 (fun _ h9 => h9) rfl dX2_lay_15 ?_
  refine lv_iload_n hx hb dX2_lay_18 rfl (lv_at hl 2 rfl) ?_
  obtain ⟨gi2, h⟩ := og_in h
  refine va_iast hx hb hK hP hD hS 5 0 rfl rfl gi2 dX2_lay_19 (fun H locs hP hD hS => ?_)
  obtain ⟨ny4, eny4⟩ : ∃ y : Nat → Int32, y = upd ny ma.toNatClampNeg a2 := ⟨_, rfl⟩
  have h := og_ov h eny4
  rw [← eny4] at hP hD
  have hP : va_P D vwCl (moW cI m0 m1 m2 m3 m4 m5 pt px py ro an te fx fy ar be ma nx2 ny4) H := hP
  have hD : va_D AA (moW cI m0 m1 m2 m3 m4 m5 pt px py ro an te fx fy ar be ma nx2 ny4) := hD
  refine lv_aload_n hx hb dX2_lay_20 rfl (lv_at hl 0 rfl) ?_
  refine lv_dup hx hb dX2_lay_21 rfl ?_
  refine va_get (D := D) (ci := 2) (v := .int ma) (C := RX2) (T := TX2) (N := 13) hx hb hts hinX2 hown hK hP 0 rfl rfl 10 (by decide) ht3 (fun _ h9 => h9) rfl dX2_lay_22 ?_
  refine lv_iconst (v := 1) hx hb dX2_lay_25 (by decide) ?_
  refine lv_iadd hx hb dX2_lay_26 ?_
  refine lv_topi (fun v5 ev5 => ?_)
  have h := og_ov h ev5
  refine va_put (D := D) (ci := 2) (v := .int v5) (ty := .int) (C := RX2) (T := TX2) (N := 13) hx hb hts hinX2 tyX2 tyX2_ok nmX2 hown hK hP hD hS 0 rfl rfl 10 (by decide) ht3 (fun _ h9 => h9) rfl (by decide +kernel) rfl rfl (Nat.le_of_ble_eq_true rfl) dX2_lay_27 (fun H locs hP hD hS => ?_)
  have hP : va_P D vwCl (moW cI m0 m1 m2 m3 m4 m5 pt px py ro an te fx fy ar be v5 nx2 ny4) H := hP
  have hD : va_D AA (moW cI m0 m1 m2 m3 m4 m5 pt px py ro an te fx fy ar be v5 nx2 ny4) := hD
  obtain rfl := Option.some.inj h
  exact W.vret hx hb hr (fun t ht _ => ⟨rfl, by rw [ht]; exact hP, hS.F ht⟩) hS.2.2 dX2_lay_30
def s_X2_take_12 (ma : Int32) (nx : Nat → Int32) (ny : Nat → Int32) (a1 : Int32) (u12 : (Int32 × (Nat → Int32) × (Nat → Int32))) : Option ((Int32 × (Nat → Int32) × (Nat → Int32)) ⊕ ((Nat → Int32) × (Nat → Int32))) :=
  if ma ≤ u12.1 then
  (some (.inr (u12.2.1, u12.2.2)))
  else
  (if bin u12.1 48 = true then
  if bin (((24 : Int32) * a1) + u12.1) 144 = true then
  ov (upd u12.2.1 (((24 : Int32) * a1) + u12.1).toNatClampNeg (nx u12.1.toNatClampNeg)) fun px6 =>
  if bin u12.1 48 = true then
  if bin (((24 : Int32) * a1) + u12.1) 144 = true then
  ov (upd u12.2.2 (((24 : Int32) * a1) + u12.1).toNatClampNeg (ny u12.1.toNatClampNeg)) fun py9 =>
  ov (u12.1 + (1 : Int32)) fun v10 =>
  some (.inl (v10, px6, py9))
  else none
  else none
  else none
  else none)
def f_X2_take (pt : Nat → Int32) (px : Nat → Int32) (py : Nat → Int32) (ma : Int32) (nx : Nat → Int32) (ny : Nat → Int32) (a1 : Int32) : Option ((Int32 × (Nat → Int32) × (Nat → Int32) × (Nat → Int32))) :=
  if bin a1 6 = true then
  ov (upd pt a1.toNatClampNeg ma) fun pt2 =>
  (lpf (s_X2_take_12 ma nx ny a1) 1000 ((0 : Int32), px, py)).bind fun x11 =>
  some (ma, pt2, x11.1, x11.2)
  else none
set_option maxHeartbeats 4000000 in
set_option maxRecDepth 100000 in
theorem k_X2_take (l : Launch) (D : va_G) (cI cF : ClassId) (m0 : Nat) (m1 : Nat) (m2 : Nat) (m3 : Nat) (m4 : Nat) (m5 : Nat) (pt : Nat → Int32) (px : Nat → Int32) (py : Nat → Int32) (ro : Int32) (an : Int32) (te : Int32) (fx : Int32) (fy : Int32) (ar : Int32) (be : Int32) (ma : Int32) (nx : Nat → Int32) (ny : Nat → Int32) (a1 : Int32) (r0 : (Int32 × (Nat → Int32) × (Nat → Int32) × (Nat → Int32))) (h : f_X2_take pt px py ma nx ny a1 = some r0) : Met l yX2_take wsX2_take ({ frames := 0, cells := 0, slots := 0, locals := 0 }) (va_Pc [.ref m0, .int a1] (fun U => wD D cI cF (moW cI m0 m1 m2 m3 m4 m5 pt px py ro an te fx fy ar be ma nx ny) U)) (qW (some (.int r0.1)) (va_A0 (moW cI m0 m1 m2 m3 m4 m5 pt px py ro an te fx fy ar be ma nx ny)) (fun H => va_P D vwCl (moW cI m0 m1 m2 m3 m4 m5 r0.2.1 r0.2.2.1 r0.2.2.2 ro an te fx fy ar be ma nx ny) H)) 0 0 (va_A0 (moW cI m0 m1 m2 m3 m4 m5 pt px py ro an te fx fy ar be ma nx ny)) := by
  refine Met.ofW (cc := cX2_take) (maxL := 3) (ret := (some .int)) (by decide) rfl ?_
  intro p e s m args below meth c s₁ B hml hv
  obtain ⟨rfl, hK, hP, hD0⟩ := hv
  have hx := B.exec
  have hb := B.bytes
  have hr := B.returns
  have hts := atoms_spec (ws := wsX2_take) B.pre
  have hown : s.vm.findClass RX2 = some m.cls := findClass_of_methodNamed B.named
  have hlocks := B.notSynchronized
  have ht1 := hts (.fieldLink RX2 7 "DrawnAreasModel" "points" "[I") (by decide +kernel)
  have hinX2 : ∀ w ∈ u_ws RX2 TX2 13, w ∈ wsX2_take := by decide +kernel
  have ht3 := hts (.fieldLink RX2 60 "DrawnAreasModel" "many" "I") (by decide +kernel)
  have ht4 := hts (.fieldLink RX2 13 "DrawnAreasModel" "px" "[I") (by decide +kernel)
  have ht5 := hts (.fieldLink RX2 32 "DrawnAreasModel" "newX" "[I") (by decide +kernel)
  have ht6 := hts (.fieldLink RX2 16 "DrawnAreasModel" "py" "[I") (by decide +kernel)
  have ht7 := hts (.fieldLink RX2 35 "DrawnAreasModel" "newY" "[I") (by decide +kernel)
  have hD : va_D (va_A0 (moW cI m0 m1 m2 m3 m4 m5 pt px py ro an te fx fy ar be ma nx ny)) (moW cI m0 m1 m2 m3 m4 m5 pt px py ro an te fx fy ar be ma nx ny) := va_D_A0 hD0
  generalize hAe : va_A0 (moW cI m0 m1 m2 m3 m4 m5 pt px py ro an te fx fy ar be ma nx ny) = AA at hD ⊢
  have hS : va_S AA s.heap s.heap [] := va_S.rf
  have hl := lv_entry ([.ref m0, .int a1]) (n := 3) (Nat.le_of_ble_eq_true rfl)
  rw [lg_entry_eq]
  generalize (lg_sl ([.ref m0, .int a1]) ++ List.replicate (3 - (lg_sl ([.ref m0, .int a1])).length) Slot.unset).toArray = ls at hl ⊢
  have hl : lv_has ls 3 [(0, .ref m0), (1, .int a1)] := hl
  unfold f_X2_take at h
  refine lv_aload_n hx hb dX2_take_0 rfl (lv_at hl 0 rfl) ?_
  refine va_get (D := D) (ci := 2) (v := .ref m1) (C := RX2) (T := TX2) (N := 13) hx hb hts hinX2 hown hK hP 0 rfl rfl 0 (by decide) ht1 (fun _ h9 => h9) rfl dX2_take_1 ?_
  refine lv_iload_n hx hb dX2_take_4 rfl (lv_at hl 1 rfl) ?_
  refine lv_aload_n hx hb dX2_take_5 rfl (lv_at hl 0 rfl) ?_
  refine va_get (D := D) (ci := 2) (v := .int ma) (C := RX2) (T := TX2) (N := 13) hx hb hts hinX2 hown hK hP 0 rfl rfl 10 (by decide) ht3 (fun _ h9 => h9) rfl dX2_take_6 ?_
  obtain ⟨gi0, h⟩ := og_in h
  refine va_iast hx hb hK hP hD hS 1 0 rfl rfl gi0 dX2_take_9 (fun H locs hP hD hS => ?_)
  obtain ⟨pt2, ept2⟩ : ∃ y : Nat → Int32, y = upd pt a1.toNatClampNeg ma := ⟨_, rfl⟩
  have h := og_ov h ept2
  rw [← ept2] at hP hD
  have hP : va_P D vwCl (moW cI m0 m1 m2 m3 m4 m5 pt2 px py ro an te fx fy ar be ma nx ny) H := hP
  have hD : va_D AA (moW cI m0 m1 m2 m3 m4 m5 pt2 px py ro an te fx fy ar be ma nx ny) := hD
  refine lv_iconst (v := 0) hx hb dX2_take_10 (by decide) ?_
  refine lv_istore_n (lv' := [(2, .int (0 : Int32)), (0, .ref m0), (1, .int a1)]) hx hb dX2_take_11 rfl hl (by decide) rfl (fun ls hl => ?_)
  obtain ⟨x11, hN12, h⟩ := og_bind h
  refine wlH hN12 12 60 (fun u12 ls H locs => lv_has ls 3 [(0, .ref m0), (1, .int a1), (2, .int u12.1)] ∧ va_P D vwCl (moW cI m0 m1 m2 m3 m4 m5 pt2 u12.2.1 u12.2.2 ro an te fx fy ar be ma nx ny) H ∧ va_D AA (moW cI m0 m1 m2 m3 m4 m5 pt2 u12.2.1 u12.2.2 ro an te fx fy ar be ma nx ny) ∧ va_S AA s.heap H locs) (fun x11 ls H locs => lv_has ls 3 [(0, .ref m0)] ∧ va_P D vwCl (moW cI m0 m1 m2 m3 m4 m5 pt2 x11.1 x11.2 ro an te fx fy ar be ma nx ny) H ∧ va_D AA (moW cI m0 m1 m2 m3 m4 m5 pt2 x11.1 x11.2 ro an te fx fy ar be ma nx ny) ∧ va_S AA s.heap H locs) (fun u12 xx h ki12 kx12 ls H locs hl => ?_) (fun ls H locs hl => ?_) ⟨lv_sub hl [1, 2, 0] rfl, hP, hD, hS⟩
  · obtain ⟨hl, hP, hD, hS⟩ := hl
    unfold s_X2_take_12 at h
    refine lv_iload_n hx hb dX2_take_12 rfl (lv_at hl 2 rfl) ?_
    refine lv_aload_n hx hb dX2_take_13 rfl (lv_at hl 0 rfl) ?_
    refine va_get (D := D) (ci := 2) (v := .int ma) (C := RX2) (T := TX2) (N := 13) hx hb hts hinX2 hown hK hP 0 rfl rfl 10 (by decide) ht3 (fun _ h9 => h9) rfl dX2_take_14 ?_
    refine lv_icmp_ge (tgt := 60) hx hb dX2_take_17 (by decide) (fun c2 => ?_) (fun c2 => ?_)
    · rw [if_pos c2] at h
      exact kx12 _ ls _ _ (Option.some.inj h).symm ⟨lv_sub hl [0] rfl, hP, hD, hS⟩
    · rw [if_neg c2] at h
      refine lv_aload_n hx hb dX2_take_20 rfl (lv_at hl 0 rfl) ?_
      refine va_get (D := D) (ci := 2) (v := .ref m2) (C := RX2) (T := TX2) (N := 13) hx hb hts hinX2 hown hK hP 0 rfl rfl 1 (by decide) ht4 (fun _ h9 => h9) rfl dX2_take_21 ?_
      refine lv_bipush (v := 24) hx hb dX2_take_24 (by decide) ?_
      refine lv_iload_n hx hb dX2_take_26 rfl (lv_at hl 1 rfl) ?_
      refine lv_imul hx hb dX2_take_27 ?_
      refine lv_iload_n hx hb dX2_take_28 rfl (lv_at hl 2 rfl) ?_
      refine lv_iadd hx hb dX2_take_29 ?_
      refine lv_aload_n hx hb dX2_take_30 rfl (lv_at hl 0 rfl) ?_
      refine va_get (D := D) (ci := 2) (v := .ref m4) (C := RX2) (T := TX2) (N := 13) hx hb hts hinX2 hown hK hP 0 rfl rfl 11 (by decide) ht5 (fun _ h9 => h9) rfl dX2_take_31 ?_
      refine lv_iload_n hx hb dX2_take_34 rfl (lv_at hl 2 rfl) ?_
      obtain ⟨gi3, h⟩ := og_in h
      refine va_iald hx hb hK hP 4 0 rfl rfl gi3 dX2_take_35 ?_
      obtain ⟨gi4, h⟩ := og_in h
      refine va_iast hx hb hK hP hD hS 2 0 rfl rfl gi4 dX2_take_36 (fun H locs hP hD hS => ?_)
      obtain ⟨px6, epx6⟩ : ∃ y : Nat → Int32, y = upd u12.2.1 (((24 : Int32) * a1) + u12.1).toNatClampNeg (nx u12.1.toNatClampNeg) := ⟨_, rfl⟩
      have h := og_ov h epx6
      rw [← epx6] at hP hD
      have hP : va_P D vwCl (moW cI m0 m1 m2 m3 m4 m5 pt2 px6 u12.2.2 ro an te fx fy ar be ma nx ny) H := hP
      have hD : va_D AA (moW cI m0 m1 m2 m3 m4 m5 pt2 px6 u12.2.2 ro an te fx fy ar be ma nx ny) := hD
      refine lv_aload_n hx hb dX2_take_37 rfl (lv_at hl 0 rfl) ?_
      refine va_get (D := D) (ci := 2) (v := .ref m3) (C := RX2) (T := TX2) (N := 13) hx hb hts hinX2 hown hK hP 0 rfl rfl 2 (by decide) ht6 (fun _ h9 => h9) rfl dX2_take_38 ?_
      refine lv_bipush (v := 24) hx hb dX2_take_41 (by decide) ?_
      refine lv_iload_n hx hb dX2_take_43 rfl (lv_at hl 1 rfl) ?_
      refine lv_imul hx hb dX2_take_44 ?_
      refine lv_iload_n hx hb dX2_take_45 rfl (lv_at hl 2 rfl) ?_
      refine lv_iadd hx hb dX2_take_46 ?_
      refine lv_aload_n hx hb dX2_take_47 rfl (lv_at hl 0 rfl) ?_
      refine va_get (D := D) (ci := 2) (v := .ref m5) (C := RX2) (T := TX2) (N := 13) hx hb hts hinX2 hown hK hP 0 rfl rfl 12 (by decide) ht7 (fun _ h9 => h9) rfl dX2_take_48 ?_
      refine lv_iload_n hx hb dX2_take_51 rfl (lv_at hl 2 rfl) ?_
      obtain ⟨gi6, h⟩ := og_in h
      refine va_iald hx hb hK hP 5 0 rfl rfl gi6 dX2_take_52 ?_
      obtain ⟨gi7, h⟩ := og_in h
      refine va_iast hx hb hK hP hD hS 3 0 rfl rfl gi7 dX2_take_53 (fun H locs hP hD hS => ?_)
      obtain ⟨py9, epy9⟩ : ∃ y : Nat → Int32, y = upd u12.2.2 (((24 : Int32) * a1) + u12.1).toNatClampNeg (ny u12.1.toNatClampNeg) := ⟨_, rfl⟩
      have h := og_ov h epy9
      rw [← epy9] at hP hD
      have hP : va_P D vwCl (moW cI m0 m1 m2 m3 m4 m5 pt2 px6 py9 ro an te fx fy ar be ma nx ny) H := hP
      have hD : va_D AA (moW cI m0 m1 m2 m3 m4 m5 pt2 px6 py9 ro an te fx fy ar be ma nx ny) := hD
      obtain ⟨v10, ev10⟩ : ∃ y : Int32, y = u12.1 + (1 : Int32) := ⟨_, rfl⟩
      have h := og_ov h ev10
      refine lv_iinc (v := v10) (lv' := [(2, .int v10), (0, .ref m0), (1, .int a1)]) hx hb dX2_take_54 hl (k := 2) rfl (by rw [ev10]; rfl) (by decide) rfl (fun ls hl => ?_)
      refine lv_goto (tgt := 12) hx hb dX2_take_57 (by decide) ?_
      exact ki12 _ ls _ _ (Option.some.inj h).symm ⟨lv_sub hl [1, 2, 0] rfl, hP, hD, hS⟩
  · obtain ⟨hl, hP, hD, hS⟩ := hl
    refine lv_aload_n hx hb dX2_take_60 rfl (lv_at hl 0 rfl) ?_
    refine va_get (D := D) (ci := 2) (v := .int ma) (C := RX2) (T := TX2) (N := 13) hx hb hts hinX2 hown hK hP 0 rfl rfl 10 (by decide) ht3 (fun _ h9 => h9) rfl dX2_take_61 ?_
    obtain rfl := Option.some.inj h
    exact W.iret hx hb hr (fun t ht _ => ⟨rfl, by rw [ht]; exact hP, hS.F ht⟩) hS.2.2 dX2_take_64
def s_X2_copy_24 (pt : Nat → Int32) (px : Nat → Int32) (py : Nat → Int32) (a1 : Int32) (a3 : Int32) (u24 : (Int32 × Int32 × (Nat → Int32) × (Nat → Int32))) : Option ((Int32 × Int32 × (Nat → Int32) × (Nat → Int32)) ⊕ (Int32 × (Nat → Int32) × (Nat → Int32))) :=
  if bin a1 6 = true then
  if (pt a1.toNatClampNeg) ≤ u24.1 then
  (some (.inr (u24.2.1, u24.2.2.1, u24.2.2.2)))
  else
  ((if a3 = (0) then
  (some (u24.1))
  else
  (if bin a1 6 = true then
  some ((pt a1.toNatClampNeg) - u24.1)
  else none)).bind fun mv7 =>
  (f_X2_x pt px a1 mv7).bind fun r8 =>
  (f_X2_y pt py a1 mv7).bind fun r9 =>
  (f_X2_lay u24.2.1 u24.2.2.1 u24.2.2.2 r8 r9).bind fun r10 =>
  ov (u24.1 + (1 : Int32)) fun v11 =>
  some (.inl (v11, r10.1, r10.2.1, r10.2.2)))
  else none
def f_X2_copy (pt : Nat → Int32) (px : Nat → Int32) (py : Nat → Int32) (ma : Int32) (nx : Nat → Int32) (ny : Nat → Int32) (a1 : Int32) (a2 : Int32) (a3 : Int32) : Option ((Int32 × (Nat → Int32) × (Nat → Int32) × (Nat → Int32) × Int32 × (Nat → Int32) × (Nat → Int32))) :=
  (f_X2_isFigure a1).bind fun r1 =>
  if r1 = (0) then
  (some ((-1 : Int32), pt, px, py, ma, nx, ny))
  else
  ((f_X2_isFigure a2).bind fun r3 =>
  if r3 = (0) then
  (some ((-1 : Int32), pt, px, py, ma, nx, ny))
  else
  ((lpf (s_X2_copy_24 pt px py a1 a3) 1000 ((0 : Int32), (0 : Int32), nx, ny)).bind fun x14 =>
  (f_X2_take pt px py x14.1 x14.2.1 x14.2.2 a2).bind fun r15 =>
  some (r15.1, r15.2.1, r15.2.2.1, r15.2.2.2, x14.1, x14.2.1, x14.2.2)))
set_option maxHeartbeats 4000000 in
set_option maxRecDepth 100000 in
theorem k_X2_copy (l : Launch) (D : va_G) (cI cF : ClassId) (m0 : Nat) (m1 : Nat) (m2 : Nat) (m3 : Nat) (m4 : Nat) (m5 : Nat) (pt : Nat → Int32) (px : Nat → Int32) (py : Nat → Int32) (ro : Int32) (an : Int32) (te : Int32) (fx : Int32) (fy : Int32) (ar : Int32) (be : Int32) (ma : Int32) (nx : Nat → Int32) (ny : Nat → Int32) (a1 : Int32) (a2 : Int32) (a3 : Int32) (r0 : (Int32 × (Nat → Int32) × (Nat → Int32) × (Nat → Int32) × Int32 × (Nat → Int32) × (Nat → Int32))) (h : f_X2_copy pt px py ma nx ny a1 a2 a3 = some r0) : Met l yX2_copy wsX2_copy ({ frames := 2, cells := 0, slots := 0, locals := 42 }) (va_Pc [.ref m0, .int a1, .int a2, .int a3] (fun U => wD D cI cF (moW cI m0 m1 m2 m3 m4 m5 pt px py ro an te fx fy ar be ma nx ny) U)) (qW (some (.int r0.1)) (va_A0 (moW cI m0 m1 m2 m3 m4 m5 pt px py ro an te fx fy ar be ma nx ny)) (fun H => va_P D vwCl (moW cI m0 m1 m2 m3 m4 m5 r0.2.1 r0.2.2.1 r0.2.2.2.1 ro an te fx fy ar be r0.2.2.2.2.1 r0.2.2.2.2.2.1 r0.2.2.2.2.2.2) H)) 0 0 (va_A0 (moW cI m0 m1 m2 m3 m4 m5 pt px py ro an te fx fy ar be ma nx ny)) := by
  refine Met.ofW (cc := cX2_copy) (maxL := 6) (ret := (some .int)) (by decide) rfl ?_
  intro p e s m args below meth c s₁ B hml hv
  obtain ⟨rfl, hK, hP, hD0⟩ := hv
  have hx := B.exec
  have hb := B.bytes
  have hr := B.returns
  have hts := atoms_spec (ws := wsX2_copy) B.pre
  have hown : s.vm.findClass RX2 = some m.cls := findClass_of_methodNamed B.named
  have hlocks := B.notSynchronized
  have ht1 := hts (.fieldLink RX2 60 "DrawnAreasModel" "many" "I") (by decide +kernel)
  have hinX2 : ∀ w ∈ u_ws RX2 TX2 13, w ∈ wsX2_copy := by decide +kernel
  have ht3 := hts (.fieldLink RX2 7 "DrawnAreasModel" "points" "[I") (by decide +kernel)
  have hD : va_D (va_A0 (moW cI m0 m1 m2 m3 m4 m5 pt px py ro an te fx fy ar be ma nx ny)) (moW cI m0 m1 m2 m3 m4 m5 pt px py ro an te fx fy ar be ma nx ny) := va_D_A0 hD0
  generalize hAe : va_A0 (moW cI m0 m1 m2 m3 m4 m5 pt px py ro an te fx fy ar be ma nx ny) = AA at hD ⊢
  have hS : va_S AA s.heap s.heap [] := va_S.rf
  have hl := lv_entry ([.ref m0, .int a1, .int a2, .int a3]) (n := 6) (Nat.le_of_ble_eq_true rfl)
  rw [lg_entry_eq]
  generalize (lg_sl ([.ref m0, .int a1, .int a2, .int a3]) ++ List.replicate (6 - (lg_sl ([.ref m0, .int a1, .int a2, .int a3])).length) Slot.unset).toArray = ls at hl ⊢
  have hl : lv_has ls 6 [(0, .ref m0), (1, .int a1), (2, .int a2), (3, .int a3)] := hl
  unfold f_X2_copy at h
  refine lv_iload_n hx hb dX2_copy_0 rfl (lv_at hl 1 rfl) ?_
  obtain ⟨r1, hcr1, h⟩ := og_bind h
  refine cp_s (va_runS (As := [.int a1]) (rest := []) ⟨hx, hb, hml, hown, hts⟩ (k_X2_isFigure l a1 _ hcr1) (va_cwS 1 hts gX2_copy_X2_isFigure rfl rfl rfl (by decide +kernel) ⟨(Nat.le_of_ble_eq_true rfl), (Nat.le_of_ble_eq_true rfl)⟩) pre_s rfl rfl hl.1 rfl (lv_room (Nat.le_of_ble_eq_true rfl)) dX2_copy_1 ⟨(Nat.zero_le _), (Nat.zero_le _)⟩) ?_
  refine lv_if_eq (tgt := 14) hx hb dX2_copy_4 (by decide) (fun c1 => ?_) (fun c1 => ?_)
  · rw [if_pos c1] at h
    refine lv_iconst (v := -1) hx hb dX2_copy_14 (by decide) ?_
    obtain rfl := Option.some.inj h
    exact W.iret hx hb hr (fun t ht _ => ⟨rfl, by rw [ht]; exact hP, hS.F ht⟩) hS.2.2 dX2_copy_15
  · rw [if_neg c1] at h
    refine lv_iload_n hx hb dX2_copy_7 rfl (lv_at hl 2 rfl) ?_
    obtain ⟨r3, hcr3, h⟩ := og_bind h
    refine cp_s (va_runS (As := [.int a2]) (rest := []) ⟨hx, hb, hml, hown, hts⟩ (k_X2_isFigure l a2 _ hcr3) (va_cwS 1 hts gX2_copy_X2_isFigure rfl rfl rfl (by decide +kernel) ⟨(Nat.le_of_ble_eq_true rfl), (Nat.le_of_ble_eq_true rfl)⟩) pre_s rfl rfl hl.1 rfl (lv_room (Nat.le_of_ble_eq_true rfl)) dX2_copy_8 ⟨(Nat.zero_le _), (Nat.zero_le _)⟩) ?_
    refine lv_if_ne (tgt := 16) hx hb dX2_copy_11 (by decide) (fun c3 => ?_) (fun c3 => ?_)
    · rw [if_neg c3] at h
      refine lv_aload_n hx hb dX2_copy_16 rfl (lv_at hl 0 rfl) ?_
      refine lv_iconst (v := 0) hx hb dX2_copy_17 (by decide) ?_
      refine va_put (D := D) (ci := 2) (v := .int (0 : Int32)) (ty := .int) (C := RX2) (T := TX2) (N := 13) hx hb hts hinX2 tyX2 tyX2_ok nmX2 hown hK hP hD hS 0 rfl rfl 10 (by decide) ht1 (fun _ h9 => h9) rfl (by decide +kernel) rfl rfl (Nat.le_of_ble_eq_true rfl) dX2_copy_18 (fun H locs hP hD hS => ?_)
      have hP : va_P D vwCl (moW cI m0 m1 m2 m3 m4 m5 pt px py ro an te fx fy ar be (0 : Int32) nx ny) H := hP
      have hD : va_D AA (moW cI m0 m1 m2 m3 m4 m5 pt px py ro an te fx fy ar be (0 : Int32) nx ny) := hD
      refine lv_iconst (v := 0) hx hb dX2_copy_21 (by decide) ?_
      refine lv_istore (lv' := [(4, .int (0 : Int32)), (0, .ref m0), (1, .int a1), (2, .int a2), (3, .int a3)]) hx hb dX2_copy_22 hl (by decide) rfl (fun ls hl => ?_)
      obtain ⟨x14, hN24, h⟩ := og_bind h
      refine wlH hN24 24 79 (fun u24 ls H locs => lv_has ls 6 [(0, .ref m0), (1, .int a1), (2, .int a2), (3, .int a3), (4, .int u24.1)] ∧ va_P D vwCl (moW cI m0 m1 m2 m3 m4 m5 pt px py ro an te fx fy ar be u24.2.1 u24.2.2.1 u24.2.2.2) H ∧ va_D AA (moW cI m0 m1 m2 m3 m4 m5 pt px py ro an te fx fy ar be u24.2.1 u24.2.2.1 u24.2.2.2) ∧ va_S AA s.heap H locs) (fun x14 ls H locs => lv_has ls 6 [(0, .ref m0), (2, .int a2)] ∧ va_P D vwCl (moW cI m0 m1 m2 m3 m4 m5 pt px py ro an te fx fy ar be x14.1 x14.2.1 x14.2.2) H ∧ va_D AA (moW cI m0 m1 m2 m3 m4 m5 pt px py ro an te fx fy ar be x14.1 x14.2.1 x14.2.2) ∧ va_S AA s.heap H locs) (fun u24 xx h ki24 kx24 ls H locs hl => ?_) (fun ls H locs hl => ?_) ⟨lv_sub hl [1, 2, 3, 4, 0] rfl, hP, hD, hS⟩
      · obtain ⟨hl, hP, hD, hS⟩ := hl
        unfold s_X2_copy_24 at h
        refine lv_iload hx hb dX2_copy_24 (lv_at hl 4 rfl) ?_
        refine lv_aload_n hx hb dX2_copy_26 rfl (lv_at hl 0 rfl) ?_
        refine va_get (D := D) (ci := 2) (v := .ref m1) (C := RX2) (T := TX2) (N := 13) hx hb hts hinX2 hown hK hP 0 rfl rfl 0 (by decide) ht3 (fun _ h9 => h9) rfl dX2_copy_27 ?_
        refine lv_iload_n hx hb dX2_copy_30 rfl (lv_at hl 1 rfl) ?_
        obtain ⟨gi4, h⟩ := og_in h
        refine va_iald hx hb hK hP 1 0 rfl rfl gi4 dX2_copy_31 ?_
        refine lv_icmp_ge (tgt := 79) hx hb dX2_copy_32 (by decide) (fun c5 => ?_) (fun c5 => ?_)
        · rw [if_pos c5] at h
          exact kx24 _ ls _ _ (Option.some.inj h).symm ⟨lv_sub hl [0, 2] rfl, hP, hD, hS⟩
        · rw [if_neg c5] at h
          refine lv_iload_n hx hb dX2_copy_35 rfl (lv_at hl 3 rfl) ?_
          obtain ⟨mv7, hm53, h⟩ := og_bind h
          refine wjH (PC := 53) (ST := [.int mv7]) (fun ls H locs => lv_has ls 6 [(0, .ref m0), (1, .int a1), (2, .int a2), (3, .int a3), (4, .int u24.1)] ∧ va_P D vwCl (moW cI m0 m1 m2 m3 m4 m5 pt px py ro an te fx fy ar be u24.2.1 u24.2.2.1 u24.2.2.2) H ∧ va_D AA (moW cI m0 m1 m2 m3 m4 m5 pt px py ro an te fx fy ar be u24.2.1 u24.2.2.1 u24.2.2.2) ∧ va_S AA s.heap H locs) (fun ls H locs hq => ?_) (fun KJ53 => ?_)
          · obtain ⟨hl, hP, hD, hS⟩ := hq
            refine lv_istore (lv' := [(5, .int mv7), (0, .ref m0), (1, .int a1), (2, .int a2), (3, .int a3), (4, .int u24.1)]) hx hb dX2_copy_53 hl (by decide) rfl (fun ls hl => ?_)
            refine lv_aload_n hx hb dX2_copy_55 rfl (lv_at hl 1 rfl) ?_
            refine lv_aload_n hx hb dX2_copy_56 rfl (lv_at hl 1 rfl) ?_
            refine lv_iload_n hx hb dX2_copy_57 rfl (lv_at hl 2 rfl) ?_
            refine lv_iload hx hb dX2_copy_58 (lv_at hl 0 rfl) ?_
            obtain ⟨r8, hcr8, h⟩ := og_bind h
            refine cp_s (va_runV (As := [.int a1, .int mv7]) (rest := [.ref m0]) ⟨hx, hb, hml, hown, hts⟩ (k_X2_x l D cI cF m0 m1 m2 m3 m4 m5 pt px py ro an te fx fy ar be u24.2.1 u24.2.2.1 u24.2.2.2 a1 mv7 _ hcr8) (cwV 2 hts gX2_copy_X2_x rfl rfl rfl (by decide +kernel) ⟨(Nat.le_of_ble_eq_true rfl), (Nat.le_of_ble_eq_true rfl)⟩) (pre_v (q0 := 0) (ci := 2) hK hP rfl rfl) rfl rfl hl.1 rfl (lv_room (Nat.le_of_ble_eq_true rfl)) dX2_copy_60 ⟨(Nat.zero_le _), (Nat.zero_le _)⟩) ?_
            refine lv_aload_n hx hb dX2_copy_63 rfl (lv_at hl 1 rfl) ?_
            refine lv_iload_n hx hb dX2_copy_64 rfl (lv_at hl 2 rfl) ?_
            refine lv_iload hx hb dX2_copy_65 (lv_at hl 0 rfl) ?_
            obtain ⟨r9, hcr9, h⟩ := og_bind h
            refine cp_s (va_runV (As := [.int a1, .int mv7]) (rest := [.int r8, .ref m0]) ⟨hx, hb, hml, hown, hts⟩ (k_X2_y l D cI cF m0 m1 m2 m3 m4 m5 pt px py ro an te fx fy ar be u24.2.1 u24.2.2.1 u24.2.2.2 a1 mv7 _ hcr9) (cwV 2 hts gX2_copy_X2_y rfl rfl rfl (by decide +kernel) ⟨(Nat.le_of_ble_eq_true rfl), (Nat.le_of_ble_eq_true rfl)⟩) (pre_v (q0 := 0) (ci := 2) hK hP rfl rfl) rfl rfl hl.1 rfl (lv_room (Nat.le_of_ble_eq_true rfl)) dX2_copy_67 ⟨(Nat.zero_le _), (Nat.zero_le _)⟩) ?_
            obtain ⟨r10, hcr10, h⟩ := og_bind h
            refine cp_v (va_runV (As := [.int r8, .int r9]) (rest := []) ⟨hx, hb, hml, hown, hts⟩ (k_X2_lay l D cI cF m0 m1 m2 m3 m4 m5 pt px py ro an te fx fy ar be u24.2.1 u24.2.2.1 u24.2.2.2 r8 r9 _ hcr10) (cwV 2 hts gX2_copy_X2_lay rfl rfl rfl (by decide +kernel) ⟨(Nat.le_of_ble_eq_true rfl), (Nat.le_of_ble_eq_true rfl)⟩) (pre_d (q0 := 0) (ci := 2) hK hP hD rfl rfl) rfl rfl hl.1 rfl (lv_room (Nat.le_of_ble_eq_true rfl)) dX2_copy_70 ⟨(Nat.zero_le _), (Nat.zero_le _)⟩) hS (fun a9 h9 => ?_) (fun H1 locs hP1 hz1 hk1 hS => ?_)
            · exact va_in hD h9 [0, 1, 2, 3, 4, 5] rfl
            have hP1 : va_P D vwCl (moW cI m0 m1 m2 m3 m4 m5 pt px py ro an te fx fy ar be r10.1 r10.2.1 r10.2.2) H1 := hP1
            have hD1 : va_D AA (moW cI m0 m1 m2 m3 m4 m5 pt px py ro an te fx fy ar be r10.1 r10.2.1 r10.2.2) := va_D_same hD rfl
            generalize H1 = H at hP1 hS ⊢
            have hP := hP1
            have hD := hD1
            obtain ⟨v11, ev11⟩ : ∃ y : Int32, y = u24.1 + (1 : Int32) := ⟨_, rfl⟩
            have h := og_ov h ev11
            refine lv_iinc (v := v11) (lv' := [(4, .int v11), (5, .int mv7), (0, .ref m0), (1, .int a1), (2, .int a2), (3, .int a3)]) hx hb dX2_copy_73 hl (k := 5) rfl (by rw [ev11]; rfl) (by decide) rfl (fun ls hl => ?_)
            refine lv_goto (tgt := 24) hx hb dX2_copy_76 (by decide) ?_
            exact ki24 _ ls _ _ (Option.some.inj h).symm ⟨lv_sub hl [2, 3, 4, 5, 0] rfl, hP, hD, hS⟩
          · have h := hm53
            refine lv_if_eq (tgt := 51) hx hb dX2_copy_36 (by decide) (fun c11 => ?_) (fun c11 => ?_)
            · rw [if_pos c11] at h
              refine lv_iload hx hb dX2_copy_51 (lv_at hl 4 rfl) ?_
              obtain rfl := Option.some.inj h
              exact KJ53 ls _ _ ⟨lv_sub hl [0, 1, 2, 3, 4] rfl, hP, hD, hS⟩
            · rw [if_neg c11] at h
              refine lv_aload_n hx hb dX2_copy_39 rfl (lv_at hl 0 rfl) ?_
              refine va_get (D := D) (ci := 2) (v := .ref m1) (C := RX2) (T := TX2) (N := 13) hx hb hts hinX2 hown hK hP 0 rfl rfl 0 (by decide) ht3 (fun _ h9 => h9) rfl dX2_copy_40 ?_
              refine lv_iload_n hx hb dX2_copy_43 rfl (lv_at hl 1 rfl) ?_
              obtain ⟨gi12, h⟩ := og_in h
              refine va_iald hx hb hK hP 1 0 rfl rfl gi12 dX2_copy_44 ?_
              refine lv_iload hx hb dX2_copy_45 (lv_at hl 4 rfl) ?_
              refine lv_isub hx hb dX2_copy_47 ?_
              refine lv_goto (tgt := 53) hx hb dX2_copy_48 (by decide) ?_
              obtain rfl := Option.some.inj h
              exact KJ53 ls _ _ ⟨lv_sub hl [0, 1, 2, 3, 4] rfl, hP, hD, hS⟩
      · obtain ⟨hl, hP, hD, hS⟩ := hl
        refine lv_aload_n hx hb dX2_copy_79 rfl (lv_at hl 0 rfl) ?_
        refine lv_iload_n hx hb dX2_copy_80 rfl (lv_at hl 1 rfl) ?_
        obtain ⟨r15, hcr15, h⟩ := og_bind h
        refine cp_w (va_runV (As := [.int a2]) (rest := []) ⟨hx, hb, hml, hown, hts⟩ (k_X2_take l D cI cF m0 m1 m2 m3 m4 m5 pt px py ro an te fx fy ar be x14.1 x14.2.1 x14.2.2 a2 _ hcr15) (cwV 1 hts gX2_copy_X2_take rfl rfl rfl (by decide +kernel) ⟨(Nat.le_of_ble_eq_true rfl), (Nat.le_of_ble_eq_true rfl)⟩) (pre_d (q0 := 0) (ci := 2) hK hP hD rfl rfl) rfl rfl hl.1 rfl (lv_room (Nat.le_of_ble_eq_true rfl)) dX2_copy_81 ⟨(Nat.zero_le _), (Nat.zero_le _)⟩) hS (fun a9 h9 => ?_) (fun H1 locs hP1 hz1 hk1 hS => ?_)
        · exact va_in hD h9 [0, 1, 2, 3, 4, 5] rfl
        have hP1 : va_P D vwCl (moW cI m0 m1 m2 m3 m4 m5 r15.2.1 r15.2.2.1 r15.2.2.2 ro an te fx fy ar be x14.1 x14.2.1 x14.2.2) H1 := hP1
        have hD1 : va_D AA (moW cI m0 m1 m2 m3 m4 m5 r15.2.1 r15.2.2.1 r15.2.2.2 ro an te fx fy ar be x14.1 x14.2.1 x14.2.2) := va_D_same hD rfl
        generalize H1 = H at hP1 hS ⊢
        have hP := hP1
        have hD := hD1
        obtain rfl := Option.some.inj h
        exact W.iret hx hb hr (fun t ht _ => ⟨rfl, by rw [ht]; exact hP, hS.F ht⟩) hS.2.2 dX2_copy_84
    · rw [if_pos c3] at h
      refine lv_iconst (v := -1) hx hb dX2_copy_14 (by decide) ?_
      obtain rfl := Option.some.inj h
      exact W.iret hx hb hr (fun t ht _ => ⟨rfl, by rw [ht]; exact hP, hS.F ht⟩) hS.2.2 dX2_copy_15
def s_X2_join_163 (pt : Nat → Int32) (px : Nat → Int32) (py : Nat → Int32) (a1 : Int32) (a2 : Int32) (u163 : (Int32 × Int32 × (Nat → Int32) × (Nat → Int32))) : Option ((Int32 × Int32 × (Nat → Int32) × (Nat → Int32)) ⊕ (Int32 × (Nat → Int32) × (Nat → Int32))) :=
  if a2 < u163.1 then
  (some (.inr (u163.2.1, u163.2.2.1, u163.2.2.2)))
  else
  ((f_X2_x pt px a1 u163.1).bind fun r18 =>
  (f_X2_y pt py a1 u163.1).bind fun r19 =>
  (f_X2_lay u163.2.1 u163.2.2.1 u163.2.2.2 r18 r19).bind fun r20 =>
  ov (u163.1 + (1 : Int32)) fun v21 =>
  some (.inl (v21, r20.1, r20.2.1, r20.2.2)))
def s_X2_join_196 (pt : Nat → Int32) (px : Nat → Int32) (py : Nat → Int32) (a3 : Int32) (a4 : Int32) (u196 : (Int32 × Int32 × (Nat → Int32) × (Nat → Int32))) : Option ((Int32 × Int32 × (Nat → Int32) × (Nat → Int32)) ⊕ (Int32 × (Nat → Int32) × (Nat → Int32))) :=
  if bin a3 6 = true then
  if (pt a3.toNatClampNeg) ≤ u196.1 then
  (some (.inr (u196.2.1, u196.2.2.1, u196.2.2.2)))
  else
  ((f_X2_x pt px a3 (a4 + u196.1)).bind fun r25 =>
  (f_X2_y pt py a3 (a4 + u196.1)).bind fun r26 =>
  (f_X2_lay u196.2.1 u196.2.2.1 u196.2.2.2 r25 r26).bind fun r27 =>
  ov (u196.1 + (1 : Int32)) fun v28 =>
  some (.inl (v28, r27.1, r27.2.1, r27.2.2)))
  else none
def s_X2_join_242 (pt : Nat → Int32) (px : Nat → Int32) (py : Nat → Int32) (a1 : Int32) (u242 : (Int32 × Int32 × (Nat → Int32) × (Nat → Int32))) : Option ((Int32 × Int32 × (Nat → Int32) × (Nat → Int32)) ⊕ (Int32 × (Nat → Int32) × (Nat → Int32))) :=
  if bin a1 6 = true then
  if (pt a1.toNatClampNeg) ≤ u242.1 then
  (some (.inr (u242.2.1, u242.2.2.1, u242.2.2.2)))
  else
  ((f_X2_x pt px a1 u242.1).bind fun r33 =>
  (f_X2_y pt py a1 u242.1).bind fun r34 =>
  (f_X2_lay u242.2.1 u242.2.2.1 u242.2.2.2 r33 r34).bind fun r35 =>
  ov (u242.1 + (1 : Int32)) fun v36 =>
  some (.inl (v36, r35.1, r35.2.1, r35.2.2)))
  else none
def f_X2_join (pt : Nat → Int32) (px : Nat → Int32) (py : Nat → Int32) (ma : Int32) (nx : Nat → Int32) (ny : Nat → Int32) (a1 : Int32) (a2 : Int32) (a3 : Int32) (a4 : Int32) : Option ((Int32 × (Nat → Int32) × (Nat → Int32) × (Nat → Int32) × Int32 × (Nat → Int32) × (Nat → Int32))) :=
  (f_X2_isPoint pt a1 a2).bind fun r1 =>
  if r1 = (0) then
  (some ((-1 : Int32), pt, px, py, ma, nx, ny))
  else
  ((f_X2_isPoint pt a3 a4).bind fun r3 =>
  if r3 = (0) then
  (some ((-1 : Int32), pt, px, py, ma, nx, ny))
  else
  (if a1 = a3 then
  (some ((-1 : Int32), pt, px, py, ma, nx, ny))
  else
  ((f_X2_isClosed pt a1).bind fun r6 =>
  if r6 = (0) then
  (some ((-3 : Int32), pt, px, py, ma, nx, ny))
  else
  ((f_X2_isClosed pt a3).bind fun r8 =>
  if r8 = (0) then
  (some ((-3 : Int32), pt, px, py, ma, nx, ny))
  else
  (if bin a1 6 = true then
  if bin a3 6 = true then
  if (((pt a1.toNatClampNeg) + (pt a3.toNatClampNeg)) - (2 : Int32)) ≤ (24 : Int32) then
  ((f_X2_x pt px a1 a2).bind fun r13 =>
  (f_X2_x pt px a3 (a4 + (1 : Int32))).bind fun r14 =>
  (if r13 = r14 then
  ((f_X2_y pt py a1 a2).bind fun r40 =>
  (f_X2_y pt py a3 (a4 + (1 : Int32))).bind fun r41 =>
  if r40 = r41 then
  ((f_X2_x pt px a1 (a2 + (1 : Int32))).bind fun r43 =>
  (f_X2_x pt px a3 a4).bind fun r44 =>
  if r43 = r44 then
  ((f_X2_y pt py a1 (a2 + (1 : Int32))).bind fun r46 =>
  (f_X2_y pt py a3 a4).bind fun r47 =>
  if r46 = r47 then
  (some ((1 : Int32)))
  else
  (some ((0 : Int32))))
  else
  (some ((0 : Int32))))
  else
  (some ((0 : Int32))))
  else
  (some ((0 : Int32)))).bind fun mv15 =>
  if mv15 = (0) then
  (some ((-5 : Int32), pt, px, py, ma, nx, ny))
  else
  ((lpf (s_X2_join_163 pt px py a1 a2) 1000 ((0 : Int32), (0 : Int32), nx, ny)).bind fun x22 =>
  (lpf (s_X2_join_196 pt px py a3 a4) 1000 ((2 : Int32), x22.1, x22.2.1, x22.2.2)).bind fun x29 =>
  ov (a2 + (1 : Int32)) fun v30 =>
  (lpf (s_X2_join_242 pt px py a1) 1000 (v30, x29.1, x29.2.1, x29.2.2)).bind fun x37 =>
  (f_X2_take pt px py x37.1 x37.2.1 x37.2.2 a1).bind fun r38 =>
  some (r38.1, r38.2.1, r38.2.2.1, r38.2.2.2, x37.1, x37.2.1, x37.2.2)))
  else
  (some ((-4 : Int32), pt, px, py, ma, nx, ny))
  else none
  else none)))))
set_option maxHeartbeats 4000000 in
set_option maxRecDepth 100000 in
theorem k_X2_join (l : Launch) (D : va_G) (cI cF : ClassId) (m0 : Nat) (m1 : Nat) (m2 : Nat) (m3 : Nat) (m4 : Nat) (m5 : Nat) (pt : Nat → Int32) (px : Nat → Int32) (py : Nat → Int32) (ro : Int32) (an : Int32) (te : Int32) (fx : Int32) (fy : Int32) (ar : Int32) (be : Int32) (ma : Int32) (nx : Nat → Int32) (ny : Nat → Int32) (a1 : Int32) (a2 : Int32) (a3 : Int32) (a4 : Int32) (r0 : (Int32 × (Nat → Int32) × (Nat → Int32) × (Nat → Int32) × Int32 × (Nat → Int32) × (Nat → Int32))) (h : f_X2_join pt px py ma nx ny a1 a2 a3 a4 = some r0) : Met l yX2_join wsX2_join ({ frames := 3, cells := 0, slots := 0, locals := 64 }) (va_Pc [.ref m0, .int a1, .int a2, .int a3, .int a4] (fun U => wD D cI cF (moW cI m0 m1 m2 m3 m4 m5 pt px py ro an te fx fy ar be ma nx ny) U)) (qW (some (.int r0.1)) (va_A0 (moW cI m0 m1 m2 m3 m4 m5 pt px py ro an te fx fy ar be ma nx ny)) (fun H => va_P D vwCl (moW cI m0 m1 m2 m3 m4 m5 r0.2.1 r0.2.2.1 r0.2.2.2.1 ro an te fx fy ar be r0.2.2.2.2.1 r0.2.2.2.2.2.1 r0.2.2.2.2.2.2) H)) 0 0 (va_A0 (moW cI m0 m1 m2 m3 m4 m5 pt px py ro an te fx fy ar be ma nx ny)) := by
  refine Met.ofW (cc := cX2_join) (maxL := 7) (ret := (some .int)) (by decide) rfl ?_
  intro p e s m args below meth c s₁ B hml hv
  obtain ⟨rfl, hK, hP, hD0⟩ := hv
  have hx := B.exec
  have hb := B.bytes
  have hr := B.returns
  have hts := atoms_spec (ws := wsX2_join) B.pre
  have hown : s.vm.findClass RX2 = some m.cls := findClass_of_methodNamed B.named
  have hlocks := B.notSynchronized
  have ht1 := hts (.fieldLink RX2 7 "DrawnAreasModel" "points" "[I") (by decide +kernel)
  have hinX2 : ∀ w ∈ u_ws RX2 TX2 13, w ∈ wsX2_join := by decide +kernel
  have ht3 := hts (.fieldLink RX2 60 "DrawnAreasModel" "many" "I") (by decide +kernel)
  have hD : va_D (va_A0 (moW cI m0 m1 m2 m3 m4 m5 pt px py ro an te fx fy ar be ma nx ny)) (moW cI m0 m1 m2 m3 m4 m5 pt px py ro an te fx fy ar be ma nx ny) := va_D_A0 hD0
  generalize hAe : va_A0 (moW cI m0 m1 m2 m3 m4 m5 pt px py ro an te fx fy ar be ma nx ny) = AA at hD ⊢
  have hS : va_S AA s.heap s.heap [] := va_S.rf
  have hl := lv_entry ([.ref m0, .int a1, .int a2, .int a3, .int a4]) (n := 7) (Nat.le_of_ble_eq_true rfl)
  rw [lg_entry_eq]
  generalize (lg_sl ([.ref m0, .int a1, .int a2, .int a3, .int a4]) ++ List.replicate (7 - (lg_sl ([.ref m0, .int a1, .int a2, .int a3, .int a4])).length) Slot.unset).toArray = ls at hl ⊢
  have hl : lv_has ls 7 [(0, .ref m0), (1, .int a1), (2, .int a2), (3, .int a3), (4, .int a4)] := hl
  unfold f_X2_join at h
  refine lv_aload_n hx hb dX2_join_0 rfl (lv_at hl 0 rfl) ?_
  refine lv_iload_n hx hb dX2_join_1 rfl (lv_at hl 1 rfl) ?_
  refine lv_iload_n hx hb dX2_join_2 rfl (lv_at hl 2 rfl) ?_
  obtain ⟨r1, hcr1, h⟩ := og_bind h
  refine cp_s (va_runV (As := [.int a1, .int a2]) (rest := []) ⟨hx, hb, hml, hown, hts⟩ (k_X2_isPoint l D cI cF m0 m1 m2 m3 m4 m5 pt px py ro an te fx fy ar be ma nx ny a1 a2 _ hcr1) (cwV 2 hts gX2_join_X2_isPoint rfl rfl rfl (by decide +kernel) ⟨(Nat.le_of_ble_eq_true rfl), (Nat.le_of_ble_eq_true rfl)⟩) (pre_v (q0 := 0) (ci := 2) hK hP rfl rfl) rfl rfl hl.1 rfl (lv_room (Nat.le_of_ble_eq_true rfl)) dX2_join_3 ⟨(Nat.zero_le _), (Nat.zero_le _)⟩) ?_
  refine lv_if_eq (tgt := 24) hx hb dX2_join_6 (by decide) (fun c1 => ?_) (fun c1 => ?_)
  · rw [if_pos c1] at h
    refine lv_iconst (v := -1) hx hb dX2_join_24 (by decide) ?_
    obtain rfl := Option.some.inj h
    exact W.iret hx hb hr (fun t ht _ => ⟨rfl, by rw [ht]; exact hP, hS.F ht⟩) hS.2.2 dX2_join_25
  · rw [if_neg c1] at h
    refine lv_aload_n hx hb dX2_join_9 rfl (lv_at hl 0 rfl) ?_
    refine lv_iload_n hx hb dX2_join_10 rfl (lv_at hl 3 rfl) ?_
    refine lv_iload hx hb dX2_join_11 (lv_at hl 4 rfl) ?_
    obtain ⟨r3, hcr3, h⟩ := og_bind h
    refine cp_s (va_runV (As := [.int a3, .int a4]) (rest := []) ⟨hx, hb, hml, hown, hts⟩ (k_X2_isPoint l D cI cF m0 m1 m2 m3 m4 m5 pt px py ro an te fx fy ar be ma nx ny a3 a4 _ hcr3) (cwV 2 hts gX2_join_X2_isPoint rfl rfl rfl (by decide +kernel) ⟨(Nat.le_of_ble_eq_true rfl), (Nat.le_of_ble_eq_true rfl)⟩) (pre_v (q0 := 0) (ci := 2) hK hP rfl rfl) rfl rfl hl.1 rfl (lv_room (Nat.le_of_ble_eq_true rfl)) dX2_join_13 ⟨(Nat.zero_le _), (Nat.zero_le _)⟩) ?_
    refine lv_if_eq (tgt := 24) hx hb dX2_join_16 (by decide) (fun c3 => ?_) (fun c3 => ?_)
    · rw [if_pos c3] at h
      refine lv_iconst (v := -1) hx hb dX2_join_24 (by decide) ?_
      obtain rfl := Option.some.inj h
      exact W.iret hx hb hr (fun t ht _ => ⟨rfl, by rw [ht]; exact hP, hS.F ht⟩) hS.2.2 dX2_join_25
    · rw [if_neg c3] at h
      refine lv_iload_n hx hb dX2_join_19 rfl (lv_at hl 1 rfl) ?_
      refine lv_iload_n hx hb dX2_join_20 rfl (lv_at hl 3 rfl) ?_
      refine lv_icmp_ne (tgt := 26) hx hb dX2_join_21 (by decide) (fun c4 => ?_) (fun c4 => ?_)
      · rw [if_neg c4] at h
        refine lv_aload_n hx hb dX2_join_26 rfl (lv_at hl 0 rfl) ?_
        refine lv_iload_n hx hb dX2_join_27 rfl (lv_at hl 1 rfl) ?_
        obtain ⟨r6, hcr6, h⟩ := og_bind h
        refine cp_s (va_runV (As := [.int a1]) (rest := []) ⟨hx, hb, hml, hown, hts⟩ (k_X2_isClosed l D cI cF m0 m1 m2 m3 m4 m5 pt px py ro an te fx fy ar be ma nx ny a1 _ hcr6) (cwV 1 hts gX2_join_X2_isClosed rfl rfl rfl (by decide +kernel) ⟨(Nat.le_of_ble_eq_true rfl), (Nat.le_of_ble_eq_true rfl)⟩) (pre_v (q0 := 0) (ci := 2) hK hP rfl rfl) rfl rfl hl.1 rfl (lv_room (Nat.le_of_ble_eq_true rfl)) dX2_join_28 ⟨(Nat.zero_le _), (Nat.zero_le _)⟩) ?_
        refine lv_if_eq (tgt := 42) hx hb dX2_join_31 (by decide) (fun c6 => ?_) (fun c6 => ?_)
        · rw [if_pos c6] at h
          refine lv_bipush (v := -3) hx hb dX2_join_42 (by decide) ?_
          obtain rfl := Option.some.inj h
          exact W.iret hx hb hr (fun t ht _ => ⟨rfl, by rw [ht]; exact hP, hS.F ht⟩) hS.2.2 dX2_join_44
        · rw [if_neg c6] at h
          refine lv_aload_n hx hb dX2_join_34 rfl (lv_at hl 0 rfl) ?_
          refine lv_iload_n hx hb dX2_join_35 rfl (lv_at hl 3 rfl) ?_
          obtain ⟨r8, hcr8, h⟩ := og_bind h
          refine cp_s (va_runV (As := [.int a3]) (rest := []) ⟨hx, hb, hml, hown, hts⟩ (k_X2_isClosed l D cI cF m0 m1 m2 m3 m4 m5 pt px py ro an te fx fy ar be ma nx ny a3 _ hcr8) (cwV 1 hts gX2_join_X2_isClosed rfl rfl rfl (by decide +kernel) ⟨(Nat.le_of_ble_eq_true rfl), (Nat.le_of_ble_eq_true rfl)⟩) (pre_v (q0 := 0) (ci := 2) hK hP rfl rfl) rfl rfl hl.1 rfl (lv_room (Nat.le_of_ble_eq_true rfl)) dX2_join_36 ⟨(Nat.zero_le _), (Nat.zero_le _)⟩) ?_
          refine lv_if_ne (tgt := 45) hx hb dX2_join_39 (by decide) (fun c8 => ?_) (fun c8 => ?_)
          · rw [if_neg c8] at h
            refine lv_aload_n hx hb dX2_join_45 rfl (lv_at hl 0 rfl) ?_
            refine va_get (D := D) (ci := 2) (v := .ref m1) (C := RX2) (T := TX2) (N := 13) hx hb hts hinX2 hown hK hP 0 rfl rfl 0 (by decide) ht1 (fun _ h9 => h9) rfl dX2_join_46 ?_
            refine lv_iload_n hx hb dX2_join_49 rfl (lv_at hl 1 rfl) ?_
            obtain ⟨gi9, h⟩ := og_in h
            refine va_iald hx hb hK hP 1 0 rfl rfl gi9 dX2_join_50 ?_
            refine lv_aload_n hx hb dX2_join_51 rfl (lv_at hl 0 rfl) ?_
            refine va_get (D := D) (ci := 2) (v := .ref m1) (C := RX2) (T := TX2) (N := 13) hx hb hts hinX2 hown hK hP 0 rfl rfl 0 (by decide) ht1 (fun _ h9 => h9) rfl dX2_join_52 ?_
            refine lv_iload_n hx hb dX2_join_55 rfl (lv_at hl 3 rfl) ?_
            obtain ⟨gi10, h⟩ := og_in h
            refine va_iald hx hb hK hP 1 0 rfl rfl gi10 dX2_join_56 ?_
            refine lv_iadd hx hb dX2_join_57 ?_
            refine lv_iconst (v := 2) hx hb dX2_join_58 (by decide) ?_
            refine lv_isub hx hb dX2_join_59 ?_
            refine lv_bipush (v := 24) hx hb dX2_join_60 (by decide) ?_
            refine lv_icmp_le (tgt := 68) hx hb dX2_join_62 (by decide) (fun c11 => ?_) (fun c11 => ?_)
            · rw [if_pos c11] at h
              refine lv_aload_n hx hb dX2_join_68 rfl (lv_at hl 0 rfl) ?_
              refine lv_iload_n hx hb dX2_join_69 rfl (lv_at hl 1 rfl) ?_
              refine lv_iload_n hx hb dX2_join_70 rfl (lv_at hl 2 rfl) ?_
              obtain ⟨r13, hcr13, h⟩ := og_bind h
              refine cp_s (va_runV (As := [.int a1, .int a2]) (rest := []) ⟨hx, hb, hml, hown, hts⟩ (k_X2_x l D cI cF m0 m1 m2 m3 m4 m5 pt px py ro an te fx fy ar be ma nx ny a1 a2 _ hcr13) (cwV 2 hts gX2_join_X2_x rfl rfl rfl (by decide +kernel) ⟨(Nat.le_of_ble_eq_true rfl), (Nat.le_of_ble_eq_true rfl)⟩) (pre_v (q0 := 0) (ci := 2) hK hP rfl rfl) rfl rfl hl.1 rfl (lv_room (Nat.le_of_ble_eq_true rfl)) dX2_join_71 ⟨(Nat.zero_le _), (Nat.zero_le _)⟩) ?_
              refine lv_aload_n hx hb dX2_join_74 rfl (lv_at hl 0 rfl) ?_
              refine lv_iload_n hx hb dX2_join_75 rfl (lv_at hl 3 rfl) ?_
              refine lv_iload hx hb dX2_join_76 (lv_at hl 4 rfl) ?_
              refine lv_iconst (v := 1) hx hb dX2_join_78 (by decide) ?_
              refine lv_iadd hx hb dX2_join_79 ?_
              obtain ⟨r14, hcr14, h⟩ := og_bind h
              refine cp_s (va_runV (As := [.int a3, .int (a4 + (1 : Int32))]) (rest := [.int r13]) ⟨hx, hb, hml, hown, hts⟩ (k_X2_x l D cI cF m0 m1 m2 m3 m4 m5 pt px py ro an te fx fy ar be ma nx ny a3 (a4 + (1 : Int32)) _ hcr14) (cwV 2 hts gX2_join_X2_x rfl rfl rfl (by decide +kernel) ⟨(Nat.le_of_ble_eq_true rfl), (Nat.le_of_ble_eq_true rfl)⟩) (pre_v (q0 := 0) (ci := 2) hK hP rfl rfl) rfl rfl hl.1 rfl (lv_room (Nat.le_of_ble_eq_true rfl)) dX2_join_80 ⟨(Nat.zero_le _), (Nat.zero_le _)⟩) ?_
              obtain ⟨mv15, hm145, h⟩ := og_bind h
              refine wjH (PC := 145) (ST := [.int mv15]) (fun ls H locs => lv_has ls 7 [(0, .ref m0), (1, .int a1), (2, .int a2), (3, .int a3), (4, .int a4)] ∧ va_P D vwCl (moW cI m0 m1 m2 m3 m4 m5 pt px py ro an te fx fy ar be ma nx ny) H ∧ va_D AA (moW cI m0 m1 m2 m3 m4 m5 pt px py ro an te fx fy ar be ma nx ny) ∧ va_S AA s.heap H locs) (fun ls H locs hq => ?_) (fun KJ145 => ?_)
              · obtain ⟨hl, hP, hD, hS⟩ := hq
                refine lv_istore (lv' := [(5, .int mv15), (0, .ref m0), (1, .int a1), (2, .int a2), (3, .int a3), (4, .int a4)]) hx hb dX2_join_145 hl (by decide) rfl (fun ls hl => ?_)
                refine lv_iload hx hb dX2_join_147 (lv_at hl 0 rfl) ?_
                refine lv_if_ne (tgt := 155) hx hb dX2_join_149 (by decide) (fun c15 => ?_) (fun c15 => ?_)
                · rw [if_neg c15] at h
                  refine lv_aload_n hx hb dX2_join_155 rfl (lv_at hl 1 rfl) ?_
                  refine lv_iconst (v := 0) hx hb dX2_join_156 (by decide) ?_
                  refine va_put (D := D) (ci := 2) (v := .int (0 : Int32)) (ty := .int) (C := RX2) (T := TX2) (N := 13) hx hb hts hinX2 tyX2 tyX2_ok nmX2 hown hK hP hD hS 0 rfl rfl 10 (by decide) ht3 (fun _ h9 => h9) rfl (by decide +kernel) rfl rfl (Nat.le_of_ble_eq_true rfl) dX2_join_157 (fun H locs hP hD hS => ?_)
                  have hP : va_P D vwCl (moW cI m0 m1 m2 m3 m4 m5 pt px py ro an te fx fy ar be (0 : Int32) nx ny) H := hP
                  have hD : va_D AA (moW cI m0 m1 m2 m3 m4 m5 pt px py ro an te fx fy ar be (0 : Int32) nx ny) := hD
                  refine lv_iconst (v := 0) hx hb dX2_join_160 (by decide) ?_
                  refine lv_istore (lv' := [(6, .int (0 : Int32)), (5, .int mv15), (0, .ref m0), (1, .int a1), (2, .int a2), (3, .int a3), (4, .int a4)]) hx hb dX2_join_161 hl (by decide) rfl (fun ls hl => ?_)
                  obtain ⟨x22, hN163, h⟩ := og_bind h
                  refine wlH hN163 163 193 (fun u163 ls H locs => lv_has ls 7 [(0, .ref m0), (1, .int a1), (2, .int a2), (3, .int a3), (4, .int a4), (6, .int u163.1)] ∧ va_P D vwCl (moW cI m0 m1 m2 m3 m4 m5 pt px py ro an te fx fy ar be u163.2.1 u163.2.2.1 u163.2.2.2) H ∧ va_D AA (moW cI m0 m1 m2 m3 m4 m5 pt px py ro an te fx fy ar be u163.2.1 u163.2.2.1 u163.2.2.2) ∧ va_S AA s.heap H locs) (fun x22 ls H locs => lv_has ls 7 [(0, .ref m0), (1, .int a1), (2, .int a2), (3, .int a3), (4, .int a4)] ∧ va_P D vwCl (moW cI m0 m1 m2 m3 m4 m5 pt px py ro an te fx fy ar be x22.1 x22.2.1 x22.2.2) H ∧ va_D AA (moW cI m0 m1 m2 m3 m4 m5 pt px py ro an te fx fy ar be x22.1 x22.2.1 x22.2.2) ∧ va_S AA s.heap H locs) (fun u163 xx h ki163 kx163 ls H locs hl => ?_) (fun ls H locs hl => ?_) ⟨lv_sub hl [2, 3, 4, 5, 6, 0] rfl, hP, hD, hS⟩
                  · obtain ⟨hl, hP, hD, hS⟩ := hl
                    unfold s_X2_join_163 at h
                    refine lv_iload hx hb dX2_join_163 (lv_at hl 5 rfl) ?_
                    refine lv_iload_n hx hb dX2_join_165 rfl (lv_at hl 2 rfl) ?_
                    refine lv_icmp_gt (tgt := 193) hx hb dX2_join_166 (by decide) (fun c16 => ?_) (fun c16 => ?_)
                    · rw [if_pos c16] at h
                      exact kx163 _ ls _ _ (Option.some.inj h).symm ⟨lv_sub hl [0, 1, 2, 3, 4] rfl, hP, hD, hS⟩
                    · rw [if_neg c16] at h
                      refine lv_aload_n hx hb dX2_join_169 rfl (lv_at hl 0 rfl) ?_
                      refine lv_aload_n hx hb dX2_join_170 rfl (lv_at hl 0 rfl) ?_
                      refine lv_iload_n hx hb dX2_join_171 rfl (lv_at hl 1 rfl) ?_
                      refine lv_iload hx hb dX2_join_172 (lv_at hl 5 rfl) ?_
                      obtain ⟨r18, hcr18, h⟩ := og_bind h
                      refine cp_s (va_runV (As := [.int a1, .int u163.1]) (rest := [.ref m0]) ⟨hx, hb, hml, hown, hts⟩ (k_X2_x l D cI cF m0 m1 m2 m3 m4 m5 pt px py ro an te fx fy ar be u163.2.1 u163.2.2.1 u163.2.2.2 a1 u163.1 _ hcr18) (cwV 2 hts gX2_join_X2_x rfl rfl rfl (by decide +kernel) ⟨(Nat.le_of_ble_eq_true rfl), (Nat.le_of_ble_eq_true rfl)⟩) (pre_v (q0 := 0) (ci := 2) hK hP rfl rfl) rfl rfl hl.1 rfl (lv_room (Nat.le_of_ble_eq_true rfl)) dX2_join_174 ⟨(Nat.zero_le _), (Nat.zero_le _)⟩) ?_
                      refine lv_aload_n hx hb dX2_join_177 rfl (lv_at hl 0 rfl) ?_
                      refine lv_iload_n hx hb dX2_join_178 rfl (lv_at hl 1 rfl) ?_
                      refine lv_iload hx hb dX2_join_179 (lv_at hl 5 rfl) ?_
                      obtain ⟨r19, hcr19, h⟩ := og_bind h
                      refine cp_s (va_runV (As := [.int a1, .int u163.1]) (rest := [.int r18, .ref m0]) ⟨hx, hb, hml, hown, hts⟩ (k_X2_y l D cI cF m0 m1 m2 m3 m4 m5 pt px py ro an te fx fy ar be u163.2.1 u163.2.2.1 u163.2.2.2 a1 u163.1 _ hcr19) (cwV 2 hts gX2_join_X2_y rfl rfl rfl (by decide +kernel) ⟨(Nat.le_of_ble_eq_true rfl), (Nat.le_of_ble_eq_true rfl)⟩) (pre_v (q0 := 0) (ci := 2) hK hP rfl rfl) rfl rfl hl.1 rfl (lv_room (Nat.le_of_ble_eq_true rfl)) dX2_join_181 ⟨(Nat.zero_le _), (Nat.zero_le _)⟩) ?_
                      obtain ⟨r20, hcr20, h⟩ := og_bind h
                      refine cp_v (va_runV (As := [.int r18, .int r19]) (rest := []) ⟨hx, hb, hml, hown, hts⟩ (k_X2_lay l D cI cF m0 m1 m2 m3 m4 m5 pt px py ro an te fx fy ar be u163.2.1 u163.2.2.1 u163.2.2.2 r18 r19 _ hcr20) (cwV 2 hts gX2_join_X2_lay rfl rfl rfl (by decide +kernel) ⟨(Nat.le_of_ble_eq_true rfl), (Nat.le_of_ble_eq_true rfl)⟩) (pre_d (q0 := 0) (ci := 2) hK hP hD rfl rfl) rfl rfl hl.1 rfl (lv_room (Nat.le_of_ble_eq_true rfl)) dX2_join_184 ⟨(Nat.zero_le _), (Nat.zero_le _)⟩) hS (fun a9 h9 => ?_) (fun H1 locs hP1 hz1 hk1 hS => ?_)
                      · exact va_in hD h9 [0, 1, 2, 3, 4, 5] rfl
                      have hP1 : va_P D vwCl (moW cI m0 m1 m2 m3 m4 m5 pt px py ro an te fx fy ar be r20.1 r20.2.1 r20.2.2) H1 := hP1
                      have hD1 : va_D AA (moW cI m0 m1 m2 m3 m4 m5 pt px py ro an te fx fy ar be r20.1 r20.2.1 r20.2.2) := va_D_same hD rfl
                      generalize H1 = H at hP1 hS ⊢
                      have hP := hP1
                      have hD := hD1
                      obtain ⟨v21, ev21⟩ : ∃ y : Int32, y = u163.1 + (1 : Int32) := ⟨_, rfl⟩
                      have h := og_ov h ev21
                      refine lv_iinc (v := v21) (lv' := [(6, .int v21), (0, .ref m0), (1, .int a1), (2, .int a2), (3, .int a3), (4, .int a4)]) hx hb dX2_join_187 hl (k := 5) rfl (by rw [ev21]; rfl) (by decide) rfl (fun ls hl => ?_)
                      refine lv_goto (tgt := 163) hx hb dX2_join_190 (by decide) ?_
                      exact ki163 _ ls _ _ (Option.some.inj h).symm ⟨lv_sub hl [1, 2, 3, 4, 5, 0] rfl, hP, hD, hS⟩
                  · obtain ⟨hl, hP, hD, hS⟩ := hl
                    refine lv_iconst (v := 2) hx hb dX2_join_193 (by decide) ?_
                    refine lv_istore (lv' := [(6, .int (2 : Int32)), (0, .ref m0), (1, .int a1), (2, .int a2), (3, .int a3), (4, .int a4)]) hx hb dX2_join_194 hl (by decide) rfl (fun ls hl => ?_)
                    obtain ⟨x29, hN196, h⟩ := og_bind h
                    refine wlH hN196 196 237 (fun u196 ls H locs => lv_has ls 7 [(0, .ref m0), (1, .int a1), (2, .int a2), (3, .int a3), (4, .int a4), (6, .int u196.1)] ∧ va_P D vwCl (moW cI m0 m1 m2 m3 m4 m5 pt px py ro an te fx fy ar be u196.2.1 u196.2.2.1 u196.2.2.2) H ∧ va_D AA (moW cI m0 m1 m2 m3 m4 m5 pt px py ro an te fx fy ar be u196.2.1 u196.2.2.1 u196.2.2.2) ∧ va_S AA s.heap H locs) (fun x29 ls H locs => lv_has ls 7 [(0, .ref m0), (1, .int a1), (2, .int a2)] ∧ va_P D vwCl (moW cI m0 m1 m2 m3 m4 m5 pt px py ro an te fx fy ar be x29.1 x29.2.1 x29.2.2) H ∧ va_D AA (moW cI m0 m1 m2 m3 m4 m5 pt px py ro an te fx fy ar be x29.1 x29.2.1 x29.2.2) ∧ va_S AA s.heap H locs) (fun u196 xx h ki196 kx196 ls H locs hl => ?_) (fun ls H locs hl => ?_) ⟨lv_sub hl [1, 2, 3, 4, 5, 0] rfl, hP, hD, hS⟩
                    · obtain ⟨hl, hP, hD, hS⟩ := hl
                      unfold s_X2_join_196 at h
                      refine lv_iload hx hb dX2_join_196 (lv_at hl 5 rfl) ?_
                      refine lv_aload_n hx hb dX2_join_198 rfl (lv_at hl 0 rfl) ?_
                      refine va_get (D := D) (ci := 2) (v := .ref m1) (C := RX2) (T := TX2) (N := 13) hx hb hts hinX2 hown hK hP 0 rfl rfl 0 (by decide) ht1 (fun _ h9 => h9) rfl dX2_join_199 ?_
                      refine lv_iload_n hx hb dX2_join_202 rfl (lv_at hl 3 rfl) ?_
                      obtain ⟨gi22, h⟩ := og_in h
                      refine va_iald hx hb hK hP 1 0 rfl rfl gi22 dX2_join_203 ?_
                      refine lv_icmp_ge (tgt := 237) hx hb dX2_join_204 (by decide) (fun c23 => ?_) (fun c23 => ?_)
                      · rw [if_pos c23] at h
                        exact kx196 _ ls _ _ (Option.some.inj h).symm ⟨lv_sub hl [0, 1, 2] rfl, hP, hD, hS⟩
                      · rw [if_neg c23] at h
                        refine lv_aload_n hx hb dX2_join_207 rfl (lv_at hl 0 rfl) ?_
                        refine lv_aload_n hx hb dX2_join_208 rfl (lv_at hl 0 rfl) ?_
                        refine lv_iload_n hx hb dX2_join_209 rfl (lv_at hl 3 rfl) ?_
                        refine lv_iload hx hb dX2_join_210 (lv_at hl 4 rfl) ?_
                        refine lv_iload hx hb dX2_join_212 (lv_at hl 5 rfl) ?_
                        refine lv_iadd hx hb dX2_join_214 ?_
                        obtain ⟨r25, hcr25, h⟩ := og_bind h
                        refine cp_s (va_runV (As := [.int a3, .int (a4 + u196.1)]) (rest := [.ref m0]) ⟨hx, hb, hml, hown, hts⟩ (k_X2_x l D cI cF m0 m1 m2 m3 m4 m5 pt px py ro an te fx fy ar be u196.2.1 u196.2.2.1 u196.2.2.2 a3 (a4 + u196.1) _ hcr25) (cwV 2 hts gX2_join_X2_x rfl rfl rfl (by decide +kernel) ⟨(Nat.le_of_ble_eq_true rfl), (Nat.le_of_ble_eq_true rfl)⟩) (pre_v (q0 := 0) (ci := 2) hK hP rfl rfl) rfl rfl hl.1 rfl (lv_room (Nat.le_of_ble_eq_true rfl)) dX2_join_215 ⟨(Nat.zero_le _), (Nat.zero_le _)⟩) ?_
                        refine lv_aload_n hx hb dX2_join_218 rfl (lv_at hl 0 rfl) ?_
                        refine lv_iload_n hx hb dX2_join_219 rfl (lv_at hl 3 rfl) ?_
                        refine lv_iload hx hb dX2_join_220 (lv_at hl 4 rfl) ?_
                        refine lv_iload hx hb dX2_join_222 (lv_at hl 5 rfl) ?_
                        refine lv_iadd hx hb dX2_join_224 ?_
                        obtain ⟨r26, hcr26, h⟩ := og_bind h
                        refine cp_s (va_runV (As := [.int a3, .int (a4 + u196.1)]) (rest := [.int r25, .ref m0]) ⟨hx, hb, hml, hown, hts⟩ (k_X2_y l D cI cF m0 m1 m2 m3 m4 m5 pt px py ro an te fx fy ar be u196.2.1 u196.2.2.1 u196.2.2.2 a3 (a4 + u196.1) _ hcr26) (cwV 2 hts gX2_join_X2_y rfl rfl rfl (by decide +kernel) ⟨(Nat.le_of_ble_eq_true rfl), (Nat.le_of_ble_eq_true rfl)⟩) (pre_v (q0 := 0) (ci := 2) hK hP rfl rfl) rfl rfl hl.1 rfl (lv_room (Nat.le_of_ble_eq_true rfl)) dX2_join_225 ⟨(Nat.zero_le _), (Nat.zero_le _)⟩) ?_
                        obtain ⟨r27, hcr27, h⟩ := og_bind h
                        refine cp_v (va_runV (As := [.int r25, .int r26]) (rest := []) ⟨hx, hb, hml, hown, hts⟩ (k_X2_lay l D cI cF m0 m1 m2 m3 m4 m5 pt px py ro an te fx fy ar be u196.2.1 u196.2.2.1 u196.2.2.2 r25 r26 _ hcr27) (cwV 2 hts gX2_join_X2_lay rfl rfl rfl (by decide +kernel) ⟨(Nat.le_of_ble_eq_true rfl), (Nat.le_of_ble_eq_true rfl)⟩) (pre_d (q0 := 0) (ci := 2) hK hP hD rfl rfl) rfl rfl hl.1 rfl (lv_room (Nat.le_of_ble_eq_true rfl)) dX2_join_228 ⟨(Nat.zero_le _), (Nat.zero_le _)⟩) hS (fun a9 h9 => ?_) (fun H1 locs hP1 hz1 hk1 hS => ?_)
                        · exact va_in hD h9 [0, 1, 2, 3, 4, 5] rfl
                        have hP1 : va_P D vwCl (moW cI m0 m1 m2 m3 m4 m5 pt px py ro an te fx fy ar be r27.1 r27.2.1 r27.2.2) H1 := hP1
                        have hD1 : va_D AA (moW cI m0 m1 m2 m3 m4 m5 pt px py ro an te fx fy ar be r27.1 r27.2.1 r27.2.2) := va_D_same hD rfl
                        generalize H1 = H at hP1 hS ⊢
                        have hP := hP1
                        have hD := hD1
                        obtain ⟨v28, ev28⟩ : ∃ y : Int32, y = u196.1 + (1 : Int32) := ⟨_, rfl⟩
                        have h := og_ov h ev28
                        refine lv_iinc (v := v28) (lv' := [(6, .int v28), (0, .ref m0), (1, .int a1), (2, .int a2), (3, .int a3), (4, .int a4)]) hx hb dX2_join_231 hl (k := 5) rfl (by rw [ev28]; rfl) (by decide) rfl (fun ls hl => ?_)
                        refine lv_goto (tgt := 196) hx hb dX2_join_234 (by decide) ?_
                        exact ki196 _ ls _ _ (Option.some.inj h).symm ⟨lv_sub hl [1, 2, 3, 4, 5, 0] rfl, hP, hD, hS⟩
                    · obtain ⟨hl, hP, hD, hS⟩ := hl
                      refine lv_iload_n hx hb dX2_join_237 rfl (lv_at hl 2 rfl) ?_
                      refine lv_iconst (v := 1) hx hb dX2_join_238 (by decide) ?_
                      refine lv_iadd hx hb dX2_join_239 ?_
                      refine lv_topi (fun v30 ev30 => ?_)
                      have h := og_ov h ev30
                      refine lv_istore (lv' := [(6, .int v30), (0, .ref m0), (1, .int a1), (2, .int a2)]) hx hb dX2_join_240 hl (by decide) rfl (fun ls hl => ?_)
                      obtain ⟨x37, hN242, h⟩ := og_bind h
                      refine wlH hN242 242 277 (fun u242 ls H locs => lv_has ls 7 [(0, .ref m0), (1, .int a1), (6, .int u242.1)] ∧ va_P D vwCl (moW cI m0 m1 m2 m3 m4 m5 pt px py ro an te fx fy ar be u242.2.1 u242.2.2.1 u242.2.2.2) H ∧ va_D AA (moW cI m0 m1 m2 m3 m4 m5 pt px py ro an te fx fy ar be u242.2.1 u242.2.2.1 u242.2.2.2) ∧ va_S AA s.heap H locs) (fun x37 ls H locs => lv_has ls 7 [(0, .ref m0), (1, .int a1)] ∧ va_P D vwCl (moW cI m0 m1 m2 m3 m4 m5 pt px py ro an te fx fy ar be x37.1 x37.2.1 x37.2.2) H ∧ va_D AA (moW cI m0 m1 m2 m3 m4 m5 pt px py ro an te fx fy ar be x37.1 x37.2.1 x37.2.2) ∧ va_S AA s.heap H locs) (fun u242 xx h ki242 kx242 ls H locs hl => ?_) (fun ls H locs hl => ?_) ⟨lv_sub hl [1, 2, 0] rfl, hP, hD, hS⟩
                      · obtain ⟨hl, hP, hD, hS⟩ := hl
                        unfold s_X2_join_242 at h
                        refine lv_iload hx hb dX2_join_242 (lv_at hl 2 rfl) ?_
                        refine lv_aload_n hx hb dX2_join_244 rfl (lv_at hl 0 rfl) ?_
                        refine va_get (D := D) (ci := 2) (v := .ref m1) (C := RX2) (T := TX2) (N := 13) hx hb hts hinX2 hown hK hP 0 rfl rfl 0 (by decide) ht1 (fun _ h9 => h9) rfl dX2_join_245 ?_
                        refine lv_iload_n hx hb dX2_join_248 rfl (lv_at hl 1 rfl) ?_
                        obtain ⟨gi30, h⟩ := og_in h
                        refine va_iald hx hb hK hP 1 0 rfl rfl gi30 dX2_join_249 ?_
                        refine lv_icmp_ge (tgt := 277) hx hb dX2_join_250 (by decide) (fun c31 => ?_) (fun c31 => ?_)
                        · rw [if_pos c31] at h
                          exact kx242 _ ls _ _ (Option.some.inj h).symm ⟨lv_sub hl [0, 1] rfl, hP, hD, hS⟩
                        · rw [if_neg c31] at h
                          refine lv_aload_n hx hb dX2_join_253 rfl (lv_at hl 0 rfl) ?_
                          refine lv_aload_n hx hb dX2_join_254 rfl (lv_at hl 0 rfl) ?_
                          refine lv_iload_n hx hb dX2_join_255 rfl (lv_at hl 1 rfl) ?_
                          refine lv_iload hx hb dX2_join_256 (lv_at hl 2 rfl) ?_
                          obtain ⟨r33, hcr33, h⟩ := og_bind h
                          refine cp_s (va_runV (As := [.int a1, .int u242.1]) (rest := [.ref m0]) ⟨hx, hb, hml, hown, hts⟩ (k_X2_x l D cI cF m0 m1 m2 m3 m4 m5 pt px py ro an te fx fy ar be u242.2.1 u242.2.2.1 u242.2.2.2 a1 u242.1 _ hcr33) (cwV 2 hts gX2_join_X2_x rfl rfl rfl (by decide +kernel) ⟨(Nat.le_of_ble_eq_true rfl), (Nat.le_of_ble_eq_true rfl)⟩) (pre_v (q0 := 0) (ci := 2) hK hP rfl rfl) rfl rfl hl.1 rfl (lv_room (Nat.le_of_ble_eq_true rfl)) dX2_join_258 ⟨(Nat.zero_le _), (Nat.zero_le _)⟩) ?_
                          refine lv_aload_n hx hb dX2_join_261 rfl (lv_at hl 0 rfl) ?_
                          refine lv_iload_n hx hb dX2_join_262 rfl (lv_at hl 1 rfl) ?_
                          refine lv_iload hx hb dX2_join_263 (lv_at hl 2 rfl) ?_
                          obtain ⟨r34, hcr34, h⟩ := og_bind h
                          refine cp_s (va_runV (As := [.int a1, .int u242.1]) (rest := [.int r33, .ref m0]) ⟨hx, hb, hml, hown, hts⟩ (k_X2_y l D cI cF m0 m1 m2 m3 m4 m5 pt px py ro an te fx fy ar be u242.2.1 u242.2.2.1 u242.2.2.2 a1 u242.1 _ hcr34) (cwV 2 hts gX2_join_X2_y rfl rfl rfl (by decide +kernel) ⟨(Nat.le_of_ble_eq_true rfl), (Nat.le_of_ble_eq_true rfl)⟩) (pre_v (q0 := 0) (ci := 2) hK hP rfl rfl) rfl rfl hl.1 rfl (lv_room (Nat.le_of_ble_eq_true rfl)) dX2_join_265 ⟨(Nat.zero_le _), (Nat.zero_le _)⟩) ?_
                          obtain ⟨r35, hcr35, h⟩ := og_bind h
                          refine cp_v (va_runV (As := [.int r33, .int r34]) (rest := []) ⟨hx, hb, hml, hown, hts⟩ (k_X2_lay l D cI cF m0 m1 m2 m3 m4 m5 pt px py ro an te fx fy ar be u242.2.1 u242.2.2.1 u242.2.2.2 r33 r34 _ hcr35) (cwV 2 hts gX2_join_X2_lay rfl rfl rfl (by decide +kernel) ⟨(Nat.le_of_ble_eq_true rfl), (Nat.le_of_ble_eq_true rfl)⟩) (pre_d (q0 := 0) (ci := 2) hK hP hD rfl rfl) rfl rfl hl.1 rfl (lv_room (Nat.le_of_ble_eq_true rfl)) dX2_join_268 ⟨(Nat.zero_le _), (Nat.zero_le _)⟩) hS (fun a9 h9 => ?_) (fun H1 locs hP1 hz1 hk1 hS => ?_)
                          · exact va_in hD h9 [0, 1, 2, 3, 4, 5] rfl
                          have hP1 : va_P D vwCl (moW cI m0 m1 m2 m3 m4 m5 pt px py ro an te fx fy ar be r35.1 r35.2.1 r35.2.2) H1 := hP1
                          have hD1 : va_D AA (moW cI m0 m1 m2 m3 m4 m5 pt px py ro an te fx fy ar be r35.1 r35.2.1 r35.2.2) := va_D_same hD rfl
                          generalize H1 = H at hP1 hS ⊢
                          have hP := hP1
                          have hD := hD1
                          obtain ⟨v36, ev36⟩ : ∃ y : Int32, y = u242.1 + (1 : Int32) := ⟨_, rfl⟩
                          have h := og_ov h ev36
                          refine lv_iinc (v := v36) (lv' := [(6, .int v36), (0, .ref m0), (1, .int a1)]) hx hb dX2_join_271 hl (k := 2) rfl (by rw [ev36]; rfl) (by decide) rfl (fun ls hl => ?_)
                          refine lv_goto (tgt := 242) hx hb dX2_join_274 (by decide) ?_
                          exact ki242 _ ls _ _ (Option.some.inj h).symm ⟨lv_sub hl [1, 2, 0] rfl, hP, hD, hS⟩
                      · obtain ⟨hl, hP, hD, hS⟩ := hl
                        refine lv_aload_n hx hb dX2_join_277 rfl (lv_at hl 0 rfl) ?_
                        refine lv_iload_n hx hb dX2_join_278 rfl (lv_at hl 1 rfl) ?_
                        obtain ⟨r38, hcr38, h⟩ := og_bind h
                        refine cp_w (va_runV (As := [.int a1]) (rest := []) ⟨hx, hb, hml, hown, hts⟩ (k_X2_take l D cI cF m0 m1 m2 m3 m4 m5 pt px py ro an te fx fy ar be x37.1 x37.2.1 x37.2.2 a1 _ hcr38) (cwV 1 hts gX2_join_X2_take rfl rfl rfl (by decide +kernel) ⟨(Nat.le_of_ble_eq_true rfl), (Nat.le_of_ble_eq_true rfl)⟩) (pre_d (q0 := 0) (ci := 2) hK hP hD rfl rfl) rfl rfl hl.1 rfl (lv_room (Nat.le_of_ble_eq_true rfl)) dX2_join_279 ⟨(Nat.zero_le _), (Nat.zero_le _)⟩) hS (fun a9 h9 => ?_) (fun H1 locs hP1 hz1 hk1 hS => ?_)
                        · exact va_in hD h9 [0, 1, 2, 3, 4, 5] rfl
                        have hP1 : va_P D vwCl (moW cI m0 m1 m2 m3 m4 m5 r38.2.1 r38.2.2.1 r38.2.2.2 ro an te fx fy ar be x37.1 x37.2.1 x37.2.2) H1 := hP1
                        have hD1 : va_D AA (moW cI m0 m1 m2 m3 m4 m5 r38.2.1 r38.2.2.1 r38.2.2.2 ro an te fx fy ar be x37.1 x37.2.1 x37.2.2) := va_D_same hD rfl
                        generalize H1 = H at hP1 hS ⊢
                        have hP := hP1
                        have hD := hD1
                        obtain rfl := Option.some.inj h
                        exact W.iret hx hb hr (fun t ht _ => ⟨rfl, by rw [ht]; exact hP, hS.F ht⟩) hS.2.2 dX2_join_282
                · rw [if_pos c15] at h
                  refine lv_bipush (v := -5) hx hb dX2_join_152 (by decide) ?_
                  obtain rfl := Option.some.inj h
                  exact W.iret hx hb hr (fun t ht _ => ⟨rfl, by rw [ht]; exact hP, hS.F ht⟩) hS.2.2 dX2_join_154
              · have h := hm145
                refine lv_icmp_ne (tgt := 144) hx hb dX2_join_83 (by decide) (fun c38 => ?_) (fun c38 => ?_)
                · rw [if_neg c38] at h
                  refine lv_iconst (v := 0) hx hb dX2_join_144 (by decide) ?_
                  obtain rfl := Option.some.inj h
                  exact KJ145 ls _ _ ⟨lv_sub hl [0, 1, 2, 3, 4] rfl, hP, hD, hS⟩
                · rw [if_pos c38] at h
                  refine lv_aload_n hx hb dX2_join_86 rfl (lv_at hl 0 rfl) ?_
                  refine lv_iload_n hx hb dX2_join_87 rfl (lv_at hl 1 rfl) ?_
                  refine lv_iload_n hx hb dX2_join_88 rfl (lv_at hl 2 rfl) ?_
                  obtain ⟨r40, hcr40, h⟩ := og_bind h
                  refine cp_s (va_runV (As := [.int a1, .int a2]) (rest := []) ⟨hx, hb, hml, hown, hts⟩ (k_X2_y l D cI cF m0 m1 m2 m3 m4 m5 pt px py ro an te fx fy ar be ma nx ny a1 a2 _ hcr40) (cwV 2 hts gX2_join_X2_y rfl rfl rfl (by decide +kernel) ⟨(Nat.le_of_ble_eq_true rfl), (Nat.le_of_ble_eq_true rfl)⟩) (pre_v (q0 := 0) (ci := 2) hK hP rfl rfl) rfl rfl hl.1 rfl (lv_room (Nat.le_of_ble_eq_true rfl)) dX2_join_89 ⟨(Nat.zero_le _), (Nat.zero_le _)⟩) ?_
                  refine lv_aload_n hx hb dX2_join_92 rfl (lv_at hl 0 rfl) ?_
                  refine lv_iload_n hx hb dX2_join_93 rfl (lv_at hl 3 rfl) ?_
                  refine lv_iload hx hb dX2_join_94 (lv_at hl 4 rfl) ?_
                  refine lv_iconst (v := 1) hx hb dX2_join_96 (by decide) ?_
                  refine lv_iadd hx hb dX2_join_97 ?_
                  obtain ⟨r41, hcr41, h⟩ := og_bind h
                  refine cp_s (va_runV (As := [.int a3, .int (a4 + (1 : Int32))]) (rest := [.int r40]) ⟨hx, hb, hml, hown, hts⟩ (k_X2_y l D cI cF m0 m1 m2 m3 m4 m5 pt px py ro an te fx fy ar be ma nx ny a3 (a4 + (1 : Int32)) _ hcr41) (cwV 2 hts gX2_join_X2_y rfl rfl rfl (by decide +kernel) ⟨(Nat.le_of_ble_eq_true rfl), (Nat.le_of_ble_eq_true rfl)⟩) (pre_v (q0 := 0) (ci := 2) hK hP rfl rfl) rfl rfl hl.1 rfl (lv_room (Nat.le_of_ble_eq_true rfl)) dX2_join_98 ⟨(Nat.zero_le _), (Nat.zero_le _)⟩) ?_
                  refine lv_icmp_ne (tgt := 144) hx hb dX2_join_101 (by decide) (fun c41 => ?_) (fun c41 => ?_)
                  · rw [if_neg c41] at h
                    refine lv_iconst (v := 0) hx hb dX2_join_144 (by decide) ?_
                    obtain rfl := Option.some.inj h
                    exact KJ145 ls _ _ ⟨lv_sub hl [0, 1, 2, 3, 4] rfl, hP, hD, hS⟩
                  · rw [if_pos c41] at h
                    refine lv_aload_n hx hb dX2_join_104 rfl (lv_at hl 0 rfl) ?_
                    refine lv_iload_n hx hb dX2_join_105 rfl (lv_at hl 1 rfl) ?_
                    refine lv_iload_n hx hb dX2_join_106 rfl (lv_at hl 2 rfl) ?_
                    refine lv_iconst (v := 1) hx hb dX2_join_107 (by decide) ?_
                    refine lv_iadd hx hb dX2_join_108 ?_
                    obtain ⟨r43, hcr43, h⟩ := og_bind h
                    refine cp_s (va_runV (As := [.int a1, .int (a2 + (1 : Int32))]) (rest := []) ⟨hx, hb, hml, hown, hts⟩ (k_X2_x l D cI cF m0 m1 m2 m3 m4 m5 pt px py ro an te fx fy ar be ma nx ny a1 (a2 + (1 : Int32)) _ hcr43) (cwV 2 hts gX2_join_X2_x rfl rfl rfl (by decide +kernel) ⟨(Nat.le_of_ble_eq_true rfl), (Nat.le_of_ble_eq_true rfl)⟩) (pre_v (q0 := 0) (ci := 2) hK hP rfl rfl) rfl rfl hl.1 rfl (lv_room (Nat.le_of_ble_eq_true rfl)) dX2_join_109 ⟨(Nat.zero_le _), (Nat.zero_le _)⟩) ?_
                    refine lv_aload_n hx hb dX2_join_112 rfl (lv_at hl 0 rfl) ?_
                    refine lv_iload_n hx hb dX2_join_113 rfl (lv_at hl 3 rfl) ?_
                    refine lv_iload hx hb dX2_join_114 (lv_at hl 4 rfl) ?_
                    obtain ⟨r44, hcr44, h⟩ := og_bind h
                    refine cp_s (va_runV (As := [.int a3, .int a4]) (rest := [.int r43]) ⟨hx, hb, hml, hown, hts⟩ (k_X2_x l D cI cF m0 m1 m2 m3 m4 m5 pt px py ro an te fx fy ar be ma nx ny a3 a4 _ hcr44) (cwV 2 hts gX2_join_X2_x rfl rfl rfl (by decide +kernel) ⟨(Nat.le_of_ble_eq_true rfl), (Nat.le_of_ble_eq_true rfl)⟩) (pre_v (q0 := 0) (ci := 2) hK hP rfl rfl) rfl rfl hl.1 rfl (lv_room (Nat.le_of_ble_eq_true rfl)) dX2_join_116 ⟨(Nat.zero_le _), (Nat.zero_le _)⟩) ?_
                    refine lv_icmp_ne (tgt := 144) hx hb dX2_join_119 (by decide) (fun c44 => ?_) (fun c44 => ?_)
                    · rw [if_neg c44] at h
                      refine lv_iconst (v := 0) hx hb dX2_join_144 (by decide) ?_
                      obtain rfl := Option.some.inj h
                      exact KJ145 ls _ _ ⟨lv_sub hl [0, 1, 2, 3, 4] rfl, hP, hD, hS⟩
                    · rw [if_pos c44] at h
                      refine lv_aload_n hx hb dX2_join_122 rfl (lv_at hl 0 rfl) ?_
                      refine lv_iload_n hx hb dX2_join_123 rfl (lv_at hl 1 rfl) ?_
                      refine lv_iload_n hx hb dX2_join_124 rfl (lv_at hl 2 rfl) ?_
                      refine lv_iconst (v := 1) hx hb dX2_join_125 (by decide) ?_
                      refine lv_iadd hx hb dX2_join_126 ?_
                      obtain ⟨r46, hcr46, h⟩ := og_bind h
                      refine cp_s (va_runV (As := [.int a1, .int (a2 + (1 : Int32))]) (rest := []) ⟨hx, hb, hml, hown, hts⟩ (k_X2_y l D cI cF m0 m1 m2 m3 m4 m5 pt px py ro an te fx fy ar be ma nx ny a1 (a2 + (1 : Int32)) _ hcr46) (cwV 2 hts gX2_join_X2_y rfl rfl rfl (by decide +kernel) ⟨(Nat.le_of_ble_eq_true rfl), (Nat.le_of_ble_eq_true rfl)⟩) (pre_v (q0 := 0) (ci := 2) hK hP rfl rfl) rfl rfl hl.1 rfl (lv_room (Nat.le_of_ble_eq_true rfl)) dX2_join_127 ⟨(Nat.zero_le _), (Nat.zero_le _)⟩) ?_
                      refine lv_aload_n hx hb dX2_join_130 rfl (lv_at hl 0 rfl) ?_
                      refine lv_iload_n hx hb dX2_join_131 rfl (lv_at hl 3 rfl) ?_
                      refine lv_iload hx hb dX2_join_132 (lv_at hl 4 rfl) ?_
                      obtain ⟨r47, hcr47, h⟩ := og_bind h
                      refine cp_s (va_runV (As := [.int a3, .int a4]) (rest := [.int r46]) ⟨hx, hb, hml, hown, hts⟩ (k_X2_y l D cI cF m0 m1 m2 m3 m4 m5 pt px py ro an te fx fy ar be ma nx ny a3 a4 _ hcr47) (cwV 2 hts gX2_join_X2_y rfl rfl rfl (by decide +kernel) ⟨(Nat.le_of_ble_eq_true rfl), (Nat.le_of_ble_eq_true rfl)⟩) (pre_v (q0 := 0) (ci := 2) hK hP rfl rfl) rfl rfl hl.1 rfl (lv_room (Nat.le_of_ble_eq_true rfl)) dX2_join_134 ⟨(Nat.zero_le _), (Nat.zero_le _)⟩) ?_
                      refine lv_icmp_ne (tgt := 144) hx hb dX2_join_137 (by decide) (fun c47 => ?_) (fun c47 => ?_)
                      · rw [if_neg c47] at h
                        refine lv_iconst (v := 0) hx hb dX2_join_144 (by decide) ?_
                        obtain rfl := Option.some.inj h
                        exact KJ145 ls _ _ ⟨lv_sub hl [0, 1, 2, 3, 4] rfl, hP, hD, hS⟩
                      · rw [if_pos c47] at h
                        refine lv_iconst (v := 1) hx hb dX2_join_140 (by decide) ?_
                        refine lv_goto (tgt := 145) hx hb dX2_join_141 (by decide) ?_
                        obtain rfl := Option.some.inj h
                        exact KJ145 ls _ _ ⟨lv_sub hl [0, 1, 2, 3, 4] rfl, hP, hD, hS⟩
            · rw [if_neg c11] at h
              refine lv_bipush (v := -4) hx hb dX2_join_65 (by decide) ?_
              obtain rfl := Option.some.inj h
              exact W.iret hx hb hr (fun t ht _ => ⟨rfl, by rw [ht]; exact hP, hS.F ht⟩) hS.2.2 dX2_join_67
          · rw [if_pos c8] at h
            refine lv_bipush (v := -3) hx hb dX2_join_42 (by decide) ?_
            obtain rfl := Option.some.inj h
            exact W.iret hx hb hr (fun t ht _ => ⟨rfl, by rw [ht]; exact hP, hS.F ht⟩) hS.2.2 dX2_join_44
      · rw [if_pos c4] at h
        refine lv_iconst (v := -1) hx hb dX2_join_24 (by decide) ?_
        obtain rfl := Option.some.inj h
        exact W.iret hx hb hr (fun t ht _ => ⟨rfl, by rw [ht]; exact hP, hS.F ht⟩) hS.2.2 dX2_join_25
def s_X2_part_53 (pt : Nat → Int32) (px : Nat → Int32) (py : Nat → Int32) (a1 : Int32) (a3 : Int32) (u53 : (Int32 × Int32 × Int32 × (Nat → Int32) × (Nat → Int32))) : Option ((Int32 × Int32 × Int32 × (Nat → Int32) × (Nat → Int32)) ⊕ (Int32 × Int32 × (Nat → Int32) × (Nat → Int32))) :=
  if bin a1 6 = true then
  if (pt a1.toNatClampNeg) ≤ u53.2.1 then
  (some (.inr (u53.1, u53.2.2.1, u53.2.2.2.1, u53.2.2.2.2)))
  else
  ((f_X2_y pt py a1 (u53.2.1 + (1 : Int32))).bind fun r12 =>
  (f_X2_y pt py a1 u53.2.1).bind fun r13 =>
  ov (r12 - r13) fun v14 =>
  (f_X2_y pt py a1 u53.2.1).bind fun r15 =>
  (if r15 < a3 then
  (some (u53.2.2.1, u53.2.2.2.1, u53.2.2.2.2))
  else
  ((f_X2_x pt px a1 u53.2.1).bind fun r70 =>
  (f_X2_y pt py a1 u53.2.1).bind fun r71 =>
  (f_X2_lay u53.2.2.1 u53.2.2.2.1 u53.2.2.2.2 r70 r71).bind fun r72 =>
  some (r72.1, r72.2.1, r72.2.2))).bind fun mv16 =>
  (f_X2_y pt py a1 u53.2.1).bind fun r17 =>
  if a3 ≤ r17 then
  ((f_X2_y pt py a1 u53.2.1).bind fun r19 =>
  if r19 ≤ a3 then
  (ov (u53.2.1 + (1 : Int32)) fun v21 =>
  some (.inl (u53.1, v21, mv16.1, mv16.2.1, mv16.2.2)))
  else
  ((f_X2_y pt py a1 (u53.2.1 + (1 : Int32))).bind fun r22 =>
  if a3 ≤ r22 then
  (ov (u53.2.1 + (1 : Int32)) fun v24 =>
  some (.inl (u53.1, v24, mv16.1, mv16.2.1, mv16.2.2)))
  else
  ((f_X2_x pt px a1 (u53.2.1 + (1 : Int32))).bind fun r25 =>
  (f_X2_x pt px a1 u53.2.1).bind fun r26 =>
  (f_X2_y pt py a1 u53.2.1).bind fun r27 =>
  ov ((r25 - r26) * (a3 - r27)) fun v28 =>
  (if u53.1 = (0) then
  (some ((0 : Int32)))
  else
  (if v14 = 0 then none else
  if (v28 - v28 / v14 * v14) = (0) then
  (some ((1 : Int32)))
  else
  (some ((0 : Int32))))).bind fun mv29 =>
  (f_X2_x pt px a1 u53.2.1).bind fun r30 =>
  if v14 = 0 then none else
  (f_X2_lay mv16.1 mv16.2.1 mv16.2.2 (r30 + (v28 / v14)) a3).bind fun r32 =>
  ov (u53.2.1 + (1 : Int32)) fun v33 =>
  some (.inl (mv29, v33, r32.1, r32.2.1, r32.2.2)))))
  else
  ((f_X2_y pt py a1 (u53.2.1 + (1 : Int32))).bind fun r37 =>
  if a3 < r37 then
  ((f_X2_x pt px a1 (u53.2.1 + (1 : Int32))).bind fun r39 =>
  (f_X2_x pt px a1 u53.2.1).bind fun r40 =>
  (f_X2_y pt py a1 u53.2.1).bind fun r41 =>
  ov ((r39 - r40) * (a3 - r41)) fun v42 =>
  (if u53.1 = (0) then
  (some ((0 : Int32)))
  else
  (if v14 = 0 then none else
  if (v42 - v42 / v14 * v14) = (0) then
  (some ((1 : Int32)))
  else
  (some ((0 : Int32))))).bind fun mv43 =>
  (f_X2_x pt px a1 u53.2.1).bind fun r44 =>
  if v14 = 0 then none else
  (f_X2_lay mv16.1 mv16.2.1 mv16.2.2 (r44 + (v42 / v14)) a3).bind fun r46 =>
  ov (u53.2.1 + (1 : Int32)) fun v47 =>
  some (.inl (mv43, v47, r46.1, r46.2.1, r46.2.2)))
  else
  ((f_X2_y pt py a1 u53.2.1).bind fun r51 =>
  if r51 ≤ a3 then
  (ov (u53.2.1 + (1 : Int32)) fun v53 =>
  some (.inl (u53.1, v53, mv16.1, mv16.2.1, mv16.2.2)))
  else
  ((f_X2_y pt py a1 (u53.2.1 + (1 : Int32))).bind fun r54 =>
  if a3 ≤ r54 then
  (ov (u53.2.1 + (1 : Int32)) fun v56 =>
  some (.inl (u53.1, v56, mv16.1, mv16.2.1, mv16.2.2)))
  else
  ((f_X2_x pt px a1 (u53.2.1 + (1 : Int32))).bind fun r57 =>
  (f_X2_x pt px a1 u53.2.1).bind fun r58 =>
  (f_X2_y pt py a1 u53.2.1).bind fun r59 =>
  ov ((r57 - r58) * (a3 - r59)) fun v60 =>
  (if u53.1 = (0) then
  (some ((0 : Int32)))
  else
  (if v14 = 0 then none else
  if (v60 - v60 / v14 * v14) = (0) then
  (some ((1 : Int32)))
  else
  (some ((0 : Int32))))).bind fun mv61 =>
  (f_X2_x pt px a1 u53.2.1).bind fun r62 =>
  if v14 = 0 then none else
  (f_X2_lay mv16.1 mv16.2.1 mv16.2.2 (r62 + (v60 / v14)) a3).bind fun r64 =>
  ov (u53.2.1 + (1 : Int32)) fun v65 =>
  some (.inl (mv61, v65, r64.1, r64.2.1, r64.2.2)))))))
  else none
def f_X2_part (pt : Nat → Int32) (px : Nat → Int32) (py : Nat → Int32) (ma : Int32) (nx : Nat → Int32) (ny : Nat → Int32) (a1 : Int32) (a2 : Int32) (a3 : Int32) : Option ((Int32 × (Nat → Int32) × (Nat → Int32) × (Nat → Int32) × Int32 × (Nat → Int32) × (Nat → Int32))) :=
  (f_X2_isFigure a1).bind fun r1 =>
  if r1 = (0) then
  (some ((-1 : Int32), pt, px, py, ma, nx, ny))
  else
  ((f_X2_isFigure a2).bind fun r3 =>
  if r3 = (0) then
  (some ((-1 : Int32), pt, px, py, ma, nx, ny))
  else
  (if a1 = a2 then
  (some ((-1 : Int32), pt, px, py, ma, nx, ny))
  else
  ((f_X2_isPlace a3).bind fun r6 =>
  if r6 = (0) then
  (some ((-2 : Int32), pt, px, py, ma, nx, ny))
  else
  ((f_X2_isClosed pt a1).bind fun r8 =>
  if r8 = (0) then
  (some ((-3 : Int32), pt, px, py, ma, nx, ny))
  else
  ((lpf (s_X2_part_53 pt px py a1 a3) 1000 ((1 : Int32), (0 : Int32), (0 : Int32), nx, ny)).bind fun x73 =>
  if x73.2.1 ≤ (24 : Int32) then
  (if x73.1 = (0) then
  (some ((-5 : Int32), pt, px, py, x73.2.1, x73.2.2.1, x73.2.2.2))
  else
  ((f_X2_take pt px py x73.2.1 x73.2.2.1 x73.2.2.2 a2).bind fun r76 =>
  some (r76.1, r76.2.1, r76.2.2.1, r76.2.2.2, x73.2.1, x73.2.2.1, x73.2.2.2)))
  else
  (some ((-4 : Int32), pt, px, py, x73.2.1, x73.2.2.1, x73.2.2.2)))))))
set_option maxHeartbeats 4000000 in
set_option maxRecDepth 100000 in
theorem k_X2_part (l : Launch) (D : va_G) (cI cF : ClassId) (m0 : Nat) (m1 : Nat) (m2 : Nat) (m3 : Nat) (m4 : Nat) (m5 : Nat) (pt : Nat → Int32) (px : Nat → Int32) (py : Nat → Int32) (ro : Int32) (an : Int32) (te : Int32) (fx : Int32) (fy : Int32) (ar : Int32) (be : Int32) (ma : Int32) (nx : Nat → Int32) (ny : Nat → Int32) (a1 : Int32) (a2 : Int32) (a3 : Int32) (r0 : (Int32 × (Nat → Int32) × (Nat → Int32) × (Nat → Int32) × Int32 × (Nat → Int32) × (Nat → Int32))) (h : f_X2_part pt px py ma nx ny a1 a2 a3 = some r0) : Met l yX2_part wsX2_part ({ frames := 2, cells := 0, slots := 0, locals := 42 }) (va_Pc [.ref m0, .int a1, .int a2, .int a3] (fun U => wD D cI cF (moW cI m0 m1 m2 m3 m4 m5 pt px py ro an te fx fy ar be ma nx ny) U)) (qW (some (.int r0.1)) (va_A0 (moW cI m0 m1 m2 m3 m4 m5 pt px py ro an te fx fy ar be ma nx ny)) (fun H => va_P D vwCl (moW cI m0 m1 m2 m3 m4 m5 r0.2.1 r0.2.2.1 r0.2.2.2.1 ro an te fx fy ar be r0.2.2.2.2.1 r0.2.2.2.2.2.1 r0.2.2.2.2.2.2) H)) 0 0 (va_A0 (moW cI m0 m1 m2 m3 m4 m5 pt px py ro an te fx fy ar be ma nx ny)) := by
  refine Met.ofW (cc := cX2_part) (maxL := 8) (ret := (some .int)) (by decide) rfl ?_
  intro p e s m args below meth c s₁ B hml hv
  obtain ⟨rfl, hK, hP, hD0⟩ := hv
  have hx := B.exec
  have hb := B.bytes
  have hr := B.returns
  have hts := atoms_spec (ws := wsX2_part) B.pre
  have hown : s.vm.findClass RX2 = some m.cls := findClass_of_methodNamed B.named
  have hlocks := B.notSynchronized
  have ht1 := hts (.fieldLink RX2 60 "DrawnAreasModel" "many" "I") (by decide +kernel)
  have hinX2 : ∀ w ∈ u_ws RX2 TX2 13, w ∈ wsX2_part := by decide +kernel
  have ht3 := hts (.fieldLink RX2 7 "DrawnAreasModel" "points" "[I") (by decide +kernel)
  have hD : va_D (va_A0 (moW cI m0 m1 m2 m3 m4 m5 pt px py ro an te fx fy ar be ma nx ny)) (moW cI m0 m1 m2 m3 m4 m5 pt px py ro an te fx fy ar be ma nx ny) := va_D_A0 hD0
  generalize hAe : va_A0 (moW cI m0 m1 m2 m3 m4 m5 pt px py ro an te fx fy ar be ma nx ny) = AA at hD ⊢
  have hS : va_S AA s.heap s.heap [] := va_S.rf
  have hl := lv_entry ([.ref m0, .int a1, .int a2, .int a3]) (n := 8) (Nat.le_of_ble_eq_true rfl)
  rw [lg_entry_eq]
  generalize (lg_sl ([.ref m0, .int a1, .int a2, .int a3]) ++ List.replicate (8 - (lg_sl ([.ref m0, .int a1, .int a2, .int a3])).length) Slot.unset).toArray = ls at hl ⊢
  have hl : lv_has ls 8 [(0, .ref m0), (1, .int a1), (2, .int a2), (3, .int a3)] := hl
  unfold f_X2_part at h
  refine lv_iload_n hx hb dX2_part_0 rfl (lv_at hl 1 rfl) ?_
  obtain ⟨r1, hcr1, h⟩ := og_bind h
  refine cp_s (va_runS (As := [.int a1]) (rest := []) ⟨hx, hb, hml, hown, hts⟩ (k_X2_isFigure l a1 _ hcr1) (va_cwS 1 hts gX2_part_X2_isFigure rfl rfl rfl (by decide +kernel) ⟨(Nat.le_of_ble_eq_true rfl), (Nat.le_of_ble_eq_true rfl)⟩) pre_s rfl rfl hl.1 rfl (lv_room (Nat.le_of_ble_eq_true rfl)) dX2_part_1 ⟨(Nat.zero_le _), (Nat.zero_le _)⟩) ?_
  refine lv_if_eq (tgt := 19) hx hb dX2_part_4 (by decide) (fun c1 => ?_) (fun c1 => ?_)
  · rw [if_pos c1] at h
    refine lv_iconst (v := -1) hx hb dX2_part_19 (by decide) ?_
    obtain rfl := Option.some.inj h
    exact W.iret hx hb hr (fun t ht _ => ⟨rfl, by rw [ht]; exact hP, hS.F ht⟩) hS.2.2 dX2_part_20
  · rw [if_neg c1] at h
    refine lv_iload_n hx hb dX2_part_7 rfl (lv_at hl 2 rfl) ?_
    obtain ⟨r3, hcr3, h⟩ := og_bind h
    refine cp_s (va_runS (As := [.int a2]) (rest := []) ⟨hx, hb, hml, hown, hts⟩ (k_X2_isFigure l a2 _ hcr3) (va_cwS 1 hts gX2_part_X2_isFigure rfl rfl rfl (by decide +kernel) ⟨(Nat.le_of_ble_eq_true rfl), (Nat.le_of_ble_eq_true rfl)⟩) pre_s rfl rfl hl.1 rfl (lv_room (Nat.le_of_ble_eq_true rfl)) dX2_part_8 ⟨(Nat.zero_le _), (Nat.zero_le _)⟩) ?_
    refine lv_if_eq (tgt := 19) hx hb dX2_part_11 (by decide) (fun c3 => ?_) (fun c3 => ?_)
    · rw [if_pos c3] at h
      refine lv_iconst (v := -1) hx hb dX2_part_19 (by decide) ?_
      obtain rfl := Option.some.inj h
      exact W.iret hx hb hr (fun t ht _ => ⟨rfl, by rw [ht]; exact hP, hS.F ht⟩) hS.2.2 dX2_part_20
    · rw [if_neg c3] at h
      refine lv_iload_n hx hb dX2_part_14 rfl (lv_at hl 1 rfl) ?_
      refine lv_iload_n hx hb dX2_part_15 rfl (lv_at hl 2 rfl) ?_
      refine lv_icmp_ne (tgt := 21) hx hb dX2_part_16 (by decide) (fun c4 => ?_) (fun c4 => ?_)
      · rw [if_neg c4] at h
        refine lv_iload_n hx hb dX2_part_21 rfl (lv_at hl 3 rfl) ?_
        obtain ⟨r6, hcr6, h⟩ := og_bind h
        refine cp_s (va_runS (As := [.int a3]) (rest := []) ⟨hx, hb, hml, hown, hts⟩ (k_X2_isPlace l a3 _ hcr6) (va_cwS 1 hts gX2_part_X2_isPlace rfl rfl rfl (by decide +kernel) ⟨(Nat.le_of_ble_eq_true rfl), (Nat.le_of_ble_eq_true rfl)⟩) pre_s rfl rfl hl.1 rfl (lv_room (Nat.le_of_ble_eq_true rfl)) dX2_part_22 ⟨(Nat.zero_le _), (Nat.zero_le _)⟩) ?_
        refine lv_if_ne (tgt := 31) hx hb dX2_part_25 (by decide) (fun c6 => ?_) (fun c6 => ?_)
        · rw [if_neg c6] at h
          refine lv_aload_n hx hb dX2_part_31 rfl (lv_at hl 0 rfl) ?_
          refine lv_iload_n hx hb dX2_part_32 rfl (lv_at hl 1 rfl) ?_
          obtain ⟨r8, hcr8, h⟩ := og_bind h
          refine cp_s (va_runV (As := [.int a1]) (rest := []) ⟨hx, hb, hml, hown, hts⟩ (k_X2_isClosed l D cI cF m0 m1 m2 m3 m4 m5 pt px py ro an te fx fy ar be ma nx ny a1 _ hcr8) (cwV 1 hts gX2_part_X2_isClosed rfl rfl rfl (by decide +kernel) ⟨(Nat.le_of_ble_eq_true rfl), (Nat.le_of_ble_eq_true rfl)⟩) (pre_v (q0 := 0) (ci := 2) hK hP rfl rfl) rfl rfl hl.1 rfl (lv_room (Nat.le_of_ble_eq_true rfl)) dX2_part_33 ⟨(Nat.zero_le _), (Nat.zero_le _)⟩) ?_
          refine lv_if_ne (tgt := 42) hx hb dX2_part_36 (by decide) (fun c8 => ?_) (fun c8 => ?_)
          · rw [if_neg c8] at h
            refine lv_aload_n hx hb dX2_part_42 rfl (lv_at hl 0 rfl) ?_
            refine lv_iconst (v := 0) hx hb dX2_part_43 (by decide) ?_
            refine va_put (D := D) (ci := 2) (v := .int (0 : Int32)) (ty := .int) (C := RX2) (T := TX2) (N := 13) hx hb hts hinX2 tyX2 tyX2_ok nmX2 hown hK hP hD hS 0 rfl rfl 10 (by decide) ht1 (fun _ h9 => h9) rfl (by decide +kernel) rfl rfl (Nat.le_of_ble_eq_true rfl) dX2_part_44 (fun H locs hP hD hS => ?_)
            have hP : va_P D vwCl (moW cI m0 m1 m2 m3 m4 m5 pt px py ro an te fx fy ar be (0 : Int32) nx ny) H := hP
            have hD : va_D AA (moW cI m0 m1 m2 m3 m4 m5 pt px py ro an te fx fy ar be (0 : Int32) nx ny) := hD
            refine lv_iconst (v := 1) hx hb dX2_part_47 (by decide) ?_
            refine lv_istore (lv' := [(4, .int (1 : Int32)), (0, .ref m0), (1, .int a1), (2, .int a2), (3, .int a3)]) hx hb dX2_part_48 hl (by decide) rfl (fun ls hl => ?_)
            refine lv_iconst (v := 0) hx hb dX2_part_50 (by decide) ?_
            refine lv_istore (lv' := [(5, .int (0 : Int32)), (4, .int (1 : Int32)), (0, .ref m0), (1, .int a1), (2, .int a2), (3, .int a3)]) hx hb dX2_part_51 hl (by decide) rfl (fun ls hl => ?_)
            obtain ⟨x73, hN53, h⟩ := og_bind h
            refine wlH hN53 53 233 (fun u53 ls H locs => lv_has ls 8 [(0, .ref m0), (1, .int a1), (2, .int a2), (3, .int a3), (4, .int u53.1), (5, .int u53.2.1)] ∧ va_P D vwCl (moW cI m0 m1 m2 m3 m4 m5 pt px py ro an te fx fy ar be u53.2.2.1 u53.2.2.2.1 u53.2.2.2.2) H ∧ va_D AA (moW cI m0 m1 m2 m3 m4 m5 pt px py ro an te fx fy ar be u53.2.2.1 u53.2.2.2.1 u53.2.2.2.2) ∧ va_S AA s.heap H locs) (fun x73 ls H locs => lv_has ls 8 [(0, .ref m0), (2, .int a2), (4, .int x73.1)] ∧ va_P D vwCl (moW cI m0 m1 m2 m3 m4 m5 pt px py ro an te fx fy ar be x73.2.1 x73.2.2.1 x73.2.2.2) H ∧ va_D AA (moW cI m0 m1 m2 m3 m4 m5 pt px py ro an te fx fy ar be x73.2.1 x73.2.2.1 x73.2.2.2) ∧ va_S AA s.heap H locs) (fun u53 xx h ki53 kx53 ls H locs hl => ?_) (fun ls H locs hl => ?_) ⟨lv_sub hl [2, 3, 4, 5, 1, 0] rfl, hP, hD, hS⟩
            · obtain ⟨hl, hP, hD, hS⟩ := hl
              unfold s_X2_part_53 at h
              refine lv_iload hx hb dX2_part_53 (lv_at hl 5 rfl) ?_
              refine lv_aload_n hx hb dX2_part_55 rfl (lv_at hl 0 rfl) ?_
              refine va_get (D := D) (ci := 2) (v := .ref m1) (C := RX2) (T := TX2) (N := 13) hx hb hts hinX2 hown hK hP 0 rfl rfl 0 (by decide) ht3 (fun _ h9 => h9) rfl dX2_part_56 ?_
              refine lv_iload_n hx hb dX2_part_59 rfl (lv_at hl 1 rfl) ?_
              obtain ⟨gi9, h⟩ := og_in h
              refine va_iald hx hb hK hP 1 0 rfl rfl gi9 dX2_part_60 ?_
              refine lv_icmp_ge (tgt := 233) hx hb dX2_part_61 (by decide) (fun c10 => ?_) (fun c10 => ?_)
              · rw [if_pos c10] at h
                exact kx53 _ ls _ _ (Option.some.inj h).symm ⟨lv_sub hl [0, 2, 4] rfl, hP, hD, hS⟩
              · rw [if_neg c10] at h
                refine lv_aload_n hx hb dX2_part_64 rfl (lv_at hl 0 rfl) ?_
                refine lv_iload_n hx hb dX2_part_65 rfl (lv_at hl 1 rfl) ?_
                refine lv_iload hx hb dX2_part_66 (lv_at hl 5 rfl) ?_
                refine lv_iconst (v := 1) hx hb dX2_part_68 (by decide) ?_
                refine lv_iadd hx hb dX2_part_69 ?_
                obtain ⟨r12, hcr12, h⟩ := og_bind h
                refine cp_s (va_runV (As := [.int a1, .int (u53.2.1 + (1 : Int32))]) (rest := []) ⟨hx, hb, hml, hown, hts⟩ (k_X2_y l D cI cF m0 m1 m2 m3 m4 m5 pt px py ro an te fx fy ar be u53.2.2.1 u53.2.2.2.1 u53.2.2.2.2 a1 (u53.2.1 + (1 : Int32)) _ hcr12) (cwV 2 hts gX2_part_X2_y rfl rfl rfl (by decide +kernel) ⟨(Nat.le_of_ble_eq_true rfl), (Nat.le_of_ble_eq_true rfl)⟩) (pre_v (q0 := 0) (ci := 2) hK hP rfl rfl) rfl rfl hl.1 rfl (lv_room (Nat.le_of_ble_eq_true rfl)) dX2_part_70 ⟨(Nat.zero_le _), (Nat.zero_le _)⟩) ?_
                refine lv_aload_n hx hb dX2_part_73 rfl (lv_at hl 0 rfl) ?_
                refine lv_iload_n hx hb dX2_part_74 rfl (lv_at hl 1 rfl) ?_
                refine lv_iload hx hb dX2_part_75 (lv_at hl 5 rfl) ?_
                obtain ⟨r13, hcr13, h⟩ := og_bind h
                refine cp_s (va_runV (As := [.int a1, .int u53.2.1]) (rest := [.int r12]) ⟨hx, hb, hml, hown, hts⟩ (k_X2_y l D cI cF m0 m1 m2 m3 m4 m5 pt px py ro an te fx fy ar be u53.2.2.1 u53.2.2.2.1 u53.2.2.2.2 a1 u53.2.1 _ hcr13) (cwV 2 hts gX2_part_X2_y rfl rfl rfl (by decide +kernel) ⟨(Nat.le_of_ble_eq_true rfl), (Nat.le_of_ble_eq_true rfl)⟩) (pre_v (q0 := 0) (ci := 2) hK hP rfl rfl) rfl rfl hl.1 rfl (lv_room (Nat.le_of_ble_eq_true rfl)) dX2_part_77 ⟨(Nat.zero_le _), (Nat.zero_le _)⟩) ?_
                refine lv_isub hx hb dX2_part_80 ?_
                refine lv_topi (fun v14 ev14 => ?_)
                have h := og_ov h ev14
                refine lv_istore (lv' := [(6, .int v14), (0, .ref m0), (1, .int a1), (2, .int a2), (3, .int a3), (4, .int u53.1), (5, .int u53.2.1)]) hx hb dX2_part_81 hl (by decide) rfl (fun ls hl => ?_)
                refine lv_aload_n hx hb dX2_part_83 rfl (lv_at hl 1 rfl) ?_
                refine lv_iload_n hx hb dX2_part_84 rfl (lv_at hl 2 rfl) ?_
                refine lv_iload hx hb dX2_part_85 (lv_at hl 6 rfl) ?_
                obtain ⟨r15, hcr15, h⟩ := og_bind h
                refine cp_s (va_runV (As := [.int a1, .int u53.2.1]) (rest := []) ⟨hx, hb, hml, hown, hts⟩ (k_X2_y l D cI cF m0 m1 m2 m3 m4 m5 pt px py ro an te fx fy ar be u53.2.2.1 u53.2.2.2.1 u53.2.2.2.2 a1 u53.2.1 _ hcr15) (cwV 2 hts gX2_part_X2_y rfl rfl rfl (by decide +kernel) ⟨(Nat.le_of_ble_eq_true rfl), (Nat.le_of_ble_eq_true rfl)⟩) (pre_v (q0 := 0) (ci := 2) hK hP rfl rfl) rfl rfl hl.1 rfl (lv_room (Nat.le_of_ble_eq_true rfl)) dX2_part_87 ⟨(Nat.zero_le _), (Nat.zero_le _)⟩) ?_
                refine lv_iload_n hx hb dX2_part_90 rfl (lv_at hl 4 rfl) ?_
                obtain ⟨mv16, hm112, h⟩ := og_bind h
                refine wjH (PC := 112) (ST := []) (fun ls H locs => lv_has ls 8 [(0, .ref m0), (1, .int a1), (2, .int a2), (3, .int a3), (4, .int u53.1), (5, .int u53.2.1), (6, .int v14)] ∧ va_P D vwCl (moW cI m0 m1 m2 m3 m4 m5 pt px py ro an te fx fy ar be mv16.1 mv16.2.1 mv16.2.2) H ∧ va_D AA (moW cI m0 m1 m2 m3 m4 m5 pt px py ro an te fx fy ar be mv16.1 mv16.2.1 mv16.2.2) ∧ va_S AA s.heap H locs) (fun ls H locs hq => ?_) (fun KJ112 => ?_)
                · obtain ⟨hl, hP, hD, hS⟩ := hq
                  refine lv_aload_n hx hb dX2_part_112 rfl (lv_at hl 0 rfl) ?_
                  refine lv_iload_n hx hb dX2_part_113 rfl (lv_at hl 1 rfl) ?_
                  refine lv_iload hx hb dX2_part_114 (lv_at hl 5 rfl) ?_
                  obtain ⟨r17, hcr17, h⟩ := og_bind h
                  refine cp_s (va_runV (As := [.int a1, .int u53.2.1]) (rest := []) ⟨hx, hb, hml, hown, hts⟩ (k_X2_y l D cI cF m0 m1 m2 m3 m4 m5 pt px py ro an te fx fy ar be mv16.1 mv16.2.1 mv16.2.2 a1 u53.2.1 _ hcr17) (cwV 2 hts gX2_part_X2_y rfl rfl rfl (by decide +kernel) ⟨(Nat.le_of_ble_eq_true rfl), (Nat.le_of_ble_eq_true rfl)⟩) (pre_v (q0 := 0) (ci := 2) hK hP rfl rfl) rfl rfl hl.1 rfl (lv_room (Nat.le_of_ble_eq_true rfl)) dX2_part_116 ⟨(Nat.zero_le _), (Nat.zero_le _)⟩) ?_
                  refine lv_iload_n hx hb dX2_part_119 rfl (lv_at hl 3 rfl) ?_
                  refine lv_icmp_ge (tgt := 136) hx hb dX2_part_120 (by decide) (fun c17 => ?_) (fun c17 => ?_)
                  · rw [if_pos c17] at h
                    refine lv_aload_n hx hb dX2_part_136 rfl (lv_at hl 0 rfl) ?_
                    refine lv_iload_n hx hb dX2_part_137 rfl (lv_at hl 1 rfl) ?_
                    refine lv_iload hx hb dX2_part_138 (lv_at hl 5 rfl) ?_
                    obtain ⟨r19, hcr19, h⟩ := og_bind h
                    refine cp_s (va_runV (As := [.int a1, .int u53.2.1]) (rest := []) ⟨hx, hb, hml, hown, hts⟩ (k_X2_y l D cI cF m0 m1 m2 m3 m4 m5 pt px py ro an te fx fy ar be mv16.1 mv16.2.1 mv16.2.2 a1 u53.2.1 _ hcr19) (cwV 2 hts gX2_part_X2_y rfl rfl rfl (by decide +kernel) ⟨(Nat.le_of_ble_eq_true rfl), (Nat.le_of_ble_eq_true rfl)⟩) (pre_v (q0 := 0) (ci := 2) hK hP rfl rfl) rfl rfl hl.1 rfl (lv_room (Nat.le_of_ble_eq_true rfl)) dX2_part_140 ⟨(Nat.zero_le _), (Nat.zero_le _)⟩) ?_
                    refine lv_iload_n hx hb dX2_part_143 rfl (lv_at hl 3 rfl) ?_
                    refine lv_icmp_le (tgt := 227) hx hb dX2_part_144 (by decide) (fun c19 => ?_) (fun c19 => ?_)
                    · rw [if_pos c19] at h
                      obtain ⟨v21, ev21⟩ : ∃ y : Int32, y = u53.2.1 + (1 : Int32) := ⟨_, rfl⟩
                      have h := og_ov h ev21
                      refine lv_iinc (v := v21) (lv' := [(5, .int v21), (0, .ref m0), (1, .int a1), (2, .int a2), (3, .int a3), (4, .int u53.1), (6, .int v14)]) hx hb dX2_part_227 hl (k := 5) rfl (by rw [ev21]; rfl) (by decide) rfl (fun ls hl => ?_)
                      refine lv_goto (tgt := 53) hx hb dX2_part_230 (by decide) ?_
                      exact ki53 _ ls _ _ (Option.some.inj h).symm ⟨lv_sub hl [1, 2, 3, 4, 5, 0] rfl, hP, hD, hS⟩
                    · rw [if_neg c19] at h
                      refine lv_aload_n hx hb dX2_part_147 rfl (lv_at hl 0 rfl) ?_
                      refine lv_iload_n hx hb dX2_part_148 rfl (lv_at hl 1 rfl) ?_
                      refine lv_iload hx hb dX2_part_149 (lv_at hl 5 rfl) ?_
                      refine lv_iconst (v := 1) hx hb dX2_part_151 (by decide) ?_
                      refine lv_iadd hx hb dX2_part_152 ?_
                      obtain ⟨r22, hcr22, h⟩ := og_bind h
                      refine cp_s (va_runV (As := [.int a1, .int (u53.2.1 + (1 : Int32))]) (rest := []) ⟨hx, hb, hml, hown, hts⟩ (k_X2_y l D cI cF m0 m1 m2 m3 m4 m5 pt px py ro an te fx fy ar be mv16.1 mv16.2.1 mv16.2.2 a1 (u53.2.1 + (1 : Int32)) _ hcr22) (cwV 2 hts gX2_part_X2_y rfl rfl rfl (by decide +kernel) ⟨(Nat.le_of_ble_eq_true rfl), (Nat.le_of_ble_eq_true rfl)⟩) (pre_v (q0 := 0) (ci := 2) hK hP rfl rfl) rfl rfl hl.1 rfl (lv_room (Nat.le_of_ble_eq_true rfl)) dX2_part_153 ⟨(Nat.zero_le _), (Nat.zero_le _)⟩) ?_
                      refine lv_iload_n hx hb dX2_part_156 rfl (lv_at hl 3 rfl) ?_
                      refine lv_icmp_ge (tgt := 227) hx hb dX2_part_157 (by decide) (fun c22 => ?_) (fun c22 => ?_)
                      · rw [if_pos c22] at h
                        obtain ⟨v24, ev24⟩ : ∃ y : Int32, y = u53.2.1 + (1 : Int32) := ⟨_, rfl⟩
                        have h := og_ov h ev24
                        refine lv_iinc (v := v24) (lv' := [(5, .int v24), (0, .ref m0), (1, .int a1), (2, .int a2), (3, .int a3), (4, .int u53.1), (6, .int v14)]) hx hb dX2_part_227 hl (k := 5) rfl (by rw [ev24]; rfl) (by decide) rfl (fun ls hl => ?_)
                        refine lv_goto (tgt := 53) hx hb dX2_part_230 (by decide) ?_
                        exact ki53 _ ls _ _ (Option.some.inj h).symm ⟨lv_sub hl [1, 2, 3, 4, 5, 0] rfl, hP, hD, hS⟩
                      · rw [if_neg c22] at h
                        refine lv_aload_n hx hb dX2_part_160 rfl (lv_at hl 0 rfl) ?_
                        refine lv_iload_n hx hb dX2_part_161 rfl (lv_at hl 1 rfl) ?_
                        refine lv_iload hx hb dX2_part_162 (lv_at hl 5 rfl) ?_
                        refine lv_iconst (v := 1) hx hb dX2_part_164 (by decide) ?_
                        refine lv_iadd hx hb dX2_part_165 ?_
                        obtain ⟨r25, hcr25, h⟩ := og_bind h
                        refine cp_s (va_runV (As := [.int a1, .int (u53.2.1 + (1 : Int32))]) (rest := []) ⟨hx, hb, hml, hown, hts⟩ (k_X2_x l D cI cF m0 m1 m2 m3 m4 m5 pt px py ro an te fx fy ar be mv16.1 mv16.2.1 mv16.2.2 a1 (u53.2.1 + (1 : Int32)) _ hcr25) (cwV 2 hts gX2_part_X2_x rfl rfl rfl (by decide +kernel) ⟨(Nat.le_of_ble_eq_true rfl), (Nat.le_of_ble_eq_true rfl)⟩) (pre_v (q0 := 0) (ci := 2) hK hP rfl rfl) rfl rfl hl.1 rfl (lv_room (Nat.le_of_ble_eq_true rfl)) dX2_part_166 ⟨(Nat.zero_le _), (Nat.zero_le _)⟩) ?_
                        refine lv_aload_n hx hb dX2_part_169 rfl (lv_at hl 0 rfl) ?_
                        refine lv_iload_n hx hb dX2_part_170 rfl (lv_at hl 1 rfl) ?_
                        refine lv_iload hx hb dX2_part_171 (lv_at hl 5 rfl) ?_
                        obtain ⟨r26, hcr26, h⟩ := og_bind h
                        refine cp_s (va_runV (As := [.int a1, .int u53.2.1]) (rest := [.int r25]) ⟨hx, hb, hml, hown, hts⟩ (k_X2_x l D cI cF m0 m1 m2 m3 m4 m5 pt px py ro an te fx fy ar be mv16.1 mv16.2.1 mv16.2.2 a1 u53.2.1 _ hcr26) (cwV 2 hts gX2_part_X2_x rfl rfl rfl (by decide +kernel) ⟨(Nat.le_of_ble_eq_true rfl), (Nat.le_of_ble_eq_true rfl)⟩) (pre_v (q0 := 0) (ci := 2) hK hP rfl rfl) rfl rfl hl.1 rfl (lv_room (Nat.le_of_ble_eq_true rfl)) dX2_part_173 ⟨(Nat.zero_le _), (Nat.zero_le _)⟩) ?_
                        refine lv_isub hx hb dX2_part_176 ?_
                        refine lv_iload_n hx hb dX2_part_177 rfl (lv_at hl 3 rfl) ?_
                        refine lv_aload_n hx hb dX2_part_178 rfl (lv_at hl 0 rfl) ?_
                        refine lv_iload_n hx hb dX2_part_179 rfl (lv_at hl 1 rfl) ?_
                        refine lv_iload hx hb dX2_part_180 (lv_at hl 5 rfl) ?_
                        obtain ⟨r27, hcr27, h⟩ := og_bind h
                        refine cp_s (va_runV (As := [.int a1, .int u53.2.1]) (rest := [.int a3, .int (r25 - r26)]) ⟨hx, hb, hml, hown, hts⟩ (k_X2_y l D cI cF m0 m1 m2 m3 m4 m5 pt px py ro an te fx fy ar be mv16.1 mv16.2.1 mv16.2.2 a1 u53.2.1 _ hcr27) (cwV 2 hts gX2_part_X2_y rfl rfl rfl (by decide +kernel) ⟨(Nat.le_of_ble_eq_true rfl), (Nat.le_of_ble_eq_true rfl)⟩) (pre_v (q0 := 0) (ci := 2) hK hP rfl rfl) rfl rfl hl.1 rfl (lv_room (Nat.le_of_ble_eq_true rfl)) dX2_part_182 ⟨(Nat.zero_le _), (Nat.zero_le _)⟩) ?_
                        refine lv_isub hx hb dX2_part_185 ?_
                        refine lv_imul hx hb dX2_part_186 ?_
                        refine lv_topi (fun v28 ev28 => ?_)
                        have h := og_ov h ev28
                        refine lv_istore (lv' := [(7, .int v28), (0, .ref m0), (1, .int a1), (2, .int a2), (3, .int a3), (4, .int u53.1), (5, .int u53.2.1), (6, .int v14)]) hx hb dX2_part_187 hl (by decide) rfl (fun ls hl => ?_)
                        refine lv_iload hx hb dX2_part_189 (lv_at hl 5 rfl) ?_
                        obtain ⟨mv29, hm207, h⟩ := og_bind h
                        refine wjH (PC := 207) (ST := [.int mv29]) (fun ls H locs => lv_has ls 8 [(0, .ref m0), (1, .int a1), (2, .int a2), (3, .int a3), (5, .int u53.2.1), (6, .int v14), (7, .int v28)] ∧ va_P D vwCl (moW cI m0 m1 m2 m3 m4 m5 pt px py ro an te fx fy ar be mv16.1 mv16.2.1 mv16.2.2) H ∧ va_D AA (moW cI m0 m1 m2 m3 m4 m5 pt px py ro an te fx fy ar be mv16.1 mv16.2.1 mv16.2.2) ∧ va_S AA s.heap H locs) (fun ls H locs hq => ?_) (fun KJ207 => ?_)
                        · obtain ⟨hl, hP, hD, hS⟩ := hq
                          refine lv_istore (lv' := [(4, .int mv29), (0, .ref m0), (1, .int a1), (2, .int a2), (3, .int a3), (5, .int u53.2.1), (6, .int v14), (7, .int v28)]) hx hb dX2_part_207 hl (by decide) rfl (fun ls hl => ?_)
                          refine lv_aload_n hx hb dX2_part_209 rfl (lv_at hl 1 rfl) ?_
                          refine lv_aload_n hx hb dX2_part_210 rfl (lv_at hl 1 rfl) ?_
                          refine lv_iload_n hx hb dX2_part_211 rfl (lv_at hl 2 rfl) ?_
                          refine lv_iload hx hb dX2_part_212 (lv_at hl 5 rfl) ?_
                          obtain ⟨r30, hcr30, h⟩ := og_bind h
                          refine cp_s (va_runV (As := [.int a1, .int u53.2.1]) (rest := [.ref m0]) ⟨hx, hb, hml, hown, hts⟩ (k_X2_x l D cI cF m0 m1 m2 m3 m4 m5 pt px py ro an te fx fy ar be mv16.1 mv16.2.1 mv16.2.2 a1 u53.2.1 _ hcr30) (cwV 2 hts gX2_part_X2_x rfl rfl rfl (by decide +kernel) ⟨(Nat.le_of_ble_eq_true rfl), (Nat.le_of_ble_eq_true rfl)⟩) (pre_v (q0 := 0) (ci := 2) hK hP rfl rfl) rfl rfl hl.1 rfl (lv_room (Nat.le_of_ble_eq_true rfl)) dX2_part_214 ⟨(Nat.zero_le _), (Nat.zero_le _)⟩) ?_
                          refine lv_iload hx hb dX2_part_217 (lv_at hl 7 rfl) ?_
                          refine lv_iload hx hb dX2_part_219 (lv_at hl 6 rfl) ?_
                          obtain ⟨gz30, h⟩ := og_nz h
                          refine lv_idiv hx hb dX2_part_221 gz30 ?_
                          refine lv_iadd hx hb dX2_part_222 ?_
                          refine lv_iload_n hx hb dX2_part_223 rfl (lv_at hl 4 rfl) ?_
                          obtain ⟨r32, hcr32, h⟩ := og_bind h
                          refine cp_v (va_runV (As := [.int (r30 + (v28 / v14)), .int a3]) (rest := []) ⟨hx, hb, hml, hown, hts⟩ (k_X2_lay l D cI cF m0 m1 m2 m3 m4 m5 pt px py ro an te fx fy ar be mv16.1 mv16.2.1 mv16.2.2 (r30 + (v28 / v14)) a3 _ hcr32) (cwV 2 hts gX2_part_X2_lay rfl rfl rfl (by decide +kernel) ⟨(Nat.le_of_ble_eq_true rfl), (Nat.le_of_ble_eq_true rfl)⟩) (pre_d (q0 := 0) (ci := 2) hK hP hD rfl rfl) rfl rfl hl.1 rfl (lv_room (Nat.le_of_ble_eq_true rfl)) dX2_part_224 ⟨(Nat.zero_le _), (Nat.zero_le _)⟩) hS (fun a9 h9 => ?_) (fun H1 locs hP1 hz1 hk1 hS => ?_)
                          · exact va_in hD h9 [0, 1, 2, 3, 4, 5] rfl
                          have hP1 : va_P D vwCl (moW cI m0 m1 m2 m3 m4 m5 pt px py ro an te fx fy ar be r32.1 r32.2.1 r32.2.2) H1 := hP1
                          have hD1 : va_D AA (moW cI m0 m1 m2 m3 m4 m5 pt px py ro an te fx fy ar be r32.1 r32.2.1 r32.2.2) := va_D_same hD rfl
                          generalize H1 = H at hP1 hS ⊢
                          have hP := hP1
                          have hD := hD1
                          obtain ⟨v33, ev33⟩ : ∃ y : Int32, y = u53.2.1 + (1 : Int32) := ⟨_, rfl⟩
                          have h := og_ov h ev33
                          refine lv_iinc (v := v33) (lv' := [(5, .int v33), (4, .int mv29), (0, .ref m0), (1, .int a1), (2, .int a2), (3, .int a3), (6, .int v14), (7, .int v28)]) hx hb dX2_part_227 hl (k := 5) rfl (by rw [ev33]; rfl) (by decide) rfl (fun ls hl => ?_)
                          refine lv_goto (tgt := 53) hx hb dX2_part_230 (by decide) ?_
                          exact ki53 _ ls _ _ (Option.some.inj h).symm ⟨lv_sub hl [2, 3, 4, 5, 1, 0] rfl, hP, hD, hS⟩
                        · have h := hm207
                          refine lv_if_eq (tgt := 206) hx hb dX2_part_191 (by decide) (fun c33 => ?_) (fun c33 => ?_)
                          · rw [if_pos c33] at h
                            refine lv_iconst (v := 0) hx hb dX2_part_206 (by decide) ?_
                            obtain rfl := Option.some.inj h
                            exact KJ207 ls _ _ ⟨lv_sub hl [1, 2, 3, 4, 6, 7, 0] rfl, hP, hD, hS⟩
                          · rw [if_neg c33] at h
                            refine lv_iload hx hb dX2_part_194 (lv_at hl 0 rfl) ?_
                            refine lv_iload hx hb dX2_part_196 (lv_at hl 7 rfl) ?_
                            obtain ⟨gz34, h⟩ := og_nz h
                            refine lv_irem hx hb dX2_part_198 gz34 ?_
                            refine lv_if_ne (tgt := 206) hx hb dX2_part_199 (by decide) (fun c35 => ?_) (fun c35 => ?_)
                            · rw [if_neg c35] at h
                              refine lv_iconst (v := 0) hx hb dX2_part_206 (by decide) ?_
                              obtain rfl := Option.some.inj h
                              exact KJ207 ls _ _ ⟨lv_sub hl [1, 2, 3, 4, 6, 7, 0] rfl, hP, hD, hS⟩
                            · rw [if_pos c35] at h
                              refine lv_iconst (v := 1) hx hb dX2_part_202 (by decide) ?_
                              refine lv_goto (tgt := 207) hx hb dX2_part_203 (by decide) ?_
                              obtain rfl := Option.some.inj h
                              exact KJ207 ls _ _ ⟨lv_sub hl [1, 2, 3, 4, 6, 7, 0] rfl, hP, hD, hS⟩
                  · rw [if_neg c17] at h
                    refine lv_aload_n hx hb dX2_part_123 rfl (lv_at hl 0 rfl) ?_
                    refine lv_iload_n hx hb dX2_part_124 rfl (lv_at hl 1 rfl) ?_
                    refine lv_iload hx hb dX2_part_125 (lv_at hl 5 rfl) ?_
                    refine lv_iconst (v := 1) hx hb dX2_part_127 (by decide) ?_
                    refine lv_iadd hx hb dX2_part_128 ?_
                    obtain ⟨r37, hcr37, h⟩ := og_bind h
                    refine cp_s (va_runV (As := [.int a1, .int (u53.2.1 + (1 : Int32))]) (rest := []) ⟨hx, hb, hml, hown, hts⟩ (k_X2_y l D cI cF m0 m1 m2 m3 m4 m5 pt px py ro an te fx fy ar be mv16.1 mv16.2.1 mv16.2.2 a1 (u53.2.1 + (1 : Int32)) _ hcr37) (cwV 2 hts gX2_part_X2_y rfl rfl rfl (by decide +kernel) ⟨(Nat.le_of_ble_eq_true rfl), (Nat.le_of_ble_eq_true rfl)⟩) (pre_v (q0 := 0) (ci := 2) hK hP rfl rfl) rfl rfl hl.1 rfl (lv_room (Nat.le_of_ble_eq_true rfl)) dX2_part_129 ⟨(Nat.zero_le _), (Nat.zero_le _)⟩) ?_
                    refine lv_iload_n hx hb dX2_part_132 rfl (lv_at hl 3 rfl) ?_
                    refine lv_icmp_gt (tgt := 160) hx hb dX2_part_133 (by decide) (fun c37 => ?_) (fun c37 => ?_)
                    · rw [if_pos c37] at h
                      refine lv_aload_n hx hb dX2_part_160 rfl (lv_at hl 0 rfl) ?_
                      refine lv_iload_n hx hb dX2_part_161 rfl (lv_at hl 1 rfl) ?_
                      refine lv_iload hx hb dX2_part_162 (lv_at hl 5 rfl) ?_
                      refine lv_iconst (v := 1) hx hb dX2_part_164 (by decide) ?_
                      refine lv_iadd hx hb dX2_part_165 ?_
                      obtain ⟨r39, hcr39, h⟩ := og_bind h
                      refine cp_s (va_runV (As := [.int a1, .int (u53.2.1 + (1 : Int32))]) (rest := []) ⟨hx, hb, hml, hown, hts⟩ (k_X2_x l D cI cF m0 m1 m2 m3 m4 m5 pt px py ro an te fx fy ar be mv16.1 mv16.2.1 mv16.2.2 a1 (u53.2.1 + (1 : Int32)) _ hcr39) (cwV 2 hts gX2_part_X2_x rfl rfl rfl (by decide +kernel) ⟨(Nat.le_of_ble_eq_true rfl), (Nat.le_of_ble_eq_true rfl)⟩) (pre_v (q0 := 0) (ci := 2) hK hP rfl rfl) rfl rfl hl.1 rfl (lv_room (Nat.le_of_ble_eq_true rfl)) dX2_part_166 ⟨(Nat.zero_le _), (Nat.zero_le _)⟩) ?_
                      refine lv_aload_n hx hb dX2_part_169 rfl (lv_at hl 0 rfl) ?_
                      refine lv_iload_n hx hb dX2_part_170 rfl (lv_at hl 1 rfl) ?_
                      refine lv_iload hx hb dX2_part_171 (lv_at hl 5 rfl) ?_
                      obtain ⟨r40, hcr40, h⟩ := og_bind h
                      refine cp_s (va_runV (As := [.int a1, .int u53.2.1]) (rest := [.int r39]) ⟨hx, hb, hml, hown, hts⟩ (k_X2_x l D cI cF m0 m1 m2 m3 m4 m5 pt px py ro an te fx fy ar be mv16.1 mv16.2.1 mv16.2.2 a1 u53.2.1 _ hcr40) (cwV 2 hts gX2_part_X2_x rfl rfl rfl (by decide +kernel) ⟨(Nat.le_of_ble_eq_true rfl), (Nat.le_of_ble_eq_true rfl)⟩) (pre_v (q0 := 0) (ci := 2) hK hP rfl rfl) rfl rfl hl.1 rfl (lv_room (Nat.le_of_ble_eq_true rfl)) dX2_part_173 ⟨(Nat.zero_le _), (Nat.zero_le _)⟩) ?_
                      refine lv_isub hx hb dX2_part_176 ?_
                      refine lv_iload_n hx hb dX2_part_177 rfl (lv_at hl 3 rfl) ?_
                      refine lv_aload_n hx hb dX2_part_178 rfl (lv_at hl 0 rfl) ?_
                      refine lv_iload_n hx hb dX2_part_179 rfl (lv_at hl 1 rfl) ?_
                      refine lv_iload hx hb dX2_part_180 (lv_at hl 5 rfl) ?_
                      obtain ⟨r41, hcr41, h⟩ := og_bind h
                      refine cp_s (va_runV (As := [.int a1, .int u53.2.1]) (rest := [.int a3, .int (r39 - r40)]) ⟨hx, hb, hml, hown, hts⟩ (k_X2_y l D cI cF m0 m1 m2 m3 m4 m5 pt px py ro an te fx fy ar be mv16.1 mv16.2.1 mv16.2.2 a1 u53.2.1 _ hcr41) (cwV 2 hts gX2_part_X2_y rfl rfl rfl (by decide +kernel) ⟨(Nat.le_of_ble_eq_true rfl), (Nat.le_of_ble_eq_true rfl)⟩) (pre_v (q0 := 0) (ci := 2) hK hP rfl rfl) rfl rfl hl.1 rfl (lv_room (Nat.le_of_ble_eq_true rfl)) dX2_part_182 ⟨(Nat.zero_le _), (Nat.zero_le _)⟩) ?_
                      refine lv_isub hx hb dX2_part_185 ?_
                      refine lv_imul hx hb dX2_part_186 ?_
                      refine lv_topi (fun v42 ev42 => ?_)
                      have h := og_ov h ev42
                      refine lv_istore (lv' := [(7, .int v42), (0, .ref m0), (1, .int a1), (2, .int a2), (3, .int a3), (4, .int u53.1), (5, .int u53.2.1), (6, .int v14)]) hx hb dX2_part_187 hl (by decide) rfl (fun ls hl => ?_)
                      refine lv_iload hx hb dX2_part_189 (lv_at hl 5 rfl) ?_
                      obtain ⟨mv43, hm207, h⟩ := og_bind h
                      refine wjH (PC := 207) (ST := [.int mv43]) (fun ls H locs => lv_has ls 8 [(0, .ref m0), (1, .int a1), (2, .int a2), (3, .int a3), (5, .int u53.2.1), (6, .int v14), (7, .int v42)] ∧ va_P D vwCl (moW cI m0 m1 m2 m3 m4 m5 pt px py ro an te fx fy ar be mv16.1 mv16.2.1 mv16.2.2) H ∧ va_D AA (moW cI m0 m1 m2 m3 m4 m5 pt px py ro an te fx fy ar be mv16.1 mv16.2.1 mv16.2.2) ∧ va_S AA s.heap H locs) (fun ls H locs hq => ?_) (fun KJ207 => ?_)
                      · obtain ⟨hl, hP, hD, hS⟩ := hq
                        refine lv_istore (lv' := [(4, .int mv43), (0, .ref m0), (1, .int a1), (2, .int a2), (3, .int a3), (5, .int u53.2.1), (6, .int v14), (7, .int v42)]) hx hb dX2_part_207 hl (by decide) rfl (fun ls hl => ?_)
                        refine lv_aload_n hx hb dX2_part_209 rfl (lv_at hl 1 rfl) ?_
                        refine lv_aload_n hx hb dX2_part_210 rfl (lv_at hl 1 rfl) ?_
                        refine lv_iload_n hx hb dX2_part_211 rfl (lv_at hl 2 rfl) ?_
                        refine lv_iload hx hb dX2_part_212 (lv_at hl 5 rfl) ?_
                        obtain ⟨r44, hcr44, h⟩ := og_bind h
                        refine cp_s (va_runV (As := [.int a1, .int u53.2.1]) (rest := [.ref m0]) ⟨hx, hb, hml, hown, hts⟩ (k_X2_x l D cI cF m0 m1 m2 m3 m4 m5 pt px py ro an te fx fy ar be mv16.1 mv16.2.1 mv16.2.2 a1 u53.2.1 _ hcr44) (cwV 2 hts gX2_part_X2_x rfl rfl rfl (by decide +kernel) ⟨(Nat.le_of_ble_eq_true rfl), (Nat.le_of_ble_eq_true rfl)⟩) (pre_v (q0 := 0) (ci := 2) hK hP rfl rfl) rfl rfl hl.1 rfl (lv_room (Nat.le_of_ble_eq_true rfl)) dX2_part_214 ⟨(Nat.zero_le _), (Nat.zero_le _)⟩) ?_
                        refine lv_iload hx hb dX2_part_217 (lv_at hl 7 rfl) ?_
                        refine lv_iload hx hb dX2_part_219 (lv_at hl 6 rfl) ?_
                        obtain ⟨gz44, h⟩ := og_nz h
                        refine lv_idiv hx hb dX2_part_221 gz44 ?_
                        refine lv_iadd hx hb dX2_part_222 ?_
                        refine lv_iload_n hx hb dX2_part_223 rfl (lv_at hl 4 rfl) ?_
                        obtain ⟨r46, hcr46, h⟩ := og_bind h
                        refine cp_v (va_runV (As := [.int (r44 + (v42 / v14)), .int a3]) (rest := []) ⟨hx, hb, hml, hown, hts⟩ (k_X2_lay l D cI cF m0 m1 m2 m3 m4 m5 pt px py ro an te fx fy ar be mv16.1 mv16.2.1 mv16.2.2 (r44 + (v42 / v14)) a3 _ hcr46) (cwV 2 hts gX2_part_X2_lay rfl rfl rfl (by decide +kernel) ⟨(Nat.le_of_ble_eq_true rfl), (Nat.le_of_ble_eq_true rfl)⟩) (pre_d (q0 := 0) (ci := 2) hK hP hD rfl rfl) rfl rfl hl.1 rfl (lv_room (Nat.le_of_ble_eq_true rfl)) dX2_part_224 ⟨(Nat.zero_le _), (Nat.zero_le _)⟩) hS (fun a9 h9 => ?_) (fun H1 locs hP1 hz1 hk1 hS => ?_)
                        · exact va_in hD h9 [0, 1, 2, 3, 4, 5] rfl
                        have hP1 : va_P D vwCl (moW cI m0 m1 m2 m3 m4 m5 pt px py ro an te fx fy ar be r46.1 r46.2.1 r46.2.2) H1 := hP1
                        have hD1 : va_D AA (moW cI m0 m1 m2 m3 m4 m5 pt px py ro an te fx fy ar be r46.1 r46.2.1 r46.2.2) := va_D_same hD rfl
                        generalize H1 = H at hP1 hS ⊢
                        have hP := hP1
                        have hD := hD1
                        obtain ⟨v47, ev47⟩ : ∃ y : Int32, y = u53.2.1 + (1 : Int32) := ⟨_, rfl⟩
                        have h := og_ov h ev47
                        refine lv_iinc (v := v47) (lv' := [(5, .int v47), (4, .int mv43), (0, .ref m0), (1, .int a1), (2, .int a2), (3, .int a3), (6, .int v14), (7, .int v42)]) hx hb dX2_part_227 hl (k := 5) rfl (by rw [ev47]; rfl) (by decide) rfl (fun ls hl => ?_)
                        refine lv_goto (tgt := 53) hx hb dX2_part_230 (by decide) ?_
                        exact ki53 _ ls _ _ (Option.some.inj h).symm ⟨lv_sub hl [2, 3, 4, 5, 1, 0] rfl, hP, hD, hS⟩
                      · have h := hm207
                        refine lv_if_eq (tgt := 206) hx hb dX2_part_191 (by decide) (fun c47 => ?_) (fun c47 => ?_)
                        · rw [if_pos c47] at h
                          refine lv_iconst (v := 0) hx hb dX2_part_206 (by decide) ?_
                          obtain rfl := Option.some.inj h
                          exact KJ207 ls _ _ ⟨lv_sub hl [1, 2, 3, 4, 6, 7, 0] rfl, hP, hD, hS⟩
                        · rw [if_neg c47] at h
                          refine lv_iload hx hb dX2_part_194 (lv_at hl 0 rfl) ?_
                          refine lv_iload hx hb dX2_part_196 (lv_at hl 7 rfl) ?_
                          obtain ⟨gz48, h⟩ := og_nz h
                          refine lv_irem hx hb dX2_part_198 gz48 ?_
                          refine lv_if_ne (tgt := 206) hx hb dX2_part_199 (by decide) (fun c49 => ?_) (fun c49 => ?_)
                          · rw [if_neg c49] at h
                            refine lv_iconst (v := 0) hx hb dX2_part_206 (by decide) ?_
                            obtain rfl := Option.some.inj h
                            exact KJ207 ls _ _ ⟨lv_sub hl [1, 2, 3, 4, 6, 7, 0] rfl, hP, hD, hS⟩
                          · rw [if_pos c49] at h
                            refine lv_iconst (v := 1) hx hb dX2_part_202 (by decide) ?_
                            refine lv_goto (tgt := 207) hx hb dX2_part_203 (by decide) ?_
                            obtain rfl := Option.some.inj h
                            exact KJ207 ls _ _ ⟨lv_sub hl [1, 2, 3, 4, 6, 7, 0] rfl, hP, hD, hS⟩
                    · rw [if_neg c37] at h
                      refine lv_aload_n hx hb dX2_part_136 rfl (lv_at hl 0 rfl) ?_
                      refine lv_iload_n hx hb dX2_part_137 rfl (lv_at hl 1 rfl) ?_
                      refine lv_iload hx hb dX2_part_138 (lv_at hl 5 rfl) ?_
                      obtain ⟨r51, hcr51, h⟩ := og_bind h
                      refine cp_s (va_runV (As := [.int a1, .int u53.2.1]) (rest := []) ⟨hx, hb, hml, hown, hts⟩ (k_X2_y l D cI cF m0 m1 m2 m3 m4 m5 pt px py ro an te fx fy ar be mv16.1 mv16.2.1 mv16.2.2 a1 u53.2.1 _ hcr51) (cwV 2 hts gX2_part_X2_y rfl rfl rfl (by decide +kernel) ⟨(Nat.le_of_ble_eq_true rfl), (Nat.le_of_ble_eq_true rfl)⟩) (pre_v (q0 := 0) (ci := 2) hK hP rfl rfl) rfl rfl hl.1 rfl (lv_room (Nat.le_of_ble_eq_true rfl)) dX2_part_140 ⟨(Nat.zero_le _), (Nat.zero_le _)⟩) ?_
                      refine lv_iload_n hx hb dX2_part_143 rfl (lv_at hl 3 rfl) ?_
                      refine lv_icmp_le (tgt := 227) hx hb dX2_part_144 (by decide) (fun c51 => ?_) (fun c51 => ?_)
                      · rw [if_pos c51] at h
                        obtain ⟨v53, ev53⟩ : ∃ y : Int32, y = u53.2.1 + (1 : Int32) := ⟨_, rfl⟩
                        have h := og_ov h ev53
                        refine lv_iinc (v := v53) (lv' := [(5, .int v53), (0, .ref m0), (1, .int a1), (2, .int a2), (3, .int a3), (4, .int u53.1), (6, .int v14)]) hx hb dX2_part_227 hl (k := 5) rfl (by rw [ev53]; rfl) (by decide) rfl (fun ls hl => ?_)
                        refine lv_goto (tgt := 53) hx hb dX2_part_230 (by decide) ?_
                        exact ki53 _ ls _ _ (Option.some.inj h).symm ⟨lv_sub hl [1, 2, 3, 4, 5, 0] rfl, hP, hD, hS⟩
                      · rw [if_neg c51] at h
                        refine lv_aload_n hx hb dX2_part_147 rfl (lv_at hl 0 rfl) ?_
                        refine lv_iload_n hx hb dX2_part_148 rfl (lv_at hl 1 rfl) ?_
                        refine lv_iload hx hb dX2_part_149 (lv_at hl 5 rfl) ?_
                        refine lv_iconst (v := 1) hx hb dX2_part_151 (by decide) ?_
                        refine lv_iadd hx hb dX2_part_152 ?_
                        obtain ⟨r54, hcr54, h⟩ := og_bind h
                        refine cp_s (va_runV (As := [.int a1, .int (u53.2.1 + (1 : Int32))]) (rest := []) ⟨hx, hb, hml, hown, hts⟩ (k_X2_y l D cI cF m0 m1 m2 m3 m4 m5 pt px py ro an te fx fy ar be mv16.1 mv16.2.1 mv16.2.2 a1 (u53.2.1 + (1 : Int32)) _ hcr54) (cwV 2 hts gX2_part_X2_y rfl rfl rfl (by decide +kernel) ⟨(Nat.le_of_ble_eq_true rfl), (Nat.le_of_ble_eq_true rfl)⟩) (pre_v (q0 := 0) (ci := 2) hK hP rfl rfl) rfl rfl hl.1 rfl (lv_room (Nat.le_of_ble_eq_true rfl)) dX2_part_153 ⟨(Nat.zero_le _), (Nat.zero_le _)⟩) ?_
                        refine lv_iload_n hx hb dX2_part_156 rfl (lv_at hl 3 rfl) ?_
                        refine lv_icmp_ge (tgt := 227) hx hb dX2_part_157 (by decide) (fun c54 => ?_) (fun c54 => ?_)
                        · rw [if_pos c54] at h
                          obtain ⟨v56, ev56⟩ : ∃ y : Int32, y = u53.2.1 + (1 : Int32) := ⟨_, rfl⟩
                          have h := og_ov h ev56
                          refine lv_iinc (v := v56) (lv' := [(5, .int v56), (0, .ref m0), (1, .int a1), (2, .int a2), (3, .int a3), (4, .int u53.1), (6, .int v14)]) hx hb dX2_part_227 hl (k := 5) rfl (by rw [ev56]; rfl) (by decide) rfl (fun ls hl => ?_)
                          refine lv_goto (tgt := 53) hx hb dX2_part_230 (by decide) ?_
                          exact ki53 _ ls _ _ (Option.some.inj h).symm ⟨lv_sub hl [1, 2, 3, 4, 5, 0] rfl, hP, hD, hS⟩
                        · rw [if_neg c54] at h
                          refine lv_aload_n hx hb dX2_part_160 rfl (lv_at hl 0 rfl) ?_
                          refine lv_iload_n hx hb dX2_part_161 rfl (lv_at hl 1 rfl) ?_
                          refine lv_iload hx hb dX2_part_162 (lv_at hl 5 rfl) ?_
                          refine lv_iconst (v := 1) hx hb dX2_part_164 (by decide) ?_
                          refine lv_iadd hx hb dX2_part_165 ?_
                          obtain ⟨r57, hcr57, h⟩ := og_bind h
                          refine cp_s (va_runV (As := [.int a1, .int (u53.2.1 + (1 : Int32))]) (rest := []) ⟨hx, hb, hml, hown, hts⟩ (k_X2_x l D cI cF m0 m1 m2 m3 m4 m5 pt px py ro an te fx fy ar be mv16.1 mv16.2.1 mv16.2.2 a1 (u53.2.1 + (1 : Int32)) _ hcr57) (cwV 2 hts gX2_part_X2_x rfl rfl rfl (by decide +kernel) ⟨(Nat.le_of_ble_eq_true rfl), (Nat.le_of_ble_eq_true rfl)⟩) (pre_v (q0 := 0) (ci := 2) hK hP rfl rfl) rfl rfl hl.1 rfl (lv_room (Nat.le_of_ble_eq_true rfl)) dX2_part_166 ⟨(Nat.zero_le _), (Nat.zero_le _)⟩) ?_
                          refine lv_aload_n hx hb dX2_part_169 rfl (lv_at hl 0 rfl) ?_
                          refine lv_iload_n hx hb dX2_part_170 rfl (lv_at hl 1 rfl) ?_
                          refine lv_iload hx hb dX2_part_171 (lv_at hl 5 rfl) ?_
                          obtain ⟨r58, hcr58, h⟩ := og_bind h
                          refine cp_s (va_runV (As := [.int a1, .int u53.2.1]) (rest := [.int r57]) ⟨hx, hb, hml, hown, hts⟩ (k_X2_x l D cI cF m0 m1 m2 m3 m4 m5 pt px py ro an te fx fy ar be mv16.1 mv16.2.1 mv16.2.2 a1 u53.2.1 _ hcr58) (cwV 2 hts gX2_part_X2_x rfl rfl rfl (by decide +kernel) ⟨(Nat.le_of_ble_eq_true rfl), (Nat.le_of_ble_eq_true rfl)⟩) (pre_v (q0 := 0) (ci := 2) hK hP rfl rfl) rfl rfl hl.1 rfl (lv_room (Nat.le_of_ble_eq_true rfl)) dX2_part_173 ⟨(Nat.zero_le _), (Nat.zero_le _)⟩) ?_
                          refine lv_isub hx hb dX2_part_176 ?_
                          refine lv_iload_n hx hb dX2_part_177 rfl (lv_at hl 3 rfl) ?_
                          refine lv_aload_n hx hb dX2_part_178 rfl (lv_at hl 0 rfl) ?_
                          refine lv_iload_n hx hb dX2_part_179 rfl (lv_at hl 1 rfl) ?_
                          refine lv_iload hx hb dX2_part_180 (lv_at hl 5 rfl) ?_
                          obtain ⟨r59, hcr59, h⟩ := og_bind h
                          refine cp_s (va_runV (As := [.int a1, .int u53.2.1]) (rest := [.int a3, .int (r57 - r58)]) ⟨hx, hb, hml, hown, hts⟩ (k_X2_y l D cI cF m0 m1 m2 m3 m4 m5 pt px py ro an te fx fy ar be mv16.1 mv16.2.1 mv16.2.2 a1 u53.2.1 _ hcr59) (cwV 2 hts gX2_part_X2_y rfl rfl rfl (by decide +kernel) ⟨(Nat.le_of_ble_eq_true rfl), (Nat.le_of_ble_eq_true rfl)⟩) (pre_v (q0 := 0) (ci := 2) hK hP rfl rfl) rfl rfl hl.1 rfl (lv_room (Nat.le_of_ble_eq_true rfl)) dX2_part_182 ⟨(Nat.zero_le _), (Nat.zero_le _)⟩) ?_
                          refine lv_isub hx hb dX2_part_185 ?_
                          refine lv_imul hx hb dX2_part_186 ?_
                          refine lv_topi (fun v60 ev60 => ?_)
                          have h := og_ov h ev60
                          refine lv_istore (lv' := [(7, .int v60), (0, .ref m0), (1, .int a1), (2, .int a2), (3, .int a3), (4, .int u53.1), (5, .int u53.2.1), (6, .int v14)]) hx hb dX2_part_187 hl (by decide) rfl (fun ls hl => ?_)
                          refine lv_iload hx hb dX2_part_189 (lv_at hl 5 rfl) ?_
                          obtain ⟨mv61, hm207, h⟩ := og_bind h
                          refine wjH (PC := 207) (ST := [.int mv61]) (fun ls H locs => lv_has ls 8 [(0, .ref m0), (1, .int a1), (2, .int a2), (3, .int a3), (5, .int u53.2.1), (6, .int v14), (7, .int v60)] ∧ va_P D vwCl (moW cI m0 m1 m2 m3 m4 m5 pt px py ro an te fx fy ar be mv16.1 mv16.2.1 mv16.2.2) H ∧ va_D AA (moW cI m0 m1 m2 m3 m4 m5 pt px py ro an te fx fy ar be mv16.1 mv16.2.1 mv16.2.2) ∧ va_S AA s.heap H locs) (fun ls H locs hq => ?_) (fun KJ207 => ?_)
                          · obtain ⟨hl, hP, hD, hS⟩ := hq
                            refine lv_istore (lv' := [(4, .int mv61), (0, .ref m0), (1, .int a1), (2, .int a2), (3, .int a3), (5, .int u53.2.1), (6, .int v14), (7, .int v60)]) hx hb dX2_part_207 hl (by decide) rfl (fun ls hl => ?_)
                            refine lv_aload_n hx hb dX2_part_209 rfl (lv_at hl 1 rfl) ?_
                            refine lv_aload_n hx hb dX2_part_210 rfl (lv_at hl 1 rfl) ?_
                            refine lv_iload_n hx hb dX2_part_211 rfl (lv_at hl 2 rfl) ?_
                            refine lv_iload hx hb dX2_part_212 (lv_at hl 5 rfl) ?_
                            obtain ⟨r62, hcr62, h⟩ := og_bind h
                            refine cp_s (va_runV (As := [.int a1, .int u53.2.1]) (rest := [.ref m0]) ⟨hx, hb, hml, hown, hts⟩ (k_X2_x l D cI cF m0 m1 m2 m3 m4 m5 pt px py ro an te fx fy ar be mv16.1 mv16.2.1 mv16.2.2 a1 u53.2.1 _ hcr62) (cwV 2 hts gX2_part_X2_x rfl rfl rfl (by decide +kernel) ⟨(Nat.le_of_ble_eq_true rfl), (Nat.le_of_ble_eq_true rfl)⟩) (pre_v (q0 := 0) (ci := 2) hK hP rfl rfl) rfl rfl hl.1 rfl (lv_room (Nat.le_of_ble_eq_true rfl)) dX2_part_214 ⟨(Nat.zero_le _), (Nat.zero_le _)⟩) ?_
                            refine lv_iload hx hb dX2_part_217 (lv_at hl 7 rfl) ?_
                            refine lv_iload hx hb dX2_part_219 (lv_at hl 6 rfl) ?_
                            obtain ⟨gz62, h⟩ := og_nz h
                            refine lv_idiv hx hb dX2_part_221 gz62 ?_
                            refine lv_iadd hx hb dX2_part_222 ?_
                            refine lv_iload_n hx hb dX2_part_223 rfl (lv_at hl 4 rfl) ?_
                            obtain ⟨r64, hcr64, h⟩ := og_bind h
                            refine cp_v (va_runV (As := [.int (r62 + (v60 / v14)), .int a3]) (rest := []) ⟨hx, hb, hml, hown, hts⟩ (k_X2_lay l D cI cF m0 m1 m2 m3 m4 m5 pt px py ro an te fx fy ar be mv16.1 mv16.2.1 mv16.2.2 (r62 + (v60 / v14)) a3 _ hcr64) (cwV 2 hts gX2_part_X2_lay rfl rfl rfl (by decide +kernel) ⟨(Nat.le_of_ble_eq_true rfl), (Nat.le_of_ble_eq_true rfl)⟩) (pre_d (q0 := 0) (ci := 2) hK hP hD rfl rfl) rfl rfl hl.1 rfl (lv_room (Nat.le_of_ble_eq_true rfl)) dX2_part_224 ⟨(Nat.zero_le _), (Nat.zero_le _)⟩) hS (fun a9 h9 => ?_) (fun H1 locs hP1 hz1 hk1 hS => ?_)
                            · exact va_in hD h9 [0, 1, 2, 3, 4, 5] rfl
                            have hP1 : va_P D vwCl (moW cI m0 m1 m2 m3 m4 m5 pt px py ro an te fx fy ar be r64.1 r64.2.1 r64.2.2) H1 := hP1
                            have hD1 : va_D AA (moW cI m0 m1 m2 m3 m4 m5 pt px py ro an te fx fy ar be r64.1 r64.2.1 r64.2.2) := va_D_same hD rfl
                            generalize H1 = H at hP1 hS ⊢
                            have hP := hP1
                            have hD := hD1
                            obtain ⟨v65, ev65⟩ : ∃ y : Int32, y = u53.2.1 + (1 : Int32) := ⟨_, rfl⟩
                            have h := og_ov h ev65
                            refine lv_iinc (v := v65) (lv' := [(5, .int v65), (4, .int mv61), (0, .ref m0), (1, .int a1), (2, .int a2), (3, .int a3), (6, .int v14), (7, .int v60)]) hx hb dX2_part_227 hl (k := 5) rfl (by rw [ev65]; rfl) (by decide) rfl (fun ls hl => ?_)
                            refine lv_goto (tgt := 53) hx hb dX2_part_230 (by decide) ?_
                            exact ki53 _ ls _ _ (Option.some.inj h).symm ⟨lv_sub hl [2, 3, 4, 5, 1, 0] rfl, hP, hD, hS⟩
                          · have h := hm207
                            refine lv_if_eq (tgt := 206) hx hb dX2_part_191 (by decide) (fun c65 => ?_) (fun c65 => ?_)
                            · rw [if_pos c65] at h
                              refine lv_iconst (v := 0) hx hb dX2_part_206 (by decide) ?_
                              obtain rfl := Option.some.inj h
                              exact KJ207 ls _ _ ⟨lv_sub hl [1, 2, 3, 4, 6, 7, 0] rfl, hP, hD, hS⟩
                            · rw [if_neg c65] at h
                              refine lv_iload hx hb dX2_part_194 (lv_at hl 0 rfl) ?_
                              refine lv_iload hx hb dX2_part_196 (lv_at hl 7 rfl) ?_
                              obtain ⟨gz66, h⟩ := og_nz h
                              refine lv_irem hx hb dX2_part_198 gz66 ?_
                              refine lv_if_ne (tgt := 206) hx hb dX2_part_199 (by decide) (fun c67 => ?_) (fun c67 => ?_)
                              · rw [if_neg c67] at h
                                refine lv_iconst (v := 0) hx hb dX2_part_206 (by decide) ?_
                                obtain rfl := Option.some.inj h
                                exact KJ207 ls _ _ ⟨lv_sub hl [1, 2, 3, 4, 6, 7, 0] rfl, hP, hD, hS⟩
                              · rw [if_pos c67] at h
                                refine lv_iconst (v := 1) hx hb dX2_part_202 (by decide) ?_
                                refine lv_goto (tgt := 207) hx hb dX2_part_203 (by decide) ?_
                                obtain rfl := Option.some.inj h
                                exact KJ207 ls _ _ ⟨lv_sub hl [1, 2, 3, 4, 6, 7, 0] rfl, hP, hD, hS⟩
                · have h := hm112
                  refine lv_icmp_lt (tgt := 112) hx hb dX2_part_91 (by decide) (fun c68 => ?_) (fun c68 => ?_)
                  · rw [if_pos c68] at h
                    obtain rfl := Option.some.inj h
                    exact KJ112 ls _ _ ⟨lv_sub hl [1, 2, 3, 4, 5, 6, 0] rfl, hP, hD, hS⟩
                  · rw [if_neg c68] at h
                    refine lv_aload_n hx hb dX2_part_94 rfl (lv_at hl 1 rfl) ?_
                    refine lv_aload_n hx hb dX2_part_95 rfl (lv_at hl 1 rfl) ?_
                    refine lv_iload_n hx hb dX2_part_96 rfl (lv_at hl 2 rfl) ?_
                    refine lv_iload hx hb dX2_part_97 (lv_at hl 6 rfl) ?_
                    obtain ⟨r70, hcr70, h⟩ := og_bind h
                    refine cp_s (va_runV (As := [.int a1, .int u53.2.1]) (rest := [.ref m0]) ⟨hx, hb, hml, hown, hts⟩ (k_X2_x l D cI cF m0 m1 m2 m3 m4 m5 pt px py ro an te fx fy ar be u53.2.2.1 u53.2.2.2.1 u53.2.2.2.2 a1 u53.2.1 _ hcr70) (cwV 2 hts gX2_part_X2_x rfl rfl rfl (by decide +kernel) ⟨(Nat.le_of_ble_eq_true rfl), (Nat.le_of_ble_eq_true rfl)⟩) (pre_v (q0 := 0) (ci := 2) hK hP rfl rfl) rfl rfl hl.1 rfl (lv_room (Nat.le_of_ble_eq_true rfl)) dX2_part_99 ⟨(Nat.zero_le _), (Nat.zero_le _)⟩) ?_
                    refine lv_aload_n hx hb dX2_part_102 rfl (lv_at hl 1 rfl) ?_
                    refine lv_iload_n hx hb dX2_part_103 rfl (lv_at hl 2 rfl) ?_
                    refine lv_iload hx hb dX2_part_104 (lv_at hl 6 rfl) ?_
                    obtain ⟨r71, hcr71, h⟩ := og_bind h
                    refine cp_s (va_runV (As := [.int a1, .int u53.2.1]) (rest := [.int r70, .ref m0]) ⟨hx, hb, hml, hown, hts⟩ (k_X2_y l D cI cF m0 m1 m2 m3 m4 m5 pt px py ro an te fx fy ar be u53.2.2.1 u53.2.2.2.1 u53.2.2.2.2 a1 u53.2.1 _ hcr71) (cwV 2 hts gX2_part_X2_y rfl rfl rfl (by decide +kernel) ⟨(Nat.le_of_ble_eq_true rfl), (Nat.le_of_ble_eq_true rfl)⟩) (pre_v (q0 := 0) (ci := 2) hK hP rfl rfl) rfl rfl hl.1 rfl (lv_room (Nat.le_of_ble_eq_true rfl)) dX2_part_106 ⟨(Nat.zero_le _), (Nat.zero_le _)⟩) ?_
                    obtain ⟨r72, hcr72, h⟩ := og_bind h
                    refine cp_v (va_runV (As := [.int r70, .int r71]) (rest := []) ⟨hx, hb, hml, hown, hts⟩ (k_X2_lay l D cI cF m0 m1 m2 m3 m4 m5 pt px py ro an te fx fy ar be u53.2.2.1 u53.2.2.2.1 u53.2.2.2.2 r70 r71 _ hcr72) (cwV 2 hts gX2_part_X2_lay rfl rfl rfl (by decide +kernel) ⟨(Nat.le_of_ble_eq_true rfl), (Nat.le_of_ble_eq_true rfl)⟩) (pre_d (q0 := 0) (ci := 2) hK hP hD rfl rfl) rfl rfl hl.1 rfl (lv_room (Nat.le_of_ble_eq_true rfl)) dX2_part_109 ⟨(Nat.zero_le _), (Nat.zero_le _)⟩) hS (fun a9 h9 => ?_) (fun H1 locs hP1 hz1 hk1 hS => ?_)
                    · exact va_in hD h9 [0, 1, 2, 3, 4, 5] rfl
                    have hP1 : va_P D vwCl (moW cI m0 m1 m2 m3 m4 m5 pt px py ro an te fx fy ar be r72.1 r72.2.1 r72.2.2) H1 := hP1
                    have hD1 : va_D AA (moW cI m0 m1 m2 m3 m4 m5 pt px py ro an te fx fy ar be r72.1 r72.2.1 r72.2.2) := va_D_same hD rfl
                    generalize H1 = H at hP1 hS ⊢
                    have hP := hP1
                    have hD := hD1
                    obtain rfl := Option.some.inj h
                    exact KJ112 ls _ _ ⟨lv_sub hl [1, 2, 3, 4, 5, 6, 0] rfl, hP, hD, hS⟩
            · obtain ⟨hl, hP, hD, hS⟩ := hl
              refine lv_aload_n hx hb dX2_part_233 rfl (lv_at hl 0 rfl) ?_
              refine va_get (D := D) (ci := 2) (v := .int x73.2.1) (C := RX2) (T := TX2) (N := 13) hx hb hts hinX2 hown hK hP 0 rfl rfl 10 (by decide) ht1 (fun _ h9 => h9) rfl dX2_part_234 ?_
              refine lv_bipush (v := 24) hx hb dX2_part_237 (by decide) ?_
              refine lv_icmp_le (tgt := 247) hx hb dX2_part_239 (by decide) (fun c73 => ?_) (fun c73 => ?_)
              · rw [if_pos c73] at h
                refine lv_iload hx hb dX2_part_247 (lv_at hl 2 rfl) ?_
                refine lv_if_eq (tgt := 260) hx hb dX2_part_249 (by decide) (fun c74 => ?_) (fun c74 => ?_)
                · rw [if_pos c74] at h
                  refine lv_bipush (v := -5) hx hb dX2_part_260 (by decide) ?_
                  obtain rfl := Option.some.inj h
                  exact W.iret hx hb hr (fun t ht _ => ⟨rfl, by rw [ht]; exact hP, hS.F ht⟩) hS.2.2 dX2_part_262
                · rw [if_neg c74] at h
                  refine lv_aload_n hx hb dX2_part_252 rfl (lv_at hl 0 rfl) ?_
                  refine lv_iload_n hx hb dX2_part_253 rfl (lv_at hl 1 rfl) ?_
                  obtain ⟨r76, hcr76, h⟩ := og_bind h
                  refine cp_w (va_runV (As := [.int a2]) (rest := []) ⟨hx, hb, hml, hown, hts⟩ (k_X2_take l D cI cF m0 m1 m2 m3 m4 m5 pt px py ro an te fx fy ar be x73.2.1 x73.2.2.1 x73.2.2.2 a2 _ hcr76) (cwV 1 hts gX2_part_X2_take rfl rfl rfl (by decide +kernel) ⟨(Nat.le_of_ble_eq_true rfl), (Nat.le_of_ble_eq_true rfl)⟩) (pre_d (q0 := 0) (ci := 2) hK hP hD rfl rfl) rfl rfl hl.1 rfl (lv_room (Nat.le_of_ble_eq_true rfl)) dX2_part_254 ⟨(Nat.zero_le _), (Nat.zero_le _)⟩) hS (fun a9 h9 => ?_) (fun H1 locs hP1 hz1 hk1 hS => ?_)
                  · exact va_in hD h9 [0, 1, 2, 3, 4, 5] rfl
                  have hP1 : va_P D vwCl (moW cI m0 m1 m2 m3 m4 m5 r76.2.1 r76.2.2.1 r76.2.2.2 ro an te fx fy ar be x73.2.1 x73.2.2.1 x73.2.2.2) H1 := hP1
                  have hD1 : va_D AA (moW cI m0 m1 m2 m3 m4 m5 r76.2.1 r76.2.2.1 r76.2.2.2 ro an te fx fy ar be x73.2.1 x73.2.2.1 x73.2.2.2) := va_D_same hD rfl
                  generalize H1 = H at hP1 hS ⊢
                  have hP := hP1
                  have hD := hD1
                  refine lv_goto (tgt := 262) hx hb dX2_part_257 (by decide) ?_
                  obtain rfl := Option.some.inj h
                  exact W.iret hx hb hr (fun t ht _ => ⟨rfl, by rw [ht]; exact hP, hS.F ht⟩) hS.2.2 dX2_part_262
              · rw [if_neg c73] at h
                refine lv_bipush (v := -4) hx hb dX2_part_242 (by decide) ?_
                refine lv_goto (tgt := 262) hx hb dX2_part_244 (by decide) ?_
                obtain rfl := Option.some.inj h
                exact W.iret hx hb hr (fun t ht _ => ⟨rfl, by rw [ht]; exact hP, hS.F ht⟩) hS.2.2 dX2_part_262
          · rw [if_pos c8] at h
            refine lv_bipush (v := -3) hx hb dX2_part_39 (by decide) ?_
            obtain rfl := Option.some.inj h
            exact W.iret hx hb hr (fun t ht _ => ⟨rfl, by rw [ht]; exact hP, hS.F ht⟩) hS.2.2 dX2_part_41
        · rw [if_pos c6] at h
          refine lv_bipush (v := -2) hx hb dX2_part_28 (by decide) ?_
          obtain rfl := Option.some.inj h
          exact W.iret hx hb hr (fun t ht _ => ⟨rfl, by rw [ht]; exact hP, hS.F ht⟩) hS.2.2 dX2_part_30
      · rw [if_pos c4] at h
        refine lv_iconst (v := -1) hx hb dX2_part_19 (by decide) ?_
        obtain rfl := Option.some.inj h
        exact W.iret hx hb hr (fun t ht _ => ⟨rfl, by rw [ht]; exact hP, hS.F ht⟩) hS.2.2 dX2_part_20
