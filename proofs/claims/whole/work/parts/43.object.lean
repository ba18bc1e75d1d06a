def f_X1_rod (ro : Int32) (a1 : Int32) : Option ((Int32 × Int32)) :=
  (f_X1_from1To a1 (400 : Int32)).bind fun r1 =>
  if r1 = (0) then
  (some ((-2 : Int32), ro))
  else
  (some (ro, a1))
set_option maxHeartbeats 4000000 in
set_option maxRecDepth 100000 in
theorem k_X1_rod (l : Launch) (D : va_G) (cI cF : ClassId) (o qf : Nat) (g gx gy : Nat → Nat) (ro rn tn fx fy ar wh : Int32) (X Y : Nat → Nat → Int32) (N : Nat → Int32) (a1 : Int32) (r0 : (Int32 × Int32)) (h : f_X1_rod ro a1 = some r0) : Met l yX1_rod wsX1_rod ({ frames := 1, cells := 0, slots := 0, locals := 21 }) (va_Pc [.ref o, .int a1] (fun U => wP D cI cF o qf g gx gy ro rn tn fx fy ar wh X Y N U)) (qW (some (.int r0.1)) (dall o qf g gx gy) (fun H => drP D cI cF o qf g gx gy r0.2 rn tn fx fy ar wh X Y N H)) 0 0 (dall o qf g gx gy) := by
  refine Met.ofW (cc := cX1_rod) (maxL := 3) (ret := (some .int)) (by decide) rfl ?_
  intro p e s m args below meth c s₁ B hml hv
  obtain ⟨rfl, hK, hnw, hO, hpt⟩ := hv
  have hP := hO.1
  have hx := B.exec
  have hb := B.bytes
  have hr := B.returns
  have hts := atoms_spec (ws := wsX1_rod) B.pre
  have hown : s.vm.findClass RX1 = some m.cls := findClass_of_methodNamed B.named
  have hlocks := B.notSynchronized
  have ht1 := hts (.fieldLink RX1 16 "DrawnAreas" "rodLength" "I") (by decide +kernel)
  have hinX1 : ∀ w ∈ u_ws RX1 TX1 8, w ∈ wsX1_rod := by decide +kernel
  have hnst : nst.before _ s = true := hnw.use (A := [.ref o, .int a1].toArray) rfl
  have hDs : va_D (va_A0 (drW cF o qf g ro rn tn fx fy ar wh)) (drW cF o qf g ro rn tn fx fy ar wh) ∧ ∀ a, va_A0 (drW cF o qf g ro rn tn fx fy ar wh) a → dall o qf g gx gy a := dpt_0 hpt
  obtain ⟨AA, hAe⟩ : ∃ A : Nat → Prop, A = va_A0 (drW cF o qf g ro rn tn fx fy ar wh) := ⟨_, rfl⟩
  rw [← hAe] at hDs
  obtain ⟨hD, hsub⟩ := hDs
  have hS : va_S AA s.heap s.heap [] := va_S.rf
  have hl := lv_entry ([.ref o, .int a1]) (n := 3) (Nat.le_of_ble_eq_true rfl)
  rw [lg_entry_eq]
  generalize (lg_sl ([.ref o, .int a1]) ++ List.replicate (3 - (lg_sl ([.ref o, .int a1])).length) Slot.unset).toArray = ls at hl ⊢
  have hl : lv_has ls 3 [(0, .ref o), (1, .int a1)] := hl
  unfold f_X1_rod at h
  refine lv_iload_n hx hb dX1_rod_0 rfl (lv_at hl 1 rfl) ?_
  refine lv_sipush (v := 400) hx hb dX1_rod_1 (by decide) ?_
  obtain ⟨r1, hcr1, h⟩ := og_bind h
  refine cp_s (va_runS (As := [.int a1, .int (400 : Int32)]) (rest := []) ⟨hx, hb, hml, hown, hts⟩ (k_X1_from1To l a1 (400 : Int32) _ hcr1) (va_cwS 2 hts gX1_rod_X1_from1To rfl rfl rfl (by decide +kernel) ⟨(Nat.le_of_ble_eq_true rfl), (Nat.le_of_ble_eq_true rfl)⟩) pre_s rfl rfl hl.1 rfl (lv_room (Nat.le_of_ble_eq_true rfl)) dX1_rod_4 ⟨(Nat.zero_le _), (Nat.zero_le _)⟩) ?_
  refine lv_if_ne (tgt := 13) hx hb dX1_rod_7 (by decide) (fun c1 => ?_) (fun c1 => ?_)
  · rw [if_neg c1] at h
    refine lv_aload_n hx hb dX1_rod_13 rfl (lv_at hl 0 rfl) ?_
    refine va_get (D := D) (ci := 1) (v := .int ro) (C := RX1) (T := TX1) (N := 8) hx hb hts hinX1 hown hK hP 0 rfl rfl 1 (by decide) ht1 (fun _ h9 => h9) rfl dX1_rod_14 ?_
    refine lv_istore_n (lv' := [(2, .int ro), (0, .ref o), (1, .int a1)]) hx hb dX1_rod_17 rfl hl (by decide) rfl (fun ls hl => ?_)
    refine lv_aload_n hx hb dX1_rod_18 rfl (lv_at hl 1 rfl) ?_
    refine lv_iload_n hx hb dX1_rod_19 rfl (lv_at hl 2 rfl) ?_
    refine va_put (D := D) (ci := 1) (v := .int a1) (ty := .int) (C := RX1) (T := TX1) (N := 8) hx hb hts hinX1 tyX1 tyX1_ok nmX1 hown hK hP hD hS 0 rfl rfl 1 (by decide) ht1 (fun _ h9 => h9) rfl (by decide +kernel) rfl rfl (Nat.le_of_ble_eq_true rfl) dX1_rod_20 (fun H locs hP hD hS => ?_)
    have hP : va_P D vwCl (drW cF o qf g a1 rn tn fx fy ar wh) H := hP
    have hD : va_D AA (drW cF o qf g a1 rn tn fx fy ar wh) := hD
    refine lv_iload_n hx hb dX1_rod_23 rfl (lv_at hl 0 rfl) ?_
    obtain rfl := Option.some.inj h
    have hS9 := hS
    rw [hAe] at hS9
    exact W.iret hx hb hr (fun t ht _ => ⟨rfl, by rw [ht]; exact drP_back0 hpt hO hS9 hP, va_F_weak (hS.F ht) hsub⟩) (fun q9 h9 => hsub _ (hS.2.2 q9 h9)) dX1_rod_24
  · rw [if_pos c1] at h
    refine lv_bipush (v := -2) hx hb dX1_rod_10 (by decide) ?_
    obtain rfl := Option.some.inj h
    exact W.iret hx hb hr (fun t ht _ => ⟨rfl, by rw [ht]; exact hO, (va_S.rf (A := dall o qf g gx gy)).F ht⟩) (fun _ h9 => absurd h9 List.not_mem_nil) dX1_rod_12
def f_X1_arm (fx : Int32) (fy : Int32) (ar : Int32) (wh : Int32) (a1 : Int32) (a2 : Int32) (a3 : Int32) (a4 : Int32) : Option ((Int32 × Int32 × Int32 × Int32 × Int32)) :=
  (f_X1_within a1 (200 : Int32)).bind fun r1 =>
  if r1 = (0) then
  (some ((-2 : Int32), fx, fy, ar, wh))
  else
  ((f_X1_within a2 (200 : Int32)).bind fun r3 =>
  if r3 = (0) then
  (some ((-2 : Int32), fx, fy, ar, wh))
  else
  ((f_X1_from1To a3 (400 : Int32)).bind fun r5 =>
  if r5 = (0) then
  (some ((-2 : Int32), fx, fy, ar, wh))
  else
  ((f_X1_within a4 (100 : Int32)).bind fun r7 =>
  if r7 = (0) then
  (some ((-2 : Int32), fx, fy, ar, wh))
  else
  (some ((1 : Int32), a1, a2, a3, a4)))))
set_option maxHeartbeats 4000000 in
set_option maxRecDepth 100000 in
theorem k_X1_arm (l : Launch) (D : va_G) (cI cF : ClassId) (o qf : Nat) (g gx gy : Nat → Nat) (ro rn tn fx fy ar wh : Int32) (X Y : Nat → Nat → Int32) (N : Nat → Int32) (a1 : Int32) (a2 : Int32) (a3 : Int32) (a4 : Int32) (r0 : (Int32 × Int32 × Int32 × Int32 × Int32)) (h : f_X1_arm fx fy ar wh a1 a2 a3 a4 = some r0) : Met l yX1_arm wsX1_arm ({ frames := 1, cells := 0, slots := 0, locals := 21 }) (va_Pc [.ref o, .int a1, .int a2, .int a3, .int a4] (fun U => wP D cI cF o qf g gx gy ro rn tn fx fy ar wh X Y N U)) (qW (some (.int r0.1)) (dall o qf g gx gy) (fun H => drP D cI cF o qf g gx gy ro rn tn r0.2.1 r0.2.2.1 r0.2.2.2.1 r0.2.2.2.2 X Y N H)) 0 0 (dall o qf g gx gy) := by
  refine Met.ofW (cc := cX1_arm) (maxL := 5) (ret := (some .int)) (by decide) rfl ?_
  intro p e s m args below meth c s₁ B hml hv
  obtain ⟨rfl, hK, hnw, hO, hpt⟩ := hv
  have hP := hO.1
  have hx := B.exec
  have hb := B.bytes
  have hr := B.returns
  have hts := atoms_spec (ws := wsX1_arm) B.pre
  have hown : s.vm.findClass RX1 = some m.cls := findClass_of_methodNamed B.named
  have hlocks := B.notSynchronized
  have ht1 := hts (.fieldLink RX1 26 "DrawnAreas" "footX" "I") (by decide +kernel)
  have hinX1 : ∀ w ∈ u_ws RX1 TX1 8, w ∈ wsX1_arm := by decide +kernel
  have ht3 := hts (.fieldLink RX1 29 "DrawnAreas" "footY" "I") (by decide +kernel)
  have ht4 := hts (.fieldLink RX1 32 "DrawnAreas" "armLength" "I") (by decide +kernel)
  have ht5 := hts (.fieldLink RX1 35 "DrawnAreas" "wheelBeyond" "I") (by decide +kernel)
  have hnst : nst.before _ s = true := hnw.use (A := [.ref o, .int a1, .int a2, .int a3, .int a4].toArray) rfl
  have hDs : va_D (va_A0 (drW cF o qf g ro rn tn fx fy ar wh)) (drW cF o qf g ro rn tn fx fy ar wh) ∧ ∀ a, va_A0 (drW cF o qf g ro rn tn fx fy ar wh) a → dall o qf g gx gy a := dpt_0 hpt
  obtain ⟨AA, hAe⟩ : ∃ A : Nat → Prop, A = va_A0 (drW cF o qf g ro rn tn fx fy ar wh) := ⟨_, rfl⟩
  rw [← hAe] at hDs
  obtain ⟨hD, hsub⟩ := hDs
  have hS : va_S AA s.heap s.heap [] := va_S.rf
  have hl := lv_entry ([.ref o, .int a1, .int a2, .int a3, .int a4]) (n := 5) (Nat.le_of_ble_eq_true rfl)
  rw [lg_entry_eq]
  generalize (lg_sl ([.ref o, .int a1, .int a2, .int a3, .int a4]) ++ List.replicate (5 - (lg_sl ([.ref o, .int a1, .int a2, .int a3, .int a4])).length) Slot.unset).toArray = ls at hl ⊢
  have hl : lv_has ls 5 [(0, .ref o), (1, .int a1), (2, .int a2), (3, .int a3), (4, .int a4)] := hl
  unfold f_X1_arm at h
  refine lv_iload_n hx hb dX1_arm_0 rfl (lv_at hl 1 rfl) ?_
  refine lv_sipush (v := 200) hx hb dX1_arm_1 (by decide) ?_
  obtain ⟨r1, hcr1, h⟩ := og_bind h
  refine cp_s (va_runS (As := [.int a1, .int (200 : Int32)]) (rest := []) ⟨hx, hb, hml, hown, hts⟩ (k_X1_within l a1 (200 : Int32) _ hcr1) (va_cwS 2 hts gX1_arm_X1_within rfl rfl rfl (by decide +kernel) ⟨(Nat.le_of_ble_eq_true rfl), (Nat.le_of_ble_eq_true rfl)⟩) pre_s rfl rfl hl.1 rfl (lv_room (Nat.le_of_ble_eq_true rfl)) dX1_arm_4 ⟨(Nat.zero_le _), (Nat.zero_le _)⟩) ?_
  refine lv_if_eq (tgt := 20) hx hb dX1_arm_7 (by decide) (fun c1 => ?_) (fun c1 => ?_)
  · rw [if_pos c1] at h
    refine lv_bipush (v := -2) hx hb dX1_arm_20 (by decide) ?_
    obtain rfl := Option.some.inj h
    exact W.iret hx hb hr (fun t ht _ => ⟨rfl, by rw [ht]; exact hO, (va_S.rf (A := dall o qf g gx gy)).F ht⟩) (fun _ h9 => absurd h9 List.not_mem_nil) dX1_arm_22
  · rw [if_neg c1] at h
    refine lv_iload_n hx hb dX1_arm_10 rfl (lv_at hl 2 rfl) ?_
    refine lv_sipush (v := 200) hx hb dX1_arm_11 (by decide) ?_
    obtain ⟨r3, hcr3, h⟩ := og_bind h
    refine cp_s (va_runS (As := [.int a2, .int (200 : Int32)]) (rest := []) ⟨hx, hb, hml, hown, hts⟩ (k_X1_within l a2 (200 : Int32) _ hcr3) (va_cwS 2 hts gX1_arm_X1_within rfl rfl rfl (by decide +kernel) ⟨(Nat.le_of_ble_eq_true rfl), (Nat.le_of_ble_eq_true rfl)⟩) pre_s rfl rfl hl.1 rfl (lv_room (Nat.le_of_ble_eq_true rfl)) dX1_arm_14 ⟨(Nat.zero_le _), (Nat.zero_le _)⟩) ?_
    refine lv_if_ne (tgt := 23) hx hb dX1_arm_17 (by decide) (fun c3 => ?_) (fun c3 => ?_)
    · rw [if_neg c3] at h
      refine lv_iload_n hx hb dX1_arm_23 rfl (lv_at hl 3 rfl) ?_
      refine lv_sipush (v := 400) hx hb dX1_arm_24 (by decide) ?_
      obtain ⟨r5, hcr5, h⟩ := og_bind h
      refine cp_s (va_runS (As := [.int a3, .int (400 : Int32)]) (rest := []) ⟨hx, hb, hml, hown, hts⟩ (k_X1_from1To l a3 (400 : Int32) _ hcr5) (va_cwS 2 hts gX1_arm_X1_from1To rfl rfl rfl (by decide +kernel) ⟨(Nat.le_of_ble_eq_true rfl), (Nat.le_of_ble_eq_true rfl)⟩) pre_s rfl rfl hl.1 rfl (lv_room (Nat.le_of_ble_eq_true rfl)) dX1_arm_27 ⟨(Nat.zero_le _), (Nat.zero_le _)⟩) ?_
      refine lv_if_eq (tgt := 43) hx hb dX1_arm_30 (by decide) (fun c5 => ?_) (fun c5 => ?_)
      · rw [if_pos c5] at h
        refine lv_bipush (v := -2) hx hb dX1_arm_43 (by decide) ?_
        obtain rfl := Option.some.inj h
        exact W.iret hx hb hr (fun t ht _ => ⟨rfl, by rw [ht]; exact hO, (va_S.rf (A := dall o qf g gx gy)).F ht⟩) (fun _ h9 => absurd h9 List.not_mem_nil) dX1_arm_45
      · rw [if_neg c5] at h
        refine lv_iload hx hb dX1_arm_33 (lv_at hl 4 rfl) ?_
        refine lv_bipush (v := 100) hx hb dX1_arm_35 (by decide) ?_
        obtain ⟨r7, hcr7, h⟩ := og_bind h
        refine cp_s (va_runS (As := [.int a4, .int (100 : Int32)]) (rest := []) ⟨hx, hb, hml, hown, hts⟩ (k_X1_within l a4 (100 : Int32) _ hcr7) (va_cwS 2 hts gX1_arm_X1_within rfl rfl rfl (by decide +kernel) ⟨(Nat.le_of_ble_eq_true rfl), (Nat.le_of_ble_eq_true rfl)⟩) pre_s rfl rfl hl.1 rfl (lv_room (Nat.le_of_ble_eq_true rfl)) dX1_arm_37 ⟨(Nat.zero_le _), (Nat.zero_le _)⟩) ?_
        refine lv_if_ne (tgt := 46) hx hb dX1_arm_40 (by decide) (fun c7 => ?_) (fun c7 => ?_)
        · rw [if_neg c7] at h
          refine lv_aload_n hx hb dX1_arm_46 rfl (lv_at hl 0 rfl) ?_
          refine lv_iload_n hx hb dX1_arm_47 rfl (lv_at hl 1 rfl) ?_
          refine va_put (D := D) (ci := 1) (v := .int a1) (ty := .int) (C := RX1) (T := TX1) (N := 8) hx hb hts hinX1 tyX1 tyX1_ok nmX1 hown hK hP hD hS 0 rfl rfl 4 (by decide) ht1 (fun _ h9 => h9) rfl (by decide +kernel) rfl rfl (Nat.le_of_ble_eq_true rfl) dX1_arm_48 (fun H locs hP hD hS => ?_)
          have hP : va_P D vwCl (drW cF o qf g ro rn tn a1 fy ar wh) H := hP
          have hD : va_D AA (drW cF o qf g ro rn tn a1 fy ar wh) := hD
          refine lv_aload_n hx hb dX1_arm_51 rfl (lv_at hl 0 rfl) ?_
          refine lv_iload_n hx hb dX1_arm_52 rfl (lv_at hl 2 rfl) ?_
          refine va_put (D := D) (ci := 1) (v := .int a2) (ty := .int) (C := RX1) (T := TX1) (N := 8) hx hb hts hinX1 tyX1 tyX1_ok nmX1 hown hK hP hD hS 0 rfl rfl 5 (by decide) ht3 (fun _ h9 => h9) rfl (by decide +kernel) rfl rfl (Nat.le_of_ble_eq_true rfl) dX1_arm_53 (fun H locs hP hD hS => ?_)
          have hP : va_P D vwCl (drW cF o qf g ro rn tn a1 a2 ar wh) H := hP
          have hD : va_D AA (drW cF o qf g ro rn tn a1 a2 ar wh) := hD
          refine lv_aload_n hx hb dX1_arm_56 rfl (lv_at hl 0 rfl) ?_
          refine lv_iload_n hx hb dX1_arm_57 rfl (lv_at hl 3 rfl) ?_
          refine va_put (D := D) (ci := 1) (v := .int a3) (ty := .int) (C := RX1) (T := TX1) (N := 8) hx hb hts hinX1 tyX1 tyX1_ok nmX1 hown hK hP hD hS 0 rfl rfl 6 (by decide) ht4 (fun _ h9 => h9) rfl (by decide +kernel) rfl rfl (Nat.le_of_ble_eq_true rfl) dX1_arm_58 (fun H locs hP hD hS => ?_)
          have hP : va_P D vwCl (drW cF o qf g ro rn tn a1 a2 a3 wh) H := hP
          have hD : va_D AA (drW cF o qf g ro rn tn a1 a2 a3 wh) := hD
          refine lv_aload_n hx hb dX1_arm_61 rfl (lv_at hl 0 rfl) ?_
          refine lv_iload hx hb dX1_arm_62 (lv_at hl 4 rfl) ?_
          refine va_put (D := D) (ci := 1) (v := .int a4) (ty := .int) (C := RX1) (T := TX1) (N := 8) hx hb hts hinX1 tyX1 tyX1_ok nmX1 hown hK hP hD hS 0 rfl rfl 7 (by decide) ht5 (fun _ h9 => h9) rfl (by decide +kernel) rfl rfl (Nat.le_of_ble_eq_true rfl) dX1_arm_64 (fun H locs hP hD hS => ?_)
          have hP : va_P D vwCl (drW cF o qf g ro rn tn a1 a2 a3 a4) H := hP
          have hD : va_D AA (drW cF o qf g ro rn tn a1 a2 a3 a4) := hD
          refine lv_iconst (v := 1) hx hb dX1_arm_67 (by decide) ?_
          obtain rfl := Option.some.inj h
          have hS9 := hS
          rw [hAe] at hS9
          exact W.iret hx hb hr (fun t ht _ => ⟨rfl, by rw [ht]; exact drP_back0 hpt hO hS9 hP, va_F_weak (hS.F ht) hsub⟩) (fun q9 h9 => hsub _ (hS.2.2 q9 h9)) dX1_arm_68
        · rw [if_pos c7] at h
          refine lv_bipush (v := -2) hx hb dX1_arm_43 (by decide) ?_
          obtain rfl := Option.some.inj h
          exact W.iret hx hb hr (fun t ht _ => ⟨rfl, by rw [ht]; exact hO, (va_S.rf (A := dall o qf g gx gy)).F ht⟩) (fun _ h9 => absurd h9 List.not_mem_nil) dX1_arm_45
    · rw [if_pos c3] at h
      refine lv_bipush (v := -2) hx hb dX1_arm_20 (by decide) ?_
      obtain rfl := Option.some.inj h
      exact W.iret hx hb hr (fun t ht _ => ⟨rfl, by rw [ht]; exact hO, (va_S.rf (A := dall o qf g gx gy)).F ht⟩) (fun _ h9 => absurd h9 List.not_mem_nil) dX1_arm_22
def f_X1_teeth (rn : Int32) (tn : Int32) (a1 : Int32) (a2 : Int32) : Option ((Int32 × Int32 × Int32)) :=
  (f_X1_from1To a1 (1000 : Int32)).bind fun r1 =>
  if r1 = (0) then
  (some ((-2 : Int32), rn, tn))
  else
  ((f_X1_from1To a2 (10000 : Int32)).bind fun r3 =>
  if r3 = (0) then
  (some ((-2 : Int32), rn, tn))
  else
  (some ((1 : Int32), a1, a2)))
set_option maxHeartbeats 4000000 in
set_option maxRecDepth 100000 in
theorem k_X1_teeth (l : Launch) (D : va_G) (cI cF : ClassId) (o qf : Nat) (g gx gy : Nat → Nat) (ro rn tn fx fy ar wh : Int32) (X Y : Nat → Nat → Int32) (N : Nat → Int32) (a1 : Int32) (a2 : Int32) (r0 : (Int32 × Int32 × Int32)) (h : f_X1_teeth rn tn a1 a2 = some r0) : Met l yX1_teeth wsX1_teeth ({ frames := 1, cells := 0, slots := 0, locals := 21 }) (va_Pc [.ref o, .int a1, .int a2] (fun U => wP D cI cF o qf g gx gy ro rn tn fx fy ar wh X Y N U)) (qW (some (.int r0.1)) (dall o qf g gx gy) (fun H => drP D cI cF o qf g gx gy ro r0.2.1 r0.2.2 fx fy ar wh X Y N H)) 0 0 (dall o qf g gx gy) := by
  refine Met.ofW (cc := cX1_teeth) (maxL := 3) (ret := (some .int)) (by decide) rfl ?_
  intro p e s m args below meth c s₁ B hml hv
  obtain ⟨rfl, hK, hnw, hO, hpt⟩ := hv
  have hP := hO.1
  have hx := B.exec
  have hb := B.bytes
  have hr := B.returns
  have hts := atoms_spec (ws := wsX1_teeth) B.pre
  have hown : s.vm.findClass RX1 = some m.cls := findClass_of_methodNamed B.named
  have hlocks := B.notSynchronized
  have ht1 := hts (.fieldLink RX1 20 "DrawnAreas" "roundLength" "I") (by decide +kernel)
  have hinX1 : ∀ w ∈ u_ws RX1 TX1 8, w ∈ wsX1_teeth := by decide +kernel
  have ht3 := hts (.fieldLink RX1 23 "DrawnAreas" "toothNumber" "I") (by decide +kernel)
  have hnst : nst.before _ s = true := hnw.use (A := [.ref o, .int a1, .int a2].toArray) rfl
  have hDs : va_D (va_A0 (drW cF o qf g ro rn tn fx fy ar wh)) (drW cF o qf g ro rn tn fx fy ar wh) ∧ ∀ a, va_A0 (drW cF o qf g ro rn tn fx fy ar wh) a → dall o qf g gx gy a := dpt_0 hpt
  obtain ⟨AA, hAe⟩ : ∃ A : Nat → Prop, A = va_A0 (drW cF o qf g ro rn tn fx fy ar wh) := ⟨_, rfl⟩
  rw [← hAe] at hDs
  obtain ⟨hD, hsub⟩ := hDs
  have hS : va_S AA s.heap s.heap [] := va_S.rf
  have hl := lv_entry ([.ref o, .int a1, .int a2]) (n := 3) (Nat.le_of_ble_eq_true rfl)
  rw [lg_entry_eq]
  generalize (lg_sl ([.ref o, .int a1, .int a2]) ++ List.replicate (3 - (lg_sl ([.ref o, .int a1, .int a2])).length) Slot.unset).toArray = ls at hl ⊢
  have hl : lv_has ls 3 [(0, .ref o), (1, .int a1), (2, .int a2)] := hl
  unfold f_X1_teeth at h
  refine lv_iload_n hx hb dX1_teeth_0 rfl (lv_at hl 1 rfl) ?_
  refine lv_sipush (v := 1000) hx hb dX1_teeth_1 (by decide) ?_
  obtain ⟨r1, hcr1, h⟩ := og_bind h
  refine cp_s (va_runS (As := [.int a1, .int (1000 : Int32)]) (rest := []) ⟨hx, hb, hml, hown, hts⟩ (k_X1_from1To l a1 (1000 : Int32) _ hcr1) (va_cwS 2 hts gX1_teeth_X1_from1To rfl rfl rfl (by decide +kernel) ⟨(Nat.le_of_ble_eq_true rfl), (Nat.le_of_ble_eq_true rfl)⟩) pre_s rfl rfl hl.1 rfl (lv_room (Nat.le_of_ble_eq_true rfl)) dX1_teeth_4 ⟨(Nat.zero_le _), (Nat.zero_le _)⟩) ?_
  refine lv_if_eq (tgt := 20) hx hb dX1_teeth_7 (by decide) (fun c1 => ?_) (fun c1 => ?_)
  · rw [if_pos c1] at h
    refine lv_bipush (v := -2) hx hb dX1_teeth_20 (by decide) ?_
    obtain rfl := Option.some.inj h
    exact W.iret hx hb hr (fun t ht _ => ⟨rfl, by rw [ht]; exact hO, (va_S.rf (A := dall o qf g gx gy)).F ht⟩) (fun _ h9 => absurd h9 List.not_mem_nil) dX1_teeth_22
  · rw [if_neg c1] at h
    refine lv_iload_n hx hb dX1_teeth_10 rfl (lv_at hl 2 rfl) ?_
    refine lv_sipush (v := 10000) hx hb dX1_teeth_11 (by decide) ?_
    obtain ⟨r3, hcr3, h⟩ := og_bind h
    refine cp_s (va_runS (As := [.int a2, .int (10000 : Int32)]) (rest := []) ⟨hx, hb, hml, hown, hts⟩ (k_X1_from1To l a2 (10000 : Int32) _ hcr3) (va_cwS 2 hts gX1_teeth_X1_from1To rfl rfl rfl (by decide +kernel) ⟨(Nat.le_of_ble_eq_true rfl), (Nat.le_of_ble_eq_true rfl)⟩) pre_s rfl rfl hl.1 rfl (lv_room (Nat.le_of_ble_eq_true rfl)) dX1_teeth_14 ⟨(Nat.zero_le _), (Nat.zero_le _)⟩) ?_
    refine lv_if_ne (tgt := 23) hx hb dX1_teeth_17 (by decide) (fun c3 => ?_) (fun c3 => ?_)
    · rw [if_neg c3] at h
      refine lv_aload_n hx hb dX1_teeth_23 rfl (lv_at hl 0 rfl) ?_
      refine lv_iload_n hx hb dX1_teeth_24 rfl (lv_at hl 1 rfl) ?_
      refine va_put (D := D) (ci := 1) (v := .int a1) (ty := .int) (C := RX1) (T := TX1) (N := 8) hx hb hts hinX1 tyX1 tyX1_ok nmX1 hown hK hP hD hS 0 rfl rfl 2 (by decide) ht1 (fun _ h9 => h9) rfl (by decide +kernel) rfl rfl (Nat.le_of_ble_eq_true rfl) dX1_teeth_25 (fun H locs hP hD hS => ?_)
      have hP : va_P D vwCl (drW cF o qf g ro a1 tn fx fy ar wh) H := hP
      have hD : va_D AA (drW cF o qf g ro a1 tn fx fy ar wh) := hD
      refine lv_aload_n hx hb dX1_teeth_28 rfl (lv_at hl 0 rfl) ?_
      refine lv_iload_n hx hb dX1_teeth_29 rfl (lv_at hl 2 rfl) ?_
      refine va_put (D := D) (ci := 1) (v := .int a2) (ty := .int) (C := RX1) (T := TX1) (N := 8) hx hb hts hinX1 tyX1 tyX1_ok nmX1 hown hK hP hD hS 0 rfl rfl 3 (by decide) ht3 (fun _ h9 => h9) rfl (by decide +kernel) rfl rfl (Nat.le_of_ble_eq_true rfl) dX1_teeth_30 (fun H locs hP hD hS => ?_)
      have hP : va_P D vwCl (drW cF o qf g ro a1 a2 fx fy ar wh) H := hP
      have hD : va_D AA (drW cF o qf g ro a1 a2 fx fy ar wh) := hD
      refine lv_iconst (v := 1) hx hb dX1_teeth_33 (by decide) ?_
      obtain rfl := Option.some.inj h
      have hS9 := hS
      rw [hAe] at hS9
      exact W.iret hx hb hr (fun t ht _ => ⟨rfl, by rw [ht]; exact drP_back0 hpt hO hS9 hP, va_F_weak (hS.F ht) hsub⟩) (fun q9 h9 => hsub _ (hS.2.2 q9 h9)) dX1_teeth_34
    · rw [if_pos c3] at h
      refine lv_bipush (v := -2) hx hb dX1_teeth_20 (by decide) ?_
      obtain rfl := Option.some.inj h
      exact W.iret hx hb hr (fun t ht _ => ⟨rfl, by rw [ht]; exact hO, (va_S.rf (A := dall o qf g gx gy)).F ht⟩) (fun _ h9 => absurd h9 List.not_mem_nil) dX1_teeth_22
def f_X1_point (X : Nat → Nat → Int32) (Y : Nat → Nat → Int32) (N : Nat → Int32) (a1 : Int32) (a2 : Int32) (a3 : Int32) : Option ((Int32 × (Nat → Nat → Int32) × (Nat → Nat → Int32) × (Nat → Int32))) :=
  if bin a1 6 = true then
  (ov (X a1.toNatClampNeg) fun xs =>
  ov (Y a1.toNatClampNeg) fun ys =>
  ov (N a1.toNatClampNeg) fun n =>
  (f_X1_within a2 (100 : Int32)).bind fun r1 =>
  if r1 = (0) then
  (some ((-2 : Int32), X, Y, N))
  else
  ((f_X1_within a3 (100 : Int32)).bind fun r3 =>
  if r3 = (0) then
  (some ((-2 : Int32), X, Y, N))
  else
  (if n < (24 : Int32) then
  ((f_X0_add xs ys n a2 a3).bind fun r6 =>
  some (r6.2.2 - (1 : Int32), va_up X a1.toNatClampNeg r6.1, va_up Y a1.toNatClampNeg r6.2.1, va_up N a1.toNatClampNeg r6.2.2))
  else
  (some ((-4 : Int32), X, Y, N)))))
  else
  (some ((-1 : Int32), X, Y, N))
set_option maxHeartbeats 4000000 in
set_option maxRecDepth 100000 in
theorem k_X1_point (l : Launch) (D : va_G) (cI cF : ClassId) (o qf : Nat) (g gx gy : Nat → Nat) (ro rn tn fx fy ar wh : Int32) (X Y : Nat → Nat → Int32) (N : Nat → Int32) (a1 : Int32) (a2 : Int32) (a3 : Int32) (r0 : (Int32 × (Nat → Nat → Int32) × (Nat → Nat → Int32) × (Nat → Int32))) (h : f_X1_point X Y N a1 a2 a3 = some r0) : Met l yX1_point wsX1_point ({ frames := 2, cells := 0, slots := 0, locals := 45 }) (va_Pc [.ref o, .int a1, .int a2, .int a3] (fun U => wP D cI cF o qf g gx gy ro rn tn fx fy ar wh X Y N U)) (qW (some (.int r0.1)) (dall o qf g gx gy) (fun H => drP D cI cF o qf g gx gy ro rn tn fx fy ar wh r0.2.1 r0.2.2.1 r0.2.2.2 H)) 0 0 (dall o qf g gx gy) := by
  refine Met.ofW (cc := cX1_point) (maxL := 5) (ret := (some .int)) (by decide) rfl ?_
  intro p e s m args below meth c s₁ B hml hv
  obtain ⟨rfl, hK, hnw, hO, hpt⟩ := hv
  have hP := hO.1
  have hx := B.exec
  have hb := B.bytes
  have hr := B.returns
  have hts := atoms_spec (ws := wsX1_point) B.pre
  have hown : s.vm.findClass RX1 = some m.cls := findClass_of_methodNamed B.named
  have hlocks := B.notSynchronized
  have hinX0 : ∀ w ∈ u_ws RX0 TX0 3, w ∈ wsX1_point := by decide +kernel
  have hnst : nst.before _ s = true := hnw.use (A := [.ref o, .int a1, .int a2, .int a3].toArray) rfl
  have hl := lv_entry ([.ref o, .int a1, .int a2, .int a3]) (n := 5) (Nat.le_of_ble_eq_true rfl)
  rw [lg_entry_eq]
  generalize (lg_sl ([.ref o, .int a1, .int a2, .int a3]) ++ List.replicate (5 - (lg_sl ([.ref o, .int a1, .int a2, .int a3])).length) Slot.unset).toArray = ls at hl ⊢
  have hl : lv_has ls 5 [(0, .ref o), (1, .int a1), (2, .int a2), (3, .int a3)] := hl
  unfold f_X1_point at h
  refine lv_aload_n hx hb dX1_point_0 rfl (lv_at hl 0 rfl) ?_
  refine lv_iload_n hx hb dX1_point_1 rfl (lv_at hl 1 rfl) ?_
  by_cases cf1 : bin a1 6 = true
  · rw [if_pos cf1] at h
    have hkn1 := bin_lt cf1
    refine cp_s (va_runV (As := [.int a1]) (rest := []) ⟨hx, hb, hml, hown, hts⟩ (k_X1_find_some l D cI cF o qf g ro rn tn fx fy ar wh a1 cf1) (cwV 1 hts gX1_point_X1_find rfl rfl rfl (by decide +kernel) ⟨(Nat.le_of_ble_eq_true rfl), (Nat.le_of_ble_eq_true rfl)⟩) (pre_n (q0 := 0) (ci := 1) hK hnw hO.1 rfl rfl) rfl rfl hl.1 rfl (lv_room (Nat.le_of_ble_eq_true rfl)) dX1_point_2 ⟨(Nat.zero_le _), (Nat.zero_le _)⟩) ?_
    obtain ⟨q, eq⟩ : ∃ y, y = g a1.toNatClampNeg := ⟨_, rfl⟩
    obtain ⟨qx, eqx⟩ : ∃ y, y = gx a1.toNatClampNeg := ⟨_, rfl⟩
    obtain ⟨qy, eqy⟩ : ∃ y, y = gy a1.toNatClampNeg := ⟨_, rfl⟩
    rw [← eq]
    obtain ⟨xs, exs⟩ : ∃ y, y = X a1.toNatClampNeg := ⟨_, rfl⟩
    have h := og_ov h exs
    obtain ⟨ys, eys⟩ : ∃ y, y = Y a1.toNatClampNeg := ⟨_, rfl⟩
    have h := og_ov h eys
    obtain ⟨n, en⟩ : ∃ y, y = N a1.toNatClampNeg := ⟨_, rfl⟩
    have h := og_ov h en
    have hPf := hO.2 _ hkn1
    rw [← eq, ← eqx, ← eqy, ← exs, ← eys, ← en] at hPf
    have hP : va_P D vwCl (drfW cI cF o qf g ro rn tn fx fy ar wh q qx qy xs ys n) s.heap := va_P.app hP hPf
    have hDs : va_D (va_A0 (drfW cI cF o qf g ro rn tn fx fy ar wh q qx qy xs ys n)) (drfW cI cF o qf g ro rn tn fx fy ar wh q qx qy xs ys n) ∧ ∀ a, va_A0 (drfW cI cF o qf g ro rn tn fx fy ar wh q qx qy xs ys n) a → dall o qf g gx gy a := dpt_1 hpt hkn1 eq eqx eqy
    obtain ⟨AA, hAe⟩ : ∃ A : Nat → Prop, A = va_A0 (drfW cI cF o qf g ro rn tn fx fy ar wh q qx qy xs ys n) := ⟨_, rfl⟩
    rw [← hAe] at hDs
    obtain ⟨hD, hsub⟩ := hDs
    have hS : va_S AA s.heap s.heap [] := va_S.rf
    refine lv_astore (lv' := [(4, .ref q), (0, .ref o), (1, .int a1), (2, .int a2), (3, .int a3)]) hx hb dX1_point_5 hl (by decide) rfl (fun ls hl => ?_)
    refine lv_aload hx hb dX1_point_7 (lv_at hl 0 rfl) ?_
    refine lv_ifnonnull (tgt := 14) hx hb dX1_point_9 (by decide) ?_
    refine lv_iload_n hx hb dX1_point_14 rfl (lv_at hl 3 rfl) ?_
    refine lv_bipush (v := 100) hx hb dX1_point_15 (by decide) ?_
    obtain ⟨r1, hcr1, h⟩ := og_bind h
    refine cp_s (va_runS (As := [.int a2, .int (100 : Int32)]) (rest := []) ⟨hx, hb, hml, hown, hts⟩ (k_X1_within l a2 (100 : Int32) _ hcr1) (va_cwS 2 hts gX1_point_X1_within rfl rfl rfl (by decide +kernel) ⟨(Nat.le_of_ble_eq_true rfl), (Nat.le_of_ble_eq_true rfl)⟩) pre_s rfl rfl hl.1 rfl (lv_room (Nat.le_of_ble_eq_true rfl)) dX1_point_17 ⟨(Nat.zero_le _), (Nat.zero_le _)⟩) ?_
    refine lv_if_eq (tgt := 32) hx hb dX1_point_20 (by decide) (fun c1 => ?_) (fun c1 => ?_)
    · rw [if_pos c1] at h
      refine lv_bipush (v := -2) hx hb dX1_point_32 (by decide) ?_
      obtain rfl := Option.some.inj h
      exact W.iret hx hb hr (fun t ht _ => ⟨rfl, by rw [ht]; exact hO, (va_S.rf (A := dall o qf g gx gy)).F ht⟩) (fun _ h9 => absurd h9 List.not_mem_nil) dX1_point_34
    · rw [if_neg c1] at h
      refine lv_iload_n hx hb dX1_point_23 rfl (lv_at hl 4 rfl) ?_
      refine lv_bipush (v := 100) hx hb dX1_point_24 (by decide) ?_
      obtain ⟨r3, hcr3, h⟩ := og_bind h
      refine cp_s (va_runS (As := [.int a3, .int (100 : Int32)]) (rest := []) ⟨hx, hb, hml, hown, hts⟩ (k_X1_within l a3 (100 : Int32) _ hcr3) (va_cwS 2 hts gX1_point_X1_within rfl rfl rfl (by decide +kernel) ⟨(Nat.le_of_ble_eq_true rfl), (Nat.le_of_ble_eq_true rfl)⟩) pre_s rfl rfl hl.1 rfl (lv_room (Nat.le_of_ble_eq_true rfl)) dX1_point_26 ⟨(Nat.zero_le _), (Nat.zero_le _)⟩) ?_
      refine lv_if_ne (tgt := 35) hx hb dX1_point_29 (by decide) (fun c3 => ?_) (fun c3 => ?_)
      · rw [if_neg c3] at h
        refine lv_aload hx hb dX1_point_35 (lv_at hl 0 rfl) ?_
        refine va_getN (D := D) (ci := 0) (v := .int n) (C := RX0) (T := TX0) (N := 3) hx hb hts hinX0 hown hK hP 2 rfl rfl 2 (by decide) hnst (fun _ h9 => h9) rfl dX1_point_37 ?_
        refine lv_bipush (v := 24) hx hb dX1_point_40 (by decide) ?_
        refine lv_icmp_lt (tgt := 48) hx hb dX1_point_42 (by decide) (fun c4 => ?_) (fun c4 => ?_)
        · rw [if_pos c4] at h
          refine lv_aload hx hb dX1_point_48 (lv_at hl 0 rfl) ?_
          refine lv_iload_n hx hb dX1_point_50 rfl (lv_at hl 3 rfl) ?_
          refine lv_iload_n hx hb dX1_point_51 rfl (lv_at hl 4 rfl) ?_
          have hPc := hP.sub (ws' := figW cI q qx qy xs ys n) [2, 3, 4] rfl
          have hDc := hD.sub (ws' := figW cI q qx qy xs ys n) [2, 3, 4] (by decide) rfl
          obtain ⟨r6, hcr6, h⟩ := og_bind h
          refine cp_v (va_runV (As := [.int a2, .int a3]) (rest := []) ⟨hx, hb, hml, hown, hts⟩ (k_X0_add l D cI cF q qx qy xs ys n a2 a3 _ hcr6) (cwV 2 hts gX1_point_X0_add rfl rfl rfl (by decide +kernel) ⟨(Nat.le_of_ble_eq_true rfl), (Nat.le_of_ble_eq_true rfl)⟩) (pre_d (q0 := 0) (ci := 0) hK hPc hDc rfl rfl) rfl rfl hl.1 rfl (lv_room (Nat.le_of_ble_eq_true rfl)) dX1_point_52 ⟨(Nat.zero_le _), (Nat.zero_le _)⟩) hS (fun a9 h9 => ?_) (fun H1 locs hP1 hz1 hk1 hS => ?_)
          · exact va_in hD h9 [2, 3, 4] rfl
          have hP1 : va_P D vwCl (figW cI q qx qy r6.1 r6.2.1 r6.2.2) H1 := hP1
          have hP := va_fit2 hP hD hk1 hP1 (ws' := drfW cI cF o qf g ro rn tn fx fy ar wh q qx qy r6.1 r6.2.1 r6.2.2) [2, 3, 4] [0, 1] 5 rfl rfl rfl rfl (by decide) (by decide)
          have hD : va_D AA (drfW cI cF o qf g ro rn tn fx fy ar wh q qx qy r6.1 r6.2.1 r6.2.2) := va_D_same hD rfl
          generalize H1 = H at hP hS ⊢
          refine lv_aload hx hb dX1_point_55 (lv_at hl 0 rfl) ?_
          refine va_getN (D := D) (ci := 0) (v := .int r6.2.2) (C := RX0) (T := TX0) (N := 3) hx hb hts hinX0 hown hK hP 2 rfl rfl 2 (by decide) hnst (fun _ h9 => h9) rfl dX1_point_57 ?_
          refine lv_iconst (v := 1) hx hb dX1_point_60 (by decide) ?_
          refine lv_isub hx hb dX1_point_61 ?_
          obtain rfl := Option.some.inj h
          have hS9 := hS
          rw [hAe] at hS9
          exact W.iret hx hb hr (fun t ht _ => ⟨rfl, by rw [ht]; exact drP_back1 hpt hO hkn1 eq eqx eqy hS9 hP, va_F_weak (hS.F ht) hsub⟩) (fun q9 h9 => hsub _ (hS.2.2 q9 h9)) dX1_point_62
        · rw [if_neg c4] at h
          refine lv_bipush (v := -4) hx hb dX1_point_45 (by decide) ?_
          obtain rfl := Option.some.inj h
          exact W.iret hx hb hr (fun t ht _ => ⟨rfl, by rw [ht]; exact hO, (va_S.rf (A := dall o qf g gx gy)).F ht⟩) (fun _ h9 => absurd h9 List.not_mem_nil) dX1_point_47
      · rw [if_pos c3] at h
        refine lv_bipush (v := -2) hx hb dX1_point_32 (by decide) ?_
        obtain rfl := Option.some.inj h
        exact W.iret hx hb hr (fun t ht _ => ⟨rfl, by rw [ht]; exact hO, (va_S.rf (A := dall o qf g gx gy)).F ht⟩) (fun _ h9 => absurd h9 List.not_mem_nil) dX1_point_34
  · rw [if_neg cf1] at h
    refine cp_s (va_runV (As := [.int a1]) (rest := []) ⟨hx, hb, hml, hown, hts⟩ (k_X1_find_none l D cI cF o qf g ro rn tn fx fy ar wh a1 cf1) (cwV 1 hts gX1_point_X1_find rfl rfl rfl (by decide +kernel) ⟨(Nat.le_of_ble_eq_true rfl), (Nat.le_of_ble_eq_true rfl)⟩) (pre_n (q0 := 0) (ci := 1) hK hnw hO.1 rfl rfl) rfl rfl hl.1 rfl (lv_room (Nat.le_of_ble_eq_true rfl)) dX1_point_2 ⟨(Nat.zero_le _), (Nat.zero_le _)⟩) ?_
    refine lv_astoreN (lv' := [(4, .null), (0, .ref o), (1, .int a1), (2, .int a2), (3, .int a3)]) hx hb dX1_point_5 hl (by decide) rfl (fun ls hl => ?_)
    refine lv_aloadN hx hb dX1_point_7 (lv_at hl 0 rfl) ?_
    refine lv_ifnonnullN hx hb dX1_point_9 ?_
    refine lv_iconst (v := -1) hx hb dX1_point_12 (by decide) ?_
    obtain rfl := Option.some.inj h
    exact W.iret hx hb hr (fun t ht _ => ⟨rfl, by rw [ht]; exact hO, (va_S.rf (A := dall o qf g gx gy)).F ht⟩) (fun _ h9 => absurd h9 List.not_mem_nil) dX1_point_13
def f_X1_move (X : Nat → Nat → Int32) (Y : Nat → Nat → Int32) (N : Nat → Int32) (a1 : Int32) (a2 : Int32) (a3 : Int32) (a4 : Int32) : Option ((Int32 × (Nat → Nat → Int32) × (Nat → Nat → Int32) × (Nat → Int32))) :=
  if bin a1 6 = true then
  (ov (X a1.toNatClampNeg) fun xs =>
  ov (Y a1.toNatClampNeg) fun ys =>
  ov (N a1.toNatClampNeg) fun n =>
  (f_X0_has n a2).bind fun r1 =>
  if r1 = (0) then
  (some ((-1 : Int32), X, Y, N))
  else
  ((f_X1_within a3 (100 : Int32)).bind fun r3 =>
  if r3 = (0) then
  (some ((-2 : Int32), X, Y, N))
  else
  ((f_X1_within a4 (100 : Int32)).bind fun r5 =>
  if r5 = (0) then
  (some ((-2 : Int32), X, Y, N))
  else
  ((f_X0_put xs ys a2 a3 a4).bind fun r7 =>
  some ((1 : Int32), va_up X a1.toNatClampNeg r7.1, va_up Y a1.toNatClampNeg r7.2, va_up N a1.toNatClampNeg n)))))
  else
  (some ((-1 : Int32), X, Y, N))
set_option maxHeartbeats 4000000 in
set_option maxRecDepth 100000 in
theorem k_X1_move (l : Launch) (D : va_G) (cI cF : ClassId) (o qf : Nat) (g gx gy : Nat → Nat) (ro rn tn fx fy ar wh : Int32) (X Y : Nat → Nat → Int32) (N : Nat → Int32) (a1 : Int32) (a2 : Int32) (a3 : Int32) (a4 : Int32) (r0 : (Int32 × (Nat → Nat → Int32) × (Nat → Nat → Int32) × (Nat → Int32))) (h : f_X1_move X Y N a1 a2 a3 a4 = some r0) : Met l yX1_move wsX1_move ({ frames := 1, cells := 0, slots := 0, locals := 23 }) (va_Pc [.ref o, .int a1, .int a2, .int a3, .int a4] (fun U => wP D cI cF o qf g gx gy ro rn tn fx fy ar wh X Y N U)) (qW (some (.int r0.1)) (dall o qf g gx gy) (fun H => drP D cI cF o qf g gx gy ro rn tn fx fy ar wh r0.2.1 r0.2.2.1 r0.2.2.2 H)) 0 0 (dall o qf g gx gy) := by
  refine Met.ofW (cc := cX1_move) (maxL := 6) (ret := (some .int)) (by decide) rfl ?_
  intro p e s m args below meth c s₁ B hml hv
  obtain ⟨rfl, hK, hnw, hO, hpt⟩ := hv
  have hP := hO.1
  have hx := B.exec
  have hb := B.bytes
  have hr := B.returns
  have hts := atoms_spec (ws := wsX1_move) B.pre
  have hown : s.vm.findClass RX1 = some m.cls := findClass_of_methodNamed B.named
  have hlocks := B.notSynchronized
  have hnst : nst.before _ s = true := hnw.use (A := [.ref o, .int a1, .int a2, .int a3, .int a4].toArray) rfl
  have hl := lv_entry ([.ref o, .int a1, .int a2, .int a3, .int a4]) (n := 6) (Nat.le_of_ble_eq_true rfl)
  rw [lg_entry_eq]
  generalize (lg_sl ([.ref o, .int a1, .int a2, .int a3, .int a4]) ++ List.replicate (6 - (lg_sl ([.ref o, .int a1, .int a2, .int a3, .int a4])).length) Slot.unset).toArray = ls at hl ⊢
  have hl : lv_has ls 6 [(0, .ref o), (1, .int a1), (2, .int a2), (3, .int a3), (4, .int a4)] := hl
  unfold f_X1_move at h
  refine lv_aload_n hx hb dX1_move_0 rfl (lv_at hl 0 rfl) ?_
  refine lv_iload_n hx hb dX1_move_1 rfl (lv_at hl 1 rfl) ?_
  by_cases cf1 : bin a1 6 = true
  · rw [if_pos cf1] at h
    have hkn1 := bin_lt cf1
    refine cp_s (va_runV (As := [.int a1]) (rest := []) ⟨hx, hb, hml, hown, hts⟩ (k_X1_find_some l D cI cF o qf g ro rn tn fx fy ar wh a1 cf1) (cwV 1 hts gX1_move_X1_find rfl rfl rfl (by decide +kernel) ⟨(Nat.le_of_ble_eq_true rfl), (Nat.le_of_ble_eq_true rfl)⟩) (pre_n (q0 := 0) (ci := 1) hK hnw hO.1 rfl rfl) rfl rfl hl.1 rfl (lv_room (Nat.le_of_ble_eq_true rfl)) dX1_move_2 ⟨(Nat.zero_le _), (Nat.zero_le _)⟩) ?_
    obtain ⟨q, eq⟩ : ∃ y, y = g a1.toNatClampNeg := ⟨_, rfl⟩
    obtain ⟨qx, eqx⟩ : ∃ y, y = gx a1.toNatClampNeg := ⟨_, rfl⟩
    obtain ⟨qy, eqy⟩ : ∃ y, y = gy a1.toNatClampNeg := ⟨_, rfl⟩
    rw [← eq]
    obtain ⟨xs, exs⟩ : ∃ y, y = X a1.toNatClampNeg := ⟨_, rfl⟩
    have h := og_ov h exs
    obtain ⟨ys, eys⟩ : ∃ y, y = Y a1.toNatClampNeg := ⟨_, rfl⟩
    have h := og_ov h eys
    obtain ⟨n, en⟩ : ∃ y, y = N a1.toNatClampNeg := ⟨_, rfl⟩
    have h := og_ov h en
    have hPf := hO.2 _ hkn1
    rw [← eq, ← eqx, ← eqy, ← exs, ← eys, ← en] at hPf
    have hP : va_P D vwCl (drfW cI cF o qf g ro rn tn fx fy ar wh q qx qy xs ys n) s.heap := va_P.app hP hPf
    have hDs : va_D (va_A0 (drfW cI cF o qf g ro rn tn fx fy ar wh q qx qy xs ys n)) (drfW cI cF o qf g ro rn tn fx fy ar wh q qx qy xs ys n) ∧ ∀ a, va_A0 (drfW cI cF o qf g ro rn tn fx fy ar wh q qx qy xs ys n) a → dall o qf g gx gy a := dpt_1 hpt hkn1 eq eqx eqy
    obtain ⟨AA, hAe⟩ : ∃ A : Nat → Prop, A = va_A0 (drfW cI cF o qf g ro rn tn fx fy ar wh q qx qy xs ys n) := ⟨_, rfl⟩
    rw [← hAe] at hDs
    obtain ⟨hD, hsub⟩ := hDs
    have hS : va_S AA s.heap s.heap [] := va_S.rf
    refine lv_astore (lv' := [(5, .ref q), (0, .ref o), (1, .int a1), (2, .int a2), (3, .int a3), (4, .int a4)]) hx hb dX1_move_5 hl (by decide) rfl (fun ls hl => ?_)
    refine lv_aload hx hb dX1_move_7 (lv_at hl 0 rfl) ?_
    refine lv_ifnull hx hb dX1_move_9 ?_
    refine lv_aload hx hb dX1_move_12 (lv_at hl 0 rfl) ?_
    refine lv_iload_n hx hb dX1_move_14 rfl (lv_at hl 3 rfl) ?_
    have hPc := hP.sub (ws' := figW cI q qx qy xs ys n) [2, 3, 4] rfl
    obtain ⟨r1, hcr1, h⟩ := og_bind h
    refine cp_s (va_runV (As := [.int a2]) (rest := []) ⟨hx, hb, hml, hown, hts⟩ (k_X0_has l D cI cF q qx qy xs ys n a2 _ hcr1) (cwV 1 hts gX1_move_X0_has rfl rfl rfl (by decide +kernel) ⟨(Nat.le_of_ble_eq_true rfl), (Nat.le_of_ble_eq_true rfl)⟩) (pre_v (q0 := 0) (ci := 0) hK hPc rfl rfl) rfl rfl hl.1 rfl (lv_room (Nat.le_of_ble_eq_true rfl)) dX1_move_15 ⟨(Nat.zero_le _), (Nat.zero_le _)⟩) ?_
    refine lv_if_ne (tgt := 23) hx hb dX1_move_18 (by decide) (fun c1 => ?_) (fun c1 => ?_)
    · rw [if_neg c1] at h
      refine lv_iload_n hx hb dX1_move_23 rfl (lv_at hl 4 rfl) ?_
      refine lv_bipush (v := 100) hx hb dX1_move_24 (by decide) ?_
      obtain ⟨r3, hcr3, h⟩ := og_bind h
      refine cp_s (va_runS (As := [.int a3, .int (100 : Int32)]) (rest := []) ⟨hx, hb, hml, hown, hts⟩ (k_X1_within l a3 (100 : Int32) _ hcr3) (va_cwS 2 hts gX1_move_X1_within rfl rfl rfl (by decide +kernel) ⟨(Nat.le_of_ble_eq_true rfl), (Nat.le_of_ble_eq_true rfl)⟩) pre_s rfl rfl hl.1 rfl (lv_room (Nat.le_of_ble_eq_true rfl)) dX1_move_26 ⟨(Nat.zero_le _), (Nat.zero_le _)⟩) ?_
      refine lv_if_eq (tgt := 42) hx hb dX1_move_29 (by decide) (fun c3 => ?_) (fun c3 => ?_)
      · rw [if_pos c3] at h
        refine lv_bipush (v := -2) hx hb dX1_move_42 (by decide) ?_
        obtain rfl := Option.some.inj h
        exact W.iret hx hb hr (fun t ht _ => ⟨rfl, by rw [ht]; exact hO, (va_S.rf (A := dall o qf g gx gy)).F ht⟩) (fun _ h9 => absurd h9 List.not_mem_nil) dX1_move_44
      · rw [if_neg c3] at h
        refine lv_iload hx hb dX1_move_32 (lv_at hl 5 rfl) ?_
        refine lv_bipush (v := 100) hx hb dX1_move_34 (by decide) ?_
        obtain ⟨r5, hcr5, h⟩ := og_bind h
        refine cp_s (va_runS (As := [.int a4, .int (100 : Int32)]) (rest := []) ⟨hx, hb, hml, hown, hts⟩ (k_X1_within l a4 (100 : Int32) _ hcr5) (va_cwS 2 hts gX1_move_X1_within rfl rfl rfl (by decide +kernel) ⟨(Nat.le_of_ble_eq_true rfl), (Nat.le_of_ble_eq_true rfl)⟩) pre_s rfl rfl hl.1 rfl (lv_room (Nat.le_of_ble_eq_true rfl)) dX1_move_36 ⟨(Nat.zero_le _), (Nat.zero_le _)⟩) ?_
        refine lv_if_ne (tgt := 45) hx hb dX1_move_39 (by decide) (fun c5 => ?_) (fun c5 => ?_)
        · rw [if_neg c5] at h
          refine lv_aload hx hb dX1_move_45 (lv_at hl 0 rfl) ?_
          refine lv_iload_n hx hb dX1_move_47 rfl (lv_at hl 3 rfl) ?_
          refine lv_iload_n hx hb dX1_move_48 rfl (lv_at hl 4 rfl) ?_
          refine lv_iload hx hb dX1_move_49 (lv_at hl 5 rfl) ?_
          have hPc := hP.sub (ws' := figW cI q qx qy xs ys n) [2, 3, 4] rfl
          have hDc := hD.sub (ws' := figW cI q qx qy xs ys n) [2, 3, 4] (by decide) rfl
          obtain ⟨r7, hcr7, h⟩ := og_bind h
          refine cp_v (va_runV (As := [.int a2, .int a3, .int a4]) (rest := []) ⟨hx, hb, hml, hown, hts⟩ (k_X0_put l D cI cF q qx qy xs ys n a2 a3 a4 _ hcr7) (cwV 3 hts gX1_move_X0_put rfl rfl rfl (by decide +kernel) ⟨(Nat.le_of_ble_eq_true rfl), (Nat.le_of_ble_eq_true rfl)⟩) (pre_d (q0 := 0) (ci := 0) hK hPc hDc rfl rfl) rfl rfl hl.1 rfl (lv_room (Nat.le_of_ble_eq_true rfl)) dX1_move_51 ⟨(Nat.zero_le _), (Nat.zero_le _)⟩) hS (fun a9 h9 => ?_) (fun H1 locs hP1 hz1 hk1 hS => ?_)
          · exact va_in hD h9 [2, 3, 4] rfl
          have hP1 : va_P D vwCl (figW cI q qx qy r7.1 r7.2 n) H1 := hP1
          have hP := va_fit2 hP hD hk1 hP1 (ws' := drfW cI cF o qf g ro rn tn fx fy ar wh q qx qy r7.1 r7.2 n) [2, 3, 4] [0, 1] 5 rfl rfl rfl rfl (by decide) (by decide)
          have hD : va_D AA (drfW cI cF o qf g ro rn tn fx fy ar wh q qx qy r7.1 r7.2 n) := va_D_same hD rfl
          generalize H1 = H at hP hS ⊢
          refine lv_iconst (v := 1) hx hb dX1_move_54 (by decide) ?_
          obtain rfl := Option.some.inj h
          have hS9 := hS
          rw [hAe] at hS9
          exact W.iret hx hb hr (fun t ht _ => ⟨rfl, by rw [ht]; exact drP_back1 hpt hO hkn1 eq eqx eqy hS9 hP, va_F_weak (hS.F ht) hsub⟩) (fun q9 h9 => hsub _ (hS.2.2 q9 h9)) dX1_move_55
        · rw [if_pos c5] at h
          refine lv_bipush (v := -2) hx hb dX1_move_42 (by decide) ?_
          obtain rfl := Option.some.inj h
          exact W.iret hx hb hr (fun t ht _ => ⟨rfl, by rw [ht]; exact hO, (va_S.rf (A := dall o qf g gx gy)).F ht⟩) (fun _ h9 => absurd h9 List.not_mem_nil) dX1_move_44
    · rw [if_pos c1] at h
      refine lv_iconst (v := -1) hx hb dX1_move_21 (by decide) ?_
      obtain rfl := Option.some.inj h
      exact W.iret hx hb hr (fun t ht _ => ⟨rfl, by rw [ht]; exact hO, (va_S.rf (A := dall o qf g gx gy)).F ht⟩) (fun _ h9 => absurd h9 List.not_mem_nil) dX1_move_22
  · rw [if_neg cf1] at h
    refine cp_s (va_runV (As := [.int a1]) (rest := []) ⟨hx, hb, hml, hown, hts⟩ (k_X1_find_none l D cI cF o qf g ro rn tn fx fy ar wh a1 cf1) (cwV 1 hts gX1_move_X1_find rfl rfl rfl (by decide +kernel) ⟨(Nat.le_of_ble_eq_true rfl), (Nat.le_of_ble_eq_true rfl)⟩) (pre_n (q0 := 0) (ci := 1) hK hnw hO.1 rfl rfl) rfl rfl hl.1 rfl (lv_room (Nat.le_of_ble_eq_true rfl)) dX1_move_2 ⟨(Nat.zero_le _), (Nat.zero_le _)⟩) ?_
    refine lv_astoreN (lv' := [(5, .null), (0, .ref o), (1, .int a1), (2, .int a2), (3, .int a3), (4, .int a4)]) hx hb dX1_move_5 hl (by decide) rfl (fun ls hl => ?_)
    refine lv_aloadN hx hb dX1_move_7 (lv_at hl 0 rfl) ?_
    refine lv_ifnullN (tgt := 21) hx hb dX1_move_9 (by decide) ?_
    refine lv_iconst (v := -1) hx hb dX1_move_21 (by decide) ?_
    obtain rfl := Option.some.inj h
    exact W.iret hx hb hr (fun t ht _ => ⟨rfl, by rw [ht]; exact hO, (va_S.rf (A := dall o qf g gx gy)).F ht⟩) (fun _ h9 => absurd h9 List.not_mem_nil) dX1_move_22
def f_X1_clear (X : Nat → Nat → Int32) (Y : Nat → Nat → Int32) (N : Nat → Int32) (a1 : Int32) : Option ((Int32 × (Nat → Nat → Int32) × (Nat → Nat → Int32) × (Nat → Int32))) :=
  if bin a1 6 = true then
  (ov (X a1.toNatClampNeg) fun xs =>
  ov (Y a1.toNatClampNeg) fun ys =>
  ov (N a1.toNatClampNeg) fun n =>
  some (n, va_up X a1.toNatClampNeg xs, va_up Y a1.toNatClampNeg ys, va_up N a1.toNatClampNeg (0 : Int32)))
  else
  (some ((-1 : Int32), X, Y, N))
set_option maxHeartbeats 4000000 in
set_option maxRecDepth 100000 in
theorem k_X1_clear (l : Launch) (D : va_G) (cI cF : ClassId) (o qf : Nat) (g gx gy : Nat → Nat) (ro rn tn fx fy ar wh : Int32) (X Y : Nat → Nat → Int32) (N : Nat → Int32) (a1 : Int32) (r0 : (Int32 × (Nat → Nat → Int32) × (Nat → Nat → Int32) × (Nat → Int32))) (h : f_X1_clear X Y N a1 = some r0) : Met l yX1_clear wsX1_clear ({ frames := 1, cells := 0, slots := 0, locals := 21 }) (va_Pc [.ref o, .int a1] (fun U => wP D cI cF o qf g gx gy ro rn tn fx fy ar wh X Y N U)) (qW (some (.int r0.1)) (dall o qf g gx gy) (fun H => drP D cI cF o qf g gx gy ro rn tn fx fy ar wh r0.2.1 r0.2.2.1 r0.2.2.2 H)) 0 0 (dall o qf g gx gy) := by
  refine Met.ofW (cc := cX1_clear) (maxL := 4) (ret := (some .int)) (by decide) rfl ?_
  intro p e s m args below meth c s₁ B hml hv
  obtain ⟨rfl, hK, hnw, hO, hpt⟩ := hv
  have hP := hO.1
  have hx := B.exec
  have hb := B.bytes
  have hr := B.returns
  have hts := atoms_spec (ws := wsX1_clear) B.pre
  have hown : s.vm.findClass RX1 = some m.cls := findClass_of_methodNamed B.named
  have hlocks := B.notSynchronized
  have hinX0 : ∀ w ∈ u_ws RX0 TX0 3, w ∈ wsX1_clear := by decide +kernel
  have hnst : nst.before _ s = true := hnw.use (A := [.ref o, .int a1].toArray) rfl
  have hl := lv_entry ([.ref o, .int a1]) (n := 4) (Nat.le_of_ble_eq_true rfl)
  rw [lg_entry_eq]
  generalize (lg_sl ([.ref o, .int a1]) ++ List.replicate (4 - (lg_sl ([.ref o, .int a1])).length) Slot.unset).toArray = ls at hl ⊢
  have hl : lv_has ls 4 [(0, .ref o), (1, .int a1)] := hl
  unfold f_X1_clear at h
  refine lv_aload_n hx hb dX1_clear_0 rfl (lv_at hl 0 rfl) ?_
  refine lv_iload_n hx hb dX1_clear_1 rfl (lv_at hl 1 rfl) ?_
  by_cases cf1 : bin a1 6 = true
  · rw [if_pos cf1] at h
    have hkn1 := bin_lt cf1
    refine cp_s (va_runV (As := [.int a1]) (rest := []) ⟨hx, hb, hml, hown, hts⟩ (k_X1_find_some l D cI cF o qf g ro rn tn fx fy ar wh a1 cf1) (cwV 1 hts gX1_clear_X1_find rfl rfl rfl (by decide +kernel) ⟨(Nat.le_of_ble_eq_true rfl), (Nat.le_of_ble_eq_true rfl)⟩) (pre_n (q0 := 0) (ci := 1) hK hnw hO.1 rfl rfl) rfl rfl hl.1 rfl (lv_room (Nat.le_of_ble_eq_true rfl)) dX1_clear_2 ⟨(Nat.zero_le _), (Nat.zero_le _)⟩) ?_
    obtain ⟨q, eq⟩ : ∃ y, y = g a1.toNatClampNeg := ⟨_, rfl⟩
    obtain ⟨qx, eqx⟩ : ∃ y, y = gx a1.toNatClampNeg := ⟨_, rfl⟩
    obtain ⟨qy, eqy⟩ : ∃ y, y = gy a1.toNatClampNeg := ⟨_, rfl⟩
    rw [← eq]
    obtain ⟨xs, exs⟩ : ∃ y, y = X a1.toNatClampNeg := ⟨_, rfl⟩
    have h := og_ov h exs
    obtain ⟨ys, eys⟩ : ∃ y, y = Y a1.toNatClampNeg := ⟨_, rfl⟩
    have h := og_ov h eys
    obtain ⟨n, en⟩ : ∃ y, y = N a1.toNatClampNeg := ⟨_, rfl⟩
    have h := og_ov h en
    have hPf := hO.2 _ hkn1
    rw [← eq, ← eqx, ← eqy, ← exs, ← eys, ← en] at hPf
    have hP : va_P D vwCl (drfW cI cF o qf g ro rn tn fx fy ar wh q qx qy xs ys n) s.heap := va_P.app hP hPf
    have hDs : va_D (va_A0 (drfW cI cF o qf g ro rn tn fx fy ar wh q qx qy xs ys n)) (drfW cI cF o qf g ro rn tn fx fy ar wh q qx qy xs ys n) ∧ ∀ a, va_A0 (drfW cI cF o qf g ro rn tn fx fy ar wh q qx qy xs ys n) a → dall o qf g gx gy a := dpt_1 hpt hkn1 eq eqx eqy
    obtain ⟨AA, hAe⟩ : ∃ A : Nat → Prop, A = va_A0 (drfW cI cF o qf g ro rn tn fx fy ar wh q qx qy xs ys n) := ⟨_, rfl⟩
    rw [← hAe] at hDs
    obtain ⟨hD, hsub⟩ := hDs
    have hS : va_S AA s.heap s.heap [] := va_S.rf
    refine lv_astore_n (lv' := [(2, .ref q), (0, .ref o), (1, .int a1)]) hx hb dX1_clear_5 rfl hl (by decide) rfl (fun ls hl => ?_)
    refine lv_aload_n hx hb dX1_clear_6 rfl (lv_at hl 0 rfl) ?_
    refine lv_ifnonnull (tgt := 12) hx hb dX1_clear_7 (by decide) ?_
    refine lv_aload_n hx hb dX1_clear_12 rfl (lv_at hl 0 rfl) ?_
    refine va_getN (D := D) (ci := 0) (v := .int n) (C := RX0) (T := TX0) (N := 3) hx hb hts hinX0 hown hK hP 2 rfl rfl 2 (by decide) hnst (fun _ h9 => h9) rfl dX1_clear_13 ?_
    refine lv_istore_n (lv' := [(3, .int n), (2, .ref q), (0, .ref o), (1, .int a1)]) hx hb dX1_clear_16 rfl hl (by decide) rfl (fun ls hl => ?_)
    refine lv_aload_n hx hb dX1_clear_17 rfl (lv_at hl 1 rfl) ?_
    refine lv_iconst (v := 0) hx hb dX1_clear_18 (by decide) ?_
    refine va_putN (D := D) (ci := 0) (v := .int (0 : Int32)) (ty := .int) (C := RX0) (T := TX0) (N := 3) hx hb hts hinX0 tyX0 tyX0_ok nmX0 hown hK hP hD hS 2 rfl rfl 2 (by decide) hnst (fun _ h9 => h9) rfl (by decide +kernel) rfl rfl (Nat.le_of_ble_eq_true rfl) dX1_clear_19 (fun H locs hP hD hS => ?_)
    have hP : va_P D vwCl (drfW cI cF o qf g ro rn tn fx fy ar wh q qx qy xs ys (0 : Int32)) H := hP
    have hD : va_D AA (drfW cI cF o qf g ro rn tn fx fy ar wh q qx qy xs ys (0 : Int32)) := hD
    refine lv_iload_n hx hb dX1_clear_22 rfl (lv_at hl 0 rfl) ?_
    obtain rfl := Option.some.inj h
    have hS9 := hS
    rw [hAe] at hS9
    exact W.iret hx hb hr (fun t ht _ => ⟨rfl, by rw [ht]; exact drP_back1 hpt hO hkn1 eq eqx eqy hS9 hP, va_F_weak (hS.F ht) hsub⟩) (fun q9 h9 => hsub _ (hS.2.2 q9 h9)) dX1_clear_23
  · rw [if_neg cf1] at h
    refine cp_s (va_runV (As := [.int a1]) (rest := []) ⟨hx, hb, hml, hown, hts⟩ (k_X1_find_none l D cI cF o qf g ro rn tn fx fy ar wh a1 cf1) (cwV 1 hts gX1_clear_X1_find rfl rfl rfl (by decide +kernel) ⟨(Nat.le_of_ble_eq_true rfl), (Nat.le_of_ble_eq_true rfl)⟩) (pre_n (q0 := 0) (ci := 1) hK hnw hO.1 rfl rfl) rfl rfl hl.1 rfl (lv_room (Nat.le_of_ble_eq_true rfl)) dX1_clear_2 ⟨(Nat.zero_le _), (Nat.zero_le _)⟩) ?_
    refine lv_astore_nN (lv' := [(2, .null), (0, .ref o), (1, .int a1)]) hx hb dX1_clear_5 rfl hl (by decide) rfl (fun ls hl => ?_)
    refine lv_aload_nN hx hb dX1_clear_6 rfl (lv_at hl 0 rfl) ?_
    refine lv_ifnonnullN hx hb dX1_clear_7 ?_
    refine lv_iconst (v := -1) hx hb dX1_clear_10 (by decide) ?_
    obtain rfl := Option.some.inj h
    exact W.iret hx hb hr (fun t ht _ => ⟨rfl, by rw [ht]; exact hO, (va_S.rf (A := dall o qf g gx gy)).F ht⟩) (fun _ h9 => absurd h9 List.not_mem_nil) dX1_clear_11
def f_X1_copy (X : Nat → Nat → Int32) (Y : Nat → Nat → Int32) (N : Nat → Int32) (a1 : Int32) (a2 : Int32) (a3 : Int32) : Option ((Int32 × (Nat → Nat → Int32) × (Nat → Nat → Int32) × (Nat → Int32))) :=
  if bin a1 6 = true then
  (ov (X a1.toNatClampNeg) fun xs =>
  ov (Y a1.toNatClampNeg) fun ys =>
  ov (N a1.toNatClampNeg) fun n =>
  if bin a2 6 = true then
  (ov (X a2.toNatClampNeg) fun us =>
  ov (Y a2.toNatClampNeg) fun vs =>
  ov (N a2.toNatClampNeg) fun k =>
  (if a1 = a2 then
  (some (us, vs, k))
  else
  ((f_X0_become us vs xs ys n).bind fun r5 =>
  some (r5.1, r5.2.1, r5.2.2))).bind fun mv1 =>
  if a3 = (0) then
  (some (mv1.2.2, va_up X a2.toNatClampNeg mv1.1, va_up Y a2.toNatClampNeg mv1.2.1, va_up N a2.toNatClampNeg mv1.2.2))
  else
  ((f_X0_turn mv1.1 mv1.2.1 mv1.2.2).bind fun r3 =>
  some (mv1.2.2, va_up X a2.toNatClampNeg r3.1, va_up Y a2.toNatClampNeg r3.2, va_up N a2.toNatClampNeg mv1.2.2)))
  else
  (some ((-1 : Int32), X, Y, N)))
  else
  (if bin a2 6 = true then
  (ov (X a2.toNatClampNeg) fun xs =>
  ov (Y a2.toNatClampNeg) fun ys =>
  ov (N a2.toNatClampNeg) fun n =>
  some ((-1 : Int32), X, Y, N))
  else
  (some ((-1 : Int32), X, Y, N)))
set_option maxHeartbeats 4000000 in
set_option maxRecDepth 100000 in
theorem k_X1_copy_ne (l : Launch) (D : va_G) (cI cF : ClassId) (o qf : Nat) (g gx gy : Nat → Nat) (ro rn tn fx fy ar wh : Int32) (X Y : Nat → Nat → Int32) (N : Nat → Int32) (a1 : Int32) (a2 : Int32) (a3 : Int32) (hab : ¬ a1 = a2) (r0 : (Int32 × (Nat → Nat → Int32) × (Nat → Nat → Int32) × (Nat → Int32))) (h : f_X1_copy X Y N a1 a2 a3 = some r0) : Met l yX1_copy wsX1_copy ({ frames := 3, cells := 0, slots := 0, locals := 67 }) (va_Pc [.ref o, .int a1, .int a2, .int a3] (fun U => wP D cI cF o qf g gx gy ro rn tn fx fy ar wh X Y N U)) (qW (some (.int r0.1)) (dall o qf g gx gy) (fun H => drP D cI cF o qf g gx gy ro rn tn fx fy ar wh r0.2.1 r0.2.2.1 r0.2.2.2 H)) 0 0 (dall o qf g gx gy) := by
  refine Met.ofW (cc := cX1_copy) (maxL := 6) (ret := (some .int)) (by decide) rfl ?_
  intro p e s m args below meth c s₁ B hml hv
  obtain ⟨rfl, hK, hnw, hO, hpt⟩ := hv
  have hP := hO.1
  have hx := B.exec
  have hb := B.bytes
  have hr := B.returns
  have hts := atoms_spec (ws := wsX1_copy) B.pre
  have hown : s.vm.findClass RX1 = some m.cls := findClass_of_methodNamed B.named
  have hlocks := B.notSynchronized
  have hinX0 : ∀ w ∈ u_ws RX0 TX0 3, w ∈ wsX1_copy := by decide +kernel
  have hnst : nst.before _ s = true := hnw.use (A := [.ref o, .int a1, .int a2, .int a3].toArray) rfl
  have hl := lv_entry ([.ref o, .int a1, .int a2, .int a3]) (n := 6) (Nat.le_of_ble_eq_true rfl)
  rw [lg_entry_eq]
  generalize (lg_sl ([.ref o, .int a1, .int a2, .int a3]) ++ List.replicate (6 - (lg_sl ([.ref o, .int a1, .int a2, .int a3])).length) Slot.unset).toArray = ls at hl ⊢
  have hl : lv_has ls 6 [(0, .ref o), (1, .int a1), (2, .int a2), (3, .int a3)] := hl
  unfold f_X1_copy at h
  refine lv_aload_n hx hb dX1_copy_0 rfl (lv_at hl 0 rfl) ?_
  refine lv_iload_n hx hb dX1_copy_1 rfl (lv_at hl 1 rfl) ?_
  by_cases cf1 : bin a1 6 = true
  · rw [if_pos cf1] at h
    have hkn1 := bin_lt cf1
    refine cp_s (va_runV (As := [.int a1]) (rest := []) ⟨hx, hb, hml, hown, hts⟩ (k_X1_find_some l D cI cF o qf g ro rn tn fx fy ar wh a1 cf1) (cwV 1 hts gX1_copy_X1_find rfl rfl rfl (by decide +kernel) ⟨(Nat.le_of_ble_eq_true rfl), (Nat.le_of_ble_eq_true rfl)⟩) (pre_n (q0 := 0) (ci := 1) hK hnw hO.1 rfl rfl) rfl rfl hl.1 rfl (lv_room (Nat.le_of_ble_eq_true rfl)) dX1_copy_2 ⟨(Nat.zero_le _), (Nat.zero_le _)⟩) ?_
    obtain ⟨q, eq⟩ : ∃ y, y = g a1.toNatClampNeg := ⟨_, rfl⟩
    obtain ⟨qx, eqx⟩ : ∃ y, y = gx a1.toNatClampNeg := ⟨_, rfl⟩
    obtain ⟨qy, eqy⟩ : ∃ y, y = gy a1.toNatClampNeg := ⟨_, rfl⟩
    rw [← eq]
    obtain ⟨xs, exs⟩ : ∃ y, y = X a1.toNatClampNeg := ⟨_, rfl⟩
    have h := og_ov h exs
    obtain ⟨ys, eys⟩ : ∃ y, y = Y a1.toNatClampNeg := ⟨_, rfl⟩
    have h := og_ov h eys
    obtain ⟨n, en⟩ : ∃ y, y = N a1.toNatClampNeg := ⟨_, rfl⟩
    have h := og_ov h en
    have hPf := hO.2 _ hkn1
    rw [← eq, ← eqx, ← eqy, ← exs, ← eys, ← en] at hPf
    have hP : va_P D vwCl (drfW cI cF o qf g ro rn tn fx fy ar wh q qx qy xs ys n) s.heap := va_P.app hP hPf
    refine lv_astore (lv' := [(4, .ref q), (0, .ref o), (1, .int a1), (2, .int a2), (3, .int a3)]) hx hb dX1_copy_5 hl (by decide) rfl (fun ls hl => ?_)
    refine lv_aload_n hx hb dX1_copy_7 rfl (lv_at hl 1 rfl) ?_
    refine lv_iload_n hx hb dX1_copy_8 rfl (lv_at hl 3 rfl) ?_
    by_cases cf2 : bin a2 6 = true
    · rw [if_pos cf2] at h
      have hkn2 := bin_lt cf2
      refine cp_s (va_runV (As := [.int a2]) (rest := []) ⟨hx, hb, hml, hown, hts⟩ (k_X1_find_some l D cI cF o qf g ro rn tn fx fy ar wh a2 cf2) (cwV 1 hts gX1_copy_X1_find rfl rfl rfl (by decide +kernel) ⟨(Nat.le_of_ble_eq_true rfl), (Nat.le_of_ble_eq_true rfl)⟩) (pre_n (q0 := 0) (ci := 1) hK hnw hO.1 rfl rfl) rfl rfl hl.1 rfl (lv_room (Nat.le_of_ble_eq_true rfl)) dX1_copy_9 ⟨(Nat.zero_le _), (Nat.zero_le _)⟩) ?_
      obtain ⟨w, ew⟩ : ∃ y, y = g a2.toNatClampNeg := ⟨_, rfl⟩
      obtain ⟨wx, ewx⟩ : ∃ y, y = gx a2.toNatClampNeg := ⟨_, rfl⟩
      obtain ⟨wy, ewy⟩ : ∃ y, y = gy a2.toNatClampNeg := ⟨_, rfl⟩
      rw [← ew]
      obtain ⟨us, eus⟩ : ∃ y, y = X a2.toNatClampNeg := ⟨_, rfl⟩
      have h := og_ov h eus
      obtain ⟨vs, evs⟩ : ∃ y, y = Y a2.toNatClampNeg := ⟨_, rfl⟩
      have h := og_ov h evs
      obtain ⟨k, ek⟩ : ∃ y, y = N a2.toNatClampNeg := ⟨_, rfl⟩
      have h := og_ov h ek
      have hPf := hO.2 _ hkn2
      rw [← ew, ← ewx, ← ewy, ← eus, ← evs, ← ek] at hPf
      have hP : va_P D vwCl (drffW cI cF o qf g ro rn tn fx fy ar wh q qx qy xs ys n w wx wy us vs k) s.heap := va_P.app hP hPf
      have hkj := clamp_ne cf1 cf2 hab
      have hDs : va_D (va_A0 (drffW cI cF o qf g ro rn tn fx fy ar wh q qx qy xs ys n w wx wy us vs k)) (drffW cI cF o qf g ro rn tn fx fy ar wh q qx qy xs ys n w wx wy us vs k) ∧ ∀ a, va_A0 (drffW cI cF o qf g ro rn tn fx fy ar wh q qx qy xs ys n w wx wy us vs k) a → dall o qf g gx gy a := dpt_2 hpt hkn1 hkn2 hkj eq eqx eqy ew ewx ewy
      obtain ⟨AA, hAe⟩ : ∃ A : Nat → Prop, A = va_A0 (drffW cI cF o qf g ro rn tn fx fy ar wh q qx qy xs ys n w wx wy us vs k) := ⟨_, rfl⟩
      rw [← hAe] at hDs
      obtain ⟨hD, hsub⟩ := hDs
      have hS : va_S AA s.heap s.heap [] := va_S.rf
      refine lv_astore (lv' := [(5, .ref w), (4, .ref q), (0, .ref o), (1, .int a1), (2, .int a2), (3, .int a3)]) hx hb dX1_copy_12 hl (by decide) rfl (fun ls hl => ?_)
      refine lv_aload hx hb dX1_copy_14 (lv_at hl 1 rfl) ?_
      refine lv_ifnull hx hb dX1_copy_16 ?_
      refine lv_aload hx hb dX1_copy_19 (lv_at hl 0 rfl) ?_
      refine lv_ifnonnull (tgt := 26) hx hb dX1_copy_21 (by decide) ?_
      refine lv_iload_n hx hb dX1_copy_26 rfl (lv_at hl 3 rfl) ?_
      refine lv_iload_n hx hb dX1_copy_27 rfl (lv_at hl 4 rfl) ?_
      obtain ⟨mv1, hm38, h⟩ := og_bind h
      refine wjH (PC := 38) (ST := []) (fun ls H locs => lv_has ls 6 [(3, .int a3), (5, .ref w)] ∧ va_P D vwCl (drffW cI cF o qf g ro rn tn fx fy ar wh q qx qy xs ys n w wx wy mv1.1 mv1.2.1 mv1.2.2) H ∧ va_D AA (drffW cI cF o qf g ro rn tn fx fy ar wh q qx qy xs ys n w wx wy mv1.1 mv1.2.1 mv1.2.2) ∧ va_S AA s.heap H locs) (fun ls H locs hq => ?_) (fun KJ38 => ?_)
      · obtain ⟨hl, hP, hD, hS⟩ := hq
        refine lv_iload_n hx hb dX1_copy_38 rfl (lv_at hl 0 rfl) ?_
        refine lv_if_eq (tgt := 47) hx hb dX1_copy_39 (by decide) (fun c1 => ?_) (fun c1 => ?_)
        · rw [if_pos c1] at h
          refine lv_aload hx hb dX1_copy_47 (lv_at hl 1 rfl) ?_
          refine va_getN (D := D) (ci := 0) (v := .int mv1.2.2) (C := RX0) (T := TX0) (N := 3) hx hb hts hinX0 hown hK hP 5 rfl rfl 2 (by decide) hnst (fun _ h9 => h9) rfl dX1_copy_49 ?_
          obtain rfl := Option.some.inj h
          have hS9 := hS
          rw [hAe] at hS9
          exact W.iret hx hb hr (fun t ht _ => ⟨rfl, by rw [ht]; exact drP_back2 hpt hO hkn1 hkn2 eq eqx eqy ew ewx ewy hS9 hP ⟨(va_up_ne _ _ hkj).trans exs.symm, (va_up_ne _ _ hkj).trans eys.symm, (va_up_ne _ _ hkj).trans en.symm⟩ ⟨va_up_self _ _ _, va_up_self _ _ _, va_up_self _ _ _⟩ (fun j h1 h2 => ⟨va_up_ne _ _ h2, va_up_ne _ _ h2, va_up_ne _ _ h2⟩), va_F_weak (hS.F ht) hsub⟩) (fun q9 h9 => hsub _ (hS.2.2 q9 h9)) dX1_copy_52
        · rw [if_neg c1] at h
          refine lv_aload hx hb dX1_copy_42 (lv_at hl 1 rfl) ?_
          have hPc := hP.sub (ws' := figW cI w wx wy mv1.1 mv1.2.1 mv1.2.2) [5, 6, 7] rfl
          have hDc := hD.sub (ws' := figW cI w wx wy mv1.1 mv1.2.1 mv1.2.2) [5, 6, 7] (by decide) rfl
          obtain ⟨r3, hcr3, h⟩ := og_bind h
          refine cp_v (va_runV (As := []) (rest := []) ⟨hx, hb, hml, hown, hts⟩ (k_X0_turn l D cI cF w wx wy mv1.1 mv1.2.1 mv1.2.2 _ hcr3) (cwV 0 hts gX1_copy_X0_turn rfl rfl rfl (by decide +kernel) ⟨(Nat.le_of_ble_eq_true rfl), (Nat.le_of_ble_eq_true rfl)⟩) (pre_d (q0 := 0) (ci := 0) hK hPc hDc rfl rfl) rfl rfl hl.1 rfl (lv_room (Nat.le_of_ble_eq_true rfl)) dX1_copy_44 ⟨(Nat.zero_le _), (Nat.zero_le _)⟩) hS (fun a9 h9 => ?_) (fun H1 locs hP1 hz1 hk1 hS => ?_)
          · exact va_in hD h9 [5, 6, 7] rfl
          have hP1 : va_P D vwCl (figW cI w wx wy r3.1 r3.2 mv1.2.2) H1 := hP1
          have hP := va_fit2 hP hD hk1 hP1 (ws' := drffW cI cF o qf g ro rn tn fx fy ar wh q qx qy xs ys n w wx wy r3.1 r3.2 mv1.2.2) [5, 6, 7] [0, 1, 2, 3, 4] 8 rfl rfl rfl rfl (by decide) (by decide)
          have hD : va_D AA (drffW cI cF o qf g ro rn tn fx fy ar wh q qx qy xs ys n w wx wy r3.1 r3.2 mv1.2.2) := va_D_same hD rfl
          generalize H1 = H at hP hS ⊢
          refine lv_aload hx hb dX1_copy_47 (lv_at hl 1 rfl) ?_
          refine va_getN (D := D) (ci := 0) (v := .int mv1.2.2) (C := RX0) (T := TX0) (N := 3) hx hb hts hinX0 hown hK hP 5 rfl rfl 2 (by decide) hnst (fun _ h9 => h9) rfl dX1_copy_49 ?_
          obtain rfl := Option.some.inj h
          have hS9 := hS
          rw [hAe] at hS9
          exact W.iret hx hb hr (fun t ht _ => ⟨rfl, by rw [ht]; exact drP_back2 hpt hO hkn1 hkn2 eq eqx eqy ew ewx ewy hS9 hP ⟨(va_up_ne _ _ hkj).trans exs.symm, (va_up_ne _ _ hkj).trans eys.symm, (va_up_ne _ _ hkj).trans en.symm⟩ ⟨va_up_self _ _ _, va_up_self _ _ _, va_up_self _ _ _⟩ (fun j h1 h2 => ⟨va_up_ne _ _ h2, va_up_ne _ _ h2, va_up_ne _ _ h2⟩), va_F_weak (hS.F ht) hsub⟩) (fun q9 h9 => hsub _ (hS.2.2 q9 h9)) dX1_copy_52
      · have h := hm38
        refine lv_icmp_eq (tgt := 38) hx hb dX1_copy_28 (by decide) (fun c3 => ?_) (fun c3 => ?_)
        · exact absurd c3 hab
        · rw [if_neg c3] at h
          refine lv_aload hx hb dX1_copy_31 (lv_at hl 0 rfl) ?_
          refine lv_aload hx hb dX1_copy_33 (lv_at hl 1 rfl) ?_
          have hPc := hP.sub (ws' := fig2W cI w wx wy us vs k q qx qy xs ys n) [5, 6, 7, 2, 3, 4] rfl
          have hDc := hD.sub (ws' := fig2W cI w wx wy us vs k q qx qy xs ys n) [5, 6, 7, 2, 3, 4] (by decide) rfl
          obtain ⟨r5, hcr5, h⟩ := og_bind h
          refine cp_v (va_runV (As := [.ref q]) (rest := []) ⟨hx, hb, hml, hown, hts⟩ (k_X0_become l D cI cF w wx wy us vs k q qx qy xs ys n _ hcr5) (cwV 1 hts gX1_copy_X0_become rfl rfl rfl (by decide +kernel) ⟨(Nat.le_of_ble_eq_true rfl), (Nat.le_of_ble_eq_true rfl)⟩) (pre_d (q0 := 0) (ci := 0) hK hPc hDc rfl rfl) rfl rfl hl.1 rfl (lv_room (Nat.le_of_ble_eq_true rfl)) dX1_copy_35 ⟨(Nat.zero_le _), (Nat.zero_le _)⟩) hS (fun a9 h9 => ?_) (fun H1 locs hP1 hz1 hk1 hS => ?_)
          · exact va_in hD h9 [5, 6, 7, 2, 3, 4] rfl
          have hP1 : va_P D vwCl (fig2W cI w wx wy r5.1 r5.2.1 r5.2.2 q qx qy xs ys n) H1 := hP1
          have hP := va_fit2 hP hD hk1 hP1 (ws' := drffW cI cF o qf g ro rn tn fx fy ar wh q qx qy xs ys n w wx wy r5.1 r5.2.1 r5.2.2) [5, 6, 7, 2, 3, 4] [0, 1] 8 rfl rfl rfl rfl (by decide) (by decide)
          have hD : va_D AA (drffW cI cF o qf g ro rn tn fx fy ar wh q qx qy xs ys n w wx wy r5.1 r5.2.1 r5.2.2) := va_D_same hD rfl
          generalize H1 = H at hP hS ⊢
          obtain rfl := Option.some.inj h
          exact KJ38 ls _ _ ⟨lv_sub hl [5, 0] rfl, hP, hD, hS⟩
    · rw [if_neg cf2] at h
      refine cp_s (va_runV (As := [.int a2]) (rest := []) ⟨hx, hb, hml, hown, hts⟩ (k_X1_find_none l D cI cF o qf g ro rn tn fx fy ar wh a2 cf2) (cwV 1 hts gX1_copy_X1_find rfl rfl rfl (by decide +kernel) ⟨(Nat.le_of_ble_eq_true rfl), (Nat.le_of_ble_eq_true rfl)⟩) (pre_n (q0 := 0) (ci := 1) hK hnw hO.1 rfl rfl) rfl rfl hl.1 rfl (lv_room (Nat.le_of_ble_eq_true rfl)) dX1_copy_9 ⟨(Nat.zero_le _), (Nat.zero_le _)⟩) ?_
      refine lv_astoreN (lv' := [(5, .null), (4, .ref q), (0, .ref o), (1, .int a1), (2, .int a2), (3, .int a3)]) hx hb dX1_copy_12 hl (by decide) rfl (fun ls hl => ?_)
      refine lv_aload hx hb dX1_copy_14 (lv_at hl 1 rfl) ?_
      refine lv_ifnull hx hb dX1_copy_16 ?_
      refine lv_aloadN hx hb dX1_copy_19 (lv_at hl 0 rfl) ?_
      refine lv_ifnonnullN hx hb dX1_copy_21 ?_
      refine lv_iconst (v := -1) hx hb dX1_copy_24 (by decide) ?_
      obtain rfl := Option.some.inj h
      exact W.iret hx hb hr (fun t ht _ => ⟨rfl, by rw [ht]; exact hO, (va_S.rf (A := dall o qf g gx gy)).F ht⟩) (fun _ h9 => absurd h9 List.not_mem_nil) dX1_copy_25
  · rw [if_neg cf1] at h
    refine cp_s (va_runV (As := [.int a1]) (rest := []) ⟨hx, hb, hml, hown, hts⟩ (k_X1_find_none l D cI cF o qf g ro rn tn fx fy ar wh a1 cf1) (cwV 1 hts gX1_copy_X1_find rfl rfl rfl (by decide +kernel) ⟨(Nat.le_of_ble_eq_true rfl), (Nat.le_of_ble_eq_true rfl)⟩) (pre_n (q0 := 0) (ci := 1) hK hnw hO.1 rfl rfl) rfl rfl hl.1 rfl (lv_room (Nat.le_of_ble_eq_true rfl)) dX1_copy_2 ⟨(Nat.zero_le _), (Nat.zero_le _)⟩) ?_
    refine lv_astoreN (lv' := [(4, .null), (0, .ref o), (1, .int a1), (2, .int a2), (3, .int a3)]) hx hb dX1_copy_5 hl (by decide) rfl (fun ls hl => ?_)
    refine lv_aload_n hx hb dX1_copy_7 rfl (lv_at hl 1 rfl) ?_
    refine lv_iload_n hx hb dX1_copy_8 rfl (lv_at hl 3 rfl) ?_
    by_cases cf1 : bin a2 6 = true
    · rw [if_pos cf1] at h
      have hkn1 := bin_lt cf1
      refine cp_s (va_runV (As := [.int a2]) (rest := []) ⟨hx, hb, hml, hown, hts⟩ (k_X1_find_some l D cI cF o qf g ro rn tn fx fy ar wh a2 cf1) (cwV 1 hts gX1_copy_X1_find rfl rfl rfl (by decide +kernel) ⟨(Nat.le_of_ble_eq_true rfl), (Nat.le_of_ble_eq_true rfl)⟩) (pre_n (q0 := 0) (ci := 1) hK hnw hO.1 rfl rfl) rfl rfl hl.1 rfl (lv_room (Nat.le_of_ble_eq_true rfl)) dX1_copy_9 ⟨(Nat.zero_le _), (Nat.zero_le _)⟩) ?_
      obtain ⟨q, eq⟩ : ∃ y, y = g a2.toNatClampNeg := ⟨_, rfl⟩
      obtain ⟨qx, eqx⟩ : ∃ y, y = gx a2.toNatClampNeg := ⟨_, rfl⟩
      obtain ⟨qy, eqy⟩ : ∃ y, y = gy a2.toNatClampNeg := ⟨_, rfl⟩
      rw [← eq]
      obtain ⟨xs, exs⟩ : ∃ y, y = X a2.toNatClampNeg := ⟨_, rfl⟩
      have h := og_ov h exs
      obtain ⟨ys, eys⟩ : ∃ y, y = Y a2.toNatClampNeg := ⟨_, rfl⟩
      have h := og_ov h eys
      obtain ⟨n, en⟩ : ∃ y, y = N a2.toNatClampNeg := ⟨_, rfl⟩
      have h := og_ov h en
      have hPf := hO.2 _ hkn1
      rw [← eq, ← eqx, ← eqy, ← exs, ← eys, ← en] at hPf
      have hP : va_P D vwCl (drfW cI cF o qf g ro rn tn fx fy ar wh q qx qy xs ys n) s.heap := va_P.app hP hPf
      have hDs : va_D (va_A0 (drfW cI cF o qf g ro rn tn fx fy ar wh q qx qy xs ys n)) (drfW cI cF o qf g ro rn tn fx fy ar wh q qx qy xs ys n) ∧ ∀ a, va_A0 (drfW cI cF o qf g ro rn tn fx fy ar wh q qx qy xs ys n) a → dall o qf g gx gy a := dpt_1 hpt hkn1 eq eqx eqy
      obtain ⟨AA, hAe⟩ : ∃ A : Nat → Prop, A = va_A0 (drfW cI cF o qf g ro rn tn fx fy ar wh q qx qy xs ys n) := ⟨_, rfl⟩
      rw [← hAe] at hDs
      obtain ⟨hD, hsub⟩ := hDs
      have hS : va_S AA s.heap s.heap [] := va_S.rf
      refine lv_astore (lv' := [(5, .ref q), (4, .null), (0, .ref o), (1, .int a1), (2, .int a2), (3, .int a3)]) hx hb dX1_copy_12 hl (by decide) rfl (fun ls hl => ?_)
      refine lv_aloadN hx hb dX1_copy_14 (lv_at hl 1 rfl) ?_
      refine lv_ifnullN (tgt := 24) hx hb dX1_copy_16 (by decide) ?_
      refine lv_iconst (v := -1) hx hb dX1_copy_24 (by decide) ?_
      obtain rfl := Option.some.inj h
      exact W.iret hx hb hr (fun t ht _ => ⟨rfl, by rw [ht]; exact hO, (va_S.rf (A := dall o qf g gx gy)).F ht⟩) (fun _ h9 => absurd h9 List.not_mem_nil) dX1_copy_25
    · rw [if_neg cf1] at h
      refine cp_s (va_runV (As := [.int a2]) (rest := []) ⟨hx, hb, hml, hown, hts⟩ (k_X1_find_none l D cI cF o qf g ro rn tn fx fy ar wh a2 cf1) (cwV 1 hts gX1_copy_X1_find rfl rfl rfl (by decide +kernel) ⟨(Nat.le_of_ble_eq_true rfl), (Nat.le_of_ble_eq_true rfl)⟩) (pre_n (q0 := 0) (ci := 1) hK hnw hO.1 rfl rfl) rfl rfl hl.1 rfl (lv_room (Nat.le_of_ble_eq_true rfl)) dX1_copy_9 ⟨(Nat.zero_le _), (Nat.zero_le _)⟩) ?_
      refine lv_astoreN (lv' := [(5, .null), (4, .null), (0, .ref o), (1, .int a1), (2, .int a2), (3, .int a3)]) hx hb dX1_copy_12 hl (by decide) rfl (fun ls hl => ?_)
      refine lv_aloadN hx hb dX1_copy_14 (lv_at hl 1 rfl) ?_
      refine lv_ifnullN (tgt := 24) hx hb dX1_copy_16 (by decide) ?_
      refine lv_iconst (v := -1) hx hb dX1_copy_24 (by decide) ?_
      obtain rfl := Option.some.inj h
      exact W.iret hx hb hr (fun t ht _ => ⟨rfl, by rw [ht]; exact hO, (va_S.rf (A := dall o qf g gx gy)).F ht⟩) (fun _ h9 => absurd h9 List.not_mem_nil) dX1_copy_25
set_option maxHeartbeats 4000000 in
set_option maxRecDepth 100000 in
theorem k_X1_copy_eq (l : Launch) (D : va_G) (cI cF : ClassId) (o qf : Nat) (g gx gy : Nat → Nat) (ro rn tn fx fy ar wh : Int32) (X Y : Nat → Nat → Int32) (N : Nat → Int32) (a1 : Int32) (a3 : Int32) (r0 : (Int32 × (Nat → Nat → Int32) × (Nat → Nat → Int32) × (Nat → Int32))) (h : f_X1_copy X Y N a1 a1 a3 = some r0) : Met l yX1_copy wsX1_copy ({ frames := 3, cells := 0, slots := 0, locals := 67 }) (va_Pc [.ref o, .int a1, .int a1, .int a3] (fun U => wP D cI cF o qf g gx gy ro rn tn fx fy ar wh X Y N U)) (qW (some (.int r0.1)) (dall o qf g gx gy) (fun H => drP D cI cF o qf g gx gy ro rn tn fx fy ar wh r0.2.1 r0.2.2.1 r0.2.2.2 H)) 0 0 (dall o qf g gx gy) := by
  refine Met.ofW (cc := cX1_copy) (maxL := 6) (ret := (some .int)) (by decide) rfl ?_
  intro p e s m args below meth c s₁ B hml hv
  obtain ⟨rfl, hK, hnw, hO, hpt⟩ := hv
  have hP := hO.1
  have hx := B.exec
  have hb := B.bytes
  have hr := B.returns
  have hts := atoms_spec (ws := wsX1_copy) B.pre
  have hown : s.vm.findClass RX1 = some m.cls := findClass_of_methodNamed B.named
  have hlocks := B.notSynchronized
  have hinX0 : ∀ w ∈ u_ws RX0 TX0 3, w ∈ wsX1_copy := by decide +kernel
  have hnst : nst.before _ s = true := hnw.use (A := [.ref o, .int a1, .int a1, .int a3].toArray) rfl
  have hl := lv_entry ([.ref o, .int a1, .int a1, .int a3]) (n := 6) (Nat.le_of_ble_eq_true rfl)
  rw [lg_entry_eq]
  generalize (lg_sl ([.ref o, .int a1, .int a1, .int a3]) ++ List.replicate (6 - (lg_sl ([.ref o, .int a1, .int a1, .int a3])).length) Slot.unset).toArray = ls at hl ⊢
  have hl : lv_has ls 6 [(0, .ref o), (1, .int a1), (2, .int a1), (3, .int a3)] := hl
  unfold f_X1_copy at h
  refine lv_aload_n hx hb dX1_copy_0 rfl (lv_at hl 0 rfl) ?_
  refine lv_iload_n hx hb dX1_copy_1 rfl (lv_at hl 1 rfl) ?_
  by_cases cf1 : bin a1 6 = true
  · rw [if_pos cf1] at h
    have hkn1 := bin_lt cf1
    refine cp_s (va_runV (As := [.int a1]) (rest := []) ⟨hx, hb, hml, hown, hts⟩ (k_X1_find_some l D cI cF o qf g ro rn tn fx fy ar wh a1 cf1) (cwV 1 hts gX1_copy_X1_find rfl rfl rfl (by decide +kernel) ⟨(Nat.le_of_ble_eq_true rfl), (Nat.le_of_ble_eq_true rfl)⟩) (pre_n (q0 := 0) (ci := 1) hK hnw hO.1 rfl rfl) rfl rfl hl.1 rfl (lv_room (Nat.le_of_ble_eq_true rfl)) dX1_copy_2 ⟨(Nat.zero_le _), (Nat.zero_le _)⟩) ?_
    obtain ⟨q, eq⟩ : ∃ y, y = g a1.toNatClampNeg := ⟨_, rfl⟩
    obtain ⟨qx, eqx⟩ : ∃ y, y = gx a1.toNatClampNeg := ⟨_, rfl⟩
    obtain ⟨qy, eqy⟩ : ∃ y, y = gy a1.toNatClampNeg := ⟨_, rfl⟩
    rw [← eq]
    obtain ⟨xs, exs⟩ : ∃ y, y = X a1.toNatClampNeg := ⟨_, rfl⟩
    have h := og_ov h exs
    obtain ⟨ys, eys⟩ : ∃ y, y = Y a1.toNatClampNeg := ⟨_, rfl⟩
    have h := og_ov h eys
    obtain ⟨n, en⟩ : ∃ y, y = N a1.toNatClampNeg := ⟨_, rfl⟩
    have h := og_ov h en
    have hPf := hO.2 _ hkn1
    rw [← eq, ← eqx, ← eqy, ← exs, ← eys, ← en] at hPf
    have hP : va_P D vwCl (drfW cI cF o qf g ro rn tn fx fy ar wh q qx qy xs ys n) s.heap := va_P.app hP hPf
    refine lv_astore (lv' := [(4, .ref q), (0, .ref o), (1, .int a1), (2, .int a1), (3, .int a3)]) hx hb dX1_copy_5 hl (by decide) rfl (fun ls hl => ?_)
    refine lv_aload_n hx hb dX1_copy_7 rfl (lv_at hl 1 rfl) ?_
    refine lv_iload_n hx hb dX1_copy_8 rfl (lv_at hl 3 rfl) ?_
    rw [if_pos cf1] at h
    refine cp_s (va_runV (As := [.int a1]) (rest := []) ⟨hx, hb, hml, hown, hts⟩ (k_X1_find_some l D cI cF o qf g ro rn tn fx fy ar wh a1 cf1) (cwV 1 hts gX1_copy_X1_find rfl rfl rfl (by decide +kernel) ⟨(Nat.le_of_ble_eq_true rfl), (Nat.le_of_ble_eq_true rfl)⟩) (pre_n (q0 := 0) (ci := 1) hK hnw hO.1 rfl rfl) rfl rfl hl.1 rfl (lv_room (Nat.le_of_ble_eq_true rfl)) dX1_copy_9 ⟨(Nat.zero_le _), (Nat.zero_le _)⟩) ?_
    rw [← eq]
    obtain ⟨us, eus⟩ : ∃ y, y = X a1.toNatClampNeg := ⟨_, rfl⟩
    have h := og_ov h eus
    obtain rfl : xs = us := exs.trans eus.symm
    obtain ⟨vs, evs⟩ : ∃ y, y = Y a1.toNatClampNeg := ⟨_, rfl⟩
    have h := og_ov h evs
    obtain rfl : ys = vs := eys.trans evs.symm
    obtain ⟨k, ek⟩ : ∃ y, y = N a1.toNatClampNeg := ⟨_, rfl⟩
    have h := og_ov h ek
    obtain rfl : n = k := en.trans ek.symm
    have hDs : va_D (va_A0 (drfW cI cF o qf g ro rn tn fx fy ar wh q qx qy xs ys n)) (drfW cI cF o qf g ro rn tn fx fy ar wh q qx qy xs ys n) ∧ ∀ a, va_A0 (drfW cI cF o qf g ro rn tn fx fy ar wh q qx qy xs ys n) a → dall o qf g gx gy a := dpt_1 hpt hkn1 eq eqx eqy
    obtain ⟨AA, hAe⟩ : ∃ A : Nat → Prop, A = va_A0 (drfW cI cF o qf g ro rn tn fx fy ar wh q qx qy xs ys n) := ⟨_, rfl⟩
    rw [← hAe] at hDs
    obtain ⟨hD, hsub⟩ := hDs
    have hS : va_S AA s.heap s.heap [] := va_S.rf
    refine lv_astore (lv' := [(5, .ref q), (4, .ref q), (0, .ref o), (1, .int a1), (2, .int a1), (3, .int a3)]) hx hb dX1_copy_12 hl (by decide) rfl (fun ls hl => ?_)
    refine lv_aload hx hb dX1_copy_14 (lv_at hl 1 rfl) ?_
    refine lv_ifnull hx hb dX1_copy_16 ?_
    refine lv_aload hx hb dX1_copy_19 (lv_at hl 0 rfl) ?_
    refine lv_ifnonnull (tgt := 26) hx hb dX1_copy_21 (by decide) ?_
    refine lv_iload_n hx hb dX1_copy_26 rfl (lv_at hl 3 rfl) ?_
    refine lv_iload_n hx hb dX1_copy_27 rfl (lv_at hl 4 rfl) ?_
    obtain ⟨mv1, hm38, h⟩ := og_bind h
    refine wjH (PC := 38) (ST := []) (fun ls H locs => lv_has ls 6 [(3, .int a3), (5, .ref q)] ∧ va_P D vwCl (drfW cI cF o qf g ro rn tn fx fy ar wh q qx qy mv1.1 mv1.2.1 mv1.2.2) H ∧ va_D AA (drfW cI cF o qf g ro rn tn fx fy ar wh q qx qy mv1.1 mv1.2.1 mv1.2.2) ∧ va_S AA s.heap H locs) (fun ls H locs hq => ?_) (fun KJ38 => ?_)
    · obtain ⟨hl, hP, hD, hS⟩ := hq
      refine lv_iload_n hx hb dX1_copy_38 rfl (lv_at hl 0 rfl) ?_
      refine lv_if_eq (tgt := 47) hx hb dX1_copy_39 (by decide) (fun c1 => ?_) (fun c1 => ?_)
      · rw [if_pos c1] at h
        refine lv_aload hx hb dX1_copy_47 (lv_at hl 1 rfl) ?_
        refine va_getN (D := D) (ci := 0) (v := .int mv1.2.2) (C := RX0) (T := TX0) (N := 3) hx hb hts hinX0 hown hK hP 2 rfl rfl 2 (by decide) hnst (fun _ h9 => h9) rfl dX1_copy_49 ?_
        obtain rfl := Option.some.inj h
        have hS9 := hS
        rw [hAe] at hS9
        exact W.iret hx hb hr (fun t ht _ => ⟨rfl, by rw [ht]; exact drP_back1 hpt hO hkn1 eq eqx eqy hS9 hP, va_F_weak (hS.F ht) hsub⟩) (fun q9 h9 => hsub _ (hS.2.2 q9 h9)) dX1_copy_52
      · rw [if_neg c1] at h
        refine lv_aload hx hb dX1_copy_42 (lv_at hl 1 rfl) ?_
        have hPc := hP.sub (ws' := figW cI q qx qy mv1.1 mv1.2.1 mv1.2.2) [2, 3, 4] rfl
        have hDc := hD.sub (ws' := figW cI q qx qy mv1.1 mv1.2.1 mv1.2.2) [2, 3, 4] (by decide) rfl
        obtain ⟨r3, hcr3, h⟩ := og_bind h
        refine cp_v (va_runV (As := []) (rest := []) ⟨hx, hb, hml, hown, hts⟩ (k_X0_turn l D cI cF q qx qy mv1.1 mv1.2.1 mv1.2.2 _ hcr3) (cwV 0 hts gX1_copy_X0_turn rfl rfl rfl (by decide +kernel) ⟨(Nat.le_of_ble_eq_true rfl), (Nat.le_of_ble_eq_true rfl)⟩) (pre_d (q0 := 0) (ci := 0) hK hPc hDc rfl rfl) rfl rfl hl.1 rfl (lv_room (Nat.le_of_ble_eq_true rfl)) dX1_copy_44 ⟨(Nat.zero_le _), (Nat.zero_le _)⟩) hS (fun a9 h9 => ?_) (fun H1 locs hP1 hz1 hk1 hS => ?_)
        · exact va_in hD h9 [2, 3, 4] rfl
        have hP1 : va_P D vwCl (figW cI q qx qy r3.1 r3.2 mv1.2.2) H1 := hP1
        have hP := va_fit2 hP hD hk1 hP1 (ws' := drfW cI cF o qf g ro rn tn fx fy ar wh q qx qy r3.1 r3.2 mv1.2.2) [2, 3, 4] [0, 1] 5 rfl rfl rfl rfl (by decide) (by decide)
        have hD : va_D AA (drfW cI cF o qf g ro rn tn fx fy ar wh q qx qy r3.1 r3.2 mv1.2.2) := va_D_same hD rfl
        generalize H1 = H at hP hS ⊢
        refine lv_aload hx hb dX1_copy_47 (lv_at hl 1 rfl) ?_
        refine va_getN (D := D) (ci := 0) (v := .int mv1.2.2) (C := RX0) (T := TX0) (N := 3) hx hb hts hinX0 hown hK hP 2 rfl rfl 2 (by decide) hnst (fun _ h9 => h9) rfl dX1_copy_49 ?_
        obtain rfl := Option.some.inj h
        have hS9 := hS
        rw [hAe] at hS9
        exact W.iret hx hb hr (fun t ht _ => ⟨rfl, by rw [ht]; exact drP_back1 hpt hO hkn1 eq eqx eqy hS9 hP, va_F_weak (hS.F ht) hsub⟩) (fun q9 h9 => hsub _ (hS.2.2 q9 h9)) dX1_copy_52
    · have h := hm38
      refine lv_icmp_eq (tgt := 38) hx hb dX1_copy_28 (by decide) (fun c3 => ?_) (fun c3 => ?_)
      · rw [if_pos c3] at h
        obtain rfl := Option.some.inj h
        exact KJ38 ls _ _ ⟨lv_sub hl [5, 0] rfl, hP, hD, hS⟩
      · exact absurd rfl c3
  · rw [if_neg cf1] at h
    refine cp_s (va_runV (As := [.int a1]) (rest := []) ⟨hx, hb, hml, hown, hts⟩ (k_X1_find_none l D cI cF o qf g ro rn tn fx fy ar wh a1 cf1) (cwV 1 hts gX1_copy_X1_find rfl rfl rfl (by decide +kernel) ⟨(Nat.le_of_ble_eq_true rfl), (Nat.le_of_ble_eq_true rfl)⟩) (pre_n (q0 := 0) (ci := 1) hK hnw hO.1 rfl rfl) rfl rfl hl.1 rfl (lv_room (Nat.le_of_ble_eq_true rfl)) dX1_copy_2 ⟨(Nat.zero_le _), (Nat.zero_le _)⟩) ?_
    refine lv_astoreN (lv' := [(4, .null), (0, .ref o), (1, .int a1), (2, .int a1), (3, .int a3)]) hx hb dX1_copy_5 hl (by decide) rfl (fun ls hl => ?_)
    refine lv_aload_n hx hb dX1_copy_7 rfl (lv_at hl 1 rfl) ?_
    refine lv_iload_n hx hb dX1_copy_8 rfl (lv_at hl 3 rfl) ?_
    rw [if_neg cf1] at h
    refine cp_s (va_runV (As := [.int a1]) (rest := []) ⟨hx, hb, hml, hown, hts⟩ (k_X1_find_none l D cI cF o qf g ro rn tn fx fy ar wh a1 cf1) (cwV 1 hts gX1_copy_X1_find rfl rfl rfl (by decide +kernel) ⟨(Nat.le_of_ble_eq_true rfl), (Nat.le_of_ble_eq_true rfl)⟩) (pre_n (q0 := 0) (ci := 1) hK hnw hO.1 rfl rfl) rfl rfl hl.1 rfl (lv_room (Nat.le_of_ble_eq_true rfl)) dX1_copy_9 ⟨(Nat.zero_le _), (Nat.zero_le _)⟩) ?_
    refine lv_astoreN (lv' := [(5, .null), (4, .null), (0, .ref o), (1, .int a1), (2, .int a1), (3, .int a3)]) hx hb dX1_copy_12 hl (by decide) rfl (fun ls hl => ?_)
    refine lv_aloadN hx hb dX1_copy_14 (lv_at hl 1 rfl) ?_
    refine lv_ifnullN (tgt := 24) hx hb dX1_copy_16 (by decide) ?_
    refine lv_iconst (v := -1) hx hb dX1_copy_24 (by decide) ?_
    obtain rfl := Option.some.inj h
    exact W.iret hx hb hr (fun t ht _ => ⟨rfl, by rw [ht]; exact hO, (va_S.rf (A := dall o qf g gx gy)).F ht⟩) (fun _ h9 => absurd h9 List.not_mem_nil) dX1_copy_25
def f_X1_join (X : Nat → Nat → Int32) (Y : Nat → Nat → Int32) (N : Nat → Int32) (a1 : Int32) (a2 : Int32) (a3 : Int32) (a4 : Int32) : Option ((Int32 × (Nat → Nat → Int32) × (Nat → Nat → Int32) × (Nat → Int32))) :=
  if bin a1 6 = true then
  (ov (X a1.toNatClampNeg) fun xs =>
  ov (Y a1.toNatClampNeg) fun ys =>
  ov (N a1.toNatClampNeg) fun n =>
  if bin a3 6 = true then
  (ov (X a3.toNatClampNeg) fun us =>
  ov (Y a3.toNatClampNeg) fun vs =>
  ov (N a3.toNatClampNeg) fun k =>
  if a1 = a3 then
  (some ((-1 : Int32), X, Y, N))
  else
  ((f_X0_has n a2).bind fun r2 =>
  if r2 = (0) then
  (some ((-1 : Int32), X, Y, N))
  else
  ((f_X0_has k a4).bind fun r4 =>
  if r4 = (0) then
  (some ((-1 : Int32), X, Y, N))
  else
  ((f_X0_closed n).bind fun r6 =>
  if r6 = (0) then
  (some ((-3 : Int32), X, Y, N))
  else
  ((f_X0_closed k).bind fun r8 =>
  if r8 = (0) then
  (some ((-3 : Int32), X, Y, N))
  else
  (if ((n + k) - (2 : Int32)) ≤ (24 : Int32) then
  ((f_X0_next k a4).bind fun r11 =>
  (f_X0_samePlace xs ys us vs a2 r11).bind fun r12 =>
  if r12 = (0) then
  (some ((-5 : Int32), X, Y, N))
  else
  ((f_X0_next n a2).bind fun r14 =>
  (f_X0_samePlace xs ys us vs r14 a4).bind fun r15 =>
  if r15 = (0) then
  (some ((-5 : Int32), X, Y, N))
  else
  ((f_X0_takeIn xs ys n us vs k a2 a4).bind fun r17 =>
  some (r17.2.2, va_up X a1.toNatClampNeg r17.1, va_up Y a1.toNatClampNeg r17.2.1, va_up N a1.toNatClampNeg r17.2.2))))
  else
  (some ((-4 : Int32), X, Y, N))))))))
  else
  (some ((-1 : Int32), X, Y, N)))
  else
  (if bin a3 6 = true then
  (ov (X a3.toNatClampNeg) fun xs =>
  ov (Y a3.toNatClampNeg) fun ys =>
  ov (N a3.toNatClampNeg) fun n =>
  some ((-1 : Int32), X, Y, N))
  else
  (some ((-1 : Int32), X, Y, N)))
set_option maxHeartbeats 4000000 in
set_option maxRecDepth 100000 in
theorem k_X1_join_ne (l : Launch) (D : va_G) (cI cF : ClassId) (o qf : Nat) (g gx gy : Nat → Nat) (ro rn tn fx fy ar wh : Int32) (X Y : Nat → Nat → Int32) (N : Nat → Int32) (a1 : Int32) (a2 : Int32) (a3 : Int32) (a4 : Int32) (hab : ¬ a1 = a3) (r0 : (Int32 × (Nat → Nat → Int32) × (Nat → Nat → Int32) × (Nat → Int32))) (h : f_X1_join X Y N a1 a2 a3 a4 = some r0) : Met l yX1_join wsX1_join ({ frames := 2, cells := 0, slots := 0, locals := 49 }) (va_Pc [.ref o, .int a1, .int a2, .int a3, .int a4] (fun U => wP D cI cF o qf g gx gy ro rn tn fx fy ar wh X Y N U)) (qW (some (.int r0.1)) (dall o qf g gx gy) (fun H => drP D cI cF o qf g gx gy ro rn tn fx fy ar wh r0.2.1 r0.2.2.1 r0.2.2.2 H)) 0 0 (dall o qf g gx gy) := by
  refine Met.ofW (cc := cX1_join) (maxL := 7) (ret := (some .int)) (by decide) rfl ?_
  intro p e s m args below meth c s₁ B hml hv
  obtain ⟨rfl, hK, hnw, hO, hpt⟩ := hv
  have hP := hO.1
  have hx := B.exec
  have hb := B.bytes
  have hr := B.returns
  have hts := atoms_spec (ws := wsX1_join) B.pre
  have hown : s.vm.findClass RX1 = some m.cls := findClass_of_methodNamed B.named
  have hlocks := B.notSynchronized
  have hinX0 : ∀ w ∈ u_ws RX0 TX0 3, w ∈ wsX1_join := by decide +kernel
  have hnst : nst.before _ s = true := hnw.use (A := [.ref o, .int a1, .int a2, .int a3, .int a4].toArray) rfl
  have hl := lv_entry ([.ref o, .int a1, .int a2, .int a3, .int a4]) (n := 7) (Nat.le_of_ble_eq_true rfl)
  rw [lg_entry_eq]
  generalize (lg_sl ([.ref o, .int a1, .int a2, .int a3, .int a4]) ++ List.replicate (7 - (lg_sl ([.ref o, .int a1, .int a2, .int a3, .int a4])).length) Slot.unset).toArray = ls at hl ⊢
  have hl : lv_has ls 7 [(0, .ref o), (1, .int a1), (2, .int a2), (3, .int a3), (4, .int a4)] := hl
  unfold f_X1_join at h
  refine lv_aload_n hx hb dX1_join_0 rfl (lv_at hl 0 rfl) ?_
  refine lv_iload_n hx hb dX1_join_1 rfl (lv_at hl 1 rfl) ?_
  by_cases cf1 : bin a1 6 = true
  · rw [if_pos cf1] at h
    have hkn1 := bin_lt cf1
    refine cp_s (va_runV (As := [.int a1]) (rest := []) ⟨hx, hb, hml, hown, hts⟩ (k_X1_find_some l D cI cF o qf g ro rn tn fx fy ar wh a1 cf1) (cwV 1 hts gX1_join_X1_find rfl rfl rfl (by decide +kernel) ⟨(Nat.le_of_ble_eq_true rfl), (Nat.le_of_ble_eq_true rfl)⟩) (pre_n (q0 := 0) (ci := 1) hK hnw hO.1 rfl rfl) rfl rfl hl.1 rfl (lv_room (Nat.le_of_ble_eq_true rfl)) dX1_join_2 ⟨(Nat.zero_le _), (Nat.zero_le _)⟩) ?_
    obtain ⟨q, eq⟩ : ∃ y, y = g a1.toNatClampNeg := ⟨_, rfl⟩
    obtain ⟨qx, eqx⟩ : ∃ y, y = gx a1.toNatClampNeg := ⟨_, rfl⟩
    obtain ⟨qy, eqy⟩ : ∃ y, y = gy a1.toNatClampNeg := ⟨_, rfl⟩
    rw [← eq]
    obtain ⟨xs, exs⟩ : ∃ y, y = X a1.toNatClampNeg := ⟨_, rfl⟩
    have h := og_ov h exs
    obtain ⟨ys, eys⟩ : ∃ y, y = Y a1.toNatClampNeg := ⟨_, rfl⟩
    have h := og_ov h eys
    obtain ⟨n, en⟩ : ∃ y, y = N a1.toNatClampNeg := ⟨_, rfl⟩
    have h := og_ov h en
    have hPf := hO.2 _ hkn1
    rw [← eq, ← eqx, ← eqy, ← exs, ← eys, ← en] at hPf
    have hP : va_P D vwCl (drfW cI cF o qf g ro rn tn fx fy ar wh q qx qy xs ys n) s.heap := va_P.app hP hPf
    refine lv_astore (lv' := [(5, .ref q), (0, .ref o), (1, .int a1), (2, .int a2), (3, .int a3), (4, .int a4)]) hx hb dX1_join_5 hl (by decide) rfl (fun ls hl => ?_)
    refine lv_aload_n hx hb dX1_join_7 rfl (lv_at hl 1 rfl) ?_
    refine lv_iload_n hx hb dX1_join_8 rfl (lv_at hl 4 rfl) ?_
    by_cases cf2 : bin a3 6 = true
    · rw [if_pos cf2] at h
      have hkn2 := bin_lt cf2
      refine cp_s (va_runV (As := [.int a3]) (rest := []) ⟨hx, hb, hml, hown, hts⟩ (k_X1_find_some l D cI cF o qf g ro rn tn fx fy ar wh a3 cf2) (cwV 1 hts gX1_join_X1_find rfl rfl rfl (by decide +kernel) ⟨(Nat.le_of_ble_eq_true rfl), (Nat.le_of_ble_eq_true rfl)⟩) (pre_n (q0 := 0) (ci := 1) hK hnw hO.1 rfl rfl) rfl rfl hl.1 rfl (lv_room (Nat.le_of_ble_eq_true rfl)) dX1_join_9 ⟨(Nat.zero_le _), (Nat.zero_le _)⟩) ?_
      obtain ⟨w, ew⟩ : ∃ y, y = g a3.toNatClampNeg := ⟨_, rfl⟩
      obtain ⟨wx, ewx⟩ : ∃ y, y = gx a3.toNatClampNeg := ⟨_, rfl⟩
      obtain ⟨wy, ewy⟩ : ∃ y, y = gy a3.toNatClampNeg := ⟨_, rfl⟩
      rw [← ew]
      obtain ⟨us, eus⟩ : ∃ y, y = X a3.toNatClampNeg := ⟨_, rfl⟩
      have h := og_ov h eus
      obtain ⟨vs, evs⟩ : ∃ y, y = Y a3.toNatClampNeg := ⟨_, rfl⟩
      have h := og_ov h evs
      obtain ⟨k, ek⟩ : ∃ y, y = N a3.toNatClampNeg := ⟨_, rfl⟩
      have h := og_ov h ek
      have hPf := hO.2 _ hkn2
      rw [← ew, ← ewx, ← ewy, ← eus, ← evs, ← ek] at hPf
      have hP : va_P D vwCl (drffW cI cF o qf g ro rn tn fx fy ar wh q qx qy xs ys n w wx wy us vs k) s.heap := va_P.app hP hPf
      have hkj := clamp_ne cf1 cf2 hab
      have hDs : va_D (va_A0 (drffW cI cF o qf g ro rn tn fx fy ar wh q qx qy xs ys n w wx wy us vs k)) (drffW cI cF o qf g ro rn tn fx fy ar wh q qx qy xs ys n w wx wy us vs k) ∧ ∀ a, va_A0 (drffW cI cF o qf g ro rn tn fx fy ar wh q qx qy xs ys n w wx wy us vs k) a → dall o qf g gx gy a := dpt_2 hpt hkn1 hkn2 hkj eq eqx eqy ew ewx ewy
      obtain ⟨AA, hAe⟩ : ∃ A : Nat → Prop, A = va_A0 (drffW cI cF o qf g ro rn tn fx fy ar wh q qx qy xs ys n w wx wy us vs k) := ⟨_, rfl⟩
      rw [← hAe] at hDs
      obtain ⟨hD, hsub⟩ := hDs
      have hS : va_S AA s.heap s.heap [] := va_S.rf
      refine lv_astore (lv' := [(6, .ref w), (5, .ref q), (0, .ref o), (1, .int a1), (2, .int a2), (3, .int a3), (4, .int a4)]) hx hb dX1_join_12 hl (by decide) rfl (fun ls hl => ?_)
      refine lv_aload hx hb dX1_join_14 (lv_at hl 1 rfl) ?_
      refine lv_ifnull hx hb dX1_join_16 ?_
      refine lv_aload hx hb dX1_join_19 (lv_at hl 0 rfl) ?_
      refine lv_ifnull hx hb dX1_join_21 ?_
      refine lv_iload_n hx hb dX1_join_24 rfl (lv_at hl 3 rfl) ?_
      refine lv_iload_n hx hb dX1_join_25 rfl (lv_at hl 5 rfl) ?_
      refine lv_icmp_eq (tgt := 48) hx hb dX1_join_26 (by decide) (fun c0 => ?_) (fun c0 => ?_)
      · exact absurd c0 hab
      · rw [if_neg c0] at h
        refine lv_aload hx hb dX1_join_29 (lv_at hl 1 rfl) ?_
        refine lv_iload_n hx hb dX1_join_31 rfl (lv_at hl 4 rfl) ?_
        have hPc := hP.sub (ws' := figW cI q qx qy xs ys n) [2, 3, 4] rfl
        obtain ⟨r2, hcr2, h⟩ := og_bind h
        refine cp_s (va_runV (As := [.int a2]) (rest := []) ⟨hx, hb, hml, hown, hts⟩ (k_X0_has l D cI cF q qx qy xs ys n a2 _ hcr2) (cwV 1 hts gX1_join_X0_has rfl rfl rfl (by decide +kernel) ⟨(Nat.le_of_ble_eq_true rfl), (Nat.le_of_ble_eq_true rfl)⟩) (pre_v (q0 := 0) (ci := 0) hK hPc rfl rfl) rfl rfl hl.1 rfl (lv_room (Nat.le_of_ble_eq_true rfl)) dX1_join_32 ⟨(Nat.zero_le _), (Nat.zero_le _)⟩) ?_
        refine lv_if_eq (tgt := 48) hx hb dX1_join_35 (by decide) (fun c2 => ?_) (fun c2 => ?_)
        · rw [if_pos c2] at h
          refine lv_iconst (v := -1) hx hb dX1_join_48 (by decide) ?_
          obtain rfl := Option.some.inj h
          exact W.iret hx hb hr (fun t ht _ => ⟨rfl, by rw [ht]; exact hO, (va_S.rf (A := dall o qf g gx gy)).F ht⟩) (fun _ h9 => absurd h9 List.not_mem_nil) dX1_join_49
        · rw [if_neg c2] at h
          refine lv_aload hx hb dX1_join_38 (lv_at hl 0 rfl) ?_
          refine lv_iload hx hb dX1_join_40 (lv_at hl 6 rfl) ?_
          have hPc := hP.sub (ws' := figW cI w wx wy us vs k) [5, 6, 7] rfl
          obtain ⟨r4, hcr4, h⟩ := og_bind h
          refine cp_s (va_runV (As := [.int a4]) (rest := []) ⟨hx, hb, hml, hown, hts⟩ (k_X0_has l D cI cF w wx wy us vs k a4 _ hcr4) (cwV 1 hts gX1_join_X0_has rfl rfl rfl (by decide +kernel) ⟨(Nat.le_of_ble_eq_true rfl), (Nat.le_of_ble_eq_true rfl)⟩) (pre_v (q0 := 0) (ci := 0) hK hPc rfl rfl) rfl rfl hl.1 rfl (lv_room (Nat.le_of_ble_eq_true rfl)) dX1_join_42 ⟨(Nat.zero_le _), (Nat.zero_le _)⟩) ?_
          refine lv_if_ne (tgt := 50) hx hb dX1_join_45 (by decide) (fun c4 => ?_) (fun c4 => ?_)
          · rw [if_neg c4] at h
            refine lv_aload hx hb dX1_join_50 (lv_at hl 1 rfl) ?_
            have hPc := hP.sub (ws' := figW cI q qx qy xs ys n) [2, 3, 4] rfl
            obtain ⟨r6, hcr6, h⟩ := og_bind h
            refine cp_s (va_runV (As := []) (rest := []) ⟨hx, hb, hml, hown, hts⟩ (k_X0_closed l D cI cF q qx qy xs ys n _ hcr6) (cwV 0 hts gX1_join_X0_closed rfl rfl rfl (by decide +kernel) ⟨(Nat.le_of_ble_eq_true rfl), (Nat.le_of_ble_eq_true rfl)⟩) (pre_v (q0 := 0) (ci := 0) hK hPc rfl rfl) rfl rfl hl.1 rfl (lv_room (Nat.le_of_ble_eq_true rfl)) dX1_join_52 ⟨(Nat.zero_le _), (Nat.zero_le _)⟩) ?_
            refine lv_if_eq (tgt := 66) hx hb dX1_join_55 (by decide) (fun c6 => ?_) (fun c6 => ?_)
            · rw [if_pos c6] at h
              refine lv_bipush (v := -3) hx hb dX1_join_66 (by decide) ?_
              obtain rfl := Option.some.inj h
              exact W.iret hx hb hr (fun t ht _ => ⟨rfl, by rw [ht]; exact hO, (va_S.rf (A := dall o qf g gx gy)).F ht⟩) (fun _ h9 => absurd h9 List.not_mem_nil) dX1_join_68
            · rw [if_neg c6] at h
              refine lv_aload hx hb dX1_join_58 (lv_at hl 0 rfl) ?_
              have hPc := hP.sub (ws' := figW cI w wx wy us vs k) [5, 6, 7] rfl
              obtain ⟨r8, hcr8, h⟩ := og_bind h
              refine cp_s (va_runV (As := []) (rest := []) ⟨hx, hb, hml, hown, hts⟩ (k_X0_closed l D cI cF w wx wy us vs k _ hcr8) (cwV 0 hts gX1_join_X0_closed rfl rfl rfl (by decide +kernel) ⟨(Nat.le_of_ble_eq_true rfl), (Nat.le_of_ble_eq_true rfl)⟩) (pre_v (q0 := 0) (ci := 0) hK hPc rfl rfl) rfl rfl hl.1 rfl (lv_room (Nat.le_of_ble_eq_true rfl)) dX1_join_60 ⟨(Nat.zero_le _), (Nat.zero_le _)⟩) ?_
              refine lv_if_ne (tgt := 69) hx hb dX1_join_63 (by decide) (fun c8 => ?_) (fun c8 => ?_)
              · rw [if_neg c8] at h
                refine lv_aload hx hb dX1_join_69 (lv_at hl 1 rfl) ?_
                refine va_getN (D := D) (ci := 0) (v := .int n) (C := RX0) (T := TX0) (N := 3) hx hb hts hinX0 hown hK hP 2 rfl rfl 2 (by decide) hnst (fun _ h9 => h9) rfl dX1_join_71 ?_
                refine lv_aload hx hb dX1_join_74 (lv_at hl 0 rfl) ?_
                refine va_getN (D := D) (ci := 0) (v := .int k) (C := RX0) (T := TX0) (N := 3) hx hb hts hinX0 hown hK hP 5 rfl rfl 2 (by decide) hnst (fun _ h9 => h9) rfl dX1_join_76 ?_
                refine lv_iadd hx hb dX1_join_79 ?_
                refine lv_iconst (v := 2) hx hb dX1_join_80 (by decide) ?_
                refine lv_isub hx hb dX1_join_81 ?_
                refine lv_bipush (v := 24) hx hb dX1_join_82 (by decide) ?_
                refine lv_icmp_le (tgt := 90) hx hb dX1_join_84 (by decide) (fun c9 => ?_) (fun c9 => ?_)
                · rw [if_pos c9] at h
                  refine lv_aload hx hb dX1_join_90 (lv_at hl 1 rfl) ?_
                  refine lv_iload_n hx hb dX1_join_92 rfl (lv_at hl 4 rfl) ?_
                  refine lv_aload hx hb dX1_join_93 (lv_at hl 0 rfl) ?_
                  refine lv_aload hx hb dX1_join_95 (lv_at hl 0 rfl) ?_
                  refine lv_iload hx hb dX1_join_97 (lv_at hl 6 rfl) ?_
                  have hPc := hP.sub (ws' := figW cI w wx wy us vs k) [5, 6, 7] rfl
                  obtain ⟨r11, hcr11, h⟩ := og_bind h
                  refine cp_s (va_runV (As := [.int a4]) (rest := [.ref w, .int a2, .ref q]) ⟨hx, hb, hml, hown, hts⟩ (k_X0_next l D cI cF w wx wy us vs k a4 _ hcr11) (cwV 1 hts gX1_join_X0_next rfl rfl rfl (by decide +kernel) ⟨(Nat.le_of_ble_eq_true rfl), (Nat.le_of_ble_eq_true rfl)⟩) (pre_v (q0 := 0) (ci := 0) hK hPc rfl rfl) rfl rfl hl.1 rfl (lv_room (Nat.le_of_ble_eq_true rfl)) dX1_join_99 ⟨(Nat.zero_le _), (Nat.zero_le _)⟩) ?_
                  have hPc := hP.sub (ws' := fig2W cI q qx qy xs ys n w wx wy us vs k) [2, 3, 4, 5, 6, 7] rfl
                  obtain ⟨r12, hcr12, h⟩ := og_bind h
                  refine cp_s (va_runV (As := [.int a2, .ref w, .int r11]) (rest := []) ⟨hx, hb, hml, hown, hts⟩ (k_X0_samePlace l D cI cF q qx qy xs ys n w wx wy us vs k a2 r11 _ hcr12) (cwV 3 hts gX1_join_X0_samePlace rfl rfl rfl (by decide +kernel) ⟨(Nat.le_of_ble_eq_true rfl), (Nat.le_of_ble_eq_true rfl)⟩) (pre_v (q0 := 0) (ci := 0) hK hPc rfl rfl) rfl rfl hl.1 rfl (lv_room (Nat.le_of_ble_eq_true rfl)) dX1_join_102 ⟨(Nat.zero_le _), (Nat.zero_le _)⟩) ?_
                  refine lv_if_eq (tgt := 126) hx hb dX1_join_105 (by decide) (fun c12 => ?_) (fun c12 => ?_)
                  · rw [if_pos c12] at h
                    refine lv_bipush (v := -5) hx hb dX1_join_126 (by decide) ?_
                    obtain rfl := Option.some.inj h
                    exact W.iret hx hb hr (fun t ht _ => ⟨rfl, by rw [ht]; exact hO, (va_S.rf (A := dall o qf g gx gy)).F ht⟩) (fun _ h9 => absurd h9 List.not_mem_nil) dX1_join_128
                  · rw [if_neg c12] at h
                    refine lv_aload hx hb dX1_join_108 (lv_at hl 1 rfl) ?_
                    refine lv_aload hx hb dX1_join_110 (lv_at hl 1 rfl) ?_
                    refine lv_iload_n hx hb dX1_join_112 rfl (lv_at hl 4 rfl) ?_
                    have hPc := hP.sub (ws' := figW cI q qx qy xs ys n) [2, 3, 4] rfl
                    obtain ⟨r14, hcr14, h⟩ := og_bind h
                    refine cp_s (va_runV (As := [.int a2]) (rest := [.ref q]) ⟨hx, hb, hml, hown, hts⟩ (k_X0_next l D cI cF q qx qy xs ys n a2 _ hcr14) (cwV 1 hts gX1_join_X0_next rfl rfl rfl (by decide +kernel) ⟨(Nat.le_of_ble_eq_true rfl), (Nat.le_of_ble_eq_true rfl)⟩) (pre_v (q0 := 0) (ci := 0) hK hPc rfl rfl) rfl rfl hl.1 rfl (lv_room (Nat.le_of_ble_eq_true rfl)) dX1_join_113 ⟨(Nat.zero_le _), (Nat.zero_le _)⟩) ?_
                    refine lv_aload hx hb dX1_join_116 (lv_at hl 0 rfl) ?_
                    refine lv_iload hx hb dX1_join_118 (lv_at hl 6 rfl) ?_
                    have hPc := hP.sub (ws' := fig2W cI q qx qy xs ys n w wx wy us vs k) [2, 3, 4, 5, 6, 7] rfl
                    obtain ⟨r15, hcr15, h⟩ := og_bind h
                    refine cp_s (va_runV (As := [.int r14, .ref w, .int a4]) (rest := []) ⟨hx, hb, hml, hown, hts⟩ (k_X0_samePlace l D cI cF q qx qy xs ys n w wx wy us vs k r14 a4 _ hcr15) (cwV 3 hts gX1_join_X0_samePlace rfl rfl rfl (by decide +kernel) ⟨(Nat.le_of_ble_eq_true rfl), (Nat.le_of_ble_eq_true rfl)⟩) (pre_v (q0 := 0) (ci := 0) hK hPc rfl rfl) rfl rfl hl.1 rfl (lv_room (Nat.le_of_ble_eq_true rfl)) dX1_join_120 ⟨(Nat.zero_le _), (Nat.zero_le _)⟩) ?_
                    refine lv_if_ne (tgt := 129) hx hb dX1_join_123 (by decide) (fun c15 => ?_) (fun c15 => ?_)
                    · rw [if_neg c15] at h
                      refine lv_aload hx hb dX1_join_129 (lv_at hl 1 rfl) ?_
                      refine lv_iload_n hx hb dX1_join_131 rfl (lv_at hl 4 rfl) ?_
                      refine lv_aload hx hb dX1_join_132 (lv_at hl 0 rfl) ?_
                      refine lv_iload hx hb dX1_join_134 (lv_at hl 6 rfl) ?_
                      have hPc := hP.sub (ws' := fig2W cI q qx qy xs ys n w wx wy us vs k) [2, 3, 4, 5, 6, 7] rfl
                      have hDc := hD.sub (ws' := fig2W cI q qx qy xs ys n w wx wy us vs k) [2, 3, 4, 5, 6, 7] (by decide) rfl
                      obtain ⟨r17, hcr17, h⟩ := og_bind h
                      refine cp_v (va_runV (As := [.int a2, .ref w, .int a4]) (rest := []) ⟨hx, hb, hml, hown, hts⟩ (k_X0_takeIn l D cI cF q qx qy xs ys n w wx wy us vs k a2 a4 _ hcr17) (cwV 3 hts gX1_join_X0_takeIn rfl rfl rfl (by decide +kernel) ⟨(Nat.le_of_ble_eq_true rfl), (Nat.le_of_ble_eq_true rfl)⟩) (pre_d (q0 := 0) (ci := 0) hK hPc hDc rfl rfl) rfl rfl hl.1 rfl (lv_room (Nat.le_of_ble_eq_true rfl)) dX1_join_136 ⟨(Nat.zero_le _), (Nat.zero_le _)⟩) hS (fun a9 h9 => ?_) (fun H1 locs hP1 hz1 hk1 hS => ?_)
                      · exact va_in hD h9 [2, 3, 4, 5, 6, 7] rfl
                      have hP1 : va_P D vwCl (fig2W cI q qx qy r17.1 r17.2.1 r17.2.2 w wx wy us vs k) H1 := hP1
                      have hP := va_fit2 hP hD hk1 hP1 (ws' := drffW cI cF o qf g ro rn tn fx fy ar wh q qx qy r17.1 r17.2.1 r17.2.2 w wx wy us vs k) [2, 3, 4, 5, 6, 7] [0, 1] 8 rfl rfl rfl rfl (by decide) (by decide)
                      have hD : va_D AA (drffW cI cF o qf g ro rn tn fx fy ar wh q qx qy r17.1 r17.2.1 r17.2.2 w wx wy us vs k) := va_D_same hD rfl
                      generalize H1 = H at hP hS ⊢
                      refine lv_aload hx hb dX1_join_139 (lv_at hl 1 rfl) ?_
                      refine va_getN (D := D) (ci := 0) (v := .int r17.2.2) (C := RX0) (T := TX0) (N := 3) hx hb hts hinX0 hown hK hP 2 rfl rfl 2 (by decide) hnst (fun _ h9 => h9) rfl dX1_join_141 ?_
                      obtain rfl := Option.some.inj h
                      have hS9 := hS
                      rw [hAe] at hS9
                      exact W.iret hx hb hr (fun t ht _ => ⟨rfl, by rw [ht]; exact drP_back2 hpt hO hkn1 hkn2 eq eqx eqy ew ewx ewy hS9 hP ⟨va_up_self _ _ _, va_up_self _ _ _, va_up_self _ _ _⟩ ⟨(va_up_ne _ _ (Ne.symm hkj)).trans eus.symm, (va_up_ne _ _ (Ne.symm hkj)).trans evs.symm, (va_up_ne _ _ (Ne.symm hkj)).trans ek.symm⟩ (fun j h1 h2 => ⟨va_up_ne _ _ h1, va_up_ne _ _ h1, va_up_ne _ _ h1⟩), va_F_weak (hS.F ht) hsub⟩) (fun q9 h9 => hsub _ (hS.2.2 q9 h9)) dX1_join_144
                    · rw [if_pos c15] at h
                      refine lv_bipush (v := -5) hx hb dX1_join_126 (by decide) ?_
                      obtain rfl := Option.some.inj h
                      exact W.iret hx hb hr (fun t ht _ => ⟨rfl, by rw [ht]; exact hO, (va_S.rf (A := dall o qf g gx gy)).F ht⟩) (fun _ h9 => absurd h9 List.not_mem_nil) dX1_join_128
                · rw [if_neg c9] at h
                  refine lv_bipush (v := -4) hx hb dX1_join_87 (by decide) ?_
                  obtain rfl := Option.some.inj h
                  exact W.iret hx hb hr (fun t ht _ => ⟨rfl, by rw [ht]; exact hO, (va_S.rf (A := dall o qf g gx gy)).F ht⟩) (fun _ h9 => absurd h9 List.not_mem_nil) dX1_join_89
              · rw [if_pos c8] at h
                refine lv_bipush (v := -3) hx hb dX1_join_66 (by decide) ?_
                obtain rfl := Option.some.inj h
                exact W.iret hx hb hr (fun t ht _ => ⟨rfl, by rw [ht]; exact hO, (va_S.rf (A := dall o qf g gx gy)).F ht⟩) (fun _ h9 => absurd h9 List.not_mem_nil) dX1_join_68
          · rw [if_pos c4] at h
            refine lv_iconst (v := -1) hx hb dX1_join_48 (by decide) ?_
            obtain rfl := Option.some.inj h
            exact W.iret hx hb hr (fun t ht _ => ⟨rfl, by rw [ht]; exact hO, (va_S.rf (A := dall o qf g gx gy)).F ht⟩) (fun _ h9 => absurd h9 List.not_mem_nil) dX1_join_49
    · rw [if_neg cf2] at h
      refine cp_s (va_runV (As := [.int a3]) (rest := []) ⟨hx, hb, hml, hown, hts⟩ (k_X1_find_none l D cI cF o qf g ro rn tn fx fy ar wh a3 cf2) (cwV 1 hts gX1_join_X1_find rfl rfl rfl (by decide +kernel) ⟨(Nat.le_of_ble_eq_true rfl), (Nat.le_of_ble_eq_true rfl)⟩) (pre_n (q0 := 0) (ci := 1) hK hnw hO.1 rfl rfl) rfl rfl hl.1 rfl (lv_room (Nat.le_of_ble_eq_true rfl)) dX1_join_9 ⟨(Nat.zero_le _), (Nat.zero_le _)⟩) ?_
      refine lv_astoreN (lv' := [(6, .null), (5, .ref q), (0, .ref o), (1, .int a1), (2, .int a2), (3, .int a3), (4, .int a4)]) hx hb dX1_join_12 hl (by decide) rfl (fun ls hl => ?_)
      refine lv_aload hx hb dX1_join_14 (lv_at hl 1 rfl) ?_
      refine lv_ifnull hx hb dX1_join_16 ?_
      refine lv_aloadN hx hb dX1_join_19 (lv_at hl 0 rfl) ?_
      refine lv_ifnullN (tgt := 48) hx hb dX1_join_21 (by decide) ?_
      refine lv_iconst (v := -1) hx hb dX1_join_48 (by decide) ?_
      obtain rfl := Option.some.inj h
      exact W.iret hx hb hr (fun t ht _ => ⟨rfl, by rw [ht]; exact hO, (va_S.rf (A := dall o qf g gx gy)).F ht⟩) (fun _ h9 => absurd h9 List.not_mem_nil) dX1_join_49
  · rw [if_neg cf1] at h
    refine cp_s (va_runV (As := [.int a1]) (rest := []) ⟨hx, hb, hml, hown, hts⟩ (k_X1_find_none l D cI cF o qf g ro rn tn fx fy ar wh a1 cf1) (cwV 1 hts gX1_join_X1_find rfl rfl rfl (by decide +kernel) ⟨(Nat.le_of_ble_eq_true rfl), (Nat.le_of_ble_eq_true rfl)⟩) (pre_n (q0 := 0) (ci := 1) hK hnw hO.1 rfl rfl) rfl rfl hl.1 rfl (lv_room (Nat.le_of_ble_eq_true rfl)) dX1_join_2 ⟨(Nat.zero_le _), (Nat.zero_le _)⟩) ?_
    refine lv_astoreN (lv' := [(5, .null), (0, .ref o), (1, .int a1), (2, .int a2), (3, .int a3), (4, .int a4)]) hx hb dX1_join_5 hl (by decide) rfl (fun ls hl => ?_)
    refine lv_aload_n hx hb dX1_join_7 rfl (lv_at hl 1 rfl) ?_
    refine lv_iload_n hx hb dX1_join_8 rfl (lv_at hl 4 rfl) ?_
    by_cases cf1 : bin a3 6 = true
    · rw [if_pos cf1] at h
      have hkn1 := bin_lt cf1
      refine cp_s (va_runV (As := [.int a3]) (rest := []) ⟨hx, hb, hml, hown, hts⟩ (k_X1_find_some l D cI cF o qf g ro rn tn fx fy ar wh a3 cf1) (cwV 1 hts gX1_join_X1_find rfl rfl rfl (by decide +kernel) ⟨(Nat.le_of_ble_eq_true rfl), (Nat.le_of_ble_eq_true rfl)⟩) (pre_n (q0 := 0) (ci := 1) hK hnw hO.1 rfl rfl) rfl rfl hl.1 rfl (lv_room (Nat.le_of_ble_eq_true rfl)) dX1_join_9 ⟨(Nat.zero_le _), (Nat.zero_le _)⟩) ?_
      obtain ⟨q, eq⟩ : ∃ y, y = g a3.toNatClampNeg := ⟨_, rfl⟩
      obtain ⟨qx, eqx⟩ : ∃ y, y = gx a3.toNatClampNeg := ⟨_, rfl⟩
      obtain ⟨qy, eqy⟩ : ∃ y, y = gy a3.toNatClampNeg := ⟨_, rfl⟩
      rw [← eq]
      obtain ⟨xs, exs⟩ : ∃ y, y = X a3.toNatClampNeg := ⟨_, rfl⟩
      have h := og_ov h exs
      obtain ⟨ys, eys⟩ : ∃ y, y = Y a3.toNatClampNeg := ⟨_, rfl⟩
      have h := og_ov h eys
      obtain ⟨n, en⟩ : ∃ y, y = N a3.toNatClampNeg := ⟨_, rfl⟩
      have h := og_ov h en
      have hPf := hO.2 _ hkn1
      rw [← eq, ← eqx, ← eqy, ← exs, ← eys, ← en] at hPf
      have hP : va_P D vwCl (drfW cI cF o qf g ro rn tn fx fy ar wh q qx qy xs ys n) s.heap := va_P.app hP hPf
      have hDs : va_D (va_A0 (drfW cI cF o qf g ro rn tn fx fy ar wh q qx qy xs ys n)) (drfW cI cF o qf g ro rn tn fx fy ar wh q qx qy xs ys n) ∧ ∀ a, va_A0 (drfW cI cF o qf g ro rn tn fx fy ar wh q qx qy xs ys n) a → dall o qf g gx gy a := dpt_1 hpt hkn1 eq eqx eqy
      obtain ⟨AA, hAe⟩ : ∃ A : Nat → Prop, A = va_A0 (drfW cI cF o qf g ro rn tn fx fy ar wh q qx qy xs ys n) := ⟨_, rfl⟩
      rw [← hAe] at hDs
      obtain ⟨hD, hsub⟩ := hDs
      have hS : va_S AA s.heap s.heap [] := va_S.rf
      refine lv_astore (lv' := [(6, .ref q), (5, .null), (0, .ref o), (1, .int a1), (2, .int a2), (3, .int a3), (4, .int a4)]) hx hb dX1_join_12 hl (by decide) rfl (fun ls hl => ?_)
      refine lv_aloadN hx hb dX1_join_14 (lv_at hl 1 rfl) ?_
      refine lv_ifnullN (tgt := 48) hx hb dX1_join_16 (by decide) ?_
      refine lv_iconst (v := -1) hx hb dX1_join_48 (by decide) ?_
      obtain rfl := Option.some.inj h
      exact W.iret hx hb hr (fun t ht _ => ⟨rfl, by rw [ht]; exact hO, (va_S.rf (A := dall o qf g gx gy)).F ht⟩) (fun _ h9 => absurd h9 List.not_mem_nil) dX1_join_49
    · rw [if_neg cf1] at h
      refine cp_s (va_runV (As := [.int a3]) (rest := []) ⟨hx, hb, hml, hown, hts⟩ (k_X1_find_none l D cI cF o qf g ro rn tn fx fy ar wh a3 cf1) (cwV 1 hts gX1_join_X1_find rfl rfl rfl (by decide +kernel) ⟨(Nat.le_of_ble_eq_true rfl), (Nat.le_of_ble_eq_true rfl)⟩) (pre_n (q0 := 0) (ci := 1) hK hnw hO.1 rfl rfl) rfl rfl hl.1 rfl (lv_room (Nat.le_of_ble_eq_true rfl)) dX1_join_9 ⟨(Nat.zero_le _), (Nat.zero_le _)⟩) ?_
      refine lv_astoreN (lv' := [(6, .null), (5, .null), (0, .ref o), (1, .int a1), (2, .int a2), (3, .int a3), (4, .int a4)]) hx hb dX1_join_12 hl (by decide) rfl (fun ls hl => ?_)
      refine lv_aloadN hx hb dX1_join_14 (lv_at hl 1 rfl) ?_
      refine lv_ifnullN (tgt := 48) hx hb dX1_join_16 (by decide) ?_
      refine lv_iconst (v := -1) hx hb dX1_join_48 (by decide) ?_
      obtain rfl := Option.some.inj h
      exact W.iret hx hb hr (fun t ht _ => ⟨rfl, by rw [ht]; exact hO, (va_S.rf (A := dall o qf g gx gy)).F ht⟩) (fun _ h9 => absurd h9 List.not_mem_nil) dX1_join_49
set_option maxHeartbeats 4000000 in
set_option maxRecDepth 100000 in
theorem k_X1_join_eq (l : Launch) (D : va_G) (cI cF : ClassId) (o qf : Nat) (g gx gy : Nat → Nat) (ro rn tn fx fy ar wh : Int32) (X Y : Nat → Nat → Int32) (N : Nat → Int32) (a1 : Int32) (a2 : Int32) (a4 : Int32) (r0 : (Int32 × (Nat → Nat → Int32) × (Nat → Nat → Int32) × (Nat → Int32))) (h : f_X1_join X Y N a1 a2 a1 a4 = some r0) : Met l yX1_join wsX1_join ({ frames := 2, cells := 0, slots := 0, locals := 49 }) (va_Pc [.ref o, .int a1, .int a2, .int a1, .int a4] (fun U => wP D cI cF o qf g gx gy ro rn tn fx fy ar wh X Y N U)) (qW (some (.int r0.1)) (dall o qf g gx gy) (fun H => drP D cI cF o qf g gx gy ro rn tn fx fy ar wh r0.2.1 r0.2.2.1 r0.2.2.2 H)) 0 0 (dall o qf g gx gy) := by
  refine Met.ofW (cc := cX1_join) (maxL := 7) (ret := (some .int)) (by decide) rfl ?_
  intro p e s m args below meth c s₁ B hml hv
  obtain ⟨rfl, hK, hnw, hO, hpt⟩ := hv
  have hP := hO.1
  have hx := B.exec
  have hb := B.bytes
  have hr := B.returns
  have hts := atoms_spec (ws := wsX1_join) B.pre
  have hown : s.vm.findClass RX1 = some m.cls := findClass_of_methodNamed B.named
  have hlocks := B.notSynchronized
  have hinX0 : ∀ w ∈ u_ws RX0 TX0 3, w ∈ wsX1_join := by decide +kernel
  have hnst : nst.before _ s = true := hnw.use (A := [.ref o, .int a1, .int a2, .int a1, .int a4].toArray) rfl
  have hl := lv_entry ([.ref o, .int a1, .int a2, .int a1, .int a4]) (n := 7) (Nat.le_of_ble_eq_true rfl)
  rw [lg_entry_eq]
  generalize (lg_sl ([.ref o, .int a1, .int a2, .int a1, .int a4]) ++ List.replicate (7 - (lg_sl ([.ref o, .int a1, .int a2, .int a1, .int a4])).length) Slot.unset).toArray = ls at hl ⊢
  have hl : lv_has ls 7 [(0, .ref o), (1, .int a1), (2, .int a2), (3, .int a1), (4, .int a4)] := hl
  unfold f_X1_join at h
  refine lv_aload_n hx hb dX1_join_0 rfl (lv_at hl 0 rfl) ?_
  refine lv_iload_n hx hb dX1_join_1 rfl (lv_at hl 1 rfl) ?_
  by_cases cf1 : bin a1 6 = true
  · rw [if_pos cf1] at h
    have hkn1 := bin_lt cf1
    refine cp_s (va_runV (As := [.int a1]) (rest := []) ⟨hx, hb, hml, hown, hts⟩ (k_X1_find_some l D cI cF o qf g ro rn tn fx fy ar wh a1 cf1) (cwV 1 hts gX1_join_X1_find rfl rfl rfl (by decide +kernel) ⟨(Nat.le_of_ble_eq_true rfl), (Nat.le_of_ble_eq_true rfl)⟩) (pre_n (q0 := 0) (ci := 1) hK hnw hO.1 rfl rfl) rfl rfl hl.1 rfl (lv_room (Nat.le_of_ble_eq_true rfl)) dX1_join_2 ⟨(Nat.zero_le _), (Nat.zero_le _)⟩) ?_
    obtain ⟨q, eq⟩ : ∃ y, y = g a1.toNatClampNeg := ⟨_, rfl⟩
    obtain ⟨qx, eqx⟩ : ∃ y, y = gx a1.toNatClampNeg := ⟨_, rfl⟩
    obtain ⟨qy, eqy⟩ : ∃ y, y = gy a1.toNatClampNeg := ⟨_, rfl⟩
    rw [← eq]
    obtain ⟨xs, exs⟩ : ∃ y, y = X a1.toNatClampNeg := ⟨_, rfl⟩
    have h := og_ov h exs
    obtain ⟨ys, eys⟩ : ∃ y, y = Y a1.toNatClampNeg := ⟨_, rfl⟩
    have h := og_ov h eys
    obtain ⟨n, en⟩ : ∃ y, y = N a1.toNatClampNeg := ⟨_, rfl⟩
    have h := og_ov h en
    have hPf := hO.2 _ hkn1
    rw [← eq, ← eqx, ← eqy, ← exs, ← eys, ← en] at hPf
    have hP : va_P D vwCl (drfW cI cF o qf g ro rn tn fx fy ar wh q qx qy xs ys n) s.heap := va_P.app hP hPf
    refine lv_astore (lv' := [(5, .ref q), (0, .ref o), (1, .int a1), (2, .int a2), (3, .int a1), (4, .int a4)]) hx hb dX1_join_5 hl (by decide) rfl (fun ls hl => ?_)
    refine lv_aload_n hx hb dX1_join_7 rfl (lv_at hl 1 rfl) ?_
    refine lv_iload_n hx hb dX1_join_8 rfl (lv_at hl 4 rfl) ?_
    rw [if_pos cf1] at h
    refine cp_s (va_runV (As := [.int a1]) (rest := []) ⟨hx, hb, hml, hown, hts⟩ (k_X1_find_some l D cI cF o qf g ro rn tn fx fy ar wh a1 cf1) (cwV 1 hts gX1_join_X1_find rfl rfl rfl (by decide +kernel) ⟨(Nat.le_of_ble_eq_true rfl), (Nat.le_of_ble_eq_true rfl)⟩) (pre_n (q0 := 0) (ci := 1) hK hnw hO.1 rfl rfl) rfl rfl hl.1 rfl (lv_room (Nat.le_of_ble_eq_true rfl)) dX1_join_9 ⟨(Nat.zero_le _), (Nat.zero_le _)⟩) ?_
    rw [← eq]
    obtain ⟨us, eus⟩ : ∃ y, y = X a1.toNatClampNeg := ⟨_, rfl⟩
    have h := og_ov h eus
    obtain rfl : xs = us := exs.trans eus.symm
    obtain ⟨vs, evs⟩ : ∃ y, y = Y a1.toNatClampNeg := ⟨_, rfl⟩
    have h := og_ov h evs
    obtain rfl : ys = vs := eys.trans evs.symm
    obtain ⟨k, ek⟩ : ∃ y, y = N a1.toNatClampNeg := ⟨_, rfl⟩
    have h := og_ov h ek
    obtain rfl : n = k := en.trans ek.symm
    have hDs : va_D (va_A0 (drfW cI cF o qf g ro rn tn fx fy ar wh q qx qy xs ys n)) (drfW cI cF o qf g ro rn tn fx fy ar wh q qx qy xs ys n) ∧ ∀ a, va_A0 (drfW cI cF o qf g ro rn tn fx fy ar wh q qx qy xs ys n) a → dall o qf g gx gy a := dpt_1 hpt hkn1 eq eqx eqy
    obtain ⟨AA, hAe⟩ : ∃ A : Nat → Prop, A = va_A0 (drfW cI cF o qf g ro rn tn fx fy ar wh q qx qy xs ys n) := ⟨_, rfl⟩
    rw [← hAe] at hDs
    obtain ⟨hD, hsub⟩ := hDs
    have hS : va_S AA s.heap s.heap [] := va_S.rf
    refine lv_astore (lv' := [(6, .ref q), (5, .ref q), (0, .ref o), (1, .int a1), (2, .int a2), (3, .int a1), (4, .int a4)]) hx hb dX1_join_12 hl (by decide) rfl (fun ls hl => ?_)
    refine lv_aload hx hb dX1_join_14 (lv_at hl 1 rfl) ?_
    refine lv_ifnull hx hb dX1_join_16 ?_
    refine lv_aload hx hb dX1_join_19 (lv_at hl 0 rfl) ?_
    refine lv_ifnull hx hb dX1_join_21 ?_
    refine lv_iload_n hx hb dX1_join_24 rfl (lv_at hl 3 rfl) ?_
    refine lv_iload_n hx hb dX1_join_25 rfl (lv_at hl 5 rfl) ?_
    refine lv_icmp_eq (tgt := 48) hx hb dX1_join_26 (by decide) (fun c0 => ?_) (fun c0 => ?_)
    · rw [if_pos c0] at h
      refine lv_iconst (v := -1) hx hb dX1_join_48 (by decide) ?_
      obtain rfl := Option.some.inj h
      exact W.iret hx hb hr (fun t ht _ => ⟨rfl, by rw [ht]; exact hO, (va_S.rf (A := dall o qf g gx gy)).F ht⟩) (fun _ h9 => absurd h9 List.not_mem_nil) dX1_join_49
    · exact absurd rfl c0
  · rw [if_neg cf1] at h
    refine cp_s (va_runV (As := [.int a1]) (rest := []) ⟨hx, hb, hml, hown, hts⟩ (k_X1_find_none l D cI cF o qf g ro rn tn fx fy ar wh a1 cf1) (cwV 1 hts gX1_join_X1_find rfl rfl rfl (by decide +kernel) ⟨(Nat.le_of_ble_eq_true rfl), (Nat.le_of_ble_eq_true rfl)⟩) (pre_n (q0 := 0) (ci := 1) hK hnw hO.1 rfl rfl) rfl rfl hl.1 rfl (lv_room (Nat.le_of_ble_eq_true rfl)) dX1_join_2 ⟨(Nat.zero_le _), (Nat.zero_le _)⟩) ?_
    refine lv_astoreN (lv' := [(5, .null), (0, .ref o), (1, .int a1), (2, .int a2), (3, .int a1), (4, .int a4)]) hx hb dX1_join_5 hl (by decide) rfl (fun ls hl => ?_)
    refine lv_aload_n hx hb dX1_join_7 rfl (lv_at hl 1 rfl) ?_
    refine lv_iload_n hx hb dX1_join_8 rfl (lv_at hl 4 rfl) ?_
    rw [if_neg cf1] at h
    refine cp_s (va_runV (As := [.int a1]) (rest := []) ⟨hx, hb, hml, hown, hts⟩ (k_X1_find_none l D cI cF o qf g ro rn tn fx fy ar wh a1 cf1) (cwV 1 hts gX1_join_X1_find rfl rfl rfl (by decide +kernel) ⟨(Nat.le_of_ble_eq_true rfl), (Nat.le_of_ble_eq_true rfl)⟩) (pre_n (q0 := 0) (ci := 1) hK hnw hO.1 rfl rfl) rfl rfl hl.1 rfl (lv_room (Nat.le_of_ble_eq_true rfl)) dX1_join_9 ⟨(Nat.zero_le _), (Nat.zero_le _)⟩) ?_
    refine lv_astoreN (lv' := [(6, .null), (5, .null), (0, .ref o), (1, .int a1), (2, .int a2), (3, .int a1), (4, .int a4)]) hx hb dX1_join_12 hl (by decide) rfl (fun ls hl => ?_)
    refine lv_aloadN hx hb dX1_join_14 (lv_at hl 1 rfl) ?_
    refine lv_ifnullN (tgt := 48) hx hb dX1_join_16 (by decide) ?_
    refine lv_iconst (v := -1) hx hb dX1_join_48 (by decide) ?_
    obtain rfl := Option.some.inj h
    exact W.iret hx hb hr (fun t ht _ => ⟨rfl, by rw [ht]; exact hO, (va_S.rf (A := dall o qf g gx gy)).F ht⟩) (fun _ h9 => absurd h9 List.not_mem_nil) dX1_join_49
def f_X1_part (X : Nat → Nat → Int32) (Y : Nat → Nat → Int32) (N : Nat → Int32) (a1 : Int32) (a2 : Int32) (a3 : Int32) : Option ((Int32 × (Nat → Nat → Int32) × (Nat → Nat → Int32) × (Nat → Int32))) :=
  if bin a1 6 = true then
  (ov (X a1.toNatClampNeg) fun xs =>
  ov (Y a1.toNatClampNeg) fun ys =>
  ov (N a1.toNatClampNeg) fun n =>
  if bin a2 6 = true then
  (ov (X a2.toNatClampNeg) fun us =>
  ov (Y a2.toNatClampNeg) fun vs =>
  ov (N a2.toNatClampNeg) fun k =>
  if a1 = a2 then
  (some ((-1 : Int32), X, Y, N))
  else
  ((f_X1_within a3 (100 : Int32)).bind fun r2 =>
  if r2 = (0) then
  (some ((-2 : Int32), X, Y, N))
  else
  ((f_X0_closed n).bind fun r4 =>
  if r4 = (0) then
  (some ((-3 : Int32), X, Y, N))
  else
  ((f_X0_placesFrom ys n a3).bind fun r6 =>
  if r6 ≤ (24 : Int32) then
  ((f_X0_crossesWhole xs ys n a3).bind fun r8 =>
  if r8 = (0) then
  (some ((-5 : Int32), X, Y, N))
  else
  ((f_X0_becomeUpper us vs xs ys n a3).bind fun r10 =>
  some (r10.2.2, va_up X a2.toNatClampNeg r10.1, va_up Y a2.toNatClampNeg r10.2.1, va_up N a2.toNatClampNeg r10.2.2)))
  else
  (some ((-4 : Int32), X, Y, N))))))
  else
  (some ((-1 : Int32), X, Y, N)))
  else
  (if bin a2 6 = true then
  (ov (X a2.toNatClampNeg) fun xs =>
  ov (Y a2.toNatClampNeg) fun ys =>
  ov (N a2.toNatClampNeg) fun n =>
  some ((-1 : Int32), X, Y, N))
  else
  (some ((-1 : Int32), X, Y, N)))
set_option maxHeartbeats 4000000 in
set_option maxRecDepth 100000 in
theorem k_X1_part_ne (l : Launch) (D : va_G) (cI cF : ClassId) (o qf : Nat) (g gx gy : Nat → Nat) (ro rn tn fx fy ar wh : Int32) (X Y : Nat → Nat → Int32) (N : Nat → Int32) (a1 : Int32) (a2 : Int32) (a3 : Int32) (hab : ¬ a1 = a2) (r0 : (Int32 × (Nat → Nat → Int32) × (Nat → Nat → Int32) × (Nat → Int32))) (h : f_X1_part X Y N a1 a2 a3 = some r0) : Met l yX1_part wsX1_part ({ frames := 3, cells := 0, slots := 0, locals := 69 }) (va_Pc [.ref o, .int a1, .int a2, .int a3] (fun U => wP D cI cF o qf g gx gy ro rn tn fx fy ar wh X Y N U)) (qW (some (.int r0.1)) (dall o qf g gx gy) (fun H => drP D cI cF o qf g gx gy ro rn tn fx fy ar wh r0.2.1 r0.2.2.1 r0.2.2.2 H)) 0 0 (dall o qf g gx gy) := by
  refine Met.ofW (cc := cX1_part) (maxL := 6) (ret := (some .int)) (by decide) rfl ?_
  intro p e s m args below meth c s₁ B hml hv
  obtain ⟨rfl, hK, hnw, hO, hpt⟩ := hv
  have hP := hO.1
  have hx := B.exec
  have hb := B.bytes
  have hr := B.returns
  have hts := atoms_spec (ws := wsX1_part) B.pre
  have hown : s.vm.findClass RX1 = some m.cls := findClass_of_methodNamed B.named
  have hlocks := B.notSynchronized
  have hinX0 : ∀ w ∈ u_ws RX0 TX0 3, w ∈ wsX1_part := by decide +kernel
  have hnst : nst.before _ s = true := hnw.use (A := [.ref o, .int a1, .int a2, .int a3].toArray) rfl
  have hl := lv_entry ([.ref o, .int a1, .int a2, .int a3]) (n := 6) (Nat.le_of_ble_eq_true rfl)
  rw [lg_entry_eq]
  generalize (lg_sl ([.ref o, .int a1, .int a2, .int a3]) ++ List.replicate (6 - (lg_sl ([.ref o, .int a1, .int a2, .int a3])).length) Slot.unset).toArray = ls at hl ⊢
  have hl : lv_has ls 6 [(0, .ref o), (1, .int a1), (2, .int a2), (3, .int a3)] := hl
  unfold f_X1_part at h
  refine lv_aload_n hx hb dX1_part_0 rfl (lv_at hl 0 rfl) ?_
  refine lv_iload_n hx hb dX1_part_1 rfl (lv_at hl 1 rfl) ?_
  by_cases cf1 : bin a1 6 = true
  · rw [if_pos cf1] at h
    have hkn1 := bin_lt cf1
    refine cp_s (va_runV (As := [.int a1]) (rest := []) ⟨hx, hb, hml, hown, hts⟩ (k_X1_find_some l D cI cF o qf g ro rn tn fx fy ar wh a1 cf1) (cwV 1 hts gX1_part_X1_find rfl rfl rfl (by decide +kernel) ⟨(Nat.le_of_ble_eq_true rfl), (Nat.le_of_ble_eq_true rfl)⟩) (pre_n (q0 := 0) (ci := 1) hK hnw hO.1 rfl rfl) rfl rfl hl.1 rfl (lv_room (Nat.le_of_ble_eq_true rfl)) dX1_part_2 ⟨(Nat.zero_le _), (Nat.zero_le _)⟩) ?_
    obtain ⟨q, eq⟩ : ∃ y, y = g a1.toNatClampNeg := ⟨_, rfl⟩
    obtain ⟨qx, eqx⟩ : ∃ y, y = gx a1.toNatClampNeg := ⟨_, rfl⟩
    obtain ⟨qy, eqy⟩ : ∃ y, y = gy a1.toNatClampNeg := ⟨_, rfl⟩
    rw [← eq]
    obtain ⟨xs, exs⟩ : ∃ y, y = X a1.toNatClampNeg := ⟨_, rfl⟩
    have h := og_ov h exs
    obtain ⟨ys, eys⟩ : ∃ y, y = Y a1.toNatClampNeg := ⟨_, rfl⟩
    have h := og_ov h eys
    obtain ⟨n, en⟩ : ∃ y, y = N a1.toNatClampNeg := ⟨_, rfl⟩
    have h := og_ov h en
    have hPf := hO.2 _ hkn1
    rw [← eq, ← eqx, ← eqy, ← exs, ← eys, ← en] at hPf
    have hP : va_P D vwCl (drfW cI cF o qf g ro rn tn fx fy ar wh q qx qy xs ys n) s.heap := va_P.app hP hPf
    refine lv_astore (lv' := [(4, .ref q), (0, .ref o), (1, .int a1), (2, .int a2), (3, .int a3)]) hx hb dX1_part_5 hl (by decide) rfl (fun ls hl => ?_)
    refine lv_aload_n hx hb dX1_part_7 rfl (lv_at hl 1 rfl) ?_
    refine lv_iload_n hx hb dX1_part_8 rfl (lv_at hl 3 rfl) ?_
    by_cases cf2 : bin a2 6 = true
    · rw [if_pos cf2] at h
      have hkn2 := bin_lt cf2
      refine cp_s (va_runV (As := [.int a2]) (rest := []) ⟨hx, hb, hml, hown, hts⟩ (k_X1_find_some l D cI cF o qf g ro rn tn fx fy ar wh a2 cf2) (cwV 1 hts gX1_part_X1_find rfl rfl rfl (by decide +kernel) ⟨(Nat.le_of_ble_eq_true rfl), (Nat.le_of_ble_eq_true rfl)⟩) (pre_n (q0 := 0) (ci := 1) hK hnw hO.1 rfl rfl) rfl rfl hl.1 rfl (lv_room (Nat.le_of_ble_eq_true rfl)) dX1_part_9 ⟨(Nat.zero_le _), (Nat.zero_le _)⟩) ?_
      obtain ⟨w, ew⟩ : ∃ y, y = g a2.toNatClampNeg := ⟨_, rfl⟩
      obtain ⟨wx, ewx⟩ : ∃ y, y = gx a2.toNatClampNeg := ⟨_, rfl⟩
      obtain ⟨wy, ewy⟩ : ∃ y, y = gy a2.toNatClampNeg := ⟨_, rfl⟩
      rw [← ew]
      obtain ⟨us, eus⟩ : ∃ y, y = X a2.toNatClampNeg := ⟨_, rfl⟩
      have h := og_ov h eus
      obtain ⟨vs, evs⟩ : ∃ y, y = Y a2.toNatClampNeg := ⟨_, rfl⟩
      have h := og_ov h evs
      obtain ⟨k, ek⟩ : ∃ y, y = N a2.toNatClampNeg := ⟨_, rfl⟩
      have h := og_ov h ek
      have hPf := hO.2 _ hkn2
      rw [← ew, ← ewx, ← ewy, ← eus, ← evs, ← ek] at hPf
      have hP : va_P D vwCl (drffW cI cF o qf g ro rn tn fx fy ar wh q qx qy xs ys n w wx wy us vs k) s.heap := va_P.app hP hPf
      have hkj := clamp_ne cf1 cf2 hab
      have hDs : va_D (va_A0 (drffW cI cF o qf g ro rn tn fx fy ar wh q qx qy xs ys n w wx wy us vs k)) (drffW cI cF o qf g ro rn tn fx fy ar wh q qx qy xs ys n w wx wy us vs k) ∧ ∀ a, va_A0 (drffW cI cF o qf g ro rn tn fx fy ar wh q qx qy xs ys n w wx wy us vs k) a → dall o qf g gx gy a := dpt_2 hpt hkn1 hkn2 hkj eq eqx eqy ew ewx ewy
      obtain ⟨AA, hAe⟩ : ∃ A : Nat → Prop, A = va_A0 (drffW cI cF o qf g ro rn tn fx fy ar wh q qx qy xs ys n w wx wy us vs k) := ⟨_, rfl⟩
      rw [← hAe] at hDs
      obtain ⟨hD, hsub⟩ := hDs
      have hS : va_S AA s.heap s.heap [] := va_S.rf
      refine lv_astore (lv' := [(5, .ref w), (4, .ref q), (0, .ref o), (1, .int a1), (2, .int a2), (3, .int a3)]) hx hb dX1_part_12 hl (by decide) rfl (fun ls hl => ?_)
      refine lv_aload hx hb dX1_part_14 (lv_at hl 1 rfl) ?_
      refine lv_ifnull hx hb dX1_part_16 ?_
      refine lv_aload hx hb dX1_part_19 (lv_at hl 0 rfl) ?_
      refine lv_ifnull hx hb dX1_part_21 ?_
      refine lv_iload_n hx hb dX1_part_24 rfl (lv_at hl 3 rfl) ?_
      refine lv_iload_n hx hb dX1_part_25 rfl (lv_at hl 4 rfl) ?_
      refine lv_icmp_ne (tgt := 31) hx hb dX1_part_26 (by decide) (fun c0 => ?_) (fun c0 => ?_)
      · rw [if_neg c0] at h
        refine lv_iload_n hx hb dX1_part_31 rfl (lv_at hl 5 rfl) ?_
        refine lv_bipush (v := 100) hx hb dX1_part_32 (by decide) ?_
        obtain ⟨r2, hcr2, h⟩ := og_bind h
        refine cp_s (va_runS (As := [.int a3, .int (100 : Int32)]) (rest := []) ⟨hx, hb, hml, hown, hts⟩ (k_X1_within l a3 (100 : Int32) _ hcr2) (va_cwS 2 hts gX1_part_X1_within rfl rfl rfl (by decide +kernel) ⟨(Nat.le_of_ble_eq_true rfl), (Nat.le_of_ble_eq_true rfl)⟩) pre_s rfl rfl hl.1 rfl (lv_room (Nat.le_of_ble_eq_true rfl)) dX1_part_34 ⟨(Nat.zero_le _), (Nat.zero_le _)⟩) ?_
        refine lv_if_ne (tgt := 43) hx hb dX1_part_37 (by decide) (fun c2 => ?_) (fun c2 => ?_)
        · rw [if_neg c2] at h
          refine lv_aload hx hb dX1_part_43 (lv_at hl 1 rfl) ?_
          have hPc := hP.sub (ws' := figW cI q qx qy xs ys n) [2, 3, 4] rfl
          obtain ⟨r4, hcr4, h⟩ := og_bind h
          refine cp_s (va_runV (As := []) (rest := []) ⟨hx, hb, hml, hown, hts⟩ (k_X0_closed l D cI cF q qx qy xs ys n _ hcr4) (cwV 0 hts gX1_part_X0_closed rfl rfl rfl (by decide +kernel) ⟨(Nat.le_of_ble_eq_true rfl), (Nat.le_of_ble_eq_true rfl)⟩) (pre_v (q0 := 0) (ci := 0) hK hPc rfl rfl) rfl rfl hl.1 rfl (lv_room (Nat.le_of_ble_eq_true rfl)) dX1_part_45 ⟨(Nat.zero_le _), (Nat.zero_le _)⟩) ?_
          refine lv_if_ne (tgt := 54) hx hb dX1_part_48 (by decide) (fun c4 => ?_) (fun c4 => ?_)
          · rw [if_neg c4] at h
            refine lv_aload hx hb dX1_part_54 (lv_at hl 1 rfl) ?_
            refine lv_iload_n hx hb dX1_part_56 rfl (lv_at hl 5 rfl) ?_
            have hPc := hP.sub (ws' := figW cI q qx qy xs ys n) [2, 3, 4] rfl
            obtain ⟨r6, hcr6, h⟩ := og_bind h
            refine cp_s (va_runV (As := [.int a3]) (rest := []) ⟨hx, hb, hml, hown, hts⟩ (k_X0_placesFrom l D cI cF q qx qy xs ys n a3 _ hcr6) (cwV 1 hts gX1_part_X0_placesFrom rfl rfl rfl (by decide +kernel) ⟨(Nat.le_of_ble_eq_true rfl), (Nat.le_of_ble_eq_true rfl)⟩) (pre_v (q0 := 0) (ci := 0) hK hPc rfl rfl) rfl rfl hl.1 rfl (lv_room (Nat.le_of_ble_eq_true rfl)) dX1_part_57 ⟨(Nat.zero_le _), (Nat.zero_le _)⟩) ?_
            refine lv_bipush (v := 24) hx hb dX1_part_60 (by decide) ?_
            refine lv_icmp_le (tgt := 68) hx hb dX1_part_62 (by decide) (fun c6 => ?_) (fun c6 => ?_)
            · rw [if_pos c6] at h
              refine lv_aload hx hb dX1_part_68 (lv_at hl 1 rfl) ?_
              refine lv_iload_n hx hb dX1_part_70 rfl (lv_at hl 5 rfl) ?_
              have hPc := hP.sub (ws' := figW cI q qx qy xs ys n) [2, 3, 4] rfl
              obtain ⟨r8, hcr8, h⟩ := og_bind h
              refine cp_s (va_runV (As := [.int a3]) (rest := []) ⟨hx, hb, hml, hown, hts⟩ (k_X0_crossesWhole l D cI cF q qx qy xs ys n a3 _ hcr8) (cwV 1 hts gX1_part_X0_crossesWhole rfl rfl rfl (by decide +kernel) ⟨(Nat.le_of_ble_eq_true rfl), (Nat.le_of_ble_eq_true rfl)⟩) (pre_v (q0 := 0) (ci := 0) hK hPc rfl rfl) rfl rfl hl.1 rfl (lv_room (Nat.le_of_ble_eq_true rfl)) dX1_part_71 ⟨(Nat.zero_le _), (Nat.zero_le _)⟩) ?_
              refine lv_if_ne (tgt := 80) hx hb dX1_part_74 (by decide) (fun c8 => ?_) (fun c8 => ?_)
              · rw [if_neg c8] at h
                refine lv_aload hx hb dX1_part_80 (lv_at hl 0 rfl) ?_
                refine lv_aload hx hb dX1_part_82 (lv_at hl 1 rfl) ?_
                refine lv_iload_n hx hb dX1_part_84 rfl (lv_at hl 5 rfl) ?_
                have hPc := hP.sub (ws' := fig2W cI w wx wy us vs k q qx qy xs ys n) [5, 6, 7, 2, 3, 4] rfl
                have hDc := hD.sub (ws' := fig2W cI w wx wy us vs k q qx qy xs ys n) [5, 6, 7, 2, 3, 4] (by decide) rfl
                obtain ⟨r10, hcr10, h⟩ := og_bind h
                refine cp_v (va_runV (As := [.ref q, .int a3]) (rest := []) ⟨hx, hb, hml, hown, hts⟩ (k_X0_becomeUpper l D cI cF w wx wy us vs k q qx qy xs ys n a3 _ hcr10) (cwV 2 hts gX1_part_X0_becomeUpper rfl rfl rfl (by decide +kernel) ⟨(Nat.le_of_ble_eq_true rfl), (Nat.le_of_ble_eq_true rfl)⟩) (pre_d (q0 := 0) (ci := 0) hK hPc hDc rfl rfl) rfl rfl hl.1 rfl (lv_room (Nat.le_of_ble_eq_true rfl)) dX1_part_85 ⟨(Nat.zero_le _), (Nat.zero_le _)⟩) hS (fun a9 h9 => ?_) (fun H1 locs hP1 hz1 hk1 hS => ?_)
                · exact va_in hD h9 [5, 6, 7, 2, 3, 4] rfl
                have hP1 : va_P D vwCl (fig2W cI w wx wy r10.1 r10.2.1 r10.2.2 q qx qy xs ys n) H1 := hP1
                have hP := va_fit2 hP hD hk1 hP1 (ws' := drffW cI cF o qf g ro rn tn fx fy ar wh q qx qy xs ys n w wx wy r10.1 r10.2.1 r10.2.2) [5, 6, 7, 2, 3, 4] [0, 1] 8 rfl rfl rfl rfl (by decide) (by decide)
                have hD : va_D AA (drffW cI cF o qf g ro rn tn fx fy ar wh q qx qy xs ys n w wx wy r10.1 r10.2.1 r10.2.2) := va_D_same hD rfl
                generalize H1 = H at hP hS ⊢
                refine lv_aload hx hb dX1_part_88 (lv_at hl 0 rfl) ?_
                refine va_getN (D := D) (ci := 0) (v := .int r10.2.2) (C := RX0) (T := TX0) (N := 3) hx hb hts hinX0 hown hK hP 5 rfl rfl 2 (by decide) hnst (fun _ h9 => h9) rfl dX1_part_90 ?_
                obtain rfl := Option.some.inj h
                have hS9 := hS
                rw [hAe] at hS9
                exact W.iret hx hb hr (fun t ht _ => ⟨rfl, by rw [ht]; exact drP_back2 hpt hO hkn1 hkn2 eq eqx eqy ew ewx ewy hS9 hP ⟨(va_up_ne _ _ hkj).trans exs.symm, (va_up_ne _ _ hkj).trans eys.symm, (va_up_ne _ _ hkj).trans en.symm⟩ ⟨va_up_self _ _ _, va_up_self _ _ _, va_up_self _ _ _⟩ (fun j h1 h2 => ⟨va_up_ne _ _ h2, va_up_ne _ _ h2, va_up_ne _ _ h2⟩), va_F_weak (hS.F ht) hsub⟩) (fun q9 h9 => hsub _ (hS.2.2 q9 h9)) dX1_part_93
              · rw [if_pos c8] at h
                refine lv_bipush (v := -5) hx hb dX1_part_77 (by decide) ?_
                obtain rfl := Option.some.inj h
                exact W.iret hx hb hr (fun t ht _ => ⟨rfl, by rw [ht]; exact hO, (va_S.rf (A := dall o qf g gx gy)).F ht⟩) (fun _ h9 => absurd h9 List.not_mem_nil) dX1_part_79
            · rw [if_neg c6] at h
              refine lv_bipush (v := -4) hx hb dX1_part_65 (by decide) ?_
              obtain rfl := Option.some.inj h
              exact W.iret hx hb hr (fun t ht _ => ⟨rfl, by rw [ht]; exact hO, (va_S.rf (A := dall o qf g gx gy)).F ht⟩) (fun _ h9 => absurd h9 List.not_mem_nil) dX1_part_67
          · rw [if_pos c4] at h
            refine lv_bipush (v := -3) hx hb dX1_part_51 (by decide) ?_
            obtain rfl := Option.some.inj h
            exact W.iret hx hb hr (fun t ht _ => ⟨rfl, by rw [ht]; exact hO, (va_S.rf (A := dall o qf g gx gy)).F ht⟩) (fun _ h9 => absurd h9 List.not_mem_nil) dX1_part_53
        · rw [if_pos c2] at h
          refine lv_bipush (v := -2) hx hb dX1_part_40 (by decide) ?_
          obtain rfl := Option.some.inj h
          exact W.iret hx hb hr (fun t ht _ => ⟨rfl, by rw [ht]; exact hO, (va_S.rf (A := dall o qf g gx gy)).F ht⟩) (fun _ h9 => absurd h9 List.not_mem_nil) dX1_part_42
      · exact absurd c0 hab
    · rw [if_neg cf2] at h
      refine cp_s (va_runV (As := [.int a2]) (rest := []) ⟨hx, hb, hml, hown, hts⟩ (k_X1_find_none l D cI cF o qf g ro rn tn fx fy ar wh a2 cf2) (cwV 1 hts gX1_part_X1_find rfl rfl rfl (by decide +kernel) ⟨(Nat.le_of_ble_eq_true rfl), (Nat.le_of_ble_eq_true rfl)⟩) (pre_n (q0 := 0) (ci := 1) hK hnw hO.1 rfl rfl) rfl rfl hl.1 rfl (lv_room (Nat.le_of_ble_eq_true rfl)) dX1_part_9 ⟨(Nat.zero_le _), (Nat.zero_le _)⟩) ?_
      refine lv_astoreN (lv' := [(5, .null), (4, .ref q), (0, .ref o), (1, .int a1), (2, .int a2), (3, .int a3)]) hx hb dX1_part_12 hl (by decide) rfl (fun ls hl => ?_)
      refine lv_aload hx hb dX1_part_14 (lv_at hl 1 rfl) ?_
      refine lv_ifnull hx hb dX1_part_16 ?_
      refine lv_aloadN hx hb dX1_part_19 (lv_at hl 0 rfl) ?_
      refine lv_ifnullN (tgt := 29) hx hb dX1_part_21 (by decide) ?_
      refine lv_iconst (v := -1) hx hb dX1_part_29 (by decide) ?_
      obtain rfl := Option.some.inj h
      exact W.iret hx hb hr (fun t ht _ => ⟨rfl, by rw [ht]; exact hO, (va_S.rf (A := dall o qf g gx gy)).F ht⟩) (fun _ h9 => absurd h9 List.not_mem_nil) dX1_part_30
  · rw [if_neg cf1] at h
    refine cp_s (va_runV (As := [.int a1]) (rest := []) ⟨hx, hb, hml, hown, hts⟩ (k_X1_find_none l D cI cF o qf g ro rn tn fx fy ar wh a1 cf1) (cwV 1 hts gX1_part_X1_find rfl rfl rfl (by decide +kernel) ⟨(Nat.le_of_ble_eq_true rfl), (Nat.le_of_ble_eq_true rfl)⟩) (pre_n (q0 := 0) (ci := 1) hK hnw hO.1 rfl rfl) rfl rfl hl.1 rfl (lv_room (Nat.le_of_ble_eq_true rfl)) dX1_part_2 ⟨(Nat.zero_le _), (Nat.zero_le _)⟩) ?_
    refine lv_astoreN (lv' := [(4, .null), (0, .ref o), (1, .int a1), (2, .int a2), (3, .int a3)]) hx hb dX1_part_5 hl (by decide) rfl (fun ls hl => ?_)
    refine lv_aload_n hx hb dX1_part_7 rfl (lv_at hl 1 rfl) ?_
    refine lv_iload_n hx hb dX1_part_8 rfl (lv_at hl 3 rfl) ?_
    by_cases cf1 : bin a2 6 = true
    · rw [if_pos cf1] at h
      have hkn1 := bin_lt cf1
      refine cp_s (va_runV (As := [.int a2]) (rest := []) ⟨hx, hb, hml, hown, hts⟩ (k_X1_find_some l D cI cF o qf g ro rn tn fx fy ar wh a2 cf1) (cwV 1 hts gX1_part_X1_find rfl rfl rfl (by decide +kernel) ⟨(Nat.le_of_ble_eq_true rfl), (Nat.le_of_ble_eq_true rfl)⟩) (pre_n (q0 := 0) (ci := 1) hK hnw hO.1 rfl rfl) rfl rfl hl.1 rfl (lv_room (Nat.le_of_ble_eq_true rfl)) dX1_part_9 ⟨(Nat.zero_le _), (Nat.zero_le _)⟩) ?_
      obtain ⟨q, eq⟩ : ∃ y, y = g a2.toNatClampNeg := ⟨_, rfl⟩
      obtain ⟨qx, eqx⟩ : ∃ y, y = gx a2.toNatClampNeg := ⟨_, rfl⟩
      obtain ⟨qy, eqy⟩ : ∃ y, y = gy a2.toNatClampNeg := ⟨_, rfl⟩
      rw [← eq]
      obtain ⟨xs, exs⟩ : ∃ y, y = X a2.toNatClampNeg := ⟨_, rfl⟩
      have h := og_ov h exs
      obtain ⟨ys, eys⟩ : ∃ y, y = Y a2.toNatClampNeg := ⟨_, rfl⟩
      have h := og_ov h eys
      obtain ⟨n, en⟩ : ∃ y, y = N a2.toNatClampNeg := ⟨_, rfl⟩
      have h := og_ov h en
      have hPf := hO.2 _ hkn1
      rw [← eq, ← eqx, ← eqy, ← exs, ← eys, ← en] at hPf
      have hP : va_P D vwCl (drfW cI cF o qf g ro rn tn fx fy ar wh q qx qy xs ys n) s.heap := va_P.app hP hPf
      have hDs : va_D (va_A0 (drfW cI cF o qf g ro rn tn fx fy ar wh q qx qy xs ys n)) (drfW cI cF o qf g ro rn tn fx fy ar wh q qx qy xs ys n) ∧ ∀ a, va_A0 (drfW cI cF o qf g ro rn tn fx fy ar wh q qx qy xs ys n) a → dall o qf g gx gy a := dpt_1 hpt hkn1 eq eqx eqy
      obtain ⟨AA, hAe⟩ : ∃ A : Nat → Prop, A = va_A0 (drfW cI cF o qf g ro rn tn fx fy ar wh q qx qy xs ys n) := ⟨_, rfl⟩
      rw [← hAe] at hDs
      obtain ⟨hD, hsub⟩ := hDs
      have hS : va_S AA s.heap s.heap [] := va_S.rf
      refine lv_astore (lv' := [(5, .ref q), (4, .null), (0, .ref o), (1, .int a1), (2, .int a2), (3, .int a3)]) hx hb dX1_part_12 hl (by decide) rfl (fun ls hl => ?_)
      refine lv_aloadN hx hb dX1_part_14 (lv_at hl 1 rfl) ?_
      refine lv_ifnullN (tgt := 29) hx hb dX1_part_16 (by decide) ?_
      refine lv_iconst (v := -1) hx hb dX1_part_29 (by decide) ?_
      obtain rfl := Option.some.inj h
      exact W.iret hx hb hr (fun t ht _ => ⟨rfl, by rw [ht]; exact hO, (va_S.rf (A := dall o qf g gx gy)).F ht⟩) (fun _ h9 => absurd h9 List.not_mem_nil) dX1_part_30
    · rw [if_neg cf1] at h
      refine cp_s (va_runV (As := [.int a2]) (rest := []) ⟨hx, hb, hml, hown, hts⟩ (k_X1_find_none l D cI cF o qf g ro rn tn fx fy ar wh a2 cf1) (cwV 1 hts gX1_part_X1_find rfl rfl rfl (by decide +kernel) ⟨(Nat.le_of_ble_eq_true rfl), (Nat.le_of_ble_eq_true rfl)⟩) (pre_n (q0 := 0) (ci := 1) hK hnw hO.1 rfl rfl) rfl rfl hl.1 rfl (lv_room (Nat.le_of_ble_eq_true rfl)) dX1_part_9 ⟨(Nat.zero_le _), (Nat.zero_le _)⟩) ?_
      refine lv_astoreN (lv' := [(5, .null), (4, .null), (0, .ref o), (1, .int a1), (2, .int a2), (3, .int a3)]) hx hb dX1_part_12 hl (by decide) rfl (fun ls hl => ?_)
      refine lv_aloadN hx hb dX1_part_14 (lv_at hl 1 rfl) ?_
      refine lv_ifnullN (tgt := 29) hx hb dX1_part_16 (by decide) ?_
      refine lv_iconst (v := -1) hx hb dX1_part_29 (by decide) ?_
      obtain rfl := Option.some.inj h
      exact W.iret hx hb hr (fun t ht _ => ⟨rfl, by rw [ht]; exact hO, (va_S.rf (A := dall o qf g gx gy)).F ht⟩) (fun _ h9 => absurd h9 List.not_mem_nil) dX1_part_30
set_option maxHeartbeats 4000000 in
set_option maxRecDepth 100000 in
theorem k_X1_part_eq (l : Launch) (D : va_G) (cI cF : ClassId) (o qf : Nat) (g gx gy : Nat → Nat) (ro rn tn fx fy ar wh : Int32) (X Y : Nat → Nat → Int32) (N : Nat → Int32) (a1 : Int32) (a3 : Int32) (r0 : (Int32 × (Nat → Nat → Int32) × (Nat → Nat → Int32) × (Nat → Int32))) (h : f_X1_part X Y N a1 a1 a3 = some r0) : Met l yX1_part wsX1_part ({ frames := 3, cells := 0, slots := 0, locals := 69 }) (va_Pc [.ref o, .int a1, .int a1, .int a3] (fun U => wP D cI cF o qf g gx gy ro rn tn fx fy ar wh X Y N U)) (qW (some (.int r0.1)) (dall o qf g gx gy) (fun H => drP D cI cF o qf g gx gy ro rn tn fx fy ar wh r0.2.1 r0.2.2.1 r0.2.2.2 H)) 0 0 (dall o qf g gx gy) := by
  refine Met.ofW (cc := cX1_part) (maxL := 6) (ret := (some .int)) (by decide) rfl ?_
  intro p e s m args below meth c s₁ B hml hv
  obtain ⟨rfl, hK, hnw, hO, hpt⟩ := hv
  have hP := hO.1
  have hx := B.exec
  have hb := B.bytes
  have hr := B.returns
  have hts := atoms_spec (ws := wsX1_part) B.pre
  have hown : s.vm.findClass RX1 = some m.cls := findClass_of_methodNamed B.named
  have hlocks := B.notSynchronized
  have hinX0 : ∀ w ∈ u_ws RX0 TX0 3, w ∈ wsX1_part := by decide +kernel
  have hnst : nst.before _ s = true := hnw.use (A := [.ref o, .int a1, .int a1, .int a3].toArray) rfl
  have hl := lv_entry ([.ref o, .int a1, .int a1, .int a3]) (n := 6) (Nat.le_of_ble_eq_true rfl)
  rw [lg_entry_eq]
  generalize (lg_sl ([.ref o, .int a1, .int a1, .int a3]) ++ List.replicate (6 - (lg_sl ([.ref o, .int a1, .int a1, .int a3])).length) Slot.unset).toArray = ls at hl ⊢
  have hl : lv_has ls 6 [(0, .ref o), (1, .int a1), (2, .int a1), (3, .int a3)] := hl
  unfold f_X1_part at h
  refine lv_aload_n hx hb dX1_part_0 rfl (lv_at hl 0 rfl) ?_
  refine lv_iload_n hx hb dX1_part_1 rfl (lv_at hl 1 rfl) ?_
  by_cases cf1 : bin a1 6 = true
  · rw [if_pos cf1] at h
    have hkn1 := bin_lt cf1
    refine cp_s (va_runV (As := [.int a1]) (rest := []) ⟨hx, hb, hml, hown, hts⟩ (k_X1_find_some l D cI cF o qf g ro rn tn fx fy ar wh a1 cf1) (cwV 1 hts gX1_part_X1_find rfl rfl rfl (by decide +kernel) ⟨(Nat.le_of_ble_eq_true rfl), (Nat.le_of_ble_eq_true rfl)⟩) (pre_n (q0 := 0) (ci := 1) hK hnw hO.1 rfl rfl) rfl rfl hl.1 rfl (lv_room (Nat.le_of_ble_eq_true rfl)) dX1_part_2 ⟨(Nat.zero_le _), (Nat.zero_le _)⟩) ?_
    obtain ⟨q, eq⟩ : ∃ y, y = g a1.toNatClampNeg := ⟨_, rfl⟩
    obtain ⟨qx, eqx⟩ : ∃ y, y = gx a1.toNatClampNeg := ⟨_, rfl⟩
    obtain ⟨qy, eqy⟩ : ∃ y, y = gy a1.toNatClampNeg := ⟨_, rfl⟩
    rw [← eq]
    obtain ⟨xs, exs⟩ : ∃ y, y = X a1.toNatClampNeg := ⟨_, rfl⟩
    have h := og_ov h exs
    obtain ⟨ys, eys⟩ : ∃ y, y = Y a1.toNatClampNeg := ⟨_, rfl⟩
    have h := og_ov h eys
    obtain ⟨n, en⟩ : ∃ y, y = N a1.toNatClampNeg := ⟨_, rfl⟩
    have h := og_ov h en
    have hPf := hO.2 _ hkn1
    rw [← eq, ← eqx, ← eqy, ← exs, ← eys, ← en] at hPf
    have hP : va_P D vwCl (drfW cI cF o qf g ro rn tn fx fy ar wh q qx qy xs ys n) s.heap := va_P.app hP hPf
    refine lv_astore (lv' := [(4, .ref q), (0, .ref o), (1, .int a1), (2, .int a1), (3, .int a3)]) hx hb dX1_part_5 hl (by decide) rfl (fun ls hl => ?_)
    refine lv_aload_n hx hb dX1_part_7 rfl (lv_at hl 1 rfl) ?_
    refine lv_iload_n hx hb dX1_part_8 rfl (lv_at hl 3 rfl) ?_
    rw [if_pos cf1] at h
    refine cp_s (va_runV (As := [.int a1]) (rest := []) ⟨hx, hb, hml, hown, hts⟩ (k_X1_find_some l D cI cF o qf g ro rn tn fx fy ar wh a1 cf1) (cwV 1 hts gX1_part_X1_find rfl rfl rfl (by decide +kernel) ⟨(Nat.le_of_ble_eq_true rfl), (Nat.le_of_ble_eq_true rfl)⟩) (pre_n (q0 := 0) (ci := 1) hK hnw hO.1 rfl rfl) rfl rfl hl.1 rfl (lv_room (Nat.le_of_ble_eq_true rfl)) dX1_part_9 ⟨(Nat.zero_le _), (Nat.zero_le _)⟩) ?_
    rw [← eq]
    obtain ⟨us, eus⟩ : ∃ y, y = X a1.toNatClampNeg := ⟨_, rfl⟩
    have h := og_ov h eus
    obtain rfl : xs = us := exs.trans eus.symm
    obtain ⟨vs, evs⟩ : ∃ y, y = Y a1.toNatClampNeg := ⟨_, rfl⟩
    have h := og_ov h evs
    obtain rfl : ys = vs := eys.trans evs.symm
    obtain ⟨k, ek⟩ : ∃ y, y = N a1.toNatClampNeg := ⟨_, rfl⟩
    have h := og_ov h ek
    obtain rfl : n = k := en.trans ek.symm
    have hDs : va_D (va_A0 (drfW cI cF o qf g ro rn tn fx fy ar wh q qx qy xs ys n)) (drfW cI cF o qf g ro rn tn fx fy ar wh q qx qy xs ys n) ∧ ∀ a, va_A0 (drfW cI cF o qf g ro rn tn fx fy ar wh q qx qy xs ys n) a → dall o qf g gx gy a := dpt_1 hpt hkn1 eq eqx eqy
    obtain ⟨AA, hAe⟩ : ∃ A : Nat → Prop, A = va_A0 (drfW cI cF o qf g ro rn tn fx fy ar wh q qx qy xs ys n) := ⟨_, rfl⟩
    rw [← hAe] at hDs
    obtain ⟨hD, hsub⟩ := hDs
    have hS : va_S AA s.heap s.heap [] := va_S.rf
    refine lv_astore (lv' := [(5, .ref q), (4, .ref q), (0, .ref o), (1, .int a1), (2, .int a1), (3, .int a3)]) hx hb dX1_part_12 hl (by decide) rfl (fun ls hl => ?_)
    refine lv_aload hx hb dX1_part_14 (lv_at hl 1 rfl) ?_
    refine lv_ifnull hx hb dX1_part_16 ?_
    refine lv_aload hx hb dX1_part_19 (lv_at hl 0 rfl) ?_
    refine lv_ifnull hx hb dX1_part_21 ?_
    refine lv_iload_n hx hb dX1_part_24 rfl (lv_at hl 3 rfl) ?_
    refine lv_iload_n hx hb dX1_part_25 rfl (lv_at hl 4 rfl) ?_
    refine lv_icmp_ne (tgt := 31) hx hb dX1_part_26 (by decide) (fun c0 => ?_) (fun c0 => ?_)
    · exact absurd rfl c0
    · rw [if_pos c0] at h
      refine lv_iconst (v := -1) hx hb dX1_part_29 (by decide) ?_
      obtain rfl := Option.some.inj h
      exact W.iret hx hb hr (fun t ht _ => ⟨rfl, by rw [ht]; exact hO, (va_S.rf (A := dall o qf g gx gy)).F ht⟩) (fun _ h9 => absurd h9 List.not_mem_nil) dX1_part_30
  · rw [if_neg cf1] at h
    refine cp_s (va_runV (As := [.int a1]) (rest := []) ⟨hx, hb, hml, hown, hts⟩ (k_X1_find_none l D cI cF o qf g ro rn tn fx fy ar wh a1 cf1) (cwV 1 hts gX1_part_X1_find rfl rfl rfl (by decide +kernel) ⟨(Nat.le_of_ble_eq_true rfl), (Nat.le_of_ble_eq_true rfl)⟩) (pre_n (q0 := 0) (ci := 1) hK hnw hO.1 rfl rfl) rfl rfl hl.1 rfl (lv_room (Nat.le_of_ble_eq_true rfl)) dX1_part_2 ⟨(Nat.zero_le _), (Nat.zero_le _)⟩) ?_
    refine lv_astoreN (lv' := [(4, .null), (0, .ref o), (1, .int a1), (2, .int a1), (3, .int a3)]) hx hb dX1_part_5 hl (by decide) rfl (fun ls hl => ?_)
    refine lv_aload_n hx hb dX1_part_7 rfl (lv_at hl 1 rfl) ?_
    refine lv_iload_n hx hb dX1_part_8 rfl (lv_at hl 3 rfl) ?_
    rw [if_neg cf1] at h
    refine cp_s (va_runV (As := [.int a1]) (rest := []) ⟨hx, hb, hml, hown, hts⟩ (k_X1_find_none l D cI cF o qf g ro rn tn fx fy ar wh a1 cf1) (cwV 1 hts gX1_part_X1_find rfl rfl rfl (by decide +kernel) ⟨(Nat.le_of_ble_eq_true rfl), (Nat.le_of_ble_eq_true rfl)⟩) (pre_n (q0 := 0) (ci := 1) hK hnw hO.1 rfl rfl) rfl rfl hl.1 rfl (lv_room (Nat.le_of_ble_eq_true rfl)) dX1_part_9 ⟨(Nat.zero_le _), (Nat.zero_le _)⟩) ?_
    refine lv_astoreN (lv' := [(5, .null), (4, .null), (0, .ref o), (1, .int a1), (2, .int a1), (3, .int a3)]) hx hb dX1_part_12 hl (by decide) rfl (fun ls hl => ?_)
    refine lv_aloadN hx hb dX1_part_14 (lv_at hl 1 rfl) ?_
    refine lv_ifnullN (tgt := 29) hx hb dX1_part_16 (by decide) ?_
    refine lv_iconst (v := -1) hx hb dX1_part_29 (by decide) ?_
    obtain rfl := Option.some.inj h
    exact W.iret hx hb hr (fun t ht _ => ⟨rfl, by rw [ht]; exact hO, (va_S.rf (A := dall o qf g gx gy)).F ht⟩) (fun _ h9 => absurd h9 List.not_mem_nil) dX1_part_30
